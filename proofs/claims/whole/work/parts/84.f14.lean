/-! METHODS AS FUNCTIONS -/
noncomputable def f_MSquareRows_correct_L72 (v14 : Int32) (v15 : Int32) (x16 : Int32) (M17 : im_M) : Option ((Int32 × im_M) ⊕ (im_M)) := if v14 ≤ x16 then some (.inr M17) else gd (inb x16 256) <| gd (inb x16 256) <| some (.inl ((x16 + 1), (im_setI M17 121 (Int32.toNatClampNeg x16) (im_i M17 122 (Int32.toNatClampNeg x16)))))
noncomputable def f_MSquareRows_correct_L18 (v3 : Int32) (v4 : Int32) (v5 : Int32) (x6 : Int32) (M7 : im_M) : Option ((Int32 × im_M) ⊕ ((im_M) ⊕ (Int32 × im_M))) := if v5 < x6 then some (.inr (.inl M7)) else bd2 (f_MSquareRows_isZero v3 v4 M7) fun (x8 : Int32) (M8 : im_M) => bd2 (f_MSquareRows_finds x6 v3 M8) fun (x9 : Int32) (M9 : im_M) => jn1 (fun (M19 : im_M) => some (.inl ((x6 + 1), M19))) fun k10 => if x9 = 0 then k10 M9 else bd2 (f_MSquareRows_mends x6 v3 M9) fun (x11 : Int32) (M11 : im_M) => if x11 = 0 then k10 M11 else bd2 (f_MSquareRows_isZero_1 v3 v4 M11) fun (x12 : Int32) (M12 : im_M) => if x12 = 0 then k10 M12 else bd1 (lp (uc2 (f_MSquareRows_correct_L72 v3 x6)) (0, M12)) fun (M18 : im_M) => some (.inr (.inr (x6, M18)))
noncomputable def f_MSquareRows_correct (p0 : Int32) (p1 : Int32) (p2 : Int32) (M : im_M) : Option (Int32 × im_M) := bd2 (f_MSquareRows_isZero p0 p1 M) fun (x1 : Int32) (M1 : im_M) => if x1 = 0 then bs1 (lp (uc2 (f_MSquareRows_correct_L18 p0 p1 p2)) (1, M1)) (fun (M25 : im_M) => some ((-1), M25)) (fun t => some t) else some (0, M1)
theorem J_MSquareRows_correct_d0 : decode J_MSquareRows_correct.2.1 0 = .ok (.aload_n 0, 1) := by decide +kernel
theorem J_MSquareRows_correct_d1 : decode J_MSquareRows_correct.2.1 1 = .ok (.aload_n 0, 1) := by decide +kernel
theorem J_MSquareRows_correct_d2 : decode J_MSquareRows_correct.2.1 2 = .ok (.getfield 46, 3) := by decide +kernel
theorem J_MSquareRows_correct_d5 : decode J_MSquareRows_correct.2.1 5 = .ok (.iload_n 1, 1) := by decide +kernel
theorem J_MSquareRows_correct_d6 : decode J_MSquareRows_correct.2.1 6 = .ok (.iload_n 2, 1) := by decide +kernel
theorem J_MSquareRows_correct_d7 : decode J_MSquareRows_correct.2.1 7 = .ok (.invokevirtual 257, 3) := by decide +kernel
theorem J_MSquareRows_correct_d10 : decode J_MSquareRows_correct.2.1 10 = .ok (.ifCond .eq 5, 3) := by decide +kernel
theorem J_MSquareRows_correct_d13 : decode J_MSquareRows_correct.2.1 13 = .ok (.iconst 0, 1) := by decide +kernel
theorem J_MSquareRows_correct_d14 : decode J_MSquareRows_correct.2.1 14 = .ok (.ireturn, 1) := by decide +kernel
theorem J_MSquareRows_correct_d15 : decode J_MSquareRows_correct.2.1 15 = .ok (.iconst 1, 1) := by decide +kernel
theorem J_MSquareRows_correct_d16 : decode J_MSquareRows_correct.2.1 16 = .ok (.istore 4, 2) := by decide +kernel
theorem J_MSquareRows_correct_d18 : decode J_MSquareRows_correct.2.1 18 = .ok (.iload 4, 2) := by decide +kernel
theorem J_MSquareRows_correct_d20 : decode J_MSquareRows_correct.2.1 20 = .ok (.iload_n 3, 1) := by decide +kernel
theorem J_MSquareRows_correct_d21 : decode J_MSquareRows_correct.2.1 21 = .ok (.if_icmp .gt 86, 3) := by decide +kernel
theorem J_MSquareRows_correct_d24 : decode J_MSquareRows_correct.2.1 24 = .ok (.aload_n 0, 1) := by decide +kernel
theorem J_MSquareRows_correct_d25 : decode J_MSquareRows_correct.2.1 25 = .ok (.aload_n 0, 1) := by decide +kernel
theorem J_MSquareRows_correct_d26 : decode J_MSquareRows_correct.2.1 26 = .ok (.getfield 46, 3) := by decide +kernel
theorem J_MSquareRows_correct_d29 : decode J_MSquareRows_correct.2.1 29 = .ok (.iload_n 1, 1) := by decide +kernel
theorem J_MSquareRows_correct_d30 : decode J_MSquareRows_correct.2.1 30 = .ok (.iload_n 2, 1) := by decide +kernel
theorem J_MSquareRows_correct_d31 : decode J_MSquareRows_correct.2.1 31 = .ok (.invokevirtual 257, 3) := by decide +kernel
theorem J_MSquareRows_correct_d34 : decode J_MSquareRows_correct.2.1 34 = .ok (.istore 5, 2) := by decide +kernel
theorem J_MSquareRows_correct_d36 : decode J_MSquareRows_correct.2.1 36 = .ok (.aload_n 0, 1) := by decide +kernel
theorem J_MSquareRows_correct_d37 : decode J_MSquareRows_correct.2.1 37 = .ok (.iload 4, 2) := by decide +kernel
theorem J_MSquareRows_correct_d39 : decode J_MSquareRows_correct.2.1 39 = .ok (.iload_n 1, 1) := by decide +kernel
theorem J_MSquareRows_correct_d40 : decode J_MSquareRows_correct.2.1 40 = .ok (.invokevirtual 261, 3) := by decide +kernel
theorem J_MSquareRows_correct_d43 : decode J_MSquareRows_correct.2.1 43 = .ok (.ifCond .eq 58, 3) := by decide +kernel
theorem J_MSquareRows_correct_d46 : decode J_MSquareRows_correct.2.1 46 = .ok (.aload_n 0, 1) := by decide +kernel
theorem J_MSquareRows_correct_d47 : decode J_MSquareRows_correct.2.1 47 = .ok (.iload 4, 2) := by decide +kernel
theorem J_MSquareRows_correct_d49 : decode J_MSquareRows_correct.2.1 49 = .ok (.iload_n 1, 1) := by decide +kernel
theorem J_MSquareRows_correct_d50 : decode J_MSquareRows_correct.2.1 50 = .ok (.invokevirtual 264, 3) := by decide +kernel
theorem J_MSquareRows_correct_d53 : decode J_MSquareRows_correct.2.1 53 = .ok (.ifCond .eq 48, 3) := by decide +kernel
theorem J_MSquareRows_correct_d56 : decode J_MSquareRows_correct.2.1 56 = .ok (.aload_n 0, 1) := by decide +kernel
theorem J_MSquareRows_correct_d57 : decode J_MSquareRows_correct.2.1 57 = .ok (.aload_n 0, 1) := by decide +kernel
theorem J_MSquareRows_correct_d58 : decode J_MSquareRows_correct.2.1 58 = .ok (.getfield 49, 3) := by decide +kernel
theorem J_MSquareRows_correct_d61 : decode J_MSquareRows_correct.2.1 61 = .ok (.iload_n 1, 1) := by decide +kernel
theorem J_MSquareRows_correct_d62 : decode J_MSquareRows_correct.2.1 62 = .ok (.iload_n 2, 1) := by decide +kernel
theorem J_MSquareRows_correct_d63 : decode J_MSquareRows_correct.2.1 63 = .ok (.invokevirtual 257, 3) := by decide +kernel
theorem J_MSquareRows_correct_d66 : decode J_MSquareRows_correct.2.1 66 = .ok (.ifCond .eq 35, 3) := by decide +kernel
theorem J_MSquareRows_correct_d69 : decode J_MSquareRows_correct.2.1 69 = .ok (.iconst 0, 1) := by decide +kernel
theorem J_MSquareRows_correct_d70 : decode J_MSquareRows_correct.2.1 70 = .ok (.istore 6, 2) := by decide +kernel
theorem J_MSquareRows_correct_d72 : decode J_MSquareRows_correct.2.1 72 = .ok (.iload 6, 2) := by decide +kernel
theorem J_MSquareRows_correct_d74 : decode J_MSquareRows_correct.2.1 74 = .ok (.iload_n 1, 1) := by decide +kernel
theorem J_MSquareRows_correct_d75 : decode J_MSquareRows_correct.2.1 75 = .ok (.if_icmp .ge 23, 3) := by decide +kernel
theorem J_MSquareRows_correct_d78 : decode J_MSquareRows_correct.2.1 78 = .ok (.aload_n 0, 1) := by decide +kernel
theorem J_MSquareRows_correct_d79 : decode J_MSquareRows_correct.2.1 79 = .ok (.getfield 46, 3) := by decide +kernel
theorem J_MSquareRows_correct_d82 : decode J_MSquareRows_correct.2.1 82 = .ok (.iload 6, 2) := by decide +kernel
theorem J_MSquareRows_correct_d84 : decode J_MSquareRows_correct.2.1 84 = .ok (.aload_n 0, 1) := by decide +kernel
theorem J_MSquareRows_correct_d85 : decode J_MSquareRows_correct.2.1 85 = .ok (.getfield 49, 3) := by decide +kernel
theorem J_MSquareRows_correct_d88 : decode J_MSquareRows_correct.2.1 88 = .ok (.iload 6, 2) := by decide +kernel
theorem J_MSquareRows_correct_d90 : decode J_MSquareRows_correct.2.1 90 = .ok (.iaload, 1) := by decide +kernel
theorem J_MSquareRows_correct_d91 : decode J_MSquareRows_correct.2.1 91 = .ok (.iastore, 1) := by decide +kernel
theorem J_MSquareRows_correct_d92 : decode J_MSquareRows_correct.2.1 92 = .ok (.iinc 6 1, 3) := by decide +kernel
theorem J_MSquareRows_correct_d95 : decode J_MSquareRows_correct.2.1 95 = .ok (.goto (-23), 3) := by decide +kernel
theorem J_MSquareRows_correct_d98 : decode J_MSquareRows_correct.2.1 98 = .ok (.iload 4, 2) := by decide +kernel
theorem J_MSquareRows_correct_d100 : decode J_MSquareRows_correct.2.1 100 = .ok (.ireturn, 1) := by decide +kernel
theorem J_MSquareRows_correct_d101 : decode J_MSquareRows_correct.2.1 101 = .ok (.iinc 4 1, 3) := by decide +kernel
theorem J_MSquareRows_correct_d104 : decode J_MSquareRows_correct.2.1 104 = .ok (.goto (-86), 3) := by decide +kernel
theorem J_MSquareRows_correct_d107 : decode J_MSquareRows_correct.2.1 107 = .ok (.iconst (-1), 1) := by decide +kernel
theorem J_MSquareRows_correct_d108 : decode J_MSquareRows_correct.2.1 108 = .ok (.ireturn, 1) := by decide +kernel
theorem f_MSquareRows_correct_ok {L : Nat} {xs : Nat → Int32} {dep : Nat} {w : Bool} {p0 : Int32} {p1 : Int32} {p2 : Int32} {M : im_M} {Q : Int32 × im_M → Prop} (hM : lw_S w M) (h : ed (f_MSquareRows_correct p0 p1 p2 M) Q) : ia (tb_G L xs) (dep + 4) J_MSquareRows_correct (rwI w Q) (0, lv_args 0 [.ref 108, .int p0, .int p1, .int p2], [], M) := by
  have hS : im_St (tb_G L xs) (dep + 4) J_MSquareRows_correct (ia (tb_G L xs) (dep + 4) J_MSquareRows_correct (rwI w Q)) := ia_St
  unfold f_MSquareRows_correct at h
  have l0 : im_lk (lv_args 0 [.ref 108, .int p0, .int p1, .int p2]) 0 = some (.ref 108) := rfl
  have l1 : im_lk (lv_args 0 [.ref 108, .int p0, .int p1, .int p2]) 1 = some (.int p0) := rfl
  have l2 : im_lk (lv_args 0 [.ref 108, .int p0, .int p1, .int p2]) 2 = some (.int p1) := rfl
  have l3 : im_lk (lv_args 0 [.ref 108, .int p0, .int p1, .int p2]) 3 = some (.int p2) := rfl
  refine iq_aload_n hS 1 J_MSquareRows_correct_d0 l0 rfl ?_
  refine iq_aload_n hS 2 J_MSquareRows_correct_d1 l0 rfl ?_
  refine iq_getR hS 5 J_MSquareRows_correct_d2 lf_16_46 (Or.inr ⟨_, rfl⟩) (ka_108 hM) (ra_108_20 hM) rfl ?_
  refine iq_iload_n hS 6 J_MSquareRows_correct_d5 l1 rfl ?_
  refine iq_iload_n hS 7 J_MSquareRows_correct_d6 l2 rfl ?_
  obtain ⟨Q1, hQ1, h⟩ := bd2_ed h
  refine iq_cwI hS 10 J_MSquareRows_correct_d7 rfl (pr_inst (vs := [_, _, _]) lc_16_257 lT_495 rfl rfl (by decide) (by decide) rfl (Nat.le_of_ble_eq_true rfl) (Nat.le_of_ble_eq_true rfl) (fun _ => Or.inl (pr_b (ka_108 hM) (by decide) rfl))) (f_MSquareRows_isZero_ok (dep := dep + 2) hM h) rfl ?_
  intro x1 M1 hM1 h
  replace h := hQ1 _ _ h
  refine iq_if_eq hS 13 J_MSquareRows_correct_d10 (t := 15) rfl (fun q10 => ?_) rfl (fun q10 => ?_)
  · replace h := ed_pos q10 h
    refine iq_iconst hS 16 J_MSquareRows_correct_d15 (v := 1) (by decide +kernel) rfl ?_
    refine iq_istore hS 18 J_MSquareRows_correct_d16 (by decide) rfl ?_
    obtain ⟨Q2, hQ2, hR2, h⟩ := bs1_ed h
    have K2 : ∀ (M3 : im_M) (L' : List (Nat × Value)), lw_S w M3 → Q2 (.inl M3) → ia (tb_G L xs) (dep + 4) J_MSquareRows_correct (rwI w Q) (107, L', [], M3) := by
      intro M3 L' hM3  h
      replace h := hQ2 _ h
      refine iq_iconst hS 108 J_MSquareRows_correct_d107 (v := (-1)) (by decide +kernel) rfl ?_
      exact iq_iret J_MSquareRows_correct_d108 rfl rfl ⟨_, rfl, hM3, ed_some h⟩
    obtain ⟨r2, hr2, hq2⟩ := h
    obtain ⟨n2, hn2⟩ := lp_n hr2
    have I2 : ∀ (n : Nat) (x4 : Int32) (M5 : im_M) (L' : List (Nat × Value)), lw_S w M5 → im_lk L' 0 = some (.ref 108) → im_lk L' 1 = some (.int p0) → im_lk L' 2 = some (.int p1) → im_lk L' 3 = some (.int p2) → im_lk L' 4 = some (.int x4) → lpn (uc2 (f_MSquareRows_correct_L18 p0 p1 p2)) n (x4, M5) = some r2 → ia (tb_G L xs) (dep + 4) J_MSquareRows_correct (rwI w Q) (18, L', [], M5) := by
      intro n
      induction n with
      | zero => intro x4 M5 L' hM5 l6 l7 l8 l9 l10 hn; exact (lpn_0 hn).elim
      | succ n ih =>
        intro x4 M5 L' hM5 l6 l7 l8 l9 l10 hn
        have h := lpn_ed2 hn
        unfold f_MSquareRows_correct_L18 at h
        refine iq_iload hS 20 J_MSquareRows_correct_d18 l10 rfl ?_
        refine iq_iload_n hS 21 J_MSquareRows_correct_d20 l9 rfl ?_
        refine iq_icmp_gt hS 24 J_MSquareRows_correct_d21 (t := 107) rfl (fun q21 => ?_) rfl (fun q21 => ?_)
        · replace h := ed_pos q21 h
          exact K2 _ _ hM5  (lq_r h hq2)
        · replace h := ed_neg q21 h
          refine iq_aload_n hS 25 J_MSquareRows_correct_d24 l6 rfl ?_
          refine iq_aload_n hS 26 J_MSquareRows_correct_d25 l6 rfl ?_
          refine iq_getR hS 29 J_MSquareRows_correct_d26 lf_16_46 (Or.inr ⟨_, rfl⟩) (ka_108 hM5) (ra_108_20 hM5) rfl ?_
          refine iq_iload_n hS 30 J_MSquareRows_correct_d29 l7 rfl ?_
          refine iq_iload_n hS 31 J_MSquareRows_correct_d30 l8 rfl ?_
          obtain ⟨Q11, hQ11, h⟩ := bd2_ed h
          refine iq_cwI hS 34 J_MSquareRows_correct_d31 rfl (pr_inst (vs := [_, _, _]) lc_16_257 lT_495 rfl rfl (by decide) (by decide) rfl (Nat.le_of_ble_eq_true rfl) (Nat.le_of_ble_eq_true rfl) (fun _ => Or.inl (pr_b (ka_108 hM5) (by decide) rfl))) (f_MSquareRows_isZero_ok (dep := dep + 2) hM5 h) rfl ?_
          intro x11 M11 hM11 h
          replace h := hQ11 _ _ h
          refine iq_istore hS 36 J_MSquareRows_correct_d34 (by decide) rfl ?_
          refine iq_aload_n hS 37 J_MSquareRows_correct_d36 (lk_1r l6 (by decide)) rfl ?_
          refine iq_iload hS 39 J_MSquareRows_correct_d37 (lk_1i l10 (by decide)) rfl ?_
          refine iq_iload_n hS 40 J_MSquareRows_correct_d39 (lk_1i l7 (by decide)) rfl ?_
          obtain ⟨Q12, hQ12, h⟩ := bd2_ed h
          refine iq_cwI hS 43 J_MSquareRows_correct_d40 rfl (pr_inst (vs := [_, _]) lc_16_261 lT_496 rfl rfl (by decide) (by decide) rfl (Nat.le_of_ble_eq_true rfl) (Nat.le_of_ble_eq_true rfl) (fun _ => Or.inl (pr_b (ka_108 hM11) (by decide) rfl))) (f_MSquareRows_finds_ok (dep := dep + 0) hM11 h) rfl ?_
          intro x12 M12 hM12 h
          replace h := hQ12 _ _ h
          obtain ⟨k13, Q13, hQ13, hk13, h⟩ := jn1_ed h
          have J13 : ∀ (M25 : im_M) (L' : List (Nat × Value)), lw_S w M25 → im_lk L' 0 = some (.ref 108) → im_lk L' 1 = some (.int p0) → im_lk L' 2 = some (.int p1) → im_lk L' 3 = some (.int p2) → im_lk L' 4 = some (.int x4) → Q13 M25 → ia (tb_G L xs) (dep + 4) J_MSquareRows_correct (rwI w Q) (101, L', [], M25) := by
            intro M25 L' hM25 l26 l27 l28 l29 l30 h
            replace h := hQ13 _ h
            refine iq_iincv hS 104 J_MSquareRows_correct_d101 (c := 1) (by decide +kernel) l30 (by decide) rfl ?_
            refine iq_goto hS J_MSquareRows_correct_d104 (t := 18) rfl ?_
            exact ih _ _ _ hM25 (lk_1r l26 (by decide)) (lk_1i l27 (by decide)) (lk_1i l28 (by decide)) (lk_1i l29 (by decide)) lk_1s (lq_l h)
          refine iq_if_eq hS 46 J_MSquareRows_correct_d43 (t := 101) rfl (fun q43 => ?_) rfl (fun q43 => ?_)
          · replace h := ed_pos q43 h
            exact J13 _ _ hM12 (lk_1r l6 (by decide)) (lk_1i l7 (by decide)) (lk_1i l8 (by decide)) (lk_1i l9 (by decide)) (lk_1i l10 (by decide)) (hk13 _ h)
          · replace h := ed_neg q43 h
            refine iq_aload_n hS 47 J_MSquareRows_correct_d46 (lk_1r l6 (by decide)) rfl ?_
            refine iq_iload hS 49 J_MSquareRows_correct_d47 (lk_1i l10 (by decide)) rfl ?_
            refine iq_iload_n hS 50 J_MSquareRows_correct_d49 (lk_1i l7 (by decide)) rfl ?_
            obtain ⟨Q14, hQ14, h⟩ := bd2_ed h
            refine iq_cwI hS 53 J_MSquareRows_correct_d50 rfl (pr_inst (vs := [_, _]) lc_16_264 lT_499 rfl rfl (by decide) (by decide) rfl (Nat.le_of_ble_eq_true rfl) (Nat.le_of_ble_eq_true rfl) (fun _ => Or.inl (pr_b (ka_108 hM12) (by decide) rfl))) (f_MSquareRows_mends_ok (dep := dep + 0) hM12 h) rfl ?_
            intro x14 M14 hM14 h
            replace h := hQ14 _ _ h
            refine iq_if_eq hS 56 J_MSquareRows_correct_d53 (t := 101) rfl (fun q53 => ?_) rfl (fun q53 => ?_)
            · replace h := ed_pos q53 h
              exact J13 _ _ hM14 (lk_1r l6 (by decide)) (lk_1i l7 (by decide)) (lk_1i l8 (by decide)) (lk_1i l9 (by decide)) (lk_1i l10 (by decide)) (hk13 _ h)
            · replace h := ed_neg q53 h
              refine iq_aload_n hS 57 J_MSquareRows_correct_d56 (lk_1r l6 (by decide)) rfl ?_
              refine iq_aload_n hS 58 J_MSquareRows_correct_d57 (lk_1r l6 (by decide)) rfl ?_
              refine iq_getR hS 61 J_MSquareRows_correct_d58 lf_16_49 (Or.inr ⟨_, rfl⟩) (ka_108 hM14) (ra_108_21 hM14) rfl ?_
              refine iq_iload_n hS 62 J_MSquareRows_correct_d61 (lk_1i l7 (by decide)) rfl ?_
              refine iq_iload_n hS 63 J_MSquareRows_correct_d62 (lk_1i l8 (by decide)) rfl ?_
              obtain ⟨Q15, hQ15, h⟩ := bd2_ed h
              refine iq_cwI hS 66 J_MSquareRows_correct_d63 rfl (pr_inst (vs := [_, _, _]) lc_16_257 lT_495 rfl rfl (by decide) (by decide) rfl (Nat.le_of_ble_eq_true rfl) (Nat.le_of_ble_eq_true rfl) (fun _ => Or.inl (pr_b (ka_108 hM14) (by decide) rfl))) (f_MSquareRows_isZero_1_ok (dep := dep + 2) hM14 h) rfl ?_
              intro x15 M15 hM15 h
              replace h := hQ15 _ _ h
              refine iq_if_eq hS 69 J_MSquareRows_correct_d66 (t := 101) rfl (fun q66 => ?_) rfl (fun q66 => ?_)
              · replace h := ed_pos q66 h
                exact J13 _ _ hM15 (lk_1r l6 (by decide)) (lk_1i l7 (by decide)) (lk_1i l8 (by decide)) (lk_1i l9 (by decide)) (lk_1i l10 (by decide)) (hk13 _ h)
              · replace h := ed_neg q66 h
                refine iq_iconst hS 70 J_MSquareRows_correct_d69 (v := 0) (by decide +kernel) rfl ?_
                refine iq_istore hS 72 J_MSquareRows_correct_d70 (by decide) rfl ?_
                obtain ⟨Q16, hQ16, h⟩ := bd1_ed h
                have K16 : ∀ (M17 : im_M) (L' : List (Nat × Value)), lw_S w M17 → im_lk L' 4 = some (.int x4) → Q16 M17 → ia (tb_G L xs) (dep + 4) J_MSquareRows_correct (rwI w Q) (98, L', [], M17) := by
                  intro M17 L' hM17 l18 h
                  replace h := hQ16 _ h
                  refine iq_iload hS 100 J_MSquareRows_correct_d98 l18 rfl ?_
                  exact iq_iret J_MSquareRows_correct_d100 rfl rfl ⟨_, rfl, hM17, ed_some (hR2 _ (lq_r h hq2))⟩
                obtain ⟨r16, hr16, hq16⟩ := h
                obtain ⟨n16, hn16⟩ := lp_n hr16
                have I16 : ∀ (n : Nat) (x19 : Int32) (M20 : im_M) (L' : List (Nat × Value)), lw_S w M20 → im_lk L' 0 = some (.ref 108) → im_lk L' 1 = some (.int p0) → im_lk L' 4 = some (.int x4) → im_lk L' 6 = some (.int x19) → lpn (uc2 (f_MSquareRows_correct_L72 p0 x4)) n (x19, M20) = some r16 → ia (tb_G L xs) (dep + 4) J_MSquareRows_correct (rwI w Q) (72, L', [], M20) := by
                  intro n
                  induction n with
                  | zero => intro x19 M20 L' hM20 l21 l22 l23 l24 hn; exact (lpn_0 hn).elim
                  | succ n ih =>
                    intro x19 M20 L' hM20 l21 l22 l23 l24 hn
                    have h := lpn_ed2 hn
                    unfold f_MSquareRows_correct_L72 at h
                    refine iq_iload hS 74 J_MSquareRows_correct_d72 l24 rfl ?_
                    refine iq_iload_n hS 75 J_MSquareRows_correct_d74 l22 rfl ?_
                    refine iq_icmp_ge hS 78 J_MSquareRows_correct_d75 (t := 98) rfl (fun q75 => ?_) rfl (fun q75 => ?_)
                    · replace h := ed_pos q75 h
                      exact K16 _ _ hM20 l23 (lq_r h hq16)
                    · replace h := ed_neg q75 h
                      refine iq_aload_n hS 79 J_MSquareRows_correct_d78 l21 rfl ?_
                      refine iq_getR hS 82 J_MSquareRows_correct_d79 lf_16_46 (Or.inr ⟨_, rfl⟩) (ka_108 hM20) (ra_108_20 hM20) rfl ?_
                      refine iq_iload hS 84 J_MSquareRows_correct_d82 l24 rfl ?_
                      refine iq_aload_n hS 85 J_MSquareRows_correct_d84 l21 rfl ?_
                      refine iq_getR hS 88 J_MSquareRows_correct_d85 lf_16_49 (Or.inr ⟨_, rfl⟩) (ka_108 hM20) (ra_108_21 hM20) rfl ?_
                      refine iq_iload hS 90 J_MSquareRows_correct_d88 l24 rfl ?_
                      obtain ⟨g90, h⟩ := ed_gd h
                      refine iq_iaload hS 91 J_MSquareRows_correct_d90 ⟨(ka_122 hM20).1, (ka_122 hM20).2, g90.1, ix_lt (kl_122 hM20) g90.2⟩ rfl ?_
                      obtain ⟨g91, h⟩ := ed_gd h
                      refine iq_iastore hS 92 J_MSquareRows_correct_d91 ⟨(ka_121 hM20).1, (ka_121 hM20).2, g91.1, ix_lt (kl_121 hM20) g91.2⟩ rfl ?_
                      refine iq_iincv hS 95 J_MSquareRows_correct_d92 (c := 1) (by decide +kernel) l24 (by decide) rfl ?_
                      refine iq_goto hS J_MSquareRows_correct_d95 (t := 72) rfl ?_
                      exact ih _ _ _ (lw_sI hM20) (lk_1r l21 (by decide)) (lk_1i l22 (by decide)) (lk_1i l23 (by decide)) lk_1s (lq_l h)
                exact I16 n16 _ _ _ hM15 (lk_1r (lk_1r l6 (by decide)) (by decide)) (lk_1i (lk_1i l7 (by decide)) (by decide)) (lk_1i (lk_1i l10 (by decide)) (by decide)) lk_1s hn16
    exact I2 n2 _ _ _ hM1 (lk_1r l0 (by decide)) (lk_1i l1 (by decide)) (lk_1i l2 (by decide)) (lk_1i l3 (by decide)) lk_1s hn2
  · replace h := ed_neg q10 h
    refine iq_iconst hS 14 J_MSquareRows_correct_d13 (v := 0) (by decide +kernel) rfl ?_
    exact iq_iret J_MSquareRows_correct_d14 rfl rfl ⟨_, rfl, hM1, ed_some h⟩
theorem f_MSquareRows_correct_fr {p0 : Int32} {p1 : Int32} {p2 : Int32} {M : im_M} {r : Int32 × im_M} (h : f_MSquareRows_correct p0 p1 p2 M = some r) : fr 167482727468899399985879689595323416576 [] M r.2 := by
  replace h : ed (f_MSquareRows_correct p0 p1 p2 M) (fun x => x = r) := ⟨r, h, rfl⟩
  unfold f_MSquareRows_correct at h
  obtain ⟨Q1, hQ1, h⟩ := bd2_ed h
  obtain ⟨⟨x1, M1⟩, e1, h⟩ := h
  replace h := hQ1 _ _ h
  by_cases q10 : x1 = 0
  · replace h := ed_pos q10 h
    obtain ⟨Q2, hQ2, hR2, h⟩ := bs1_ed h
    have K2 : ∀ (M3 : im_M), fr 167482727468899399985879689595323416576 [] M M3 → Q2 (.inl M3) → fr 167482727468899399985879689595323416576 [] M r.2 := by
      intro M3 hM3 h
      replace h := hQ2 _ h
      exact fr_ret h hM3
    obtain ⟨r2, hr2, hq2⟩ := h
    obtain ⟨n2, hn2⟩ := lp_n hr2
    have I2 : ∀ (n : Nat) (x4 : Int32) (M5 : im_M), fr 167482727468899399985879689595323416576 [] M M5 → lpn (uc2 (f_MSquareRows_correct_L18 p0 p1 p2)) n (x4, M5) = some r2 → fr 167482727468899399985879689595323416576 [] M r.2 := by
      intro n
      induction n with
      | zero => intro x4 M5 hM5 hn; exact (lpn_0 hn).elim
      | succ n ih =>
        intro x4 M5 hM5 hn
        have h := lpn_ed2 hn
        unfold f_MSquareRows_correct_L18 at h
        by_cases q21 : p2 < x4
        · replace h := ed_pos q21 h
          exact K2 _ hM5 (lq_r h hq2)
        · replace h := ed_neg q21 h
          obtain ⟨Q6, hQ6, h⟩ := bd2_ed h
          obtain ⟨⟨x6, M6⟩, e6, h⟩ := h
          replace h := hQ6 _ _ h
          obtain ⟨Q7, hQ7, h⟩ := bd2_ed h
          obtain ⟨⟨x7, M7⟩, e7, h⟩ := h
          replace h := hQ7 _ _ h
          obtain ⟨k8, Q8, hQ8, hk8, h⟩ := jn1_ed h
          have J8 : ∀ (M15 : im_M), fr 167482727468899399985879689595323416576 [] M M15 → Q8 M15 → fr 167482727468899399985879689595323416576 [] M r.2 := by
            intro M15 hM15 h
            replace h := hQ8 _ h
            exact ih _ _ hM15 (lq_l h)
          by_cases q43 : x7 = 0
          · replace h := ed_pos q43 h
            exact J8 _ (fr_tr (fr_mono (by decide) (by decide +kernel) (f_MSquareRows_finds_fr e7)) (fr_tr (fr_mono (by decide) (by decide +kernel) (f_MSquareRows_isZero_fr e6)) hM5)) (hk8 _ h)
          · replace h := ed_neg q43 h
            obtain ⟨Q9, hQ9, h⟩ := bd2_ed h
            obtain ⟨⟨x9, M9⟩, e9, h⟩ := h
            replace h := hQ9 _ _ h
            by_cases q53 : x9 = 0
            · replace h := ed_pos q53 h
              exact J8 _ (fr_tr (fr_mono (by decide) (by decide +kernel) (f_MSquareRows_mends_fr e9)) (fr_tr (fr_mono (by decide) (by decide +kernel) (f_MSquareRows_finds_fr e7)) (fr_tr (fr_mono (by decide) (by decide +kernel) (f_MSquareRows_isZero_fr e6)) hM5))) (hk8 _ h)
            · replace h := ed_neg q53 h
              obtain ⟨Q10, hQ10, h⟩ := bd2_ed h
              obtain ⟨⟨x10, M10⟩, e10, h⟩ := h
              replace h := hQ10 _ _ h
              by_cases q66 : x10 = 0
              · replace h := ed_pos q66 h
                exact J8 _ (fr_tr (fr_mono (by decide) (by decide +kernel) (f_MSquareRows_isZero_1_fr e10)) (fr_tr (fr_mono (by decide) (by decide +kernel) (f_MSquareRows_mends_fr e9)) (fr_tr (fr_mono (by decide) (by decide +kernel) (f_MSquareRows_finds_fr e7)) (fr_tr (fr_mono (by decide) (by decide +kernel) (f_MSquareRows_isZero_fr e6)) hM5)))) (hk8 _ h)
              · replace h := ed_neg q66 h
                obtain ⟨Q11, hQ11, h⟩ := bd1_ed h
                have K11 : ∀ (M12 : im_M), fr 167482727468899399985879689595323416576 [] M M12 → Q11 M12 → fr 167482727468899399985879689595323416576 [] M r.2 := by
                  intro M12 hM12 h
                  replace h := hQ11 _ h
                  exact fr_ret (hR2 _ (lq_r h hq2)) hM12
                obtain ⟨r11, hr11, hq11⟩ := h
                obtain ⟨n11, hn11⟩ := lp_n hr11
                have I11 : ∀ (n : Nat) (x13 : Int32) (M14 : im_M), fr 167482727468899399985879689595323416576 [] M M14 → lpn (uc2 (f_MSquareRows_correct_L72 p0 x4)) n (x13, M14) = some r11 → fr 167482727468899399985879689595323416576 [] M r.2 := by
                  intro n
                  induction n with
                  | zero => intro x13 M14 hM14 hn; exact (lpn_0 hn).elim
                  | succ n ih =>
                    intro x13 M14 hM14 hn
                    have h := lpn_ed2 hn
                    unfold f_MSquareRows_correct_L72 at h
                    by_cases q75 : p0 ≤ x13
                    · replace h := ed_pos q75 h
                      exact K11 _ hM14 (lq_r h hq11)
                    · replace h := ed_neg q75 h
                      obtain ⟨g90, h⟩ := ed_gd h
                      obtain ⟨g91, h⟩ := ed_gd h
                      exact ih _ _ (fr_I (by decide) hM14) (lq_l h)
                exact I11 n11 _ _ (fr_tr (fr_mono (by decide) (by decide +kernel) (f_MSquareRows_isZero_1_fr e10)) (fr_tr (fr_mono (by decide) (by decide +kernel) (f_MSquareRows_mends_fr e9)) (fr_tr (fr_mono (by decide) (by decide +kernel) (f_MSquareRows_finds_fr e7)) (fr_tr (fr_mono (by decide) (by decide +kernel) (f_MSquareRows_isZero_fr e6)) hM5)))) hn11
    exact I2 n2 _ _ (fr_tr (fr_mono (by decide) (by decide +kernel) (f_MSquareRows_isZero_fr e1)) fr_refl) hn2
  · replace h := ed_neg q10 h
    exact fr_ret h (fr_tr (fr_mono (by decide) (by decide +kernel) (f_MSquareRows_isZero_fr e1)) fr_refl)
noncomputable def f_MSquareRows_allBlocks_L37 (v12 : Int32) (v13 : Int32) (v14 : Int32) (v15 : Int32) (v16 : Int32) (v17 : Int32) (x18 : Int32) (M19 : im_M) : Option ((Int32 × im_M) ⊕ (im_M)) := if (v17 + v14) ≤ x18 then some (.inr M19) else bd1 (f_MSquareRows_placeOf v12 v13 v16 x18 M19) fun (x20 : Int32) => gd (inb x20 3800) <| gd (inb x18 256) <| some (.inl ((x18 + 1), (im_setI M19 121 (Int32.toNatClampNeg x18) (im_i M19 120 (Int32.toNatClampNeg x20)))))
noncomputable def f_MSquareRows_allBlocks_L121 (v26 : Int32) (v27 : Int32) (v28 : Int32) (v29 : Int32) (v30 : Int32) (v31 : Int32) (v32 : Int32) (x33 : Int32) (M34 : im_M) : Option ((Int32 × im_M) ⊕ (im_M)) := if v31 ≤ x33 then some (.inr M34) else gd (inb x33 256) <| gd (inb (v32 + x33) 3800) <| some (.inl ((x33 + 1), (im_setI M34 119 (Int32.toNatClampNeg (v32 + x33)) (im_i M34 121 (Int32.toNatClampNeg x33)))))
noncomputable def f_MSquareRows_allBlocks_L13 (v3 : Int32) (v4 : Int32) (v5 : Int32) (x6 : Int32) (x7 : Int32) (M8 : im_M) : Option ((Int32 × Int32 × im_M) ⊕ ((Int32 × im_M) ⊕ (Int32 × im_M))) := bd1 (f_MSquareRows_blocksOf v3 v4 M8) fun (x9 : Int32) => if x9 ≤ x7 then some (.inr (.inl (x6, M8))) else bd1 (f_MSquareRows_shareOf v3 v4 x7 M8) fun (x10 : Int32) => bd1 (lp (uc2 (f_MSquareRows_allBlocks_L37 v3 v4 v5 x6 x7 x10)) (0, M8)) fun (M21 : im_M) => bd1 (f_MSquareRows_spared v3 v4 M21) fun (x22 : Int32) => bd2 (f_MSquareRows_correct (x10 + v5) v5 ((v5 - x22) / 2) M21) fun (x23 : Int32) (M23 : im_M) => if 0 ≤ x23 then bd1 (f_MSquareRows_startOf v3 v4 x7 M23) fun (x24 : Int32) => bd1 (lp (uc2 (f_MSquareRows_allBlocks_L121 v3 v4 v5 (x6 + x23) x7 x10 x24)) (0, M23)) fun (M35 : im_M) => some (.inl ((x6 + x23), (x7 + 1), M35)) else some (.inr (.inr ((-1), M23)))
noncomputable def f_MSquareRows_allBlocks (p0 : Int32) (p1 : Int32) (M : im_M) : Option (Int32 × im_M) := bd1 (f_MSquareRows_checkOf p0 p1 M) fun (x1 : Int32) => bs2 (lp (uc3 (f_MSquareRows_allBlocks_L13 p0 p1 x1)) (0, 0, M)) (fun (y36 : Int32) (M37 : im_M) => some (y36, M37)) (fun t => some t)
theorem J_MSquareRows_allBlocks_d0 : decode J_MSquareRows_allBlocks.2.1 0 = .ok (.aload_n 0, 1) := by decide +kernel
theorem J_MSquareRows_allBlocks_d1 : decode J_MSquareRows_allBlocks.2.1 1 = .ok (.iload_n 1, 1) := by decide +kernel
theorem J_MSquareRows_allBlocks_d2 : decode J_MSquareRows_allBlocks.2.1 2 = .ok (.iload_n 2, 1) := by decide +kernel
theorem J_MSquareRows_allBlocks_d3 : decode J_MSquareRows_allBlocks.2.1 3 = .ok (.invokevirtual 86, 3) := by decide +kernel
theorem J_MSquareRows_allBlocks_d6 : decode J_MSquareRows_allBlocks.2.1 6 = .ok (.istore_n 3, 1) := by decide +kernel
theorem J_MSquareRows_allBlocks_d7 : decode J_MSquareRows_allBlocks.2.1 7 = .ok (.iconst 0, 1) := by decide +kernel
theorem J_MSquareRows_allBlocks_d8 : decode J_MSquareRows_allBlocks.2.1 8 = .ok (.istore 4, 2) := by decide +kernel
theorem J_MSquareRows_allBlocks_d10 : decode J_MSquareRows_allBlocks.2.1 10 = .ok (.iconst 0, 1) := by decide +kernel
theorem J_MSquareRows_allBlocks_d11 : decode J_MSquareRows_allBlocks.2.1 11 = .ok (.istore 5, 2) := by decide +kernel
theorem J_MSquareRows_allBlocks_d13 : decode J_MSquareRows_allBlocks.2.1 13 = .ok (.iload 5, 2) := by decide +kernel
theorem J_MSquareRows_allBlocks_d15 : decode J_MSquareRows_allBlocks.2.1 15 = .ok (.aload_n 0, 1) := by decide +kernel
theorem J_MSquareRows_allBlocks_d16 : decode J_MSquareRows_allBlocks.2.1 16 = .ok (.iload_n 1, 1) := by decide +kernel
theorem J_MSquareRows_allBlocks_d17 : decode J_MSquareRows_allBlocks.2.1 17 = .ok (.iload_n 2, 1) := by decide +kernel
theorem J_MSquareRows_allBlocks_d18 : decode J_MSquareRows_allBlocks.2.1 18 = .ok (.invokevirtual 90, 3) := by decide +kernel
theorem J_MSquareRows_allBlocks_d21 : decode J_MSquareRows_allBlocks.2.1 21 = .ok (.if_icmp .ge 136, 3) := by decide +kernel
theorem J_MSquareRows_allBlocks_d24 : decode J_MSquareRows_allBlocks.2.1 24 = .ok (.aload_n 0, 1) := by decide +kernel
theorem J_MSquareRows_allBlocks_d25 : decode J_MSquareRows_allBlocks.2.1 25 = .ok (.iload_n 1, 1) := by decide +kernel
theorem J_MSquareRows_allBlocks_d26 : decode J_MSquareRows_allBlocks.2.1 26 = .ok (.iload_n 2, 1) := by decide +kernel
theorem J_MSquareRows_allBlocks_d27 : decode J_MSquareRows_allBlocks.2.1 27 = .ok (.iload 5, 2) := by decide +kernel
theorem J_MSquareRows_allBlocks_d29 : decode J_MSquareRows_allBlocks.2.1 29 = .ok (.invokevirtual 150, 3) := by decide +kernel
theorem J_MSquareRows_allBlocks_d32 : decode J_MSquareRows_allBlocks.2.1 32 = .ok (.istore 6, 2) := by decide +kernel
theorem J_MSquareRows_allBlocks_d34 : decode J_MSquareRows_allBlocks.2.1 34 = .ok (.iconst 0, 1) := by decide +kernel
theorem J_MSquareRows_allBlocks_d35 : decode J_MSquareRows_allBlocks.2.1 35 = .ok (.istore 7, 2) := by decide +kernel
theorem J_MSquareRows_allBlocks_d37 : decode J_MSquareRows_allBlocks.2.1 37 = .ok (.iload 7, 2) := by decide +kernel
theorem J_MSquareRows_allBlocks_d39 : decode J_MSquareRows_allBlocks.2.1 39 = .ok (.iload 6, 2) := by decide +kernel
theorem J_MSquareRows_allBlocks_d41 : decode J_MSquareRows_allBlocks.2.1 41 = .ok (.iload_n 3, 1) := by decide +kernel
theorem J_MSquareRows_allBlocks_d42 : decode J_MSquareRows_allBlocks.2.1 42 = .ok (.iadd, 1) := by decide +kernel
theorem J_MSquareRows_allBlocks_d43 : decode J_MSquareRows_allBlocks.2.1 43 = .ok (.if_icmp .ge 31, 3) := by decide +kernel
theorem J_MSquareRows_allBlocks_d46 : decode J_MSquareRows_allBlocks.2.1 46 = .ok (.aload_n 0, 1) := by decide +kernel
theorem J_MSquareRows_allBlocks_d47 : decode J_MSquareRows_allBlocks.2.1 47 = .ok (.getfield 46, 3) := by decide +kernel
theorem J_MSquareRows_allBlocks_d50 : decode J_MSquareRows_allBlocks.2.1 50 = .ok (.iload 7, 2) := by decide +kernel
theorem J_MSquareRows_allBlocks_d52 : decode J_MSquareRows_allBlocks.2.1 52 = .ok (.aload_n 0, 1) := by decide +kernel
theorem J_MSquareRows_allBlocks_d53 : decode J_MSquareRows_allBlocks.2.1 53 = .ok (.getfield 43, 3) := by decide +kernel
theorem J_MSquareRows_allBlocks_d56 : decode J_MSquareRows_allBlocks.2.1 56 = .ok (.aload_n 0, 1) := by decide +kernel
theorem J_MSquareRows_allBlocks_d57 : decode J_MSquareRows_allBlocks.2.1 57 = .ok (.iload_n 1, 1) := by decide +kernel
theorem J_MSquareRows_allBlocks_d58 : decode J_MSquareRows_allBlocks.2.1 58 = .ok (.iload_n 2, 1) := by decide +kernel
theorem J_MSquareRows_allBlocks_d59 : decode J_MSquareRows_allBlocks.2.1 59 = .ok (.iload 5, 2) := by decide +kernel
theorem J_MSquareRows_allBlocks_d61 : decode J_MSquareRows_allBlocks.2.1 61 = .ok (.iload 7, 2) := by decide +kernel
theorem J_MSquareRows_allBlocks_d63 : decode J_MSquareRows_allBlocks.2.1 63 = .ok (.invokevirtual 160, 3) := by decide +kernel
theorem J_MSquareRows_allBlocks_d66 : decode J_MSquareRows_allBlocks.2.1 66 = .ok (.iaload, 1) := by decide +kernel
theorem J_MSquareRows_allBlocks_d67 : decode J_MSquareRows_allBlocks.2.1 67 = .ok (.iastore, 1) := by decide +kernel
theorem J_MSquareRows_allBlocks_d68 : decode J_MSquareRows_allBlocks.2.1 68 = .ok (.iinc 7 1, 3) := by decide +kernel
theorem J_MSquareRows_allBlocks_d71 : decode J_MSquareRows_allBlocks.2.1 71 = .ok (.goto (-34), 3) := by decide +kernel
theorem J_MSquareRows_allBlocks_d74 : decode J_MSquareRows_allBlocks.2.1 74 = .ok (.aload_n 0, 1) := by decide +kernel
theorem J_MSquareRows_allBlocks_d75 : decode J_MSquareRows_allBlocks.2.1 75 = .ok (.iload 6, 2) := by decide +kernel
theorem J_MSquareRows_allBlocks_d77 : decode J_MSquareRows_allBlocks.2.1 77 = .ok (.iload_n 3, 1) := by decide +kernel
theorem J_MSquareRows_allBlocks_d78 : decode J_MSquareRows_allBlocks.2.1 78 = .ok (.iadd, 1) := by decide +kernel
theorem J_MSquareRows_allBlocks_d79 : decode J_MSquareRows_allBlocks.2.1 79 = .ok (.iload_n 3, 1) := by decide +kernel
theorem J_MSquareRows_allBlocks_d80 : decode J_MSquareRows_allBlocks.2.1 80 = .ok (.iload_n 3, 1) := by decide +kernel
theorem J_MSquareRows_allBlocks_d81 : decode J_MSquareRows_allBlocks.2.1 81 = .ok (.iload_n 1, 1) := by decide +kernel
theorem J_MSquareRows_allBlocks_d82 : decode J_MSquareRows_allBlocks.2.1 82 = .ok (.iload_n 2, 1) := by decide +kernel
theorem J_MSquareRows_allBlocks_d83 : decode J_MSquareRows_allBlocks.2.1 83 = .ok (.invokestatic 273, 3) := by decide +kernel
theorem J_MSquareRows_allBlocks_d86 : decode J_MSquareRows_allBlocks.2.1 86 = .ok (.isub, 1) := by decide +kernel
theorem J_MSquareRows_allBlocks_d87 : decode J_MSquareRows_allBlocks.2.1 87 = .ok (.iconst 2, 1) := by decide +kernel
theorem J_MSquareRows_allBlocks_d88 : decode J_MSquareRows_allBlocks.2.1 88 = .ok (.idiv, 1) := by decide +kernel
theorem J_MSquareRows_allBlocks_d89 : decode J_MSquareRows_allBlocks.2.1 89 = .ok (.invokevirtual 276, 3) := by decide +kernel
theorem J_MSquareRows_allBlocks_d92 : decode J_MSquareRows_allBlocks.2.1 92 = .ok (.istore 7, 2) := by decide +kernel
theorem J_MSquareRows_allBlocks_d94 : decode J_MSquareRows_allBlocks.2.1 94 = .ok (.iload 7, 2) := by decide +kernel
theorem J_MSquareRows_allBlocks_d96 : decode J_MSquareRows_allBlocks.2.1 96 = .ok (.ifCond .ge 5, 3) := by decide +kernel
theorem J_MSquareRows_allBlocks_d99 : decode J_MSquareRows_allBlocks.2.1 99 = .ok (.iconst (-1), 1) := by decide +kernel
theorem J_MSquareRows_allBlocks_d100 : decode J_MSquareRows_allBlocks.2.1 100 = .ok (.ireturn, 1) := by decide +kernel
theorem J_MSquareRows_allBlocks_d101 : decode J_MSquareRows_allBlocks.2.1 101 = .ok (.iload 4, 2) := by decide +kernel
theorem J_MSquareRows_allBlocks_d103 : decode J_MSquareRows_allBlocks.2.1 103 = .ok (.iload 7, 2) := by decide +kernel
theorem J_MSquareRows_allBlocks_d105 : decode J_MSquareRows_allBlocks.2.1 105 = .ok (.iadd, 1) := by decide +kernel
theorem J_MSquareRows_allBlocks_d106 : decode J_MSquareRows_allBlocks.2.1 106 = .ok (.istore 4, 2) := by decide +kernel
theorem J_MSquareRows_allBlocks_d108 : decode J_MSquareRows_allBlocks.2.1 108 = .ok (.aload_n 0, 1) := by decide +kernel
theorem J_MSquareRows_allBlocks_d109 : decode J_MSquareRows_allBlocks.2.1 109 = .ok (.iload_n 1, 1) := by decide +kernel
theorem J_MSquareRows_allBlocks_d110 : decode J_MSquareRows_allBlocks.2.1 110 = .ok (.iload_n 2, 1) := by decide +kernel
theorem J_MSquareRows_allBlocks_d111 : decode J_MSquareRows_allBlocks.2.1 111 = .ok (.iload 5, 2) := by decide +kernel
theorem J_MSquareRows_allBlocks_d113 : decode J_MSquareRows_allBlocks.2.1 113 = .ok (.invokevirtual 157, 3) := by decide +kernel
theorem J_MSquareRows_allBlocks_d116 : decode J_MSquareRows_allBlocks.2.1 116 = .ok (.istore 8, 2) := by decide +kernel
theorem J_MSquareRows_allBlocks_d118 : decode J_MSquareRows_allBlocks.2.1 118 = .ok (.iconst 0, 1) := by decide +kernel
theorem J_MSquareRows_allBlocks_d119 : decode J_MSquareRows_allBlocks.2.1 119 = .ok (.istore 9, 2) := by decide +kernel
theorem J_MSquareRows_allBlocks_d121 : decode J_MSquareRows_allBlocks.2.1 121 = .ok (.iload 9, 2) := by decide +kernel
theorem J_MSquareRows_allBlocks_d123 : decode J_MSquareRows_allBlocks.2.1 123 = .ok (.iload 6, 2) := by decide +kernel
theorem J_MSquareRows_allBlocks_d125 : decode J_MSquareRows_allBlocks.2.1 125 = .ok (.if_icmp .ge 26, 3) := by decide +kernel
theorem J_MSquareRows_allBlocks_d128 : decode J_MSquareRows_allBlocks.2.1 128 = .ok (.aload_n 0, 1) := by decide +kernel
theorem J_MSquareRows_allBlocks_d129 : decode J_MSquareRows_allBlocks.2.1 129 = .ok (.getfield 40, 3) := by decide +kernel
theorem J_MSquareRows_allBlocks_d132 : decode J_MSquareRows_allBlocks.2.1 132 = .ok (.iload 8, 2) := by decide +kernel
theorem J_MSquareRows_allBlocks_d134 : decode J_MSquareRows_allBlocks.2.1 134 = .ok (.iload 9, 2) := by decide +kernel
theorem J_MSquareRows_allBlocks_d136 : decode J_MSquareRows_allBlocks.2.1 136 = .ok (.iadd, 1) := by decide +kernel
theorem J_MSquareRows_allBlocks_d137 : decode J_MSquareRows_allBlocks.2.1 137 = .ok (.aload_n 0, 1) := by decide +kernel
theorem J_MSquareRows_allBlocks_d138 : decode J_MSquareRows_allBlocks.2.1 138 = .ok (.getfield 46, 3) := by decide +kernel
theorem J_MSquareRows_allBlocks_d141 : decode J_MSquareRows_allBlocks.2.1 141 = .ok (.iload 9, 2) := by decide +kernel
theorem J_MSquareRows_allBlocks_d143 : decode J_MSquareRows_allBlocks.2.1 143 = .ok (.iaload, 1) := by decide +kernel
theorem J_MSquareRows_allBlocks_d144 : decode J_MSquareRows_allBlocks.2.1 144 = .ok (.iastore, 1) := by decide +kernel
theorem J_MSquareRows_allBlocks_d145 : decode J_MSquareRows_allBlocks.2.1 145 = .ok (.iinc 9 1, 3) := by decide +kernel
theorem J_MSquareRows_allBlocks_d148 : decode J_MSquareRows_allBlocks.2.1 148 = .ok (.goto (-27), 3) := by decide +kernel
theorem J_MSquareRows_allBlocks_d151 : decode J_MSquareRows_allBlocks.2.1 151 = .ok (.iinc 5 1, 3) := by decide +kernel
theorem J_MSquareRows_allBlocks_d154 : decode J_MSquareRows_allBlocks.2.1 154 = .ok (.goto (-141), 3) := by decide +kernel
theorem J_MSquareRows_allBlocks_d157 : decode J_MSquareRows_allBlocks.2.1 157 = .ok (.iload 4, 2) := by decide +kernel
theorem J_MSquareRows_allBlocks_d159 : decode J_MSquareRows_allBlocks.2.1 159 = .ok (.ireturn, 1) := by decide +kernel
theorem f_MSquareRows_allBlocks_ok {L : Nat} {xs : Nat → Int32} {dep : Nat} {w : Bool} {p0 : Int32} {p1 : Int32} {M : im_M} {Q : Int32 × im_M → Prop} (hM : lw_S w M) (h : ed (f_MSquareRows_allBlocks p0 p1 M) Q) : ia (tb_G L xs) (dep + 5) J_MSquareRows_allBlocks (rwI w Q) (0, lv_args 0 [.ref 108, .int p0, .int p1], [], M) := by
  have hS : im_St (tb_G L xs) (dep + 5) J_MSquareRows_allBlocks (ia (tb_G L xs) (dep + 5) J_MSquareRows_allBlocks (rwI w Q)) := ia_St
  unfold f_MSquareRows_allBlocks at h
  have l0 : im_lk (lv_args 0 [.ref 108, .int p0, .int p1]) 0 = some (.ref 108) := rfl
  have l1 : im_lk (lv_args 0 [.ref 108, .int p0, .int p1]) 1 = some (.int p0) := rfl
  have l2 : im_lk (lv_args 0 [.ref 108, .int p0, .int p1]) 2 = some (.int p1) := rfl
  refine iq_aload_n hS 1 J_MSquareRows_allBlocks_d0 l0 rfl ?_
  refine iq_iload_n hS 2 J_MSquareRows_allBlocks_d1 l1 rfl ?_
  refine iq_iload_n hS 3 J_MSquareRows_allBlocks_d2 l2 rfl ?_
  obtain ⟨Q1, hQ1, h⟩ := bd1_ed h
  refine iq_cpI hS 6 J_MSquareRows_allBlocks_d3 rfl (pr_inst (vs := [_, _]) lc_16_86 lT_403 rfl rfl (by decide) (by decide) rfl (Nat.le_of_ble_eq_true rfl) (Nat.le_of_ble_eq_true rfl) (fun _ => Or.inl (pr_b (ka_108 hM) (by decide) rfl))) (f_MSquareRows_checkOf_ok (dep := dep + 4) hM h) rfl ?_
  intro x1 h
  replace h := hQ1 _ h
  refine iq_istore_n hS 7 J_MSquareRows_allBlocks_d6 (by decide) rfl ?_
  refine iq_iconst hS 8 J_MSquareRows_allBlocks_d7 (v := 0) (by decide +kernel) rfl ?_
  refine iq_istore hS 10 J_MSquareRows_allBlocks_d8 (by decide) rfl ?_
  refine iq_iconst hS 11 J_MSquareRows_allBlocks_d10 (v := 0) (by decide +kernel) rfl ?_
  refine iq_istore hS 13 J_MSquareRows_allBlocks_d11 (by decide) rfl ?_
  obtain ⟨Q2, hQ2, hR2, h⟩ := bs2_ed h
  have K2 : ∀ (y3 : Int32) (M4 : im_M) (L' : List (Nat × Value)), lw_S w M4 → im_lk L' 4 = some (.int y3) → Q2 (.inl (y3, M4)) → ia (tb_G L xs) (dep + 5) J_MSquareRows_allBlocks (rwI w Q) (157, L', [], M4) := by
    intro y3 M4 L' hM4 l5 h
    replace h := hQ2 _ _ h
    refine iq_iload hS 159 J_MSquareRows_allBlocks_d157 l5 rfl ?_
    exact iq_iret J_MSquareRows_allBlocks_d159 rfl rfl ⟨_, rfl, hM4, ed_some h⟩
  obtain ⟨r2, hr2, hq2⟩ := h
  obtain ⟨n2, hn2⟩ := lp_n hr2
  have I2 : ∀ (n : Nat) (x6 : Int32) (x7 : Int32) (M8 : im_M) (L' : List (Nat × Value)), lw_S w M8 → im_lk L' 0 = some (.ref 108) → im_lk L' 1 = some (.int p0) → im_lk L' 2 = some (.int p1) → im_lk L' 3 = some (.int x1) → im_lk L' 4 = some (.int x6) → im_lk L' 5 = some (.int x7) → lpn (uc3 (f_MSquareRows_allBlocks_L13 p0 p1 x1)) n (x6, x7, M8) = some r2 → ia (tb_G L xs) (dep + 5) J_MSquareRows_allBlocks (rwI w Q) (13, L', [], M8) := by
    intro n
    induction n with
    | zero => intro x6 x7 M8 L' hM8 l9 l10 l11 l12 l13 l14 hn; exact (lpn_0 hn).elim
    | succ n ih =>
      intro x6 x7 M8 L' hM8 l9 l10 l11 l12 l13 l14 hn
      have h := lpn_ed3 hn
      unfold f_MSquareRows_allBlocks_L13 at h
      refine iq_iload hS 15 J_MSquareRows_allBlocks_d13 l14 rfl ?_
      refine iq_aload_n hS 16 J_MSquareRows_allBlocks_d15 l9 rfl ?_
      refine iq_iload_n hS 17 J_MSquareRows_allBlocks_d16 l10 rfl ?_
      refine iq_iload_n hS 18 J_MSquareRows_allBlocks_d17 l11 rfl ?_
      obtain ⟨Q15, hQ15, h⟩ := bd1_ed h
      refine iq_cpI hS 21 J_MSquareRows_allBlocks_d18 rfl (pr_inst (vs := [_, _]) lc_16_90 lT_404 rfl rfl (by decide) (by decide) rfl (Nat.le_of_ble_eq_true rfl) (Nat.le_of_ble_eq_true rfl) (fun _ => Or.inl (pr_b (ka_108 hM8) (by decide) rfl))) (f_MSquareRows_blocksOf_ok (dep := dep + 4) hM8 h) rfl ?_
      intro x15 h
      replace h := hQ15 _ h
      refine iq_icmp_ge hS 24 J_MSquareRows_allBlocks_d21 (t := 157) rfl (fun q21 => ?_) rfl (fun q21 => ?_)
      · replace h := ed_pos q21 h
        exact K2 _ _ _ hM8 l13 (lq_r h hq2)
      · replace h := ed_neg q21 h
        refine iq_aload_n hS 25 J_MSquareRows_allBlocks_d24 l9 rfl ?_
        refine iq_iload_n hS 26 J_MSquareRows_allBlocks_d25 l10 rfl ?_
        refine iq_iload_n hS 27 J_MSquareRows_allBlocks_d26 l11 rfl ?_
        refine iq_iload hS 29 J_MSquareRows_allBlocks_d27 l14 rfl ?_
        obtain ⟨Q16, hQ16, h⟩ := bd1_ed h
        refine iq_cpI hS 32 J_MSquareRows_allBlocks_d29 rfl (pr_inst (vs := [_, _, _]) lc_16_150 lT_412 rfl rfl (by decide) (by decide) rfl (Nat.le_of_ble_eq_true rfl) (Nat.le_of_ble_eq_true rfl) (fun _ => Or.inl (pr_b (ka_108 hM8) (by decide) rfl))) (f_MSquareRows_shareOf_ok (dep := dep + 2) hM8 h) rfl ?_
        intro x16 h
        replace h := hQ16 _ h
        refine iq_istore hS 34 J_MSquareRows_allBlocks_d32 (by decide) rfl ?_
        refine iq_iconst hS 35 J_MSquareRows_allBlocks_d34 (v := 0) (by decide +kernel) rfl ?_
        refine iq_istore hS 37 J_MSquareRows_allBlocks_d35 (by decide) rfl ?_
        obtain ⟨Q17, hQ17, h⟩ := bd1_ed h
        have K17 : ∀ (M18 : im_M) (L' : List (Nat × Value)), lw_S w M18 → im_lk L' 0 = some (.ref 108) → im_lk L' 1 = some (.int p0) → im_lk L' 2 = some (.int p1) → im_lk L' 3 = some (.int x1) → im_lk L' 4 = some (.int x6) → im_lk L' 5 = some (.int x7) → im_lk L' 6 = some (.int x16) → Q17 M18 → ia (tb_G L xs) (dep + 5) J_MSquareRows_allBlocks (rwI w Q) (74, L', [], M18) := by
          intro M18 L' hM18 l19 l20 l21 l22 l23 l24 l25 h
          replace h := hQ17 _ h
          refine iq_aload_n hS 75 J_MSquareRows_allBlocks_d74 l19 rfl ?_
          refine iq_iload hS 77 J_MSquareRows_allBlocks_d75 l25 rfl ?_
          refine iq_iload_n hS 78 J_MSquareRows_allBlocks_d77 l22 rfl ?_
          refine iq_iadd hS 79 J_MSquareRows_allBlocks_d78 rfl ?_
          refine iq_iload_n hS 80 J_MSquareRows_allBlocks_d79 l22 rfl ?_
          refine iq_iload_n hS 81 J_MSquareRows_allBlocks_d80 l22 rfl ?_
          refine iq_iload_n hS 82 J_MSquareRows_allBlocks_d81 l20 rfl ?_
          refine iq_iload_n hS 83 J_MSquareRows_allBlocks_d82 l21 rfl ?_
          obtain ⟨Q26, hQ26, h⟩ := bd1_ed h
          refine iq_cpI hS 86 J_MSquareRows_allBlocks_d83 rfl (pr_stat (vs := [_, _]) lc_16_273 lT_493 rfl rfl (by decide) rfl (Nat.le_of_ble_eq_true rfl) (Nat.le_of_ble_eq_true rfl)) (f_MSquareRows_spared_ok (dep := dep + 4) hM18 h) rfl ?_
          intro x26 h
          replace h := hQ26 _ h
          refine iq_isub hS 87 J_MSquareRows_allBlocks_d86 rfl ?_
          refine iq_iconst hS 88 J_MSquareRows_allBlocks_d87 (v := 2) (by decide +kernel) rfl ?_
          refine iq_idiv hS 89 J_MSquareRows_allBlocks_d88 (by decide) rfl ?_
          obtain ⟨Q27, hQ27, h⟩ := bd2_ed h
          refine iq_cwI hS 92 J_MSquareRows_allBlocks_d89 rfl (pr_inst (vs := [_, _, _]) lc_16_276 lT_494 rfl rfl (by decide) (by decide) rfl (Nat.le_of_ble_eq_true rfl) (Nat.le_of_ble_eq_true rfl) (fun _ => Or.inl (pr_b (ka_108 hM18) (by decide) rfl))) (f_MSquareRows_correct_ok (dep := dep + 0) hM18 h) rfl ?_
          intro x27 M27 hM27 h
          replace h := hQ27 _ _ h
          refine iq_istore hS 94 J_MSquareRows_allBlocks_d92 (by decide) rfl ?_
          refine iq_iload hS 96 J_MSquareRows_allBlocks_d94 lk_1s rfl ?_
          refine iq_if_ge hS 99 J_MSquareRows_allBlocks_d96 (t := 101) rfl (fun q96 => ?_) rfl (fun q96 => ?_)
          · replace h := ed_pos q96 h
            refine iq_iload hS 103 J_MSquareRows_allBlocks_d101 (lk_1i l23 (by decide)) rfl ?_
            refine iq_iload hS 105 J_MSquareRows_allBlocks_d103 lk_1s rfl ?_
            refine iq_iadd hS 106 J_MSquareRows_allBlocks_d105 rfl ?_
            refine iq_istore hS 108 J_MSquareRows_allBlocks_d106 (by decide) rfl ?_
            refine iq_aload_n hS 109 J_MSquareRows_allBlocks_d108 (lk_1r (lk_1r l19 (by decide)) (by decide)) rfl ?_
            refine iq_iload_n hS 110 J_MSquareRows_allBlocks_d109 (lk_1i (lk_1i l20 (by decide)) (by decide)) rfl ?_
            refine iq_iload_n hS 111 J_MSquareRows_allBlocks_d110 (lk_1i (lk_1i l21 (by decide)) (by decide)) rfl ?_
            refine iq_iload hS 113 J_MSquareRows_allBlocks_d111 (lk_1i (lk_1i l24 (by decide)) (by decide)) rfl ?_
            obtain ⟨Q28, hQ28, h⟩ := bd1_ed h
            refine iq_cpI hS 116 J_MSquareRows_allBlocks_d113 rfl (pr_inst (vs := [_, _, _]) lc_16_157 lT_413 rfl rfl (by decide) (by decide) rfl (Nat.le_of_ble_eq_true rfl) (Nat.le_of_ble_eq_true rfl) (fun _ => Or.inl (pr_b (ka_108 hM27) (by decide) rfl))) (f_MSquareRows_startOf_ok (dep := dep + 1) hM27 h) rfl ?_
            intro x28 h
            replace h := hQ28 _ h
            refine iq_istore hS 118 J_MSquareRows_allBlocks_d116 (by decide) rfl ?_
            refine iq_iconst hS 119 J_MSquareRows_allBlocks_d118 (v := 0) (by decide +kernel) rfl ?_
            refine iq_istore hS 121 J_MSquareRows_allBlocks_d119 (by decide) rfl ?_
            obtain ⟨Q29, hQ29, h⟩ := bd1_ed h
            have K29 : ∀ (M30 : im_M) (L' : List (Nat × Value)), lw_S w M30 → im_lk L' 0 = some (.ref 108) → im_lk L' 1 = some (.int p0) → im_lk L' 2 = some (.int p1) → im_lk L' 3 = some (.int x1) → im_lk L' 4 = some (.int (x6 + x27)) → im_lk L' 5 = some (.int x7) → Q29 M30 → ia (tb_G L xs) (dep + 5) J_MSquareRows_allBlocks (rwI w Q) (151, L', [], M30) := by
              intro M30 L' hM30 l31 l32 l33 l34 l35 l36 h
              replace h := hQ29 _ h
              refine iq_iincv hS 154 J_MSquareRows_allBlocks_d151 (c := 1) (by decide +kernel) l36 (by decide) rfl ?_
              refine iq_goto hS J_MSquareRows_allBlocks_d154 (t := 13) rfl ?_
              exact ih _ _ _ _ hM30 (lk_1r l31 (by decide)) (lk_1i l32 (by decide)) (lk_1i l33 (by decide)) (lk_1i l34 (by decide)) (lk_1i l35 (by decide)) lk_1s (lq_l h)
            obtain ⟨r29, hr29, hq29⟩ := h
            obtain ⟨n29, hn29⟩ := lp_n hr29
            have I29 : ∀ (n : Nat) (x37 : Int32) (M38 : im_M) (L' : List (Nat × Value)), lw_S w M38 → im_lk L' 0 = some (.ref 108) → im_lk L' 1 = some (.int p0) → im_lk L' 2 = some (.int p1) → im_lk L' 3 = some (.int x1) → im_lk L' 4 = some (.int (x6 + x27)) → im_lk L' 5 = some (.int x7) → im_lk L' 6 = some (.int x16) → im_lk L' 8 = some (.int x28) → im_lk L' 9 = some (.int x37) → lpn (uc2 (f_MSquareRows_allBlocks_L121 p0 p1 x1 (x6 + x27) x7 x16 x28)) n (x37, M38) = some r29 → ia (tb_G L xs) (dep + 5) J_MSquareRows_allBlocks (rwI w Q) (121, L', [], M38) := by
              intro n
              induction n with
              | zero => intro x37 M38 L' hM38 l39 l40 l41 l42 l43 l44 l45 l46 l47 hn; exact (lpn_0 hn).elim
              | succ n ih =>
                intro x37 M38 L' hM38 l39 l40 l41 l42 l43 l44 l45 l46 l47 hn
                have h := lpn_ed2 hn
                unfold f_MSquareRows_allBlocks_L121 at h
                refine iq_iload hS 123 J_MSquareRows_allBlocks_d121 l47 rfl ?_
                refine iq_iload hS 125 J_MSquareRows_allBlocks_d123 l45 rfl ?_
                refine iq_icmp_ge hS 128 J_MSquareRows_allBlocks_d125 (t := 151) rfl (fun q125 => ?_) rfl (fun q125 => ?_)
                · replace h := ed_pos q125 h
                  exact K29 _ _ hM38 l39 l40 l41 l42 l43 l44 (lq_r h hq29)
                · replace h := ed_neg q125 h
                  refine iq_aload_n hS 129 J_MSquareRows_allBlocks_d128 l39 rfl ?_
                  refine iq_getR hS 132 J_MSquareRows_allBlocks_d129 lf_16_40 (Or.inr ⟨_, rfl⟩) (ka_108 hM38) (ra_108_17 hM38) rfl ?_
                  refine iq_iload hS 134 J_MSquareRows_allBlocks_d132 l46 rfl ?_
                  refine iq_iload hS 136 J_MSquareRows_allBlocks_d134 l47 rfl ?_
                  refine iq_iadd hS 137 J_MSquareRows_allBlocks_d136 rfl ?_
                  refine iq_aload_n hS 138 J_MSquareRows_allBlocks_d137 l39 rfl ?_
                  refine iq_getR hS 141 J_MSquareRows_allBlocks_d138 lf_16_46 (Or.inr ⟨_, rfl⟩) (ka_108 hM38) (ra_108_20 hM38) rfl ?_
                  refine iq_iload hS 143 J_MSquareRows_allBlocks_d141 l47 rfl ?_
                  obtain ⟨g143, h⟩ := ed_gd h
                  refine iq_iaload hS 144 J_MSquareRows_allBlocks_d143 ⟨(ka_121 hM38).1, (ka_121 hM38).2, g143.1, ix_lt (kl_121 hM38) g143.2⟩ rfl ?_
                  obtain ⟨g144, h⟩ := ed_gd h
                  refine iq_iastore hS 145 J_MSquareRows_allBlocks_d144 ⟨(ka_119 hM38).1, (ka_119 hM38).2, g144.1, ix_lt (kl_119 hM38) g144.2⟩ rfl ?_
                  refine iq_iincv hS 148 J_MSquareRows_allBlocks_d145 (c := 1) (by decide +kernel) l47 (by decide) rfl ?_
                  refine iq_goto hS J_MSquareRows_allBlocks_d148 (t := 121) rfl ?_
                  exact ih _ _ _ (lw_sI hM38) (lk_1r l39 (by decide)) (lk_1i l40 (by decide)) (lk_1i l41 (by decide)) (lk_1i l42 (by decide)) (lk_1i l43 (by decide)) (lk_1i l44 (by decide)) (lk_1i l45 (by decide)) (lk_1i l46 (by decide)) lk_1s (lq_l h)
            exact I29 n29 _ _ _ hM27 (lk_1r (lk_1r (lk_1r (lk_1r l19 (by decide)) (by decide)) (by decide)) (by decide)) (lk_1i (lk_1i (lk_1i (lk_1i l20 (by decide)) (by decide)) (by decide)) (by decide)) (lk_1i (lk_1i (lk_1i (lk_1i l21 (by decide)) (by decide)) (by decide)) (by decide)) (lk_1i (lk_1i (lk_1i (lk_1i l22 (by decide)) (by decide)) (by decide)) (by decide)) (lk_1i (lk_1i lk_1s (by decide)) (by decide)) (lk_1i (lk_1i (lk_1i (lk_1i l24 (by decide)) (by decide)) (by decide)) (by decide)) (lk_1i (lk_1i (lk_1i (lk_1i l25 (by decide)) (by decide)) (by decide)) (by decide)) (lk_1i lk_1s (by decide)) lk_1s hn29
          · replace h := ed_neg q96 h
            refine iq_iconst hS 100 J_MSquareRows_allBlocks_d99 (v := (-1)) (by decide +kernel) rfl ?_
            exact iq_iret J_MSquareRows_allBlocks_d100 rfl rfl ⟨_, rfl, hM27, ed_some (hR2 _ (lq_r h hq2))⟩
        obtain ⟨r17, hr17, hq17⟩ := h
        obtain ⟨n17, hn17⟩ := lp_n hr17
        have I17 : ∀ (n : Nat) (x48 : Int32) (M49 : im_M) (L' : List (Nat × Value)), lw_S w M49 → im_lk L' 0 = some (.ref 108) → im_lk L' 1 = some (.int p0) → im_lk L' 2 = some (.int p1) → im_lk L' 3 = some (.int x1) → im_lk L' 4 = some (.int x6) → im_lk L' 5 = some (.int x7) → im_lk L' 6 = some (.int x16) → im_lk L' 7 = some (.int x48) → lpn (uc2 (f_MSquareRows_allBlocks_L37 p0 p1 x1 x6 x7 x16)) n (x48, M49) = some r17 → ia (tb_G L xs) (dep + 5) J_MSquareRows_allBlocks (rwI w Q) (37, L', [], M49) := by
          intro n
          induction n with
          | zero => intro x48 M49 L' hM49 l50 l51 l52 l53 l54 l55 l56 l57 hn; exact (lpn_0 hn).elim
          | succ n ih =>
            intro x48 M49 L' hM49 l50 l51 l52 l53 l54 l55 l56 l57 hn
            have h := lpn_ed2 hn
            unfold f_MSquareRows_allBlocks_L37 at h
            refine iq_iload hS 39 J_MSquareRows_allBlocks_d37 l57 rfl ?_
            refine iq_iload hS 41 J_MSquareRows_allBlocks_d39 l56 rfl ?_
            refine iq_iload_n hS 42 J_MSquareRows_allBlocks_d41 l53 rfl ?_
            refine iq_iadd hS 43 J_MSquareRows_allBlocks_d42 rfl ?_
            refine iq_icmp_ge hS 46 J_MSquareRows_allBlocks_d43 (t := 74) rfl (fun q43 => ?_) rfl (fun q43 => ?_)
            · replace h := ed_pos q43 h
              exact K17 _ _ hM49 l50 l51 l52 l53 l54 l55 l56 (lq_r h hq17)
            · replace h := ed_neg q43 h
              refine iq_aload_n hS 47 J_MSquareRows_allBlocks_d46 l50 rfl ?_
              refine iq_getR hS 50 J_MSquareRows_allBlocks_d47 lf_16_46 (Or.inr ⟨_, rfl⟩) (ka_108 hM49) (ra_108_20 hM49) rfl ?_
              refine iq_iload hS 52 J_MSquareRows_allBlocks_d50 l57 rfl ?_
              refine iq_aload_n hS 53 J_MSquareRows_allBlocks_d52 l50 rfl ?_
              refine iq_getR hS 56 J_MSquareRows_allBlocks_d53 lf_16_43 (Or.inr ⟨_, rfl⟩) (ka_108 hM49) (ra_108_18 hM49) rfl ?_
              refine iq_aload_n hS 57 J_MSquareRows_allBlocks_d56 l50 rfl ?_
              refine iq_iload_n hS 58 J_MSquareRows_allBlocks_d57 l51 rfl ?_
              refine iq_iload_n hS 59 J_MSquareRows_allBlocks_d58 l52 rfl ?_
              refine iq_iload hS 61 J_MSquareRows_allBlocks_d59 l55 rfl ?_
              refine iq_iload hS 63 J_MSquareRows_allBlocks_d61 l57 rfl ?_
              obtain ⟨Q58, hQ58, h⟩ := bd1_ed h
              refine iq_cpI hS 66 J_MSquareRows_allBlocks_d63 rfl (pr_inst (vs := [_, _, _, _]) lc_16_160 lT_414 rfl rfl (by decide) (by decide) rfl (Nat.le_of_ble_eq_true rfl) (Nat.le_of_ble_eq_true rfl) (fun _ => Or.inl (pr_b (ka_108 hM49) (by decide) rfl))) (f_MSquareRows_placeOf_ok (dep := dep + 1) hM49 h) rfl ?_
              intro x58 h
              replace h := hQ58 _ h
              obtain ⟨g66, h⟩ := ed_gd h
              refine iq_iaload hS 67 J_MSquareRows_allBlocks_d66 ⟨(ka_120 hM49).1, (ka_120 hM49).2, g66.1, ix_lt (kl_120 hM49) g66.2⟩ rfl ?_
              obtain ⟨g67, h⟩ := ed_gd h
              refine iq_iastore hS 68 J_MSquareRows_allBlocks_d67 ⟨(ka_121 hM49).1, (ka_121 hM49).2, g67.1, ix_lt (kl_121 hM49) g67.2⟩ rfl ?_
              refine iq_iincv hS 71 J_MSquareRows_allBlocks_d68 (c := 1) (by decide +kernel) l57 (by decide) rfl ?_
              refine iq_goto hS J_MSquareRows_allBlocks_d71 (t := 37) rfl ?_
              exact ih _ _ _ (lw_sI hM49) (lk_1r l50 (by decide)) (lk_1i l51 (by decide)) (lk_1i l52 (by decide)) (lk_1i l53 (by decide)) (lk_1i l54 (by decide)) (lk_1i l55 (by decide)) (lk_1i l56 (by decide)) lk_1s (lq_l h)
        exact I17 n17 _ _ _ hM8 (lk_1r (lk_1r l9 (by decide)) (by decide)) (lk_1i (lk_1i l10 (by decide)) (by decide)) (lk_1i (lk_1i l11 (by decide)) (by decide)) (lk_1i (lk_1i l12 (by decide)) (by decide)) (lk_1i (lk_1i l13 (by decide)) (by decide)) (lk_1i (lk_1i l14 (by decide)) (by decide)) (lk_1i lk_1s (by decide)) lk_1s hn17
  exact I2 n2 _ _ _ _ hM (lk_1r (lk_1r (lk_1r l0 (by decide)) (by decide)) (by decide)) (lk_1i (lk_1i (lk_1i l1 (by decide)) (by decide)) (by decide)) (lk_1i (lk_1i (lk_1i l2 (by decide)) (by decide)) (by decide)) (lk_1i (lk_1i lk_1s (by decide)) (by decide)) (lk_1i lk_1s (by decide)) lk_1s hn2
theorem f_MSquareRows_allBlocks_fr {p0 : Int32} {p1 : Int32} {M : im_M} {r : Int32 × im_M} (h : f_MSquareRows_allBlocks p0 p1 M = some r) : fr 168147341466791857922331593125463588864 [] M r.2 := by
  replace h : ed (f_MSquareRows_allBlocks p0 p1 M) (fun x => x = r) := ⟨r, h, rfl⟩
  unfold f_MSquareRows_allBlocks at h
  obtain ⟨Q1, hQ1, h⟩ := bd1_ed h
  obtain ⟨x1, e1, h⟩ := h
  replace h := hQ1 _ h
  obtain ⟨Q2, hQ2, hR2, h⟩ := bs2_ed h
  have K2 : ∀ (y3 : Int32) (M4 : im_M), fr 168147341466791857922331593125463588864 [] M M4 → Q2 (.inl (y3, M4)) → fr 168147341466791857922331593125463588864 [] M r.2 := by
    intro y3 M4 hM4 h
    replace h := hQ2 _ _ h
    exact fr_ret h hM4
  obtain ⟨r2, hr2, hq2⟩ := h
  obtain ⟨n2, hn2⟩ := lp_n hr2
  have I2 : ∀ (n : Nat) (x5 : Int32) (x6 : Int32) (M7 : im_M), fr 168147341466791857922331593125463588864 [] M M7 → lpn (uc3 (f_MSquareRows_allBlocks_L13 p0 p1 x1)) n (x5, x6, M7) = some r2 → fr 168147341466791857922331593125463588864 [] M r.2 := by
    intro n
    induction n with
    | zero => intro x5 x6 M7 hM7 hn; exact (lpn_0 hn).elim
    | succ n ih =>
      intro x5 x6 M7 hM7 hn
      have h := lpn_ed3 hn
      unfold f_MSquareRows_allBlocks_L13 at h
      obtain ⟨Q8, hQ8, h⟩ := bd1_ed h
      obtain ⟨x8, e8, h⟩ := h
      replace h := hQ8 _ h
      by_cases q21 : x8 ≤ x6
      · replace h := ed_pos q21 h
        exact K2 _ _ hM7 (lq_r h hq2)
      · replace h := ed_neg q21 h
        obtain ⟨Q9, hQ9, h⟩ := bd1_ed h
        obtain ⟨x9, e9, h⟩ := h
        replace h := hQ9 _ h
        obtain ⟨Q10, hQ10, h⟩ := bd1_ed h
        have K10 : ∀ (M11 : im_M), fr 168147341466791857922331593125463588864 [] M M11 → Q10 M11 → fr 168147341466791857922331593125463588864 [] M r.2 := by
          intro M11 hM11 h
          replace h := hQ10 _ h
          obtain ⟨Q12, hQ12, h⟩ := bd1_ed h
          obtain ⟨x12, e12, h⟩ := h
          replace h := hQ12 _ h
          obtain ⟨Q13, hQ13, h⟩ := bd2_ed h
          obtain ⟨⟨x13, M13⟩, e13, h⟩ := h
          replace h := hQ13 _ _ h
          by_cases q96 : 0 ≤ x13
          · replace h := ed_pos q96 h
            obtain ⟨Q14, hQ14, h⟩ := bd1_ed h
            obtain ⟨x14, e14, h⟩ := h
            replace h := hQ14 _ h
            obtain ⟨Q15, hQ15, h⟩ := bd1_ed h
            have K15 : ∀ (M16 : im_M), fr 168147341466791857922331593125463588864 [] M M16 → Q15 M16 → fr 168147341466791857922331593125463588864 [] M r.2 := by
              intro M16 hM16 h
              replace h := hQ15 _ h
              exact ih _ _ _ hM16 (lq_l h)
            obtain ⟨r15, hr15, hq15⟩ := h
            obtain ⟨n15, hn15⟩ := lp_n hr15
            have I15 : ∀ (n : Nat) (x17 : Int32) (M18 : im_M), fr 168147341466791857922331593125463588864 [] M M18 → lpn (uc2 (f_MSquareRows_allBlocks_L121 p0 p1 x1 (x5 + x13) x6 x9 x14)) n (x17, M18) = some r15 → fr 168147341466791857922331593125463588864 [] M r.2 := by
              intro n
              induction n with
              | zero => intro x17 M18 hM18 hn; exact (lpn_0 hn).elim
              | succ n ih =>
                intro x17 M18 hM18 hn
                have h := lpn_ed2 hn
                unfold f_MSquareRows_allBlocks_L121 at h
                by_cases q125 : x9 ≤ x17
                · replace h := ed_pos q125 h
                  exact K15 _ hM18 (lq_r h hq15)
                · replace h := ed_neg q125 h
                  obtain ⟨g143, h⟩ := ed_gd h
                  obtain ⟨g144, h⟩ := ed_gd h
                  exact ih _ _ (fr_I (by decide) hM18) (lq_l h)
            exact I15 n15 _ _ (fr_tr (fr_mono (by decide) (by decide +kernel) (f_MSquareRows_correct_fr e13)) hM11) hn15
          · replace h := ed_neg q96 h
            exact fr_ret (hR2 _ (lq_r h hq2)) (fr_tr (fr_mono (by decide) (by decide +kernel) (f_MSquareRows_correct_fr e13)) hM11)
        obtain ⟨r10, hr10, hq10⟩ := h
        obtain ⟨n10, hn10⟩ := lp_n hr10
        have I10 : ∀ (n : Nat) (x19 : Int32) (M20 : im_M), fr 168147341466791857922331593125463588864 [] M M20 → lpn (uc2 (f_MSquareRows_allBlocks_L37 p0 p1 x1 x5 x6 x9)) n (x19, M20) = some r10 → fr 168147341466791857922331593125463588864 [] M r.2 := by
          intro n
          induction n with
          | zero => intro x19 M20 hM20 hn; exact (lpn_0 hn).elim
          | succ n ih =>
            intro x19 M20 hM20 hn
            have h := lpn_ed2 hn
            unfold f_MSquareRows_allBlocks_L37 at h
            by_cases q43 : (x9 + x1) ≤ x19
            · replace h := ed_pos q43 h
              exact K10 _ hM20 (lq_r h hq10)
            · replace h := ed_neg q43 h
              obtain ⟨Q21, hQ21, h⟩ := bd1_ed h
              obtain ⟨x21, e21, h⟩ := h
              replace h := hQ21 _ h
              obtain ⟨g66, h⟩ := ed_gd h
              obtain ⟨g67, h⟩ := ed_gd h
              exact ih _ _ (fr_I (by decide) hM20) (lq_l h)
        exact I10 n10 _ _ hM7 hn10
  exact I2 n2 _ _ _ fr_refl hn2
noncomputable def f_MSquareRows_next_L24 (v2 : Int32) (x3 : Int32) (x4 : Int32) (M5 : im_M) : Option ((Int32 × Int32 × im_M) ⊕ (Int32 × im_M)) := if v2 ≤ x4 then some (.inr (x3, M5)) else gd (inb ((im_i M5 108 29) / 8) 3800) <| some (.inl ((((2 : Int32) * x3) + (((im_i M5 119 (Int32.toNatClampNeg ((im_i M5 108 29) / 8))) >>> (((7 : Int32) - ((im_i M5 108 29) - (im_i M5 108 29) / 8 * 8)) &&& 31 : Int32) : Int32) &&& 1)), (x4 + 1), (im_setI M5 108 29 ((im_i M5 108 29) + 1))))
noncomputable def f_MSquareRows_next (p0 : Int32) (M : im_M) : Option (Int32 × im_M) := if ((im_i M 108 29) + p0) ≤ (im_i M 108 30) then bd2 (lp (uc3 (f_MSquareRows_next_L24 p0)) (0, 0, M)) fun (y6 : Int32) (M7 : im_M) => some (y6, M7) else some (0, (im_setI M 108 31 4))
theorem J_MSquareRows_next_d0 : decode J_MSquareRows_next.2.1 0 = .ok (.aload_n 0, 1) := by decide +kernel
theorem J_MSquareRows_next_d1 : decode J_MSquareRows_next.2.1 1 = .ok (.getfield 279, 3) := by decide +kernel
theorem J_MSquareRows_next_d4 : decode J_MSquareRows_next.2.1 4 = .ok (.iload_n 1, 1) := by decide +kernel
theorem J_MSquareRows_next_d5 : decode J_MSquareRows_next.2.1 5 = .ok (.iadd, 1) := by decide +kernel
theorem J_MSquareRows_next_d6 : decode J_MSquareRows_next.2.1 6 = .ok (.aload_n 0, 1) := by decide +kernel
theorem J_MSquareRows_next_d7 : decode J_MSquareRows_next.2.1 7 = .ok (.getfield 282, 3) := by decide +kernel
theorem J_MSquareRows_next_d10 : decode J_MSquareRows_next.2.1 10 = .ok (.if_icmp .le 10, 3) := by decide +kernel
theorem J_MSquareRows_next_d13 : decode J_MSquareRows_next.2.1 13 = .ok (.aload_n 0, 1) := by decide +kernel
theorem J_MSquareRows_next_d14 : decode J_MSquareRows_next.2.1 14 = .ok (.iconst 4, 1) := by decide +kernel
theorem J_MSquareRows_next_d15 : decode J_MSquareRows_next.2.1 15 = .ok (.putfield 285, 3) := by decide +kernel
theorem J_MSquareRows_next_d18 : decode J_MSquareRows_next.2.1 18 = .ok (.iconst 0, 1) := by decide +kernel
theorem J_MSquareRows_next_d19 : decode J_MSquareRows_next.2.1 19 = .ok (.ireturn, 1) := by decide +kernel
theorem J_MSquareRows_next_d20 : decode J_MSquareRows_next.2.1 20 = .ok (.iconst 0, 1) := by decide +kernel
theorem J_MSquareRows_next_d21 : decode J_MSquareRows_next.2.1 21 = .ok (.istore_n 2, 1) := by decide +kernel
theorem J_MSquareRows_next_d22 : decode J_MSquareRows_next.2.1 22 = .ok (.iconst 0, 1) := by decide +kernel
theorem J_MSquareRows_next_d23 : decode J_MSquareRows_next.2.1 23 = .ok (.istore_n 3, 1) := by decide +kernel
theorem J_MSquareRows_next_d24 : decode J_MSquareRows_next.2.1 24 = .ok (.iload_n 3, 1) := by decide +kernel
theorem J_MSquareRows_next_d25 : decode J_MSquareRows_next.2.1 25 = .ok (.iload_n 1, 1) := by decide +kernel
theorem J_MSquareRows_next_d26 : decode J_MSquareRows_next.2.1 26 = .ok (.if_icmp .ge 49, 3) := by decide +kernel
theorem J_MSquareRows_next_d29 : decode J_MSquareRows_next.2.1 29 = .ok (.iconst 2, 1) := by decide +kernel
theorem J_MSquareRows_next_d30 : decode J_MSquareRows_next.2.1 30 = .ok (.iload_n 2, 1) := by decide +kernel
theorem J_MSquareRows_next_d31 : decode J_MSquareRows_next.2.1 31 = .ok (.imul, 1) := by decide +kernel
theorem J_MSquareRows_next_d32 : decode J_MSquareRows_next.2.1 32 = .ok (.aload_n 0, 1) := by decide +kernel
theorem J_MSquareRows_next_d33 : decode J_MSquareRows_next.2.1 33 = .ok (.getfield 40, 3) := by decide +kernel
theorem J_MSquareRows_next_d36 : decode J_MSquareRows_next.2.1 36 = .ok (.aload_n 0, 1) := by decide +kernel
theorem J_MSquareRows_next_d37 : decode J_MSquareRows_next.2.1 37 = .ok (.getfield 279, 3) := by decide +kernel
theorem J_MSquareRows_next_d40 : decode J_MSquareRows_next.2.1 40 = .ok (.bipush 8, 2) := by decide +kernel
theorem J_MSquareRows_next_d42 : decode J_MSquareRows_next.2.1 42 = .ok (.idiv, 1) := by decide +kernel
theorem J_MSquareRows_next_d43 : decode J_MSquareRows_next.2.1 43 = .ok (.iaload, 1) := by decide +kernel
theorem J_MSquareRows_next_d44 : decode J_MSquareRows_next.2.1 44 = .ok (.bipush 7, 2) := by decide +kernel
theorem J_MSquareRows_next_d46 : decode J_MSquareRows_next.2.1 46 = .ok (.aload_n 0, 1) := by decide +kernel
theorem J_MSquareRows_next_d47 : decode J_MSquareRows_next.2.1 47 = .ok (.getfield 279, 3) := by decide +kernel
theorem J_MSquareRows_next_d50 : decode J_MSquareRows_next.2.1 50 = .ok (.bipush 8, 2) := by decide +kernel
theorem J_MSquareRows_next_d52 : decode J_MSquareRows_next.2.1 52 = .ok (.irem, 1) := by decide +kernel
theorem J_MSquareRows_next_d53 : decode J_MSquareRows_next.2.1 53 = .ok (.isub, 1) := by decide +kernel
theorem J_MSquareRows_next_d54 : decode J_MSquareRows_next.2.1 54 = .ok (.ishr, 1) := by decide +kernel
theorem J_MSquareRows_next_d55 : decode J_MSquareRows_next.2.1 55 = .ok (.iconst 1, 1) := by decide +kernel
theorem J_MSquareRows_next_d56 : decode J_MSquareRows_next.2.1 56 = .ok (.iand, 1) := by decide +kernel
theorem J_MSquareRows_next_d57 : decode J_MSquareRows_next.2.1 57 = .ok (.iadd, 1) := by decide +kernel
theorem J_MSquareRows_next_d58 : decode J_MSquareRows_next.2.1 58 = .ok (.istore_n 2, 1) := by decide +kernel
theorem J_MSquareRows_next_d59 : decode J_MSquareRows_next.2.1 59 = .ok (.aload_n 0, 1) := by decide +kernel
theorem J_MSquareRows_next_d60 : decode J_MSquareRows_next.2.1 60 = .ok (.dup, 1) := by decide +kernel
theorem J_MSquareRows_next_d61 : decode J_MSquareRows_next.2.1 61 = .ok (.getfield 279, 3) := by decide +kernel
theorem J_MSquareRows_next_d64 : decode J_MSquareRows_next.2.1 64 = .ok (.iconst 1, 1) := by decide +kernel
theorem J_MSquareRows_next_d65 : decode J_MSquareRows_next.2.1 65 = .ok (.iadd, 1) := by decide +kernel
theorem J_MSquareRows_next_d66 : decode J_MSquareRows_next.2.1 66 = .ok (.putfield 279, 3) := by decide +kernel
theorem J_MSquareRows_next_d69 : decode J_MSquareRows_next.2.1 69 = .ok (.iinc 3 1, 3) := by decide +kernel
theorem J_MSquareRows_next_d72 : decode J_MSquareRows_next.2.1 72 = .ok (.goto (-48), 3) := by decide +kernel
theorem J_MSquareRows_next_d75 : decode J_MSquareRows_next.2.1 75 = .ok (.iload_n 2, 1) := by decide +kernel
theorem J_MSquareRows_next_d76 : decode J_MSquareRows_next.2.1 76 = .ok (.ireturn, 1) := by decide +kernel
theorem f_MSquareRows_next_ok {L : Nat} {xs : Nat → Int32} {dep : Nat} {w : Bool} {p0 : Int32} {M : im_M} {Q : Int32 × im_M → Prop} (hM : lw_S w M) (h : ed (f_MSquareRows_next p0 M) Q) : ia (tb_G L xs) dep J_MSquareRows_next (rwI w Q) (0, lv_args 0 [.ref 108, .int p0], [], M) := by
  have hS : im_St (tb_G L xs) dep J_MSquareRows_next (ia (tb_G L xs) dep J_MSquareRows_next (rwI w Q)) := ia_St
  unfold f_MSquareRows_next at h
  have l0 : im_lk (lv_args 0 [.ref 108, .int p0]) 0 = some (.ref 108) := rfl
  have l1 : im_lk (lv_args 0 [.ref 108, .int p0]) 1 = some (.int p0) := rfl
  refine iq_aload_n hS 1 J_MSquareRows_next_d0 l0 rfl ?_
  refine iq_getI hS 4 J_MSquareRows_next_d1 lf_16_279 (Or.inl rfl) (ka_108 hM) rfl ?_
  refine iq_iload_n hS 5 J_MSquareRows_next_d4 l1 rfl ?_
  refine iq_iadd hS 6 J_MSquareRows_next_d5 rfl ?_
  refine iq_aload_n hS 7 J_MSquareRows_next_d6 l0 rfl ?_
  refine iq_getI hS 10 J_MSquareRows_next_d7 lf_16_282 (Or.inl rfl) (ka_108 hM) rfl ?_
  refine iq_icmp_le hS 13 J_MSquareRows_next_d10 (t := 20) rfl (fun q10 => ?_) rfl (fun q10 => ?_)
  · replace h := ed_pos q10 h
    refine iq_iconst hS 21 J_MSquareRows_next_d20 (v := 0) (by decide +kernel) rfl ?_
    refine iq_istore_n hS 22 J_MSquareRows_next_d21 (by decide) rfl ?_
    refine iq_iconst hS 23 J_MSquareRows_next_d22 (v := 0) (by decide +kernel) rfl ?_
    refine iq_istore_n hS 24 J_MSquareRows_next_d23 (by decide) rfl ?_
    obtain ⟨Q1, hQ1, h⟩ := bd2_ed h
    have K1 : ∀ (y2 : Int32) (M3 : im_M) (L' : List (Nat × Value)), lw_S w M3 → im_lk L' 2 = some (.int y2) → Q1 (y2, M3) → ia (tb_G L xs) dep J_MSquareRows_next (rwI w Q) (75, L', [], M3) := by
      intro y2 M3 L' hM3 l4 h
      replace h := hQ1 _ _ h
      refine iq_iload_n hS 76 J_MSquareRows_next_d75 l4 rfl ?_
      exact iq_iret J_MSquareRows_next_d76 rfl rfl ⟨_, rfl, hM3, ed_some h⟩
    obtain ⟨r1, hr1, hq1⟩ := h
    obtain ⟨n1, hn1⟩ := lp_n hr1
    have I1 : ∀ (n : Nat) (x5 : Int32) (x6 : Int32) (M7 : im_M) (L' : List (Nat × Value)), lw_S w M7 → im_lk L' 0 = some (.ref 108) → im_lk L' 1 = some (.int p0) → im_lk L' 2 = some (.int x5) → im_lk L' 3 = some (.int x6) → lpn (uc3 (f_MSquareRows_next_L24 p0)) n (x5, x6, M7) = some r1 → ia (tb_G L xs) dep J_MSquareRows_next (rwI w Q) (24, L', [], M7) := by
      intro n
      induction n with
      | zero => intro x5 x6 M7 L' hM7 l8 l9 l10 l11 hn; exact (lpn_0 hn).elim
      | succ n ih =>
        intro x5 x6 M7 L' hM7 l8 l9 l10 l11 hn
        have h := lpn_ed3 hn
        unfold f_MSquareRows_next_L24 at h
        refine iq_iload_n hS 25 J_MSquareRows_next_d24 l11 rfl ?_
        refine iq_iload_n hS 26 J_MSquareRows_next_d25 l9 rfl ?_
        refine iq_icmp_ge hS 29 J_MSquareRows_next_d26 (t := 75) rfl (fun q26 => ?_) rfl (fun q26 => ?_)
        · replace h := ed_pos q26 h
          exact K1 _ _ _ hM7 l10 (lq_r h hq1)
        · replace h := ed_neg q26 h
          refine iq_iconst hS 30 J_MSquareRows_next_d29 (v := 2) (by decide +kernel) rfl ?_
          refine iq_iload_n hS 31 J_MSquareRows_next_d30 l10 rfl ?_
          refine iq_imul hS 32 J_MSquareRows_next_d31 rfl ?_
          refine iq_aload_n hS 33 J_MSquareRows_next_d32 l8 rfl ?_
          refine iq_getR hS 36 J_MSquareRows_next_d33 lf_16_40 (Or.inr ⟨_, rfl⟩) (ka_108 hM7) (ra_108_17 hM7) rfl ?_
          refine iq_aload_n hS 37 J_MSquareRows_next_d36 l8 rfl ?_
          refine iq_getI hS 40 J_MSquareRows_next_d37 lf_16_279 (Or.inl rfl) (ka_108 hM7) rfl ?_
          refine iq_bipush hS 42 J_MSquareRows_next_d40 (v := 8) (by decide +kernel) rfl ?_
          refine iq_idiv hS 43 J_MSquareRows_next_d42 (by decide) rfl ?_
          obtain ⟨g43, h⟩ := ed_gd h
          refine iq_iaload hS 44 J_MSquareRows_next_d43 ⟨(ka_119 hM7).1, (ka_119 hM7).2, g43.1, ix_lt (kl_119 hM7) g43.2⟩ rfl ?_
          refine iq_bipush hS 46 J_MSquareRows_next_d44 (v := 7) (by decide +kernel) rfl ?_
          refine iq_aload_n hS 47 J_MSquareRows_next_d46 l8 rfl ?_
          refine iq_getI hS 50 J_MSquareRows_next_d47 lf_16_279 (Or.inl rfl) (ka_108 hM7) rfl ?_
          refine iq_bipush hS 52 J_MSquareRows_next_d50 (v := 8) (by decide +kernel) rfl ?_
          refine iq_irem hS 53 J_MSquareRows_next_d52 (by decide) rfl ?_
          refine iq_isub hS 54 J_MSquareRows_next_d53 rfl ?_
          refine iq_ishr hS 55 J_MSquareRows_next_d54 rfl ?_
          refine iq_iconst hS 56 J_MSquareRows_next_d55 (v := 1) (by decide +kernel) rfl ?_
          refine iq_iand hS 57 J_MSquareRows_next_d56 rfl ?_
          refine iq_iadd hS 58 J_MSquareRows_next_d57 rfl ?_
          refine iq_istore_n hS 59 J_MSquareRows_next_d58 (by decide) rfl ?_
          refine iq_aload_n hS 60 J_MSquareRows_next_d59 (lk_1r l8 (by decide)) rfl ?_
          refine iq_dup hS 61 J_MSquareRows_next_d60 rfl rfl ?_
          refine iq_getI hS 64 J_MSquareRows_next_d61 lf_16_279 (Or.inl rfl) (ka_108 hM7) rfl ?_
          refine iq_iconst hS 65 J_MSquareRows_next_d64 (v := 1) (by decide +kernel) rfl ?_
          refine iq_iadd hS 66 J_MSquareRows_next_d65 rfl ?_
          refine iq_putI hS 69 J_MSquareRows_next_d66 lf_16_279 (Or.inl rfl) rfl (ka_108 hM7) rfl ?_
          refine iq_iincv hS 72 J_MSquareRows_next_d69 (c := 1) (by decide +kernel) (lk_1i l11 (by decide)) (by decide) rfl ?_
          refine iq_goto hS J_MSquareRows_next_d72 (t := 24) rfl ?_
          exact ih _ _ _ _ (lw_sI hM7) (lk_1r (lk_1r l8 (by decide)) (by decide)) (lk_1i (lk_1i l9 (by decide)) (by decide)) (lk_1i lk_1s (by decide)) lk_1s (lq_l h)
    exact I1 n1 _ _ _ _ hM (lk_1r (lk_1r l0 (by decide)) (by decide)) (lk_1i (lk_1i l1 (by decide)) (by decide)) (lk_1i lk_1s (by decide)) lk_1s hn1
  · replace h := ed_neg q10 h
    refine iq_aload_n hS 14 J_MSquareRows_next_d13 l0 rfl ?_
    refine iq_iconst hS 15 J_MSquareRows_next_d14 (v := 4) (by decide +kernel) rfl ?_
    refine iq_putI hS 18 J_MSquareRows_next_d15 lf_16_285 (Or.inl rfl) rfl (ka_108 hM) rfl ?_
    refine iq_iconst hS 19 J_MSquareRows_next_d18 (v := 0) (by decide +kernel) rfl ?_
    exact iq_iret J_MSquareRows_next_d19 rfl rfl ⟨_, rfl, (lw_sI hM), ed_some h⟩
theorem f_MSquareRows_next_fr {p0 : Int32} {M : im_M} {r : Int32 × im_M} (h : f_MSquareRows_next p0 M = some r) : fr 0 [(108, 29), (108, 31)] M r.2 := by
  replace h : ed (f_MSquareRows_next p0 M) (fun x => x = r) := ⟨r, h, rfl⟩
  unfold f_MSquareRows_next at h
  by_cases q10 : ((im_i M 108 29) + p0) ≤ (im_i M 108 30)
  · replace h := ed_pos q10 h
    obtain ⟨Q1, hQ1, h⟩ := bd2_ed h
    have K1 : ∀ (y2 : Int32) (M3 : im_M), fr 0 [(108, 29), (108, 31)] M M3 → Q1 (y2, M3) → fr 0 [(108, 29), (108, 31)] M r.2 := by
      intro y2 M3 hM3 h
      replace h := hQ1 _ _ h
      exact fr_ret h hM3
    obtain ⟨r1, hr1, hq1⟩ := h
    obtain ⟨n1, hn1⟩ := lp_n hr1
    have I1 : ∀ (n : Nat) (x4 : Int32) (x5 : Int32) (M6 : im_M), fr 0 [(108, 29), (108, 31)] M M6 → lpn (uc3 (f_MSquareRows_next_L24 p0)) n (x4, x5, M6) = some r1 → fr 0 [(108, 29), (108, 31)] M r.2 := by
      intro n
      induction n with
      | zero => intro x4 x5 M6 hM6 hn; exact (lpn_0 hn).elim
      | succ n ih =>
        intro x4 x5 M6 hM6 hn
        have h := lpn_ed3 hn
        unfold f_MSquareRows_next_L24 at h
        by_cases q26 : p0 ≤ x5
        · replace h := ed_pos q26 h
          exact K1 _ _ hM6 (lq_r h hq1)
        · replace h := ed_neg q26 h
          obtain ⟨g43, h⟩ := ed_gd h
          exact ih _ _ _ (fr_F (by decide) hM6) (lq_l h)
    exact I1 n1 _ _ _ fr_refl hn1
  · replace h := ed_neg q10 h
    exact fr_ret h (fr_F (by decide) fr_refl)
noncomputable def f_MSquareRows_byteOf (p0 : Int32) (M : im_M) : Option (Int32) := if 10 ≤ p0 then if 36 ≤ p0 then if p0 = 36 then some 32 else if p0 = 37 then some 36 else if p0 = 38 then some 37 else if p0 = 39 then some 42 else if p0 = 40 then some 43 else if p0 = 41 then some 45 else if p0 = 42 then some 46 else if p0 = 43 then some 47 else some 58 else some (((65 : Int32) + p0) - 10) else some ((48 : Int32) + p0)
theorem J_MSquareRows_byteOf_d0 : decode J_MSquareRows_byteOf.2.1 0 = .ok (.iload_n 0, 1) := by decide +kernel
theorem J_MSquareRows_byteOf_d1 : decode J_MSquareRows_byteOf.2.1 1 = .ok (.bipush 10, 2) := by decide +kernel
theorem J_MSquareRows_byteOf_d3 : decode J_MSquareRows_byteOf.2.1 3 = .ok (.if_icmp .ge 8, 3) := by decide +kernel
theorem J_MSquareRows_byteOf_d6 : decode J_MSquareRows_byteOf.2.1 6 = .ok (.bipush 48, 2) := by decide +kernel
theorem J_MSquareRows_byteOf_d8 : decode J_MSquareRows_byteOf.2.1 8 = .ok (.iload_n 0, 1) := by decide +kernel
theorem J_MSquareRows_byteOf_d9 : decode J_MSquareRows_byteOf.2.1 9 = .ok (.iadd, 1) := by decide +kernel
theorem J_MSquareRows_byteOf_d10 : decode J_MSquareRows_byteOf.2.1 10 = .ok (.ireturn, 1) := by decide +kernel
theorem J_MSquareRows_byteOf_d11 : decode J_MSquareRows_byteOf.2.1 11 = .ok (.iload_n 0, 1) := by decide +kernel
theorem J_MSquareRows_byteOf_d12 : decode J_MSquareRows_byteOf.2.1 12 = .ok (.bipush 36, 2) := by decide +kernel
theorem J_MSquareRows_byteOf_d14 : decode J_MSquareRows_byteOf.2.1 14 = .ok (.if_icmp .ge 11, 3) := by decide +kernel
theorem J_MSquareRows_byteOf_d17 : decode J_MSquareRows_byteOf.2.1 17 = .ok (.bipush 65, 2) := by decide +kernel
theorem J_MSquareRows_byteOf_d19 : decode J_MSquareRows_byteOf.2.1 19 = .ok (.iload_n 0, 1) := by decide +kernel
theorem J_MSquareRows_byteOf_d20 : decode J_MSquareRows_byteOf.2.1 20 = .ok (.iadd, 1) := by decide +kernel
theorem J_MSquareRows_byteOf_d21 : decode J_MSquareRows_byteOf.2.1 21 = .ok (.bipush 10, 2) := by decide +kernel
theorem J_MSquareRows_byteOf_d23 : decode J_MSquareRows_byteOf.2.1 23 = .ok (.isub, 1) := by decide +kernel
theorem J_MSquareRows_byteOf_d24 : decode J_MSquareRows_byteOf.2.1 24 = .ok (.ireturn, 1) := by decide +kernel
theorem J_MSquareRows_byteOf_d25 : decode J_MSquareRows_byteOf.2.1 25 = .ok (.iload_n 0, 1) := by decide +kernel
theorem J_MSquareRows_byteOf_d26 : decode J_MSquareRows_byteOf.2.1 26 = .ok (.tableswitch 70 36 43 #[46, 49, 52, 55, 58, 61, 64, 67], 46) := by decide +kernel
theorem J_MSquareRows_byteOf_d72 : decode J_MSquareRows_byteOf.2.1 72 = .ok (.bipush 32, 2) := by decide +kernel
theorem J_MSquareRows_byteOf_d74 : decode J_MSquareRows_byteOf.2.1 74 = .ok (.ireturn, 1) := by decide +kernel
theorem J_MSquareRows_byteOf_d75 : decode J_MSquareRows_byteOf.2.1 75 = .ok (.bipush 36, 2) := by decide +kernel
theorem J_MSquareRows_byteOf_d77 : decode J_MSquareRows_byteOf.2.1 77 = .ok (.ireturn, 1) := by decide +kernel
theorem J_MSquareRows_byteOf_d78 : decode J_MSquareRows_byteOf.2.1 78 = .ok (.bipush 37, 2) := by decide +kernel
theorem J_MSquareRows_byteOf_d80 : decode J_MSquareRows_byteOf.2.1 80 = .ok (.ireturn, 1) := by decide +kernel
theorem J_MSquareRows_byteOf_d81 : decode J_MSquareRows_byteOf.2.1 81 = .ok (.bipush 42, 2) := by decide +kernel
theorem J_MSquareRows_byteOf_d83 : decode J_MSquareRows_byteOf.2.1 83 = .ok (.ireturn, 1) := by decide +kernel
theorem J_MSquareRows_byteOf_d84 : decode J_MSquareRows_byteOf.2.1 84 = .ok (.bipush 43, 2) := by decide +kernel
theorem J_MSquareRows_byteOf_d86 : decode J_MSquareRows_byteOf.2.1 86 = .ok (.ireturn, 1) := by decide +kernel
theorem J_MSquareRows_byteOf_d87 : decode J_MSquareRows_byteOf.2.1 87 = .ok (.bipush 45, 2) := by decide +kernel
theorem J_MSquareRows_byteOf_d89 : decode J_MSquareRows_byteOf.2.1 89 = .ok (.ireturn, 1) := by decide +kernel
theorem J_MSquareRows_byteOf_d90 : decode J_MSquareRows_byteOf.2.1 90 = .ok (.bipush 46, 2) := by decide +kernel
theorem J_MSquareRows_byteOf_d92 : decode J_MSquareRows_byteOf.2.1 92 = .ok (.ireturn, 1) := by decide +kernel
theorem J_MSquareRows_byteOf_d93 : decode J_MSquareRows_byteOf.2.1 93 = .ok (.bipush 47, 2) := by decide +kernel
theorem J_MSquareRows_byteOf_d95 : decode J_MSquareRows_byteOf.2.1 95 = .ok (.ireturn, 1) := by decide +kernel
theorem J_MSquareRows_byteOf_d96 : decode J_MSquareRows_byteOf.2.1 96 = .ok (.bipush 58, 2) := by decide +kernel
theorem J_MSquareRows_byteOf_d98 : decode J_MSquareRows_byteOf.2.1 98 = .ok (.ireturn, 1) := by decide +kernel
theorem f_MSquareRows_byteOf_ok {L : Nat} {xs : Nat → Int32} {dep : Nat} {w : Bool} {p0 : Int32} {M : im_M} {Q : Int32 → Prop} (hM : lw_S w M) (h : ed (f_MSquareRows_byteOf p0 M) Q) : ia (tb_G L xs) dep J_MSquareRows_byteOf (rpI M Q) (0, lv_args 0 [.int p0], [], M) := by
  have hS : im_St (tb_G L xs) dep J_MSquareRows_byteOf (ia (tb_G L xs) dep J_MSquareRows_byteOf (rpI M Q)) := ia_St
  unfold f_MSquareRows_byteOf at h
  have l0 : im_lk (lv_args 0 [.int p0]) 0 = some (.int p0) := rfl
  refine iq_iload_n hS 1 J_MSquareRows_byteOf_d0 l0 rfl ?_
  refine iq_bipush hS 3 J_MSquareRows_byteOf_d1 (v := 10) (by decide +kernel) rfl ?_
  refine iq_icmp_ge hS 6 J_MSquareRows_byteOf_d3 (t := 11) rfl (fun q3 => ?_) rfl (fun q3 => ?_)
  · replace h := ed_pos q3 h
    refine iq_iload_n hS 12 J_MSquareRows_byteOf_d11 l0 rfl ?_
    refine iq_bipush hS 14 J_MSquareRows_byteOf_d12 (v := 36) (by decide +kernel) rfl ?_
    refine iq_icmp_ge hS 17 J_MSquareRows_byteOf_d14 (t := 25) rfl (fun q14 => ?_) rfl (fun q14 => ?_)
    · replace h := ed_pos q14 h
      refine iq_iload_n hS 26 J_MSquareRows_byteOf_d25 l0 rfl ?_
      by_cases q26_36 : p0 = 36
      · replace h := ed_pos q26_36 h
        refine iq_tsw hS J_MSquareRows_byteOf_d26 (t := 72) (sw_v q26_36 (by decide +kernel)) ?_
        refine iq_bipush hS 74 J_MSquareRows_byteOf_d72 (v := 32) (by decide +kernel) rfl ?_
        exact iq_iret J_MSquareRows_byteOf_d74 rfl rfl ⟨_, rfl, rfl, ed_some h⟩
      replace h := ed_neg q26_36 h
      by_cases q26_37 : p0 = 37
      · replace h := ed_pos q26_37 h
        refine iq_tsw hS J_MSquareRows_byteOf_d26 (t := 75) (sw_v q26_37 (by decide +kernel)) ?_
        refine iq_bipush hS 77 J_MSquareRows_byteOf_d75 (v := 36) (by decide +kernel) rfl ?_
        exact iq_iret J_MSquareRows_byteOf_d77 rfl rfl ⟨_, rfl, rfl, ed_some h⟩
      replace h := ed_neg q26_37 h
      by_cases q26_38 : p0 = 38
      · replace h := ed_pos q26_38 h
        refine iq_tsw hS J_MSquareRows_byteOf_d26 (t := 78) (sw_v q26_38 (by decide +kernel)) ?_
        refine iq_bipush hS 80 J_MSquareRows_byteOf_d78 (v := 37) (by decide +kernel) rfl ?_
        exact iq_iret J_MSquareRows_byteOf_d80 rfl rfl ⟨_, rfl, rfl, ed_some h⟩
      replace h := ed_neg q26_38 h
      by_cases q26_39 : p0 = 39
      · replace h := ed_pos q26_39 h
        refine iq_tsw hS J_MSquareRows_byteOf_d26 (t := 81) (sw_v q26_39 (by decide +kernel)) ?_
        refine iq_bipush hS 83 J_MSquareRows_byteOf_d81 (v := 42) (by decide +kernel) rfl ?_
        exact iq_iret J_MSquareRows_byteOf_d83 rfl rfl ⟨_, rfl, rfl, ed_some h⟩
      replace h := ed_neg q26_39 h
      by_cases q26_40 : p0 = 40
      · replace h := ed_pos q26_40 h
        refine iq_tsw hS J_MSquareRows_byteOf_d26 (t := 84) (sw_v q26_40 (by decide +kernel)) ?_
        refine iq_bipush hS 86 J_MSquareRows_byteOf_d84 (v := 43) (by decide +kernel) rfl ?_
        exact iq_iret J_MSquareRows_byteOf_d86 rfl rfl ⟨_, rfl, rfl, ed_some h⟩
      replace h := ed_neg q26_40 h
      by_cases q26_41 : p0 = 41
      · replace h := ed_pos q26_41 h
        refine iq_tsw hS J_MSquareRows_byteOf_d26 (t := 87) (sw_v q26_41 (by decide +kernel)) ?_
        refine iq_bipush hS 89 J_MSquareRows_byteOf_d87 (v := 45) (by decide +kernel) rfl ?_
        exact iq_iret J_MSquareRows_byteOf_d89 rfl rfl ⟨_, rfl, rfl, ed_some h⟩
      replace h := ed_neg q26_41 h
      by_cases q26_42 : p0 = 42
      · replace h := ed_pos q26_42 h
        refine iq_tsw hS J_MSquareRows_byteOf_d26 (t := 90) (sw_v q26_42 (by decide +kernel)) ?_
        refine iq_bipush hS 92 J_MSquareRows_byteOf_d90 (v := 46) (by decide +kernel) rfl ?_
        exact iq_iret J_MSquareRows_byteOf_d92 rfl rfl ⟨_, rfl, rfl, ed_some h⟩
      replace h := ed_neg q26_42 h
      by_cases q26_43 : p0 = 43
      · replace h := ed_pos q26_43 h
        refine iq_tsw hS J_MSquareRows_byteOf_d26 (t := 93) (sw_v q26_43 (by decide +kernel)) ?_
        refine iq_bipush hS 95 J_MSquareRows_byteOf_d93 (v := 47) (by decide +kernel) rfl ?_
        exact iq_iret J_MSquareRows_byteOf_d95 rfl rfl ⟨_, rfl, rfl, ed_some h⟩
      replace h := ed_neg q26_43 h
      refine iq_tsw hS J_MSquareRows_byteOf_d26 (t := 96) (sw_d [36, 37, 38, 39, 40, 41, 42, 43] (by decide) (by decide) (by decide +kernel) (sw_nc q26_36 (sw_nc q26_37 (sw_nc q26_38 (sw_nc q26_39 (sw_nc q26_40 (sw_nc q26_41 (sw_nc q26_42 (sw_nc q26_43 sw_nn))))))))) ?_
      refine iq_bipush hS 98 J_MSquareRows_byteOf_d96 (v := 58) (by decide +kernel) rfl ?_
      exact iq_iret J_MSquareRows_byteOf_d98 rfl rfl ⟨_, rfl, rfl, ed_some h⟩
    · replace h := ed_neg q14 h
      refine iq_bipush hS 19 J_MSquareRows_byteOf_d17 (v := 65) (by decide +kernel) rfl ?_
      refine iq_iload_n hS 20 J_MSquareRows_byteOf_d19 l0 rfl ?_
      refine iq_iadd hS 21 J_MSquareRows_byteOf_d20 rfl ?_
      refine iq_bipush hS 23 J_MSquareRows_byteOf_d21 (v := 10) (by decide +kernel) rfl ?_
      refine iq_isub hS 24 J_MSquareRows_byteOf_d23 rfl ?_
      exact iq_iret J_MSquareRows_byteOf_d24 rfl rfl ⟨_, rfl, rfl, ed_some h⟩
  · replace h := ed_neg q3 h
    refine iq_bipush hS 8 J_MSquareRows_byteOf_d6 (v := 48) (by decide +kernel) rfl ?_
    refine iq_iload_n hS 9 J_MSquareRows_byteOf_d8 l0 rfl ?_
    refine iq_iadd hS 10 J_MSquareRows_byteOf_d9 rfl ?_
    exact iq_iret J_MSquareRows_byteOf_d10 rfl rfl ⟨_, rfl, rfl, ed_some h⟩
noncomputable def f_MSquareRows_take (p0 : Int32) (M : im_M) : Option (im_M) := gd (inb (im_i M 108 28) 3000) <| some (im_setI (im_setI M 128 (Int32.toNatClampNeg (im_i M 108 28)) p0) 108 28 ((im_i (im_setI M 128 (Int32.toNatClampNeg (im_i M 108 28)) p0) 108 28) + 1))
theorem J_MSquareRows_take_d0 : decode J_MSquareRows_take.2.1 0 = .ok (.aload_n 0, 1) := by decide +kernel
theorem J_MSquareRows_take_d1 : decode J_MSquareRows_take.2.1 1 = .ok (.getfield 67, 3) := by decide +kernel
theorem J_MSquareRows_take_d4 : decode J_MSquareRows_take.2.1 4 = .ok (.aload_n 0, 1) := by decide +kernel
theorem J_MSquareRows_take_d5 : decode J_MSquareRows_take.2.1 5 = .ok (.getfield 288, 3) := by decide +kernel
theorem J_MSquareRows_take_d8 : decode J_MSquareRows_take.2.1 8 = .ok (.iload_n 1, 1) := by decide +kernel
theorem J_MSquareRows_take_d9 : decode J_MSquareRows_take.2.1 9 = .ok (.iastore, 1) := by decide +kernel
theorem J_MSquareRows_take_d10 : decode J_MSquareRows_take.2.1 10 = .ok (.aload_n 0, 1) := by decide +kernel
theorem J_MSquareRows_take_d11 : decode J_MSquareRows_take.2.1 11 = .ok (.dup, 1) := by decide +kernel
theorem J_MSquareRows_take_d12 : decode J_MSquareRows_take.2.1 12 = .ok (.getfield 288, 3) := by decide +kernel
theorem J_MSquareRows_take_d15 : decode J_MSquareRows_take.2.1 15 = .ok (.iconst 1, 1) := by decide +kernel
theorem J_MSquareRows_take_d16 : decode J_MSquareRows_take.2.1 16 = .ok (.iadd, 1) := by decide +kernel
theorem J_MSquareRows_take_d17 : decode J_MSquareRows_take.2.1 17 = .ok (.putfield 288, 3) := by decide +kernel
theorem J_MSquareRows_take_d20 : decode J_MSquareRows_take.2.1 20 = .ok (.return_, 1) := by decide +kernel
theorem f_MSquareRows_take_ok {L : Nat} {xs : Nat → Int32} {dep : Nat} {w : Bool} {p0 : Int32} {M : im_M} {Q : im_M → Prop} (hM : lw_S w M) (h : ed (f_MSquareRows_take p0 M) Q) : ia (tb_G L xs) dep J_MSquareRows_take (rwV w Q) (0, lv_args 0 [.ref 108, .int p0], [], M) := by
  have hS : im_St (tb_G L xs) dep J_MSquareRows_take (ia (tb_G L xs) dep J_MSquareRows_take (rwV w Q)) := ia_St
  unfold f_MSquareRows_take at h
  have l0 : im_lk (lv_args 0 [.ref 108, .int p0]) 0 = some (.ref 108) := rfl
  have l1 : im_lk (lv_args 0 [.ref 108, .int p0]) 1 = some (.int p0) := rfl
  refine iq_aload_n hS 1 J_MSquareRows_take_d0 l0 rfl ?_
  refine iq_getR hS 4 J_MSquareRows_take_d1 lf_16_67 (Or.inr ⟨_, rfl⟩) (ka_108 hM) (ra_108_27 hM) rfl ?_
  refine iq_aload_n hS 5 J_MSquareRows_take_d4 l0 rfl ?_
  refine iq_getI hS 8 J_MSquareRows_take_d5 lf_16_288 (Or.inl rfl) (ka_108 hM) rfl ?_
  refine iq_iload_n hS 9 J_MSquareRows_take_d8 l1 rfl ?_
  obtain ⟨g9, h⟩ := ed_gd h
  refine iq_iastore hS 10 J_MSquareRows_take_d9 ⟨(ka_128 hM).1, (ka_128 hM).2, g9.1, ix_lt (kl_128 hM) g9.2⟩ rfl ?_
  refine iq_aload_n hS 11 J_MSquareRows_take_d10 l0 rfl ?_
  refine iq_dup hS 12 J_MSquareRows_take_d11 rfl rfl ?_
  refine iq_getI hS 15 J_MSquareRows_take_d12 lf_16_288 (Or.inl rfl) (ka_108 (lw_sI hM)) rfl ?_
  refine iq_iconst hS 16 J_MSquareRows_take_d15 (v := 1) (by decide +kernel) rfl ?_
  refine iq_iadd hS 17 J_MSquareRows_take_d16 rfl ?_
  refine iq_putI hS 20 J_MSquareRows_take_d17 lf_16_288 (Or.inl rfl) rfl (ka_108 (lw_sI hM)) rfl ?_
  exact iq_ret J_MSquareRows_take_d20 rfl ⟨rfl, (lw_sI (lw_sI hM)), ed_some h⟩
theorem f_MSquareRows_take_fr {p0 : Int32} {M : im_M} {r : im_M} (h : f_MSquareRows_take p0 M = some r) : fr 340282366920938463463374607431768211456 [(108, 28)] M r := by
  replace h : ed (f_MSquareRows_take p0 M) (fun x => x = r) := ⟨r, h, rfl⟩
  unfold f_MSquareRows_take at h
  obtain ⟨g9, h⟩ := ed_gd h
  exact fr_retV h (fr_F (by decide) (fr_I (by decide) fr_refl))
noncomputable def f_MSquareRows_group_L135 (v6 : Int32) (x7 : Int32) (x8 : Int32) (M9 : im_M) : Option ((Int32 × Int32 × im_M) ⊕ (im_M)) := if x8 ≤ 0 then some (.inr M9) else gd (¬ x8 = (0 : Int32)) <| gd (¬ x8 = (0 : Int32)) <| bd1 (if ¬ v6 = 0 then if ¬ v6 = 1 then some (x7 / x8) else bd1 (f_MSquareRows_byteOf (x7 / x8) M9) fun (x11 : Int32) => some x11 else some ((48 : Int32) + (x7 / x8))) fun (y12 : Int32) => bd1 (f_MSquareRows_take y12 M9) fun (M17 : im_M) => gd (¬ ((if ¬ v6 = 0 then (if ¬ v6 = 1 then 256 else 45) else 10) : Int32) = (0 : Int32)) <| some (.inl ((x7 - x7 / x8 * x8), (x8 / ((if ¬ v6 = 0 then (if ¬ v6 = 1 then 256 else 45) else 10) : Int32)), M17))
noncomputable def f_MSquareRows_group (p0 : Int32) (p1 : Int32) (M : im_M) : Option (im_M) := bd2 (f_MSquareRows_next ((if ¬ p0 = 0 then (if ¬ p0 = 1 then 8 else (((5 : Int32) * p1) + 1)) else (((3 : Int32) * p1) + 1)) : Int32) M) fun (x2 : Int32) (M2 : im_M) => if (im_i M2 108 31) ≤ 0 then if x2 < ((if ¬ p0 = 0 then (if ¬ p0 = 1 then 256 else (if ¬ p1 = 2 then 45 else 2025)) else (if ¬ p1 = 3 then (if ¬ p1 = 2 then 10 else 100) else 1000)) : Int32) then gd (¬ ((if ¬ p0 = 0 then (if ¬ p0 = 1 then 256 else 45) else 10) : Int32) = (0 : Int32)) <| bd1 (lp (uc3 (f_MSquareRows_group_L135 p0)) (x2, (((if ¬ p0 = 0 then (if ¬ p0 = 1 then 256 else (if ¬ p1 = 2 then 45 else 2025)) else (if ¬ p1 = 3 then (if ¬ p1 = 2 then 10 else 100) else 1000)) : Int32) / ((if ¬ p0 = 0 then (if ¬ p0 = 1 then 256 else 45) else 10) : Int32)), M2)) fun (M19 : im_M) => some M19 else some (im_setI M2 108 31 5) else some M2
theorem J_MSquareRows_group_d0 : decode J_MSquareRows_group.2.1 0 = .ok (.aload_n 0, 1) := by decide +kernel
theorem J_MSquareRows_group_d1 : decode J_MSquareRows_group.2.1 1 = .ok (.iload_n 1, 1) := by decide +kernel
theorem J_MSquareRows_group_d2 : decode J_MSquareRows_group.2.1 2 = .ok (.ifCond .ne 11, 3) := by decide +kernel
theorem J_MSquareRows_group_d5 : decode J_MSquareRows_group.2.1 5 = .ok (.iconst 3, 1) := by decide +kernel
theorem J_MSquareRows_group_d6 : decode J_MSquareRows_group.2.1 6 = .ok (.iload_n 2, 1) := by decide +kernel
theorem J_MSquareRows_group_d7 : decode J_MSquareRows_group.2.1 7 = .ok (.imul, 1) := by decide +kernel
theorem J_MSquareRows_group_d8 : decode J_MSquareRows_group.2.1 8 = .ok (.iconst 1, 1) := by decide +kernel
theorem J_MSquareRows_group_d9 : decode J_MSquareRows_group.2.1 9 = .ok (.iadd, 1) := by decide +kernel
theorem J_MSquareRows_group_d10 : decode J_MSquareRows_group.2.1 10 = .ok (.goto 18, 3) := by decide +kernel
theorem J_MSquareRows_group_d13 : decode J_MSquareRows_group.2.1 13 = .ok (.iload_n 1, 1) := by decide +kernel
theorem J_MSquareRows_group_d14 : decode J_MSquareRows_group.2.1 14 = .ok (.iconst 1, 1) := by decide +kernel
theorem J_MSquareRows_group_d15 : decode J_MSquareRows_group.2.1 15 = .ok (.if_icmp .ne 11, 3) := by decide +kernel
theorem J_MSquareRows_group_d18 : decode J_MSquareRows_group.2.1 18 = .ok (.iconst 5, 1) := by decide +kernel
theorem J_MSquareRows_group_d19 : decode J_MSquareRows_group.2.1 19 = .ok (.iload_n 2, 1) := by decide +kernel
theorem J_MSquareRows_group_d20 : decode J_MSquareRows_group.2.1 20 = .ok (.imul, 1) := by decide +kernel
theorem J_MSquareRows_group_d21 : decode J_MSquareRows_group.2.1 21 = .ok (.iconst 1, 1) := by decide +kernel
theorem J_MSquareRows_group_d22 : decode J_MSquareRows_group.2.1 22 = .ok (.iadd, 1) := by decide +kernel
theorem J_MSquareRows_group_d23 : decode J_MSquareRows_group.2.1 23 = .ok (.goto 5, 3) := by decide +kernel
theorem J_MSquareRows_group_d26 : decode J_MSquareRows_group.2.1 26 = .ok (.bipush 8, 2) := by decide +kernel
theorem J_MSquareRows_group_d28 : decode J_MSquareRows_group.2.1 28 = .ok (.invokevirtual 291, 3) := by decide +kernel
theorem J_MSquareRows_group_d31 : decode J_MSquareRows_group.2.1 31 = .ok (.istore_n 3, 1) := by decide +kernel
theorem J_MSquareRows_group_d32 : decode J_MSquareRows_group.2.1 32 = .ok (.aload_n 0, 1) := by decide +kernel
theorem J_MSquareRows_group_d33 : decode J_MSquareRows_group.2.1 33 = .ok (.getfield 285, 3) := by decide +kernel
theorem J_MSquareRows_group_d36 : decode J_MSquareRows_group.2.1 36 = .ok (.ifCond .le 4, 3) := by decide +kernel
theorem J_MSquareRows_group_d39 : decode J_MSquareRows_group.2.1 39 = .ok (.return_, 1) := by decide +kernel
theorem J_MSquareRows_group_d40 : decode J_MSquareRows_group.2.1 40 = .ok (.iload_n 1, 1) := by decide +kernel
theorem J_MSquareRows_group_d41 : decode J_MSquareRows_group.2.1 41 = .ok (.ifCond .ne 29, 3) := by decide +kernel
theorem J_MSquareRows_group_d44 : decode J_MSquareRows_group.2.1 44 = .ok (.iload_n 2, 1) := by decide +kernel
theorem J_MSquareRows_group_d45 : decode J_MSquareRows_group.2.1 45 = .ok (.iconst 3, 1) := by decide +kernel
theorem J_MSquareRows_group_d46 : decode J_MSquareRows_group.2.1 46 = .ok (.if_icmp .ne 9, 3) := by decide +kernel
theorem J_MSquareRows_group_d49 : decode J_MSquareRows_group.2.1 49 = .ok (.sipush 1000, 3) := by decide +kernel
theorem J_MSquareRows_group_d52 : decode J_MSquareRows_group.2.1 52 = .ok (.goto 42, 3) := by decide +kernel
theorem J_MSquareRows_group_d55 : decode J_MSquareRows_group.2.1 55 = .ok (.iload_n 2, 1) := by decide +kernel
theorem J_MSquareRows_group_d56 : decode J_MSquareRows_group.2.1 56 = .ok (.iconst 2, 1) := by decide +kernel
theorem J_MSquareRows_group_d57 : decode J_MSquareRows_group.2.1 57 = .ok (.if_icmp .ne 8, 3) := by decide +kernel
theorem J_MSquareRows_group_d60 : decode J_MSquareRows_group.2.1 60 = .ok (.bipush 100, 2) := by decide +kernel
theorem J_MSquareRows_group_d62 : decode J_MSquareRows_group.2.1 62 = .ok (.goto 32, 3) := by decide +kernel
theorem J_MSquareRows_group_d65 : decode J_MSquareRows_group.2.1 65 = .ok (.bipush 10, 2) := by decide +kernel
theorem J_MSquareRows_group_d67 : decode J_MSquareRows_group.2.1 67 = .ok (.goto 27, 3) := by decide +kernel
theorem J_MSquareRows_group_d70 : decode J_MSquareRows_group.2.1 70 = .ok (.iload_n 1, 1) := by decide +kernel
theorem J_MSquareRows_group_d71 : decode J_MSquareRows_group.2.1 71 = .ok (.iconst 1, 1) := by decide +kernel
theorem J_MSquareRows_group_d72 : decode J_MSquareRows_group.2.1 72 = .ok (.if_icmp .ne 19, 3) := by decide +kernel
theorem J_MSquareRows_group_d75 : decode J_MSquareRows_group.2.1 75 = .ok (.iload_n 2, 1) := by decide +kernel
theorem J_MSquareRows_group_d76 : decode J_MSquareRows_group.2.1 76 = .ok (.iconst 2, 1) := by decide +kernel
theorem J_MSquareRows_group_d77 : decode J_MSquareRows_group.2.1 77 = .ok (.if_icmp .ne 9, 3) := by decide +kernel
theorem J_MSquareRows_group_d80 : decode J_MSquareRows_group.2.1 80 = .ok (.sipush 2025, 3) := by decide +kernel
theorem J_MSquareRows_group_d83 : decode J_MSquareRows_group.2.1 83 = .ok (.goto 11, 3) := by decide +kernel
theorem J_MSquareRows_group_d86 : decode J_MSquareRows_group.2.1 86 = .ok (.bipush 45, 2) := by decide +kernel
theorem J_MSquareRows_group_d88 : decode J_MSquareRows_group.2.1 88 = .ok (.goto 6, 3) := by decide +kernel
theorem J_MSquareRows_group_d91 : decode J_MSquareRows_group.2.1 91 = .ok (.sipush 256, 3) := by decide +kernel
theorem J_MSquareRows_group_d94 : decode J_MSquareRows_group.2.1 94 = .ok (.istore 4, 2) := by decide +kernel
theorem J_MSquareRows_group_d96 : decode J_MSquareRows_group.2.1 96 = .ok (.iload_n 3, 1) := by decide +kernel
theorem J_MSquareRows_group_d97 : decode J_MSquareRows_group.2.1 97 = .ok (.iload 4, 2) := by decide +kernel
theorem J_MSquareRows_group_d99 : decode J_MSquareRows_group.2.1 99 = .ok (.if_icmp .lt 9, 3) := by decide +kernel
theorem J_MSquareRows_group_d102 : decode J_MSquareRows_group.2.1 102 = .ok (.aload_n 0, 1) := by decide +kernel
theorem J_MSquareRows_group_d103 : decode J_MSquareRows_group.2.1 103 = .ok (.iconst 5, 1) := by decide +kernel
theorem J_MSquareRows_group_d104 : decode J_MSquareRows_group.2.1 104 = .ok (.putfield 285, 3) := by decide +kernel
theorem J_MSquareRows_group_d107 : decode J_MSquareRows_group.2.1 107 = .ok (.return_, 1) := by decide +kernel
theorem J_MSquareRows_group_d108 : decode J_MSquareRows_group.2.1 108 = .ok (.iload 4, 2) := by decide +kernel
theorem J_MSquareRows_group_d110 : decode J_MSquareRows_group.2.1 110 = .ok (.iload_n 1, 1) := by decide +kernel
theorem J_MSquareRows_group_d111 : decode J_MSquareRows_group.2.1 111 = .ok (.ifCond .ne 8, 3) := by decide +kernel
theorem J_MSquareRows_group_d114 : decode J_MSquareRows_group.2.1 114 = .ok (.bipush 10, 2) := by decide +kernel
theorem J_MSquareRows_group_d116 : decode J_MSquareRows_group.2.1 116 = .ok (.goto 16, 3) := by decide +kernel
theorem J_MSquareRows_group_d119 : decode J_MSquareRows_group.2.1 119 = .ok (.iload_n 1, 1) := by decide +kernel
theorem J_MSquareRows_group_d120 : decode J_MSquareRows_group.2.1 120 = .ok (.iconst 1, 1) := by decide +kernel
theorem J_MSquareRows_group_d121 : decode J_MSquareRows_group.2.1 121 = .ok (.if_icmp .ne 8, 3) := by decide +kernel
theorem J_MSquareRows_group_d124 : decode J_MSquareRows_group.2.1 124 = .ok (.bipush 45, 2) := by decide +kernel
theorem J_MSquareRows_group_d126 : decode J_MSquareRows_group.2.1 126 = .ok (.goto 6, 3) := by decide +kernel
theorem J_MSquareRows_group_d129 : decode J_MSquareRows_group.2.1 129 = .ok (.sipush 256, 3) := by decide +kernel
theorem J_MSquareRows_group_d132 : decode J_MSquareRows_group.2.1 132 = .ok (.idiv, 1) := by decide +kernel
theorem J_MSquareRows_group_d133 : decode J_MSquareRows_group.2.1 133 = .ok (.istore 5, 2) := by decide +kernel
theorem J_MSquareRows_group_d135 : decode J_MSquareRows_group.2.1 135 = .ok (.iload 5, 2) := by decide +kernel
theorem J_MSquareRows_group_d137 : decode J_MSquareRows_group.2.1 137 = .ok (.ifCond .le 75, 3) := by decide +kernel
theorem J_MSquareRows_group_d140 : decode J_MSquareRows_group.2.1 140 = .ok (.iload_n 3, 1) := by decide +kernel
theorem J_MSquareRows_group_d141 : decode J_MSquareRows_group.2.1 141 = .ok (.iload 5, 2) := by decide +kernel
theorem J_MSquareRows_group_d143 : decode J_MSquareRows_group.2.1 143 = .ok (.idiv, 1) := by decide +kernel
theorem J_MSquareRows_group_d144 : decode J_MSquareRows_group.2.1 144 = .ok (.istore 6, 2) := by decide +kernel
theorem J_MSquareRows_group_d146 : decode J_MSquareRows_group.2.1 146 = .ok (.iload_n 3, 1) := by decide +kernel
theorem J_MSquareRows_group_d147 : decode J_MSquareRows_group.2.1 147 = .ok (.iload 5, 2) := by decide +kernel
theorem J_MSquareRows_group_d149 : decode J_MSquareRows_group.2.1 149 = .ok (.irem, 1) := by decide +kernel
theorem J_MSquareRows_group_d150 : decode J_MSquareRows_group.2.1 150 = .ok (.istore_n 3, 1) := by decide +kernel
theorem J_MSquareRows_group_d151 : decode J_MSquareRows_group.2.1 151 = .ok (.aload_n 0, 1) := by decide +kernel
theorem J_MSquareRows_group_d152 : decode J_MSquareRows_group.2.1 152 = .ok (.iload_n 1, 1) := by decide +kernel
theorem J_MSquareRows_group_d153 : decode J_MSquareRows_group.2.1 153 = .ok (.ifCond .ne 11, 3) := by decide +kernel
theorem J_MSquareRows_group_d156 : decode J_MSquareRows_group.2.1 156 = .ok (.bipush 48, 2) := by decide +kernel
theorem J_MSquareRows_group_d158 : decode J_MSquareRows_group.2.1 158 = .ok (.iload 6, 2) := by decide +kernel
theorem J_MSquareRows_group_d160 : decode J_MSquareRows_group.2.1 160 = .ok (.iadd, 1) := by decide +kernel
theorem J_MSquareRows_group_d161 : decode J_MSquareRows_group.2.1 161 = .ok (.goto 18, 3) := by decide +kernel
theorem J_MSquareRows_group_d164 : decode J_MSquareRows_group.2.1 164 = .ok (.iload_n 1, 1) := by decide +kernel
theorem J_MSquareRows_group_d165 : decode J_MSquareRows_group.2.1 165 = .ok (.iconst 1, 1) := by decide +kernel
theorem J_MSquareRows_group_d166 : decode J_MSquareRows_group.2.1 166 = .ok (.if_icmp .ne 11, 3) := by decide +kernel
theorem J_MSquareRows_group_d169 : decode J_MSquareRows_group.2.1 169 = .ok (.iload 6, 2) := by decide +kernel
theorem J_MSquareRows_group_d171 : decode J_MSquareRows_group.2.1 171 = .ok (.invokestatic 294, 3) := by decide +kernel
theorem J_MSquareRows_group_d174 : decode J_MSquareRows_group.2.1 174 = .ok (.goto 5, 3) := by decide +kernel
theorem J_MSquareRows_group_d177 : decode J_MSquareRows_group.2.1 177 = .ok (.iload 6, 2) := by decide +kernel
theorem J_MSquareRows_group_d179 : decode J_MSquareRows_group.2.1 179 = .ok (.invokevirtual 297, 3) := by decide +kernel
theorem J_MSquareRows_group_d182 : decode J_MSquareRows_group.2.1 182 = .ok (.iload 5, 2) := by decide +kernel
theorem J_MSquareRows_group_d184 : decode J_MSquareRows_group.2.1 184 = .ok (.iload_n 1, 1) := by decide +kernel
theorem J_MSquareRows_group_d185 : decode J_MSquareRows_group.2.1 185 = .ok (.ifCond .ne 8, 3) := by decide +kernel
theorem J_MSquareRows_group_d188 : decode J_MSquareRows_group.2.1 188 = .ok (.bipush 10, 2) := by decide +kernel
theorem J_MSquareRows_group_d190 : decode J_MSquareRows_group.2.1 190 = .ok (.goto 16, 3) := by decide +kernel
theorem J_MSquareRows_group_d193 : decode J_MSquareRows_group.2.1 193 = .ok (.iload_n 1, 1) := by decide +kernel
theorem J_MSquareRows_group_d194 : decode J_MSquareRows_group.2.1 194 = .ok (.iconst 1, 1) := by decide +kernel
theorem J_MSquareRows_group_d195 : decode J_MSquareRows_group.2.1 195 = .ok (.if_icmp .ne 8, 3) := by decide +kernel
theorem J_MSquareRows_group_d198 : decode J_MSquareRows_group.2.1 198 = .ok (.bipush 45, 2) := by decide +kernel
theorem J_MSquareRows_group_d200 : decode J_MSquareRows_group.2.1 200 = .ok (.goto 6, 3) := by decide +kernel
theorem J_MSquareRows_group_d203 : decode J_MSquareRows_group.2.1 203 = .ok (.sipush 256, 3) := by decide +kernel
theorem J_MSquareRows_group_d206 : decode J_MSquareRows_group.2.1 206 = .ok (.idiv, 1) := by decide +kernel
theorem J_MSquareRows_group_d207 : decode J_MSquareRows_group.2.1 207 = .ok (.istore 5, 2) := by decide +kernel
theorem J_MSquareRows_group_d209 : decode J_MSquareRows_group.2.1 209 = .ok (.goto (-74), 3) := by decide +kernel
theorem J_MSquareRows_group_d212 : decode J_MSquareRows_group.2.1 212 = .ok (.return_, 1) := by decide +kernel
theorem f_MSquareRows_group_ok {L : Nat} {xs : Nat → Int32} {dep : Nat} {w : Bool} {p0 : Int32} {p1 : Int32} {M : im_M} {Q : im_M → Prop} (hM : lw_S w M) (h : ed (f_MSquareRows_group p0 p1 M) Q) : ia (tb_G L xs) (dep + 1) J_MSquareRows_group (rwV w Q) (0, lv_args 0 [.ref 108, .int p0, .int p1], [], M) := by
  have hS : im_St (tb_G L xs) (dep + 1) J_MSquareRows_group (ia (tb_G L xs) (dep + 1) J_MSquareRows_group (rwV w Q)) := ia_St
  unfold f_MSquareRows_group at h
  have l0 : im_lk (lv_args 0 [.ref 108, .int p0, .int p1]) 0 = some (.ref 108) := rfl
  have l1 : im_lk (lv_args 0 [.ref 108, .int p0, .int p1]) 1 = some (.int p0) := rfl
  have l2 : im_lk (lv_args 0 [.ref 108, .int p0, .int p1]) 2 = some (.int p1) := rfl
  refine iq_aload_n hS 1 J_MSquareRows_group_d0 l0 rfl ?_
  refine iq_iload_n hS 2 J_MSquareRows_group_d1 l1 rfl ?_
  have J1 : ∀ (z2 : Int32) (L' : List (Nat × Value)), z2 = ((if ¬ p0 = 0 then (if ¬ p0 = 1 then 8 else (((5 : Int32) * p1) + 1)) else (((3 : Int32) * p1) + 1)) : Int32) → im_lk L' 0 = some (.ref 108) → im_lk L' 1 = some (.int p0) → im_lk L' 2 = some (.int p1) → ia (tb_G L xs) (dep + 1) J_MSquareRows_group (rwV w Q) (28, L', [.int z2, .ref 108], M) := by
    intro z2 L' e3 l4 l5 l6
    subst e3
    obtain ⟨Q7, hQ7, h⟩ := bd2_ed h
    refine iq_cwI hS 31 J_MSquareRows_group_d28 rfl (pr_inst (vs := [_]) lc_16_291 lT_501 rfl rfl (by decide) (by decide) rfl (Nat.le_of_ble_eq_true rfl) (Nat.le_of_ble_eq_true rfl) (fun _ => Or.inl (pr_b (ka_108 hM) (by decide) rfl))) (f_MSquareRows_next_ok (dep := dep + 0) hM h) rfl ?_
    intro x7 M7 hM7 h
    replace h := hQ7 _ _ h
    refine iq_istore_n hS 32 J_MSquareRows_group_d31 (by decide) rfl ?_
    refine iq_aload_n hS 33 J_MSquareRows_group_d32 (lk_1r l4 (by decide)) rfl ?_
    refine iq_getI hS 36 J_MSquareRows_group_d33 lf_16_285 (Or.inl rfl) (ka_108 hM7) rfl ?_
    refine iq_if_le hS 39 J_MSquareRows_group_d36 (t := 40) rfl (fun q36 => ?_) rfl (fun q36 => ?_)
    · replace h := ed_pos q36 h
      refine iq_iload_n hS 41 J_MSquareRows_group_d40 (lk_1i l5 (by decide)) rfl ?_
      have J8 : ∀ (z9 : Int32) (L' : List (Nat × Value)), z9 = ((if ¬ p0 = 0 then (if ¬ p0 = 1 then 256 else (if ¬ p1 = 2 then 45 else 2025)) else (if ¬ p1 = 3 then (if ¬ p1 = 2 then 10 else 100) else 1000)) : Int32) → im_lk L' 0 = some (.ref 108) → im_lk L' 1 = some (.int p0) → im_lk L' 3 = some (.int x7) → ia (tb_G L xs) (dep + 1) J_MSquareRows_group (rwV w Q) (94, L', [.int z9], M7) := by
        intro z9 L' e10 l11 l12 l13
        subst e10
        refine iq_istore hS 96 J_MSquareRows_group_d94 (by decide) rfl ?_
        refine iq_iload_n hS 97 J_MSquareRows_group_d96 (lk_1i l13 (by decide)) rfl ?_
        refine iq_iload hS 99 J_MSquareRows_group_d97 lk_1s rfl ?_
        refine iq_icmp_lt hS 102 J_MSquareRows_group_d99 (t := 108) rfl (fun q99 => ?_) rfl (fun q99 => ?_)
        · replace h := ed_pos q99 h
          refine iq_iload hS 110 J_MSquareRows_group_d108 lk_1s rfl ?_
          refine iq_iload_n hS 111 J_MSquareRows_group_d110 (lk_1i l12 (by decide)) rfl ?_
          have J14 : ∀ (z15 : Int32) (L' : List (Nat × Value)), z15 = ((if ¬ p0 = 0 then (if ¬ p0 = 1 then 256 else 45) else 10) : Int32) → im_lk L' 0 = some (.ref 108) → im_lk L' 1 = some (.int p0) → im_lk L' 3 = some (.int x7) → ia (tb_G L xs) (dep + 1) J_MSquareRows_group (rwV w Q) (132, L', [.int z15, .int ((if ¬ p0 = 0 then (if ¬ p0 = 1 then 256 else (if ¬ p1 = 2 then 45 else 2025)) else (if ¬ p1 = 3 then (if ¬ p1 = 2 then 10 else 100) else 1000)) : Int32)], M7) := by
            intro z15 L' e16 l17 l18 l19
            subst e16
            obtain ⟨g132, h⟩ := ed_gd h
            refine iq_idiv hS 133 J_MSquareRows_group_d132 g132 rfl ?_
            refine iq_istore hS 135 J_MSquareRows_group_d133 (by decide) rfl ?_
            obtain ⟨Q20, hQ20, h⟩ := bd1_ed h
            have K20 : ∀ (M21 : im_M) (L' : List (Nat × Value)), lw_S w M21 → Q20 M21 → ia (tb_G L xs) (dep + 1) J_MSquareRows_group (rwV w Q) (212, L', [], M21) := by
              intro M21 L' hM21  h
              replace h := hQ20 _ h
              exact iq_ret J_MSquareRows_group_d212 rfl ⟨rfl, hM21, ed_some h⟩
            obtain ⟨r20, hr20, hq20⟩ := h
            obtain ⟨n20, hn20⟩ := lp_n hr20
            have I20 : ∀ (n : Nat) (x22 : Int32) (x23 : Int32) (M24 : im_M) (L' : List (Nat × Value)), lw_S w M24 → im_lk L' 0 = some (.ref 108) → im_lk L' 1 = some (.int p0) → im_lk L' 3 = some (.int x22) → im_lk L' 5 = some (.int x23) → lpn (uc3 (f_MSquareRows_group_L135 p0)) n (x22, x23, M24) = some r20 → ia (tb_G L xs) (dep + 1) J_MSquareRows_group (rwV w Q) (135, L', [], M24) := by
              intro n
              induction n with
              | zero => intro x22 x23 M24 L' hM24 l25 l26 l27 l28 hn; exact (lpn_0 hn).elim
              | succ n ih =>
                intro x22 x23 M24 L' hM24 l25 l26 l27 l28 hn
                have h := lpn_ed3 hn
                unfold f_MSquareRows_group_L135 at h
                refine iq_iload hS 137 J_MSquareRows_group_d135 l28 rfl ?_
                refine iq_if_le hS 140 J_MSquareRows_group_d137 (t := 212) rfl (fun q137 => ?_) rfl (fun q137 => ?_)
                · replace h := ed_pos q137 h
                  exact K20 _ _ hM24  (lq_r h hq20)
                · replace h := ed_neg q137 h
                  refine iq_iload_n hS 141 J_MSquareRows_group_d140 l27 rfl ?_
                  refine iq_iload hS 143 J_MSquareRows_group_d141 l28 rfl ?_
                  obtain ⟨g143, h⟩ := ed_gd h
                  refine iq_idiv hS 144 J_MSquareRows_group_d143 g143 rfl ?_
                  refine iq_istore hS 146 J_MSquareRows_group_d144 (by decide) rfl ?_
                  refine iq_iload_n hS 147 J_MSquareRows_group_d146 (lk_1i l27 (by decide)) rfl ?_
                  refine iq_iload hS 149 J_MSquareRows_group_d147 (lk_1i l28 (by decide)) rfl ?_
                  obtain ⟨g149, h⟩ := ed_gd h
                  refine iq_irem hS 150 J_MSquareRows_group_d149 g149 rfl ?_
                  refine iq_istore_n hS 151 J_MSquareRows_group_d150 (by decide) rfl ?_
                  refine iq_aload_n hS 152 J_MSquareRows_group_d151 (lk_1r (lk_1r l25 (by decide)) (by decide)) rfl ?_
                  refine iq_iload_n hS 153 J_MSquareRows_group_d152 (lk_1i (lk_1i l26 (by decide)) (by decide)) rfl ?_
                  obtain ⟨Q29, hQ29, h⟩ := bd1_ed h
                  have J29 : ∀ (y31 : Int32) (L' : List (Nat × Value)), im_lk L' 0 = some (.ref 108) → im_lk L' 1 = some (.int p0) → im_lk L' 3 = some (.int (x22 - x22 / x23 * x23)) → im_lk L' 5 = some (.int x23) → Q29 y31 → ia (tb_G L xs) (dep + 1) J_MSquareRows_group (rwV w Q) (179, L', [.int y31, .ref 108], M24) := by
                    intro y31 L' l32 l33 l34 l35 h
                    replace h := hQ29 _ h
                    obtain ⟨Q36, hQ36, h⟩ := bd1_ed h
                    refine iq_cwV hS 182 J_MSquareRows_group_d179 rfl (pr_inst (vs := [_]) lc_16_297 lT_504 rfl rfl (by decide) (by decide) rfl (Nat.le_of_ble_eq_true rfl) (Nat.le_of_ble_eq_true rfl) (fun _ => Or.inl (pr_b (ka_108 hM24) (by decide) rfl))) (f_MSquareRows_take_ok (dep := dep + 0) hM24 h) rfl ?_
                    intro M36 hM36 h
                    replace h := hQ36 _ h
                    refine iq_iload hS 184 J_MSquareRows_group_d182 l35 rfl ?_
                    refine iq_iload_n hS 185 J_MSquareRows_group_d184 l33 rfl ?_
                    have J37 : ∀ (z38 : Int32) (L' : List (Nat × Value)), z38 = ((if ¬ p0 = 0 then (if ¬ p0 = 1 then 256 else 45) else 10) : Int32) → im_lk L' 0 = some (.ref 108) → im_lk L' 1 = some (.int p0) → im_lk L' 3 = some (.int (x22 - x22 / x23 * x23)) → ia (tb_G L xs) (dep + 1) J_MSquareRows_group (rwV w Q) (206, L', [.int z38, .int x23], M36) := by
                      intro z38 L' e39 l40 l41 l42
                      subst e39
                      obtain ⟨g206, h⟩ := ed_gd h
                      refine iq_idiv hS 207 J_MSquareRows_group_d206 g206 rfl ?_
                      refine iq_istore hS 209 J_MSquareRows_group_d207 (by decide) rfl ?_
                      refine iq_goto hS J_MSquareRows_group_d209 (t := 135) rfl ?_
                      exact ih _ _ _ _ hM36 (lk_1r l40 (by decide)) (lk_1i l41 (by decide)) (lk_1i l42 (by decide)) lk_1s (lq_l h)
                    refine iq_if_ne hS 188 J_MSquareRows_group_d185 (t := 193) rfl (fun q185 => ?_) rfl (fun q185 => ?_)
                    · refine iq_iload_n hS 194 J_MSquareRows_group_d193 l33 rfl ?_
                      refine iq_iconst hS 195 J_MSquareRows_group_d194 (v := 1) (by decide +kernel) rfl ?_
                      refine iq_icmp_ne hS 198 J_MSquareRows_group_d195 (t := 203) rfl (fun q195 => ?_) rfl (fun q195 => ?_)
                      · refine iq_sipush hS 206 J_MSquareRows_group_d203 (v := 256) (by decide +kernel) rfl ?_
                        exact J37 _ _ (by simp only [if_pos q185, if_pos q195]) l32 l33 l34
                      · refine iq_bipush hS 200 J_MSquareRows_group_d198 (v := 45) (by decide +kernel) rfl ?_
                        refine iq_goto hS J_MSquareRows_group_d200 (t := 206) rfl ?_
                        exact J37 _ _ (by simp only [if_pos q185, if_neg q195]) l32 l33 l34
                    · refine iq_bipush hS 190 J_MSquareRows_group_d188 (v := 10) (by decide +kernel) rfl ?_
                      refine iq_goto hS J_MSquareRows_group_d190 (t := 206) rfl ?_
                      exact J37 _ _ (by simp only [if_neg q185]) l32 l33 l34
                  refine iq_if_ne hS 156 J_MSquareRows_group_d153 (t := 164) rfl (fun q153 => ?_) rfl (fun q153 => ?_)
                  · replace h := ed_pos q153 h
                    refine iq_iload_n hS 165 J_MSquareRows_group_d164 (lk_1i (lk_1i l26 (by decide)) (by decide)) rfl ?_
                    refine iq_iconst hS 166 J_MSquareRows_group_d165 (v := 1) (by decide +kernel) rfl ?_
                    refine iq_icmp_ne hS 169 J_MSquareRows_group_d166 (t := 177) rfl (fun q166 => ?_) rfl (fun q166 => ?_)
                    · replace h := ed_pos q166 h
                      refine iq_iload hS 179 J_MSquareRows_group_d177 (lk_1i lk_1s (by decide)) rfl ?_
                      exact J29 _ _ (lk_1r (lk_1r l25 (by decide)) (by decide)) (lk_1i (lk_1i l26 (by decide)) (by decide)) lk_1s (lk_1i (lk_1i l28 (by decide)) (by decide)) (ed_some h)
                    · replace h := ed_neg q166 h
                      refine iq_iload hS 171 J_MSquareRows_group_d169 (lk_1i lk_1s (by decide)) rfl ?_
                      obtain ⟨Q30, hQ30, h⟩ := bd1_ed h
                      refine iq_cpI hS 174 J_MSquareRows_group_d171 rfl (pr_stat (vs := [_]) lc_16_294 lT_503 rfl rfl (by decide) rfl (Nat.le_of_ble_eq_true rfl) (Nat.le_of_ble_eq_true rfl)) (f_MSquareRows_byteOf_ok (dep := dep + 0) hM24 h) rfl ?_
                      intro x30 h
                      replace h := hQ30 _ h
                      refine iq_goto hS J_MSquareRows_group_d174 (t := 179) rfl ?_
                      exact J29 _ _ (lk_1r (lk_1r l25 (by decide)) (by decide)) (lk_1i (lk_1i l26 (by decide)) (by decide)) lk_1s (lk_1i (lk_1i l28 (by decide)) (by decide)) (ed_some h)
                  · replace h := ed_neg q153 h
                    refine iq_bipush hS 158 J_MSquareRows_group_d156 (v := 48) (by decide +kernel) rfl ?_
                    refine iq_iload hS 160 J_MSquareRows_group_d158 (lk_1i lk_1s (by decide)) rfl ?_
                    refine iq_iadd hS 161 J_MSquareRows_group_d160 rfl ?_
                    refine iq_goto hS J_MSquareRows_group_d161 (t := 179) rfl ?_
                    exact J29 _ _ (lk_1r (lk_1r l25 (by decide)) (by decide)) (lk_1i (lk_1i l26 (by decide)) (by decide)) lk_1s (lk_1i (lk_1i l28 (by decide)) (by decide)) (ed_some h)
            exact I20 n20 _ _ _ _ hM7 (lk_1r l17 (by decide)) (lk_1i l18 (by decide)) (lk_1i l19 (by decide)) lk_1s hn20
          refine iq_if_ne hS 114 J_MSquareRows_group_d111 (t := 119) rfl (fun q111 => ?_) rfl (fun q111 => ?_)
          · refine iq_iload_n hS 120 J_MSquareRows_group_d119 (lk_1i l12 (by decide)) rfl ?_
            refine iq_iconst hS 121 J_MSquareRows_group_d120 (v := 1) (by decide +kernel) rfl ?_
            refine iq_icmp_ne hS 124 J_MSquareRows_group_d121 (t := 129) rfl (fun q121 => ?_) rfl (fun q121 => ?_)
            · refine iq_sipush hS 132 J_MSquareRows_group_d129 (v := 256) (by decide +kernel) rfl ?_
              exact J14 _ _ (by simp only [if_pos q111, if_pos q121]) (lk_1r l11 (by decide)) (lk_1i l12 (by decide)) (lk_1i l13 (by decide))
            · refine iq_bipush hS 126 J_MSquareRows_group_d124 (v := 45) (by decide +kernel) rfl ?_
              refine iq_goto hS J_MSquareRows_group_d126 (t := 132) rfl ?_
              exact J14 _ _ (by simp only [if_pos q111, if_neg q121]) (lk_1r l11 (by decide)) (lk_1i l12 (by decide)) (lk_1i l13 (by decide))
          · refine iq_bipush hS 116 J_MSquareRows_group_d114 (v := 10) (by decide +kernel) rfl ?_
            refine iq_goto hS J_MSquareRows_group_d116 (t := 132) rfl ?_
            exact J14 _ _ (by simp only [if_neg q111]) (lk_1r l11 (by decide)) (lk_1i l12 (by decide)) (lk_1i l13 (by decide))
        · replace h := ed_neg q99 h
          refine iq_aload_n hS 103 J_MSquareRows_group_d102 (lk_1r l11 (by decide)) rfl ?_
          refine iq_iconst hS 104 J_MSquareRows_group_d103 (v := 5) (by decide +kernel) rfl ?_
          refine iq_putI hS 107 J_MSquareRows_group_d104 lf_16_285 (Or.inl rfl) rfl (ka_108 hM7) rfl ?_
          exact iq_ret J_MSquareRows_group_d107 rfl ⟨rfl, (lw_sI hM7), ed_some h⟩
      refine iq_if_ne hS 44 J_MSquareRows_group_d41 (t := 70) rfl (fun q41 => ?_) rfl (fun q41 => ?_)
      · refine iq_iload_n hS 71 J_MSquareRows_group_d70 (lk_1i l5 (by decide)) rfl ?_
        refine iq_iconst hS 72 J_MSquareRows_group_d71 (v := 1) (by decide +kernel) rfl ?_
        refine iq_icmp_ne hS 75 J_MSquareRows_group_d72 (t := 91) rfl (fun q72 => ?_) rfl (fun q72 => ?_)
        · refine iq_sipush hS 94 J_MSquareRows_group_d91 (v := 256) (by decide +kernel) rfl ?_
          exact J8 _ _ (by simp only [if_pos q41, if_pos q72]) (lk_1r l4 (by decide)) (lk_1i l5 (by decide)) lk_1s
        · refine iq_iload_n hS 76 J_MSquareRows_group_d75 (lk_1i l6 (by decide)) rfl ?_
          refine iq_iconst hS 77 J_MSquareRows_group_d76 (v := 2) (by decide +kernel) rfl ?_
          refine iq_icmp_ne hS 80 J_MSquareRows_group_d77 (t := 86) rfl (fun q77 => ?_) rfl (fun q77 => ?_)
          · refine iq_bipush hS 88 J_MSquareRows_group_d86 (v := 45) (by decide +kernel) rfl ?_
            refine iq_goto hS J_MSquareRows_group_d88 (t := 94) rfl ?_
            exact J8 _ _ (by simp only [if_pos q41, if_neg q72, if_pos q77]) (lk_1r l4 (by decide)) (lk_1i l5 (by decide)) lk_1s
          · refine iq_sipush hS 83 J_MSquareRows_group_d80 (v := 2025) (by decide +kernel) rfl ?_
            refine iq_goto hS J_MSquareRows_group_d83 (t := 94) rfl ?_
            exact J8 _ _ (by simp only [if_pos q41, if_neg q72, if_neg q77]) (lk_1r l4 (by decide)) (lk_1i l5 (by decide)) lk_1s
      · refine iq_iload_n hS 45 J_MSquareRows_group_d44 (lk_1i l6 (by decide)) rfl ?_
        refine iq_iconst hS 46 J_MSquareRows_group_d45 (v := 3) (by decide +kernel) rfl ?_
        refine iq_icmp_ne hS 49 J_MSquareRows_group_d46 (t := 55) rfl (fun q46 => ?_) rfl (fun q46 => ?_)
        · refine iq_iload_n hS 56 J_MSquareRows_group_d55 (lk_1i l6 (by decide)) rfl ?_
          refine iq_iconst hS 57 J_MSquareRows_group_d56 (v := 2) (by decide +kernel) rfl ?_
          refine iq_icmp_ne hS 60 J_MSquareRows_group_d57 (t := 65) rfl (fun q57 => ?_) rfl (fun q57 => ?_)
          · refine iq_bipush hS 67 J_MSquareRows_group_d65 (v := 10) (by decide +kernel) rfl ?_
            refine iq_goto hS J_MSquareRows_group_d67 (t := 94) rfl ?_
            exact J8 _ _ (by simp only [if_neg q41, if_pos q46, if_pos q57]) (lk_1r l4 (by decide)) (lk_1i l5 (by decide)) lk_1s
          · refine iq_bipush hS 62 J_MSquareRows_group_d60 (v := 100) (by decide +kernel) rfl ?_
            refine iq_goto hS J_MSquareRows_group_d62 (t := 94) rfl ?_
            exact J8 _ _ (by simp only [if_neg q41, if_pos q46, if_neg q57]) (lk_1r l4 (by decide)) (lk_1i l5 (by decide)) lk_1s
        · refine iq_sipush hS 52 J_MSquareRows_group_d49 (v := 1000) (by decide +kernel) rfl ?_
          refine iq_goto hS J_MSquareRows_group_d52 (t := 94) rfl ?_
          exact J8 _ _ (by simp only [if_neg q41, if_neg q46]) (lk_1r l4 (by decide)) (lk_1i l5 (by decide)) lk_1s
    · replace h := ed_neg q36 h
      exact iq_ret J_MSquareRows_group_d39 rfl ⟨rfl, hM7, ed_some h⟩
  refine iq_if_ne hS 5 J_MSquareRows_group_d2 (t := 13) rfl (fun q2 => ?_) rfl (fun q2 => ?_)
  · refine iq_iload_n hS 14 J_MSquareRows_group_d13 l1 rfl ?_
    refine iq_iconst hS 15 J_MSquareRows_group_d14 (v := 1) (by decide +kernel) rfl ?_
    refine iq_icmp_ne hS 18 J_MSquareRows_group_d15 (t := 26) rfl (fun q15 => ?_) rfl (fun q15 => ?_)
    · refine iq_bipush hS 28 J_MSquareRows_group_d26 (v := 8) (by decide +kernel) rfl ?_
      exact J1 _ _ (by simp only [if_pos q2, if_pos q15]) l0 l1 l2
    · refine iq_iconst hS 19 J_MSquareRows_group_d18 (v := 5) (by decide +kernel) rfl ?_
      refine iq_iload_n hS 20 J_MSquareRows_group_d19 l2 rfl ?_
      refine iq_imul hS 21 J_MSquareRows_group_d20 rfl ?_
      refine iq_iconst hS 22 J_MSquareRows_group_d21 (v := 1) (by decide +kernel) rfl ?_
      refine iq_iadd hS 23 J_MSquareRows_group_d22 rfl ?_
      refine iq_goto hS J_MSquareRows_group_d23 (t := 28) rfl ?_
      exact J1 _ _ (by simp only [if_pos q2, if_neg q15]) l0 l1 l2
  · refine iq_iconst hS 6 J_MSquareRows_group_d5 (v := 3) (by decide +kernel) rfl ?_
    refine iq_iload_n hS 7 J_MSquareRows_group_d6 l2 rfl ?_
    refine iq_imul hS 8 J_MSquareRows_group_d7 rfl ?_
    refine iq_iconst hS 9 J_MSquareRows_group_d8 (v := 1) (by decide +kernel) rfl ?_
    refine iq_iadd hS 10 J_MSquareRows_group_d9 rfl ?_
    refine iq_goto hS J_MSquareRows_group_d10 (t := 28) rfl ?_
    exact J1 _ _ (by simp only [if_neg q2]) l0 l1 l2
theorem f_MSquareRows_group_fr {p0 : Int32} {p1 : Int32} {M : im_M} {r : im_M} (h : f_MSquareRows_group p0 p1 M = some r) : fr 340282366920938463463374607431768211456 [(108, 28), (108, 29), (108, 31)] M r := by
  replace h : ed (f_MSquareRows_group p0 p1 M) (fun x => x = r) := ⟨r, h, rfl⟩
  unfold f_MSquareRows_group at h
  obtain ⟨Q2, hQ2, h⟩ := bd2_ed h
  obtain ⟨⟨x2, M2⟩, e2, h⟩ := h
  replace h := hQ2 _ _ h
  by_cases q36 : (im_i M2 108 31) ≤ 0
  · replace h := ed_pos q36 h
    by_cases q99 : x2 < ((if ¬ p0 = 0 then (if ¬ p0 = 1 then 256 else (if ¬ p1 = 2 then 45 else 2025)) else (if ¬ p1 = 3 then (if ¬ p1 = 2 then 10 else 100) else 1000)) : Int32)
    · replace h := ed_pos q99 h
      obtain ⟨g132, h⟩ := ed_gd h
      obtain ⟨Q5, hQ5, h⟩ := bd1_ed h
      have K5 : ∀ (M6 : im_M), fr 340282366920938463463374607431768211456 [(108, 28), (108, 29), (108, 31)] M M6 → Q5 M6 → fr 340282366920938463463374607431768211456 [(108, 28), (108, 29), (108, 31)] M r := by
        intro M6 hM6 h
        replace h := hQ5 _ h
        exact fr_retV h hM6
      obtain ⟨r5, hr5, hq5⟩ := h
      obtain ⟨n5, hn5⟩ := lp_n hr5
      have I5 : ∀ (n : Nat) (x7 : Int32) (x8 : Int32) (M9 : im_M), fr 340282366920938463463374607431768211456 [(108, 28), (108, 29), (108, 31)] M M9 → lpn (uc3 (f_MSquareRows_group_L135 p0)) n (x7, x8, M9) = some r5 → fr 340282366920938463463374607431768211456 [(108, 28), (108, 29), (108, 31)] M r := by
        intro n
        induction n with
        | zero => intro x7 x8 M9 hM9 hn; exact (lpn_0 hn).elim
        | succ n ih =>
          intro x7 x8 M9 hM9 hn
          have h := lpn_ed3 hn
          unfold f_MSquareRows_group_L135 at h
          by_cases q137 : x8 ≤ 0
          · replace h := ed_pos q137 h
            exact K5 _ hM9 (lq_r h hq5)
          · replace h := ed_neg q137 h
            obtain ⟨g143, h⟩ := ed_gd h
            obtain ⟨g149, h⟩ := ed_gd h
            obtain ⟨Q10, hQ10, h⟩ := bd1_ed h
            have J10 : ∀ (y12 : Int32), Q10 y12 → fr 340282366920938463463374607431768211456 [(108, 28), (108, 29), (108, 31)] M r := by
              intro y12 h
              replace h := hQ10 _ h
              obtain ⟨Q17, hQ17, h⟩ := bd1_ed h
              obtain ⟨M17, e17, h⟩ := h
              replace h := hQ17 _ h
              obtain ⟨g206, h⟩ := ed_gd h
              exact ih _ _ _ (fr_tr (fr_mono (by decide) (by decide +kernel) (f_MSquareRows_take_fr e17)) hM9) (lq_l h)
            by_cases q153 : ¬ p0 = 0
            · replace h := ed_pos q153 h
              by_cases q166 : ¬ p0 = 1
              · replace h := ed_pos q166 h
                exact J10 _ (ed_some h)
              · replace h := ed_neg q166 h
                obtain ⟨Q11, hQ11, h⟩ := bd1_ed h
                obtain ⟨x11, e11, h⟩ := h
                replace h := hQ11 _ h
                exact J10 _ (ed_some h)
            · replace h := ed_neg q153 h
              exact J10 _ (ed_some h)
      exact I5 n5 _ _ _ (fr_tr (fr_mono (by decide) (by decide +kernel) (f_MSquareRows_next_fr e2)) fr_refl) hn5
    · replace h := ed_neg q99 h
      exact fr_retV h (fr_F (by decide) (fr_tr (fr_mono (by decide) (by decide +kernel) (f_MSquareRows_next_fr e2)) fr_refl))
  · replace h := ed_neg q36 h
    exact fr_retV h (fr_tr (fr_mono (by decide) (by decide +kernel) (f_MSquareRows_next_fr e2)) fr_refl)
noncomputable def f_MSquareRows_segments_L139 (v19 : Int32) (v20 : Int32) (v21 : Int32) (v22 : Int32) (x23 : Int32) (M24 : im_M) : Option ((Int32 × im_M) ⊕ (im_M)) := if ¬ (im_i M24 108 31) = 0 then some (.inr M24) else if x23 ≤ 0 then some (.inr M24) else bd1 (f_MSquareRows_group v21 ((if v22 ≤ x23 then v22 else x23) : Int32) M24) fun (M26 : im_M) => some (.inl ((x23 - v22), M26))
noncomputable def f_MSquareRows_segments_L2 (v2 : Int32) (x3 : Int32) (M4 : im_M) : Option ((Int32 × im_M) ⊕ ((Int32 × im_M) ⊕ (im_M))) := if ¬ (im_i M4 108 31) = 0 then some (.inr (.inl (x3, M4))) else if ((im_i M4 108 30) - (im_i M4 108 29)) < 4 then some (.inr (.inl (x3, M4))) else bd2 (f_MSquareRows_next 4 M4) fun (x5 : Int32) (M5 : im_M) => if ¬ x5 = 0 then if 0 ≤ ((if ¬ x5 = 1 then (if ¬ x5 = 2 then (if ¬ x5 = 4 then (-1) else 2) else 1) else 0) : Int32) then bd1 (f_MSquareRows_rank v2 M5) fun (x7 : Int32) => bd1 (f_MSquareRows_lengthBits ((if ¬ x5 = 1 then (if ¬ x5 = 2 then (if ¬ x5 = 4 then (-1) else 2) else 1) else 0) : Int32) x7 M5) fun (x8 : Int32) => bd2 (f_MSquareRows_next x8 M5) fun (x9 : Int32) (M9 : im_M) => bd1 (if ¬ (im_i M9 108 31) = 0 then some M9 else if ((im_i M9 108 28) + x9) ≤ 3000 then some M9 else some (im_setI M9 108 31 6)) fun (M11 : im_M) => bd1 (lp (uc2 (f_MSquareRows_segments_L139 v2 x3 ((if ¬ x5 = 1 then (if ¬ x5 = 2 then (if ¬ x5 = 4 then (-1) else 2) else 1) else 0) : Int32) ((if ¬ ((if ¬ x5 = 1 then (if ¬ x5 = 2 then (if ¬ x5 = 4 then (-1) else 2) else 1) else 0) : Int32) = 0 then (if ¬ ((if ¬ x5 = 1 then (if ¬ x5 = 2 then (if ¬ x5 = 4 then (-1) else 2) else 1) else 0) : Int32) = 1 then 1 else 2) else 3) : Int32))) (x9, M11)) fun (M27 : im_M) => some (.inl ((x3 + 1), M27)) else some (.inr (.inr (im_setI M5 108 31 3))) else some (.inr (.inl (x3, M5)))
noncomputable def f_MSquareRows_segments (p0 : Int32) (M : im_M) : Option (im_M) := bs2 (lp (uc2 (f_MSquareRows_segments_L2 p0)) (0, M)) (fun (y28 : Int32) (M29 : im_M) => gd (inb 3 4) <| some (im_setI M29 129 (Int32.toNatClampNeg 3) y28)) (fun t => some t)
theorem J_MSquareRows_segments_d0 : decode J_MSquareRows_segments.2.1 0 = .ok (.iconst 0, 1) := by decide +kernel
theorem J_MSquareRows_segments_d1 : decode J_MSquareRows_segments.2.1 1 = .ok (.istore_n 2, 1) := by decide +kernel
theorem J_MSquareRows_segments_d2 : decode J_MSquareRows_segments.2.1 2 = .ok (.aload_n 0, 1) := by decide +kernel
theorem J_MSquareRows_segments_d3 : decode J_MSquareRows_segments.2.1 3 = .ok (.getfield 285, 3) := by decide +kernel
theorem J_MSquareRows_segments_d6 : decode J_MSquareRows_segments.2.1 6 = .ok (.ifCond .ne 181, 3) := by decide +kernel
theorem J_MSquareRows_segments_d9 : decode J_MSquareRows_segments.2.1 9 = .ok (.aload_n 0, 1) := by decide +kernel
theorem J_MSquareRows_segments_d10 : decode J_MSquareRows_segments.2.1 10 = .ok (.getfield 282, 3) := by decide +kernel
theorem J_MSquareRows_segments_d13 : decode J_MSquareRows_segments.2.1 13 = .ok (.aload_n 0, 1) := by decide +kernel
theorem J_MSquareRows_segments_d14 : decode J_MSquareRows_segments.2.1 14 = .ok (.getfield 279, 3) := by decide +kernel
theorem J_MSquareRows_segments_d17 : decode J_MSquareRows_segments.2.1 17 = .ok (.isub, 1) := by decide +kernel
theorem J_MSquareRows_segments_d18 : decode J_MSquareRows_segments.2.1 18 = .ok (.iconst 4, 1) := by decide +kernel
theorem J_MSquareRows_segments_d19 : decode J_MSquareRows_segments.2.1 19 = .ok (.if_icmp .lt 168, 3) := by decide +kernel
theorem J_MSquareRows_segments_d22 : decode J_MSquareRows_segments.2.1 22 = .ok (.aload_n 0, 1) := by decide +kernel
theorem J_MSquareRows_segments_d23 : decode J_MSquareRows_segments.2.1 23 = .ok (.iconst 4, 1) := by decide +kernel
theorem J_MSquareRows_segments_d24 : decode J_MSquareRows_segments.2.1 24 = .ok (.invokevirtual 291, 3) := by decide +kernel
theorem J_MSquareRows_segments_d27 : decode J_MSquareRows_segments.2.1 27 = .ok (.istore_n 3, 1) := by decide +kernel
theorem J_MSquareRows_segments_d28 : decode J_MSquareRows_segments.2.1 28 = .ok (.iload_n 3, 1) := by decide +kernel
theorem J_MSquareRows_segments_d29 : decode J_MSquareRows_segments.2.1 29 = .ok (.ifCond .ne 6, 3) := by decide +kernel
theorem J_MSquareRows_segments_d32 : decode J_MSquareRows_segments.2.1 32 = .ok (.goto 155, 3) := by decide +kernel
theorem J_MSquareRows_segments_d35 : decode J_MSquareRows_segments.2.1 35 = .ok (.iload_n 3, 1) := by decide +kernel
theorem J_MSquareRows_segments_d36 : decode J_MSquareRows_segments.2.1 36 = .ok (.iconst 1, 1) := by decide +kernel
theorem J_MSquareRows_segments_d37 : decode J_MSquareRows_segments.2.1 37 = .ok (.if_icmp .ne 7, 3) := by decide +kernel
theorem J_MSquareRows_segments_d40 : decode J_MSquareRows_segments.2.1 40 = .ok (.iconst 0, 1) := by decide +kernel
theorem J_MSquareRows_segments_d41 : decode J_MSquareRows_segments.2.1 41 = .ok (.goto 22, 3) := by decide +kernel
theorem J_MSquareRows_segments_d44 : decode J_MSquareRows_segments.2.1 44 = .ok (.iload_n 3, 1) := by decide +kernel
theorem J_MSquareRows_segments_d45 : decode J_MSquareRows_segments.2.1 45 = .ok (.iconst 2, 1) := by decide +kernel
theorem J_MSquareRows_segments_d46 : decode J_MSquareRows_segments.2.1 46 = .ok (.if_icmp .ne 7, 3) := by decide +kernel
theorem J_MSquareRows_segments_d49 : decode J_MSquareRows_segments.2.1 49 = .ok (.iconst 1, 1) := by decide +kernel
theorem J_MSquareRows_segments_d50 : decode J_MSquareRows_segments.2.1 50 = .ok (.goto 13, 3) := by decide +kernel
theorem J_MSquareRows_segments_d53 : decode J_MSquareRows_segments.2.1 53 = .ok (.iload_n 3, 1) := by decide +kernel
theorem J_MSquareRows_segments_d54 : decode J_MSquareRows_segments.2.1 54 = .ok (.iconst 4, 1) := by decide +kernel
theorem J_MSquareRows_segments_d55 : decode J_MSquareRows_segments.2.1 55 = .ok (.if_icmp .ne 7, 3) := by decide +kernel
theorem J_MSquareRows_segments_d58 : decode J_MSquareRows_segments.2.1 58 = .ok (.iconst 2, 1) := by decide +kernel
theorem J_MSquareRows_segments_d59 : decode J_MSquareRows_segments.2.1 59 = .ok (.goto 4, 3) := by decide +kernel
theorem J_MSquareRows_segments_d62 : decode J_MSquareRows_segments.2.1 62 = .ok (.iconst (-1), 1) := by decide +kernel
theorem J_MSquareRows_segments_d63 : decode J_MSquareRows_segments.2.1 63 = .ok (.istore 4, 2) := by decide +kernel
theorem J_MSquareRows_segments_d65 : decode J_MSquareRows_segments.2.1 65 = .ok (.iload 4, 2) := by decide +kernel
theorem J_MSquareRows_segments_d67 : decode J_MSquareRows_segments.2.1 67 = .ok (.ifCond .ge 9, 3) := by decide +kernel
theorem J_MSquareRows_segments_d70 : decode J_MSquareRows_segments.2.1 70 = .ok (.aload_n 0, 1) := by decide +kernel
theorem J_MSquareRows_segments_d71 : decode J_MSquareRows_segments.2.1 71 = .ok (.iconst 3, 1) := by decide +kernel
theorem J_MSquareRows_segments_d72 : decode J_MSquareRows_segments.2.1 72 = .ok (.putfield 285, 3) := by decide +kernel
theorem J_MSquareRows_segments_d75 : decode J_MSquareRows_segments.2.1 75 = .ok (.return_, 1) := by decide +kernel
theorem J_MSquareRows_segments_d76 : decode J_MSquareRows_segments.2.1 76 = .ok (.aload_n 0, 1) := by decide +kernel
theorem J_MSquareRows_segments_d77 : decode J_MSquareRows_segments.2.1 77 = .ok (.iload 4, 2) := by decide +kernel
theorem J_MSquareRows_segments_d79 : decode J_MSquareRows_segments.2.1 79 = .ok (.iload_n 1, 1) := by decide +kernel
theorem J_MSquareRows_segments_d80 : decode J_MSquareRows_segments.2.1 80 = .ok (.invokestatic 134, 3) := by decide +kernel
theorem J_MSquareRows_segments_d83 : decode J_MSquareRows_segments.2.1 83 = .ok (.invokestatic 99, 3) := by decide +kernel
theorem J_MSquareRows_segments_d86 : decode J_MSquareRows_segments.2.1 86 = .ok (.invokevirtual 291, 3) := by decide +kernel
theorem J_MSquareRows_segments_d89 : decode J_MSquareRows_segments.2.1 89 = .ok (.istore 5, 2) := by decide +kernel
theorem J_MSquareRows_segments_d91 : decode J_MSquareRows_segments.2.1 91 = .ok (.aload_n 0, 1) := by decide +kernel
theorem J_MSquareRows_segments_d92 : decode J_MSquareRows_segments.2.1 92 = .ok (.getfield 285, 3) := by decide +kernel
theorem J_MSquareRows_segments_d95 : decode J_MSquareRows_segments.2.1 95 = .ok (.ifCond .ne 22, 3) := by decide +kernel
theorem J_MSquareRows_segments_d98 : decode J_MSquareRows_segments.2.1 98 = .ok (.aload_n 0, 1) := by decide +kernel
theorem J_MSquareRows_segments_d99 : decode J_MSquareRows_segments.2.1 99 = .ok (.getfield 288, 3) := by decide +kernel
theorem J_MSquareRows_segments_d102 : decode J_MSquareRows_segments.2.1 102 = .ok (.iload 5, 2) := by decide +kernel
theorem J_MSquareRows_segments_d104 : decode J_MSquareRows_segments.2.1 104 = .ok (.iadd, 1) := by decide +kernel
theorem J_MSquareRows_segments_d105 : decode J_MSquareRows_segments.2.1 105 = .ok (.sipush 3000, 3) := by decide +kernel
theorem J_MSquareRows_segments_d108 : decode J_MSquareRows_segments.2.1 108 = .ok (.if_icmp .le 9, 3) := by decide +kernel
theorem J_MSquareRows_segments_d111 : decode J_MSquareRows_segments.2.1 111 = .ok (.aload_n 0, 1) := by decide +kernel
theorem J_MSquareRows_segments_d112 : decode J_MSquareRows_segments.2.1 112 = .ok (.bipush 6, 2) := by decide +kernel
theorem J_MSquareRows_segments_d114 : decode J_MSquareRows_segments.2.1 114 = .ok (.putfield 285, 3) := by decide +kernel
theorem J_MSquareRows_segments_d117 : decode J_MSquareRows_segments.2.1 117 = .ok (.iload 4, 2) := by decide +kernel
theorem J_MSquareRows_segments_d119 : decode J_MSquareRows_segments.2.1 119 = .ok (.ifCond .ne 7, 3) := by decide +kernel
theorem J_MSquareRows_segments_d122 : decode J_MSquareRows_segments.2.1 122 = .ok (.iconst 3, 1) := by decide +kernel
theorem J_MSquareRows_segments_d123 : decode J_MSquareRows_segments.2.1 123 = .ok (.goto 14, 3) := by decide +kernel
theorem J_MSquareRows_segments_d126 : decode J_MSquareRows_segments.2.1 126 = .ok (.iload 4, 2) := by decide +kernel
theorem J_MSquareRows_segments_d128 : decode J_MSquareRows_segments.2.1 128 = .ok (.iconst 1, 1) := by decide +kernel
theorem J_MSquareRows_segments_d129 : decode J_MSquareRows_segments.2.1 129 = .ok (.if_icmp .ne 7, 3) := by decide +kernel
theorem J_MSquareRows_segments_d132 : decode J_MSquareRows_segments.2.1 132 = .ok (.iconst 2, 1) := by decide +kernel
theorem J_MSquareRows_segments_d133 : decode J_MSquareRows_segments.2.1 133 = .ok (.goto 4, 3) := by decide +kernel
theorem J_MSquareRows_segments_d136 : decode J_MSquareRows_segments.2.1 136 = .ok (.iconst 1, 1) := by decide +kernel
theorem J_MSquareRows_segments_d137 : decode J_MSquareRows_segments.2.1 137 = .ok (.istore 6, 2) := by decide +kernel
theorem J_MSquareRows_segments_d139 : decode J_MSquareRows_segments.2.1 139 = .ok (.aload_n 0, 1) := by decide +kernel
theorem J_MSquareRows_segments_d140 : decode J_MSquareRows_segments.2.1 140 = .ok (.getfield 285, 3) := by decide +kernel
theorem J_MSquareRows_segments_d143 : decode J_MSquareRows_segments.2.1 143 = .ok (.ifCond .ne 38, 3) := by decide +kernel
theorem J_MSquareRows_segments_d146 : decode J_MSquareRows_segments.2.1 146 = .ok (.iload 5, 2) := by decide +kernel
theorem J_MSquareRows_segments_d148 : decode J_MSquareRows_segments.2.1 148 = .ok (.ifCond .le 33, 3) := by decide +kernel
theorem J_MSquareRows_segments_d151 : decode J_MSquareRows_segments.2.1 151 = .ok (.aload_n 0, 1) := by decide +kernel
theorem J_MSquareRows_segments_d152 : decode J_MSquareRows_segments.2.1 152 = .ok (.iload 4, 2) := by decide +kernel
theorem J_MSquareRows_segments_d154 : decode J_MSquareRows_segments.2.1 154 = .ok (.iload 5, 2) := by decide +kernel
theorem J_MSquareRows_segments_d156 : decode J_MSquareRows_segments.2.1 156 = .ok (.iload 6, 2) := by decide +kernel
theorem J_MSquareRows_segments_d158 : decode J_MSquareRows_segments.2.1 158 = .ok (.if_icmp .ge 8, 3) := by decide +kernel
theorem J_MSquareRows_segments_d161 : decode J_MSquareRows_segments.2.1 161 = .ok (.iload 5, 2) := by decide +kernel
theorem J_MSquareRows_segments_d163 : decode J_MSquareRows_segments.2.1 163 = .ok (.goto 5, 3) := by decide +kernel
theorem J_MSquareRows_segments_d166 : decode J_MSquareRows_segments.2.1 166 = .ok (.iload 6, 2) := by decide +kernel
theorem J_MSquareRows_segments_d168 : decode J_MSquareRows_segments.2.1 168 = .ok (.invokevirtual 300, 3) := by decide +kernel
theorem J_MSquareRows_segments_d171 : decode J_MSquareRows_segments.2.1 171 = .ok (.iload 5, 2) := by decide +kernel
theorem J_MSquareRows_segments_d173 : decode J_MSquareRows_segments.2.1 173 = .ok (.iload 6, 2) := by decide +kernel
theorem J_MSquareRows_segments_d175 : decode J_MSquareRows_segments.2.1 175 = .ok (.isub, 1) := by decide +kernel
theorem J_MSquareRows_segments_d176 : decode J_MSquareRows_segments.2.1 176 = .ok (.istore 5, 2) := by decide +kernel
theorem J_MSquareRows_segments_d178 : decode J_MSquareRows_segments.2.1 178 = .ok (.goto (-39), 3) := by decide +kernel
theorem J_MSquareRows_segments_d181 : decode J_MSquareRows_segments.2.1 181 = .ok (.iinc 2 1, 3) := by decide +kernel
theorem J_MSquareRows_segments_d184 : decode J_MSquareRows_segments.2.1 184 = .ok (.goto (-182), 3) := by decide +kernel
theorem J_MSquareRows_segments_d187 : decode J_MSquareRows_segments.2.1 187 = .ok (.aload_n 0, 1) := by decide +kernel
theorem J_MSquareRows_segments_d188 : decode J_MSquareRows_segments.2.1 188 = .ok (.getfield 70, 3) := by decide +kernel
theorem J_MSquareRows_segments_d191 : decode J_MSquareRows_segments.2.1 191 = .ok (.iconst 3, 1) := by decide +kernel
theorem J_MSquareRows_segments_d192 : decode J_MSquareRows_segments.2.1 192 = .ok (.iload_n 2, 1) := by decide +kernel
theorem J_MSquareRows_segments_d193 : decode J_MSquareRows_segments.2.1 193 = .ok (.iastore, 1) := by decide +kernel
theorem J_MSquareRows_segments_d194 : decode J_MSquareRows_segments.2.1 194 = .ok (.return_, 1) := by decide +kernel
theorem f_MSquareRows_segments_ok {L : Nat} {xs : Nat → Int32} {dep : Nat} {w : Bool} {p0 : Int32} {M : im_M} {Q : im_M → Prop} (hM : lw_S w M) (h : ed (f_MSquareRows_segments p0 M) Q) : ia (tb_G L xs) (dep + 2) J_MSquareRows_segments (rwV w Q) (0, lv_args 0 [.ref 108, .int p0], [], M) := by
  have hS : im_St (tb_G L xs) (dep + 2) J_MSquareRows_segments (ia (tb_G L xs) (dep + 2) J_MSquareRows_segments (rwV w Q)) := ia_St
  unfold f_MSquareRows_segments at h
  have l0 : im_lk (lv_args 0 [.ref 108, .int p0]) 0 = some (.ref 108) := rfl
  have l1 : im_lk (lv_args 0 [.ref 108, .int p0]) 1 = some (.int p0) := rfl
  refine iq_iconst hS 1 J_MSquareRows_segments_d0 (v := 0) (by decide +kernel) rfl ?_
  refine iq_istore_n hS 2 J_MSquareRows_segments_d1 (by decide) rfl ?_
  obtain ⟨Q1, hQ1, hR1, h⟩ := bs2_ed h
  have K1 : ∀ (y2 : Int32) (M3 : im_M) (L' : List (Nat × Value)), lw_S w M3 → im_lk L' 0 = some (.ref 108) → im_lk L' 2 = some (.int y2) → Q1 (.inl (y2, M3)) → ia (tb_G L xs) (dep + 2) J_MSquareRows_segments (rwV w Q) (187, L', [], M3) := by
    intro y2 M3 L' hM3 l4 l5 h
    replace h := hQ1 _ _ h
    refine iq_aload_n hS 188 J_MSquareRows_segments_d187 l4 rfl ?_
    refine iq_getR hS 191 J_MSquareRows_segments_d188 lf_16_70 (Or.inr ⟨_, rfl⟩) (ka_108 hM3) (ra_108_33 hM3) rfl ?_
    refine iq_iconst hS 192 J_MSquareRows_segments_d191 (v := 3) (by decide +kernel) rfl ?_
    refine iq_iload_n hS 193 J_MSquareRows_segments_d192 l5 rfl ?_
    obtain ⟨g193, h⟩ := ed_gd h
    refine iq_iastore hS 194 J_MSquareRows_segments_d193 ⟨(ka_129 hM3).1, (ka_129 hM3).2, g193.1, ix_lt (kl_129 hM3) g193.2⟩ rfl ?_
    exact iq_ret J_MSquareRows_segments_d194 rfl ⟨rfl, (lw_sI hM3), ed_some h⟩
  obtain ⟨r1, hr1, hq1⟩ := h
  obtain ⟨n1, hn1⟩ := lp_n hr1
  have I1 : ∀ (n : Nat) (x6 : Int32) (M7 : im_M) (L' : List (Nat × Value)), lw_S w M7 → im_lk L' 0 = some (.ref 108) → im_lk L' 1 = some (.int p0) → im_lk L' 2 = some (.int x6) → lpn (uc2 (f_MSquareRows_segments_L2 p0)) n (x6, M7) = some r1 → ia (tb_G L xs) (dep + 2) J_MSquareRows_segments (rwV w Q) (2, L', [], M7) := by
    intro n
    induction n with
    | zero => intro x6 M7 L' hM7 l8 l9 l10 hn; exact (lpn_0 hn).elim
    | succ n ih =>
      intro x6 M7 L' hM7 l8 l9 l10 hn
      have h := lpn_ed2 hn
      unfold f_MSquareRows_segments_L2 at h
      refine iq_aload_n hS 3 J_MSquareRows_segments_d2 l8 rfl ?_
      refine iq_getI hS 6 J_MSquareRows_segments_d3 lf_16_285 (Or.inl rfl) (ka_108 hM7) rfl ?_
      refine iq_if_ne hS 9 J_MSquareRows_segments_d6 (t := 187) rfl (fun q6 => ?_) rfl (fun q6 => ?_)
      · replace h := ed_pos q6 h
        exact K1 _ _ _ hM7 l8 l10 (lq_r h hq1)
      · replace h := ed_neg q6 h
        refine iq_aload_n hS 10 J_MSquareRows_segments_d9 l8 rfl ?_
        refine iq_getI hS 13 J_MSquareRows_segments_d10 lf_16_282 (Or.inl rfl) (ka_108 hM7) rfl ?_
        refine iq_aload_n hS 14 J_MSquareRows_segments_d13 l8 rfl ?_
        refine iq_getI hS 17 J_MSquareRows_segments_d14 lf_16_279 (Or.inl rfl) (ka_108 hM7) rfl ?_
        refine iq_isub hS 18 J_MSquareRows_segments_d17 rfl ?_
        refine iq_iconst hS 19 J_MSquareRows_segments_d18 (v := 4) (by decide +kernel) rfl ?_
        refine iq_icmp_lt hS 22 J_MSquareRows_segments_d19 (t := 187) rfl (fun q19 => ?_) rfl (fun q19 => ?_)
        · replace h := ed_pos q19 h
          exact K1 _ _ _ hM7 l8 l10 (lq_r h hq1)
        · replace h := ed_neg q19 h
          refine iq_aload_n hS 23 J_MSquareRows_segments_d22 l8 rfl ?_
          refine iq_iconst hS 24 J_MSquareRows_segments_d23 (v := 4) (by decide +kernel) rfl ?_
          obtain ⟨Q11, hQ11, h⟩ := bd2_ed h
          refine iq_cwI hS 27 J_MSquareRows_segments_d24 rfl (pr_inst (vs := [_]) lc_16_291 lT_501 rfl rfl (by decide) (by decide) rfl (Nat.le_of_ble_eq_true rfl) (Nat.le_of_ble_eq_true rfl) (fun _ => Or.inl (pr_b (ka_108 hM7) (by decide) rfl))) (f_MSquareRows_next_ok (dep := dep + 1) hM7 h) rfl ?_
          intro x11 M11 hM11 h
          replace h := hQ11 _ _ h
          refine iq_istore_n hS 28 J_MSquareRows_segments_d27 (by decide) rfl ?_
          refine iq_iload_n hS 29 J_MSquareRows_segments_d28 lk_1s rfl ?_
          refine iq_if_ne hS 32 J_MSquareRows_segments_d29 (t := 35) rfl (fun q29 => ?_) rfl (fun q29 => ?_)
          · replace h := ed_pos q29 h
            refine iq_iload_n hS 36 J_MSquareRows_segments_d35 lk_1s rfl ?_
            refine iq_iconst hS 37 J_MSquareRows_segments_d36 (v := 1) (by decide +kernel) rfl ?_
            have J12 : ∀ (z13 : Int32) (L' : List (Nat × Value)), z13 = ((if ¬ x11 = 1 then (if ¬ x11 = 2 then (if ¬ x11 = 4 then (-1) else 2) else 1) else 0) : Int32) → im_lk L' 0 = some (.ref 108) → im_lk L' 1 = some (.int p0) → im_lk L' 2 = some (.int x6) → ia (tb_G L xs) (dep + 2) J_MSquareRows_segments (rwV w Q) (63, L', [.int z13], M11) := by
              intro z13 L' e14 l15 l16 l17
              subst e14
              refine iq_istore hS 65 J_MSquareRows_segments_d63 (by decide) rfl ?_
              refine iq_iload hS 67 J_MSquareRows_segments_d65 lk_1s rfl ?_
              refine iq_if_ge hS 70 J_MSquareRows_segments_d67 (t := 76) rfl (fun q67 => ?_) rfl (fun q67 => ?_)
              · replace h := ed_pos q67 h
                refine iq_aload_n hS 77 J_MSquareRows_segments_d76 (lk_1r l15 (by decide)) rfl ?_
                refine iq_iload hS 79 J_MSquareRows_segments_d77 lk_1s rfl ?_
                refine iq_iload_n hS 80 J_MSquareRows_segments_d79 (lk_1i l16 (by decide)) rfl ?_
                obtain ⟨Q18, hQ18, h⟩ := bd1_ed h
                refine iq_cpI hS 83 J_MSquareRows_segments_d80 rfl (pr_stat (vs := [_]) lc_16_134 lT_391 rfl rfl (by decide) rfl (Nat.le_of_ble_eq_true rfl) (Nat.le_of_ble_eq_true rfl)) (f_MSquareRows_rank_ok (dep := dep + 1) hM11 h) rfl ?_
                intro x18 h
                replace h := hQ18 _ h
                obtain ⟨Q19, hQ19, h⟩ := bd1_ed h
                refine iq_cpI hS 86 J_MSquareRows_segments_d83 rfl (pr_stat (vs := [_, _]) lc_16_99 lT_399 rfl rfl (by decide) rfl (Nat.le_of_ble_eq_true rfl) (Nat.le_of_ble_eq_true rfl)) (f_MSquareRows_lengthBits_ok (dep := dep + 1) hM11 h) rfl ?_
                intro x19 h
                replace h := hQ19 _ h
                obtain ⟨Q20, hQ20, h⟩ := bd2_ed h
                refine iq_cwI hS 89 J_MSquareRows_segments_d86 rfl (pr_inst (vs := [_]) lc_16_291 lT_501 rfl rfl (by decide) (by decide) rfl (Nat.le_of_ble_eq_true rfl) (Nat.le_of_ble_eq_true rfl) (fun _ => Or.inl (pr_b (ka_108 hM11) (by decide) rfl))) (f_MSquareRows_next_ok (dep := dep + 1) hM11 h) rfl ?_
                intro x20 M20 hM20 h
                replace h := hQ20 _ _ h
                refine iq_istore hS 91 J_MSquareRows_segments_d89 (by decide) rfl ?_
                refine iq_aload_n hS 92 J_MSquareRows_segments_d91 (lk_1r (lk_1r l15 (by decide)) (by decide)) rfl ?_
                refine iq_getI hS 95 J_MSquareRows_segments_d92 lf_16_285 (Or.inl rfl) (ka_108 hM20) rfl ?_
                obtain ⟨Q21, hQ21, h⟩ := bd1_ed h
                have J21 : ∀ (M22 : im_M) (L' : List (Nat × Value)), lw_S w M22 → im_lk L' 0 = some (.ref 108) → im_lk L' 1 = some (.int p0) → im_lk L' 2 = some (.int x6) → im_lk L' 4 = some (.int ((if ¬ x11 = 1 then (if ¬ x11 = 2 then (if ¬ x11 = 4 then (-1) else 2) else 1) else 0) : Int32)) → im_lk L' 5 = some (.int x20) → Q21 M22 → ia (tb_G L xs) (dep + 2) J_MSquareRows_segments (rwV w Q) (117, L', [], M22) := by
                  intro M22 L' hM22 l23 l24 l25 l26 l27 h
                  replace h := hQ21 _ h
                  refine iq_iload hS 119 J_MSquareRows_segments_d117 l26 rfl ?_
                  have J28 : ∀ (z29 : Int32) (L' : List (Nat × Value)), z29 = ((if ¬ ((if ¬ x11 = 1 then (if ¬ x11 = 2 then (if ¬ x11 = 4 then (-1) else 2) else 1) else 0) : Int32) = 0 then (if ¬ ((if ¬ x11 = 1 then (if ¬ x11 = 2 then (if ¬ x11 = 4 then (-1) else 2) else 1) else 0) : Int32) = 1 then 1 else 2) else 3) : Int32) → im_lk L' 0 = some (.ref 108) → im_lk L' 1 = some (.int p0) → im_lk L' 2 = some (.int x6) → im_lk L' 4 = some (.int ((if ¬ x11 = 1 then (if ¬ x11 = 2 then (if ¬ x11 = 4 then (-1) else 2) else 1) else 0) : Int32)) → im_lk L' 5 = some (.int x20) → ia (tb_G L xs) (dep + 2) J_MSquareRows_segments (rwV w Q) (137, L', [.int z29], M22) := by
                    intro z29 L' e30 l31 l32 l33 l34 l35
                    subst e30
                    refine iq_istore hS 139 J_MSquareRows_segments_d137 (by decide) rfl ?_
                    obtain ⟨Q36, hQ36, h⟩ := bd1_ed h
                    have K36 : ∀ (M37 : im_M) (L' : List (Nat × Value)), lw_S w M37 → im_lk L' 0 = some (.ref 108) → im_lk L' 1 = some (.int p0) → im_lk L' 2 = some (.int x6) → Q36 M37 → ia (tb_G L xs) (dep + 2) J_MSquareRows_segments (rwV w Q) (181, L', [], M37) := by
                      intro M37 L' hM37 l38 l39 l40 h
                      replace h := hQ36 _ h
                      refine iq_iincv hS 184 J_MSquareRows_segments_d181 (c := 1) (by decide +kernel) l40 (by decide) rfl ?_
                      refine iq_goto hS J_MSquareRows_segments_d184 (t := 2) rfl ?_
                      exact ih _ _ _ hM37 (lk_1r l38 (by decide)) (lk_1i l39 (by decide)) lk_1s (lq_l h)
                    obtain ⟨r36, hr36, hq36⟩ := h
                    obtain ⟨n36, hn36⟩ := lp_n hr36
                    have I36 : ∀ (n : Nat) (x41 : Int32) (M42 : im_M) (L' : List (Nat × Value)), lw_S w M42 → im_lk L' 0 = some (.ref 108) → im_lk L' 1 = some (.int p0) → im_lk L' 2 = some (.int x6) → im_lk L' 4 = some (.int ((if ¬ x11 = 1 then (if ¬ x11 = 2 then (if ¬ x11 = 4 then (-1) else 2) else 1) else 0) : Int32)) → im_lk L' 5 = some (.int x41) → im_lk L' 6 = some (.int ((if ¬ ((if ¬ x11 = 1 then (if ¬ x11 = 2 then (if ¬ x11 = 4 then (-1) else 2) else 1) else 0) : Int32) = 0 then (if ¬ ((if ¬ x11 = 1 then (if ¬ x11 = 2 then (if ¬ x11 = 4 then (-1) else 2) else 1) else 0) : Int32) = 1 then 1 else 2) else 3) : Int32)) → lpn (uc2 (f_MSquareRows_segments_L139 p0 x6 ((if ¬ x11 = 1 then (if ¬ x11 = 2 then (if ¬ x11 = 4 then (-1) else 2) else 1) else 0) : Int32) ((if ¬ ((if ¬ x11 = 1 then (if ¬ x11 = 2 then (if ¬ x11 = 4 then (-1) else 2) else 1) else 0) : Int32) = 0 then (if ¬ ((if ¬ x11 = 1 then (if ¬ x11 = 2 then (if ¬ x11 = 4 then (-1) else 2) else 1) else 0) : Int32) = 1 then 1 else 2) else 3) : Int32))) n (x41, M42) = some r36 → ia (tb_G L xs) (dep + 2) J_MSquareRows_segments (rwV w Q) (139, L', [], M42) := by
                      intro n
                      induction n with
                      | zero => intro x41 M42 L' hM42 l43 l44 l45 l46 l47 l48 hn; exact (lpn_0 hn).elim
                      | succ n ih =>
                        intro x41 M42 L' hM42 l43 l44 l45 l46 l47 l48 hn
                        have h := lpn_ed2 hn
                        unfold f_MSquareRows_segments_L139 at h
                        refine iq_aload_n hS 140 J_MSquareRows_segments_d139 l43 rfl ?_
                        refine iq_getI hS 143 J_MSquareRows_segments_d140 lf_16_285 (Or.inl rfl) (ka_108 hM42) rfl ?_
                        refine iq_if_ne hS 146 J_MSquareRows_segments_d143 (t := 181) rfl (fun q143 => ?_) rfl (fun q143 => ?_)
                        · replace h := ed_pos q143 h
                          exact K36 _ _ hM42 l43 l44 l45 (lq_r h hq36)
                        · replace h := ed_neg q143 h
                          refine iq_iload hS 148 J_MSquareRows_segments_d146 l47 rfl ?_
                          refine iq_if_le hS 151 J_MSquareRows_segments_d148 (t := 181) rfl (fun q148 => ?_) rfl (fun q148 => ?_)
                          · replace h := ed_pos q148 h
                            exact K36 _ _ hM42 l43 l44 l45 (lq_r h hq36)
                          · replace h := ed_neg q148 h
                            refine iq_aload_n hS 152 J_MSquareRows_segments_d151 l43 rfl ?_
                            refine iq_iload hS 154 J_MSquareRows_segments_d152 l46 rfl ?_
                            refine iq_iload hS 156 J_MSquareRows_segments_d154 l47 rfl ?_
                            refine iq_iload hS 158 J_MSquareRows_segments_d156 l48 rfl ?_
                            have J49 : ∀ (z50 : Int32) (L' : List (Nat × Value)), z50 = ((if ((if ¬ ((if ¬ x11 = 1 then (if ¬ x11 = 2 then (if ¬ x11 = 4 then (-1) else 2) else 1) else 0) : Int32) = 0 then (if ¬ ((if ¬ x11 = 1 then (if ¬ x11 = 2 then (if ¬ x11 = 4 then (-1) else 2) else 1) else 0) : Int32) = 1 then 1 else 2) else 3) : Int32) ≤ x41 then ((if ¬ ((if ¬ x11 = 1 then (if ¬ x11 = 2 then (if ¬ x11 = 4 then (-1) else 2) else 1) else 0) : Int32) = 0 then (if ¬ ((if ¬ x11 = 1 then (if ¬ x11 = 2 then (if ¬ x11 = 4 then (-1) else 2) else 1) else 0) : Int32) = 1 then 1 else 2) else 3) : Int32) else x41) : Int32) → im_lk L' 0 = some (.ref 108) → im_lk L' 1 = some (.int p0) → im_lk L' 2 = some (.int x6) → im_lk L' 4 = some (.int ((if ¬ x11 = 1 then (if ¬ x11 = 2 then (if ¬ x11 = 4 then (-1) else 2) else 1) else 0) : Int32)) → im_lk L' 5 = some (.int x41) → im_lk L' 6 = some (.int ((if ¬ ((if ¬ x11 = 1 then (if ¬ x11 = 2 then (if ¬ x11 = 4 then (-1) else 2) else 1) else 0) : Int32) = 0 then (if ¬ ((if ¬ x11 = 1 then (if ¬ x11 = 2 then (if ¬ x11 = 4 then (-1) else 2) else 1) else 0) : Int32) = 1 then 1 else 2) else 3) : Int32)) → ia (tb_G L xs) (dep + 2) J_MSquareRows_segments (rwV w Q) (168, L', [.int z50, .int ((if ¬ x11 = 1 then (if ¬ x11 = 2 then (if ¬ x11 = 4 then (-1) else 2) else 1) else 0) : Int32), .ref 108], M42) := by
                              intro z50 L' e51 l52 l53 l54 l55 l56 l57
                              subst e51
                              obtain ⟨Q58, hQ58, h⟩ := bd1_ed h
                              refine iq_cwV hS 171 J_MSquareRows_segments_d168 rfl (pr_inst (vs := [_, _]) lc_16_300 lT_502 rfl rfl (by decide) (by decide) rfl (Nat.le_of_ble_eq_true rfl) (Nat.le_of_ble_eq_true rfl) (fun _ => Or.inl (pr_b (ka_108 hM42) (by decide) rfl))) (f_MSquareRows_group_ok (dep := dep + 0) hM42 h) rfl ?_
                              intro M58 hM58 h
                              replace h := hQ58 _ h
                              refine iq_iload hS 173 J_MSquareRows_segments_d171 l56 rfl ?_
                              refine iq_iload hS 175 J_MSquareRows_segments_d173 l57 rfl ?_
                              refine iq_isub hS 176 J_MSquareRows_segments_d175 rfl ?_
                              refine iq_istore hS 178 J_MSquareRows_segments_d176 (by decide) rfl ?_
                              refine iq_goto hS J_MSquareRows_segments_d178 (t := 139) rfl ?_
                              exact ih _ _ _ hM58 (lk_1r l52 (by decide)) (lk_1i l53 (by decide)) (lk_1i l54 (by decide)) (lk_1i l55 (by decide)) lk_1s (lk_1i l57 (by decide)) (lq_l h)
                            refine iq_icmp_ge hS 161 J_MSquareRows_segments_d158 (t := 166) rfl (fun q158 => ?_) rfl (fun q158 => ?_)
                            · refine iq_iload hS 168 J_MSquareRows_segments_d166 l48 rfl ?_
                              exact J49 _ _ (by simp only [if_pos q158]) l43 l44 l45 l46 l47 l48
                            · refine iq_iload hS 163 J_MSquareRows_segments_d161 l47 rfl ?_
                              refine iq_goto hS J_MSquareRows_segments_d163 (t := 168) rfl ?_
                              exact J49 _ _ (by simp only [if_neg q158]) l43 l44 l45 l46 l47 l48
                    exact I36 n36 _ _ _ hM22 (lk_1r l31 (by decide)) (lk_1i l32 (by decide)) (lk_1i l33 (by decide)) (lk_1i l34 (by decide)) (lk_1i l35 (by decide)) lk_1s hn36
                  refine iq_if_ne hS 122 J_MSquareRows_segments_d119 (t := 126) rfl (fun q119 => ?_) rfl (fun q119 => ?_)
                  · refine iq_iload hS 128 J_MSquareRows_segments_d126 l26 rfl ?_
                    refine iq_iconst hS 129 J_MSquareRows_segments_d128 (v := 1) (by decide +kernel) rfl ?_
                    refine iq_icmp_ne hS 132 J_MSquareRows_segments_d129 (t := 136) rfl (fun q129 => ?_) rfl (fun q129 => ?_)
                    · refine iq_iconst hS 137 J_MSquareRows_segments_d136 (v := 1) (by decide +kernel) rfl ?_
                      exact J28 _ _ (by simp only [if_pos q119, if_pos q129]) l23 l24 l25 l26 l27
                    · refine iq_iconst hS 133 J_MSquareRows_segments_d132 (v := 2) (by decide +kernel) rfl ?_
                      refine iq_goto hS J_MSquareRows_segments_d133 (t := 137) rfl ?_
                      exact J28 _ _ (by simp only [if_pos q119, if_neg q129]) l23 l24 l25 l26 l27
                  · refine iq_iconst hS 123 J_MSquareRows_segments_d122 (v := 3) (by decide +kernel) rfl ?_
                    refine iq_goto hS J_MSquareRows_segments_d123 (t := 137) rfl ?_
                    exact J28 _ _ (by simp only [if_neg q119]) l23 l24 l25 l26 l27
                refine iq_if_ne hS 98 J_MSquareRows_segments_d95 (t := 117) rfl (fun q95 => ?_) rfl (fun q95 => ?_)
                · replace h := ed_pos q95 h
                  exact J21 _ _ hM20 (lk_1r (lk_1r l15 (by decide)) (by decide)) (lk_1i (lk_1i l16 (by decide)) (by decide)) (lk_1i (lk_1i l17 (by decide)) (by decide)) (lk_1i lk_1s (by decide)) lk_1s (ed_some h)
                · replace h := ed_neg q95 h
                  refine iq_aload_n hS 99 J_MSquareRows_segments_d98 (lk_1r (lk_1r l15 (by decide)) (by decide)) rfl ?_
                  refine iq_getI hS 102 J_MSquareRows_segments_d99 lf_16_288 (Or.inl rfl) (ka_108 hM20) rfl ?_
                  refine iq_iload hS 104 J_MSquareRows_segments_d102 lk_1s rfl ?_
                  refine iq_iadd hS 105 J_MSquareRows_segments_d104 rfl ?_
                  refine iq_sipush hS 108 J_MSquareRows_segments_d105 (v := 3000) (by decide +kernel) rfl ?_
                  refine iq_icmp_le hS 111 J_MSquareRows_segments_d108 (t := 117) rfl (fun q108 => ?_) rfl (fun q108 => ?_)
                  · replace h := ed_pos q108 h
                    exact J21 _ _ hM20 (lk_1r (lk_1r l15 (by decide)) (by decide)) (lk_1i (lk_1i l16 (by decide)) (by decide)) (lk_1i (lk_1i l17 (by decide)) (by decide)) (lk_1i lk_1s (by decide)) lk_1s (ed_some h)
                  · replace h := ed_neg q108 h
                    refine iq_aload_n hS 112 J_MSquareRows_segments_d111 (lk_1r (lk_1r l15 (by decide)) (by decide)) rfl ?_
                    refine iq_bipush hS 114 J_MSquareRows_segments_d112 (v := 6) (by decide +kernel) rfl ?_
                    refine iq_putI hS 117 J_MSquareRows_segments_d114 lf_16_285 (Or.inl rfl) rfl (ka_108 hM20) rfl ?_
                    exact J21 _ _ (lw_sI hM20) (lk_1r (lk_1r l15 (by decide)) (by decide)) (lk_1i (lk_1i l16 (by decide)) (by decide)) (lk_1i (lk_1i l17 (by decide)) (by decide)) (lk_1i lk_1s (by decide)) lk_1s (ed_some h)
              · replace h := ed_neg q67 h
                refine iq_aload_n hS 71 J_MSquareRows_segments_d70 (lk_1r l15 (by decide)) rfl ?_
                refine iq_iconst hS 72 J_MSquareRows_segments_d71 (v := 3) (by decide +kernel) rfl ?_
                refine iq_putI hS 75 J_MSquareRows_segments_d72 lf_16_285 (Or.inl rfl) rfl (ka_108 hM11) rfl ?_
                exact iq_ret J_MSquareRows_segments_d75 rfl ⟨rfl, (lw_sI hM11), ed_some (hR1 _ (lq_r h hq1))⟩
            refine iq_icmp_ne hS 40 J_MSquareRows_segments_d37 (t := 44) rfl (fun q37 => ?_) rfl (fun q37 => ?_)
            · refine iq_iload_n hS 45 J_MSquareRows_segments_d44 lk_1s rfl ?_
              refine iq_iconst hS 46 J_MSquareRows_segments_d45 (v := 2) (by decide +kernel) rfl ?_
              refine iq_icmp_ne hS 49 J_MSquareRows_segments_d46 (t := 53) rfl (fun q46 => ?_) rfl (fun q46 => ?_)
              · refine iq_iload_n hS 54 J_MSquareRows_segments_d53 lk_1s rfl ?_
                refine iq_iconst hS 55 J_MSquareRows_segments_d54 (v := 4) (by decide +kernel) rfl ?_
                refine iq_icmp_ne hS 58 J_MSquareRows_segments_d55 (t := 62) rfl (fun q55 => ?_) rfl (fun q55 => ?_)
                · refine iq_iconst hS 63 J_MSquareRows_segments_d62 (v := (-1)) (by decide +kernel) rfl ?_
                  exact J12 _ _ (by simp only [if_pos q37, if_pos q46, if_pos q55]) (lk_1r l8 (by decide)) (lk_1i l9 (by decide)) (lk_1i l10 (by decide))
                · refine iq_iconst hS 59 J_MSquareRows_segments_d58 (v := 2) (by decide +kernel) rfl ?_
                  refine iq_goto hS J_MSquareRows_segments_d59 (t := 63) rfl ?_
                  exact J12 _ _ (by simp only [if_pos q37, if_pos q46, if_neg q55]) (lk_1r l8 (by decide)) (lk_1i l9 (by decide)) (lk_1i l10 (by decide))
              · refine iq_iconst hS 50 J_MSquareRows_segments_d49 (v := 1) (by decide +kernel) rfl ?_
                refine iq_goto hS J_MSquareRows_segments_d50 (t := 63) rfl ?_
                exact J12 _ _ (by simp only [if_pos q37, if_neg q46]) (lk_1r l8 (by decide)) (lk_1i l9 (by decide)) (lk_1i l10 (by decide))
            · refine iq_iconst hS 41 J_MSquareRows_segments_d40 (v := 0) (by decide +kernel) rfl ?_
              refine iq_goto hS J_MSquareRows_segments_d41 (t := 63) rfl ?_
              exact J12 _ _ (by simp only [if_neg q37]) (lk_1r l8 (by decide)) (lk_1i l9 (by decide)) (lk_1i l10 (by decide))
          · replace h := ed_neg q29 h
            refine iq_goto hS J_MSquareRows_segments_d32 (t := 187) rfl ?_
            exact K1 _ _ _ hM11 (lk_1r l8 (by decide)) (lk_1i l10 (by decide)) (lq_r h hq1)
  exact I1 n1 _ _ _ hM (lk_1r l0 (by decide)) (lk_1i l1 (by decide)) lk_1s hn1
theorem f_MSquareRows_segments_fr {p0 : Int32} {M : im_M} {r : im_M} (h : f_MSquareRows_segments p0 M = some r) : fr 1020847100762815390390123822295304634368 [(108, 28), (108, 29), (108, 31)] M r := by
  replace h : ed (f_MSquareRows_segments p0 M) (fun x => x = r) := ⟨r, h, rfl⟩
  unfold f_MSquareRows_segments at h
  obtain ⟨Q1, hQ1, hR1, h⟩ := bs2_ed h
  have K1 : ∀ (y2 : Int32) (M3 : im_M), fr 1020847100762815390390123822295304634368 [(108, 28), (108, 29), (108, 31)] M M3 → Q1 (.inl (y2, M3)) → fr 1020847100762815390390123822295304634368 [(108, 28), (108, 29), (108, 31)] M r := by
    intro y2 M3 hM3 h
    replace h := hQ1 _ _ h
    obtain ⟨g193, h⟩ := ed_gd h
    exact fr_retV h (fr_I (by decide) hM3)
  obtain ⟨r1, hr1, hq1⟩ := h
  obtain ⟨n1, hn1⟩ := lp_n hr1
  have I1 : ∀ (n : Nat) (x4 : Int32) (M5 : im_M), fr 1020847100762815390390123822295304634368 [(108, 28), (108, 29), (108, 31)] M M5 → lpn (uc2 (f_MSquareRows_segments_L2 p0)) n (x4, M5) = some r1 → fr 1020847100762815390390123822295304634368 [(108, 28), (108, 29), (108, 31)] M r := by
    intro n
    induction n with
    | zero => intro x4 M5 hM5 hn; exact (lpn_0 hn).elim
    | succ n ih =>
      intro x4 M5 hM5 hn
      have h := lpn_ed2 hn
      unfold f_MSquareRows_segments_L2 at h
      by_cases q6 : ¬ (im_i M5 108 31) = 0
      · replace h := ed_pos q6 h
        exact K1 _ _ hM5 (lq_r h hq1)
      · replace h := ed_neg q6 h
        by_cases q19 : ((im_i M5 108 30) - (im_i M5 108 29)) < 4
        · replace h := ed_pos q19 h
          exact K1 _ _ hM5 (lq_r h hq1)
        · replace h := ed_neg q19 h
          obtain ⟨Q6, hQ6, h⟩ := bd2_ed h
          obtain ⟨⟨x6, M6⟩, e6, h⟩ := h
          replace h := hQ6 _ _ h
          by_cases q29 : ¬ x6 = 0
          · replace h := ed_pos q29 h
            by_cases q67 : 0 ≤ ((if ¬ x6 = 1 then (if ¬ x6 = 2 then (if ¬ x6 = 4 then (-1) else 2) else 1) else 0) : Int32)
            · replace h := ed_pos q67 h
              obtain ⟨Q8, hQ8, h⟩ := bd1_ed h
              obtain ⟨x8, e8, h⟩ := h
              replace h := hQ8 _ h
              obtain ⟨Q9, hQ9, h⟩ := bd1_ed h
              obtain ⟨x9, e9, h⟩ := h
              replace h := hQ9 _ h
              obtain ⟨Q10, hQ10, h⟩ := bd2_ed h
              obtain ⟨⟨x10, M10⟩, e10, h⟩ := h
              replace h := hQ10 _ _ h
              obtain ⟨Q11, hQ11, h⟩ := bd1_ed h
              have J11 : ∀ (M12 : im_M), fr 1020847100762815390390123822295304634368 [(108, 28), (108, 29), (108, 31)] M M12 → Q11 M12 → fr 1020847100762815390390123822295304634368 [(108, 28), (108, 29), (108, 31)] M r := by
                intro M12 hM12 h
                replace h := hQ11 _ h
                obtain ⟨Q19, hQ19, h⟩ := bd1_ed h
                have K19 : ∀ (M20 : im_M), fr 1020847100762815390390123822295304634368 [(108, 28), (108, 29), (108, 31)] M M20 → Q19 M20 → fr 1020847100762815390390123822295304634368 [(108, 28), (108, 29), (108, 31)] M r := by
                  intro M20 hM20 h
                  replace h := hQ19 _ h
                  exact ih _ _ hM20 (lq_l h)
                obtain ⟨r19, hr19, hq19⟩ := h
                obtain ⟨n19, hn19⟩ := lp_n hr19
                have I19 : ∀ (n : Nat) (x21 : Int32) (M22 : im_M), fr 1020847100762815390390123822295304634368 [(108, 28), (108, 29), (108, 31)] M M22 → lpn (uc2 (f_MSquareRows_segments_L139 p0 x4 ((if ¬ x6 = 1 then (if ¬ x6 = 2 then (if ¬ x6 = 4 then (-1) else 2) else 1) else 0) : Int32) ((if ¬ ((if ¬ x6 = 1 then (if ¬ x6 = 2 then (if ¬ x6 = 4 then (-1) else 2) else 1) else 0) : Int32) = 0 then (if ¬ ((if ¬ x6 = 1 then (if ¬ x6 = 2 then (if ¬ x6 = 4 then (-1) else 2) else 1) else 0) : Int32) = 1 then 1 else 2) else 3) : Int32))) n (x21, M22) = some r19 → fr 1020847100762815390390123822295304634368 [(108, 28), (108, 29), (108, 31)] M r := by
                  intro n
                  induction n with
                  | zero => intro x21 M22 hM22 hn; exact (lpn_0 hn).elim
                  | succ n ih =>
                    intro x21 M22 hM22 hn
                    have h := lpn_ed2 hn
                    unfold f_MSquareRows_segments_L139 at h
                    by_cases q143 : ¬ (im_i M22 108 31) = 0
                    · replace h := ed_pos q143 h
                      exact K19 _ hM22 (lq_r h hq19)
                    · replace h := ed_neg q143 h
                      by_cases q148 : x21 ≤ 0
                      · replace h := ed_pos q148 h
                        exact K19 _ hM22 (lq_r h hq19)
                      · replace h := ed_neg q148 h
                        obtain ⟨Q24, hQ24, h⟩ := bd1_ed h
                        obtain ⟨M24, e24, h⟩ := h
                        replace h := hQ24 _ h
                        exact ih _ _ (fr_tr (fr_mono (by decide) (by decide +kernel) (f_MSquareRows_group_fr e24)) hM22) (lq_l h)
                exact I19 n19 _ _ hM12 hn19
              by_cases q95 : ¬ (im_i M10 108 31) = 0
              · replace h := ed_pos q95 h
                exact J11 _ (fr_tr (fr_mono (by decide) (by decide +kernel) (f_MSquareRows_next_fr e10)) (fr_tr (fr_mono (by decide) (by decide +kernel) (f_MSquareRows_next_fr e6)) hM5)) (ed_some h)
              · replace h := ed_neg q95 h
                by_cases q108 : ((im_i M10 108 28) + x10) ≤ 3000
                · replace h := ed_pos q108 h
                  exact J11 _ (fr_tr (fr_mono (by decide) (by decide +kernel) (f_MSquareRows_next_fr e10)) (fr_tr (fr_mono (by decide) (by decide +kernel) (f_MSquareRows_next_fr e6)) hM5)) (ed_some h)
                · replace h := ed_neg q108 h
                  exact J11 _ (fr_F (by decide) (fr_tr (fr_mono (by decide) (by decide +kernel) (f_MSquareRows_next_fr e10)) (fr_tr (fr_mono (by decide) (by decide +kernel) (f_MSquareRows_next_fr e6)) hM5))) (ed_some h)
            · replace h := ed_neg q67 h
              exact fr_retV (hR1 _ (lq_r h hq1)) (fr_F (by decide) (fr_tr (fr_mono (by decide) (by decide +kernel) (f_MSquareRows_next_fr e6)) hM5))
          · replace h := ed_neg q29 h
            exact K1 _ _ (fr_tr (fr_mono (by decide) (by decide +kernel) (f_MSquareRows_next_fr e6)) hM5) (lq_r h hq1)
  exact I1 n1 _ _ fr_refl hn1
noncomputable def f_MSquareRows_read_L195 (x9 : Int32) (M10 : im_M) : Option ((Int32 × im_M) ⊕ (im_M)) := if (im_i M10 108 4) ≤ x9 then some (.inr M10) else gd (inb x9 3000) <| gd (inb x9 3000) <| some (.inl ((x9 + 1), (im_setI M10 111 (Int32.toNatClampNeg x9) (im_i M10 128 (Int32.toNatClampNeg x9)))))
noncomputable def f_MSquareRows_read (M : im_M) : Option (Int32 × im_M) := if ¬ (im_i (im_setI (im_setI M 108 0 0) 108 31 0) 108 7) = 0 then bd1 (f_MSquareRows_formNumberRead (im_setI (im_setI (im_setI M 108 0 0) 108 31 0) 108 32 0)) fun (x1 : Int32) => if 0 ≤ x1 then bd1 (f_MSquareRows_allCodewords (im_i (im_setI (im_setI (im_setI M 108 0 0) 108 31 0) 108 32 0) 108 7) (im_setI (im_setI (im_setI M 108 0 0) 108 31 0) 108 32 0)) fun (x3 : Int32) => bd1 (f_MSquareRows_goThrough (x1 &&& 7) 1 x3 (im_setI (im_setI (im_setI M 108 0 0) 108 31 0) 108 32 0)) fun (M4 : im_M) => bd2 (f_MSquareRows_allBlocks (im_i M4 108 7) ((if ¬ (x1 >>> (3 &&& 31 : Int32) : Int32) = 1 then (if ¬ (x1 >>> (3 &&& 31 : Int32) : Int32) = 0 then (if ¬ (x1 >>> (3 &&& 31 : Int32) : Int32) = 3 then 3 else 2) else 1) else 0) : Int32) M4) fun (x5 : Int32) (M5 : im_M) => if 0 ≤ x5 then bd1 (f_MSquareRows_holds (im_i (im_setI M5 108 29 0) 108 7) ((if ¬ (x1 >>> (3 &&& 31 : Int32) : Int32) = 1 then (if ¬ (x1 >>> (3 &&& 31 : Int32) : Int32) = 0 then (if ¬ (x1 >>> (3 &&& 31 : Int32) : Int32) = 3 then 3 else 2) else 1) else 0) : Int32) (im_setI M5 108 29 0)) fun (x6 : Int32) => bd1 (f_MSquareRows_segments (im_i (im_setI (im_setI (im_setI M5 108 29 0) 108 30 ((8 : Int32) * x6)) 108 28 0) 108 7) (im_setI (im_setI (im_setI M5 108 29 0) 108 30 ((8 : Int32) * x6)) 108 28 0)) fun (M7 : im_M) => if (im_i M7 108 31) ≤ 0 then gd (inb 0 4) <| gd (inb 1 4) <| gd (inb 2 4) <| bd1 (lp (uc2 (f_MSquareRows_read_L195)) (0, (im_setI (im_setI (im_setI (im_setI (im_setI M7 129 (Int32.toNatClampNeg 0) ((if ¬ (x1 >>> (3 &&& 31 : Int32) : Int32) = 1 then (if ¬ (x1 >>> (3 &&& 31 : Int32) : Int32) = 0 then (if ¬ (x1 >>> (3 &&& 31 : Int32) : Int32) = 3 then 3 else 2) else 1) else 0) : Int32)) 129 (Int32.toNatClampNeg 1) (x1 &&& 7)) 129 (Int32.toNatClampNeg 2) x5) 108 32 1) 108 4 (im_i (im_setI (im_setI (im_setI (im_setI M7 129 (Int32.toNatClampNeg 0) ((if ¬ (x1 >>> (3 &&& 31 : Int32) : Int32) = 1 then (if ¬ (x1 >>> (3 &&& 31 : Int32) : Int32) = 0 then (if ¬ (x1 >>> (3 &&& 31 : Int32) : Int32) = 3 then 3 else 2) else 1) else 0) : Int32)) 129 (Int32.toNatClampNeg 1) (x1 &&& 7)) 129 (Int32.toNatClampNeg 2) x5) 108 32 1) 108 28)))) fun (M11 : im_M) => some ((im_i M11 108 4), M11) else some ((-1), M7) else some ((-1), (im_setI M5 108 31 2)) else some ((-1), (im_setI (im_setI (im_setI (im_setI M 108 0 0) 108 31 0) 108 32 0) 108 31 1)) else some ((-1), (im_setI (im_setI M 108 0 0) 108 31 0))
theorem J_MSquareRows_read_d0 : decode J_MSquareRows_read.2.1 0 = .ok (.aload_n 0, 1) := by decide +kernel
theorem J_MSquareRows_read_d1 : decode J_MSquareRows_read.2.1 1 = .ok (.iconst 0, 1) := by decide +kernel
theorem J_MSquareRows_read_d2 : decode J_MSquareRows_read.2.1 2 = .ok (.putfield 73, 3) := by decide +kernel
theorem J_MSquareRows_read_d5 : decode J_MSquareRows_read.2.1 5 = .ok (.aload_n 0, 1) := by decide +kernel
theorem J_MSquareRows_read_d6 : decode J_MSquareRows_read.2.1 6 = .ok (.iconst 0, 1) := by decide +kernel
theorem J_MSquareRows_read_d7 : decode J_MSquareRows_read.2.1 7 = .ok (.putfield 285, 3) := by decide +kernel
theorem J_MSquareRows_read_d10 : decode J_MSquareRows_read.2.1 10 = .ok (.aload_n 0, 1) := by decide +kernel
theorem J_MSquareRows_read_d11 : decode J_MSquareRows_read.2.1 11 = .ok (.getfield 229, 3) := by decide +kernel
theorem J_MSquareRows_read_d14 : decode J_MSquareRows_read.2.1 14 = .ok (.ifCond .ne 5, 3) := by decide +kernel
theorem J_MSquareRows_read_d17 : decode J_MSquareRows_read.2.1 17 = .ok (.iconst (-1), 1) := by decide +kernel
theorem J_MSquareRows_read_d18 : decode J_MSquareRows_read.2.1 18 = .ok (.ireturn, 1) := by decide +kernel
theorem J_MSquareRows_read_d19 : decode J_MSquareRows_read.2.1 19 = .ok (.aload_n 0, 1) := by decide +kernel
theorem J_MSquareRows_read_d20 : decode J_MSquareRows_read.2.1 20 = .ok (.iconst 0, 1) := by decide +kernel
theorem J_MSquareRows_read_d21 : decode J_MSquareRows_read.2.1 21 = .ok (.putfield 303, 3) := by decide +kernel
theorem J_MSquareRows_read_d24 : decode J_MSquareRows_read.2.1 24 = .ok (.aload_n 0, 1) := by decide +kernel
theorem J_MSquareRows_read_d25 : decode J_MSquareRows_read.2.1 25 = .ok (.invokevirtual 306, 3) := by decide +kernel
theorem J_MSquareRows_read_d28 : decode J_MSquareRows_read.2.1 28 = .ok (.istore_n 1, 1) := by decide +kernel
theorem J_MSquareRows_read_d29 : decode J_MSquareRows_read.2.1 29 = .ok (.iload_n 1, 1) := by decide +kernel
theorem J_MSquareRows_read_d30 : decode J_MSquareRows_read.2.1 30 = .ok (.ifCond .ge 10, 3) := by decide +kernel
theorem J_MSquareRows_read_d33 : decode J_MSquareRows_read.2.1 33 = .ok (.aload_n 0, 1) := by decide +kernel
theorem J_MSquareRows_read_d34 : decode J_MSquareRows_read.2.1 34 = .ok (.iconst 1, 1) := by decide +kernel
theorem J_MSquareRows_read_d35 : decode J_MSquareRows_read.2.1 35 = .ok (.putfield 285, 3) := by decide +kernel
theorem J_MSquareRows_read_d38 : decode J_MSquareRows_read.2.1 38 = .ok (.iconst (-1), 1) := by decide +kernel
theorem J_MSquareRows_read_d39 : decode J_MSquareRows_read.2.1 39 = .ok (.ireturn, 1) := by decide +kernel
theorem J_MSquareRows_read_d40 : decode J_MSquareRows_read.2.1 40 = .ok (.iload_n 1, 1) := by decide +kernel
theorem J_MSquareRows_read_d41 : decode J_MSquareRows_read.2.1 41 = .ok (.iconst 3, 1) := by decide +kernel
theorem J_MSquareRows_read_d42 : decode J_MSquareRows_read.2.1 42 = .ok (.ishr, 1) := by decide +kernel
theorem J_MSquareRows_read_d43 : decode J_MSquareRows_read.2.1 43 = .ok (.istore_n 2, 1) := by decide +kernel
theorem J_MSquareRows_read_d44 : decode J_MSquareRows_read.2.1 44 = .ok (.iload_n 2, 1) := by decide +kernel
theorem J_MSquareRows_read_d45 : decode J_MSquareRows_read.2.1 45 = .ok (.iconst 1, 1) := by decide +kernel
theorem J_MSquareRows_read_d46 : decode J_MSquareRows_read.2.1 46 = .ok (.if_icmp .ne 7, 3) := by decide +kernel
theorem J_MSquareRows_read_d49 : decode J_MSquareRows_read.2.1 49 = .ok (.iconst 0, 1) := by decide +kernel
theorem J_MSquareRows_read_d50 : decode J_MSquareRows_read.2.1 50 = .ok (.goto 21, 3) := by decide +kernel
theorem J_MSquareRows_read_d53 : decode J_MSquareRows_read.2.1 53 = .ok (.iload_n 2, 1) := by decide +kernel
theorem J_MSquareRows_read_d54 : decode J_MSquareRows_read.2.1 54 = .ok (.ifCond .ne 7, 3) := by decide +kernel
theorem J_MSquareRows_read_d57 : decode J_MSquareRows_read.2.1 57 = .ok (.iconst 1, 1) := by decide +kernel
theorem J_MSquareRows_read_d58 : decode J_MSquareRows_read.2.1 58 = .ok (.goto 13, 3) := by decide +kernel
theorem J_MSquareRows_read_d61 : decode J_MSquareRows_read.2.1 61 = .ok (.iload_n 2, 1) := by decide +kernel
theorem J_MSquareRows_read_d62 : decode J_MSquareRows_read.2.1 62 = .ok (.iconst 3, 1) := by decide +kernel
theorem J_MSquareRows_read_d63 : decode J_MSquareRows_read.2.1 63 = .ok (.if_icmp .ne 7, 3) := by decide +kernel
theorem J_MSquareRows_read_d66 : decode J_MSquareRows_read.2.1 66 = .ok (.iconst 2, 1) := by decide +kernel
theorem J_MSquareRows_read_d67 : decode J_MSquareRows_read.2.1 67 = .ok (.goto 4, 3) := by decide +kernel
theorem J_MSquareRows_read_d70 : decode J_MSquareRows_read.2.1 70 = .ok (.iconst 3, 1) := by decide +kernel
theorem J_MSquareRows_read_d71 : decode J_MSquareRows_read.2.1 71 = .ok (.istore_n 3, 1) := by decide +kernel
theorem J_MSquareRows_read_d72 : decode J_MSquareRows_read.2.1 72 = .ok (.aload_n 0, 1) := by decide +kernel
theorem J_MSquareRows_read_d73 : decode J_MSquareRows_read.2.1 73 = .ok (.iload_n 1, 1) := by decide +kernel
theorem J_MSquareRows_read_d74 : decode J_MSquareRows_read.2.1 74 = .ok (.bipush 7, 2) := by decide +kernel
theorem J_MSquareRows_read_d76 : decode J_MSquareRows_read.2.1 76 = .ok (.iand, 1) := by decide +kernel
theorem J_MSquareRows_read_d77 : decode J_MSquareRows_read.2.1 77 = .ok (.iconst 1, 1) := by decide +kernel
theorem J_MSquareRows_read_d78 : decode J_MSquareRows_read.2.1 78 = .ok (.aload_n 0, 1) := by decide +kernel
theorem J_MSquareRows_read_d79 : decode J_MSquareRows_read.2.1 79 = .ok (.getfield 229, 3) := by decide +kernel
theorem J_MSquareRows_read_d82 : decode J_MSquareRows_read.2.1 82 = .ok (.invokestatic 82, 3) := by decide +kernel
theorem J_MSquareRows_read_d85 : decode J_MSquareRows_read.2.1 85 = .ok (.invokevirtual 238, 3) := by decide +kernel
theorem J_MSquareRows_read_d88 : decode J_MSquareRows_read.2.1 88 = .ok (.aload_n 0, 1) := by decide +kernel
theorem J_MSquareRows_read_d89 : decode J_MSquareRows_read.2.1 89 = .ok (.aload_n 0, 1) := by decide +kernel
theorem J_MSquareRows_read_d90 : decode J_MSquareRows_read.2.1 90 = .ok (.getfield 229, 3) := by decide +kernel
theorem J_MSquareRows_read_d93 : decode J_MSquareRows_read.2.1 93 = .ok (.iload_n 3, 1) := by decide +kernel
theorem J_MSquareRows_read_d94 : decode J_MSquareRows_read.2.1 94 = .ok (.invokevirtual 309, 3) := by decide +kernel
theorem J_MSquareRows_read_d97 : decode J_MSquareRows_read.2.1 97 = .ok (.istore 4, 2) := by decide +kernel
theorem J_MSquareRows_read_d99 : decode J_MSquareRows_read.2.1 99 = .ok (.iload 4, 2) := by decide +kernel
theorem J_MSquareRows_read_d101 : decode J_MSquareRows_read.2.1 101 = .ok (.ifCond .ge 10, 3) := by decide +kernel
theorem J_MSquareRows_read_d104 : decode J_MSquareRows_read.2.1 104 = .ok (.aload_n 0, 1) := by decide +kernel
theorem J_MSquareRows_read_d105 : decode J_MSquareRows_read.2.1 105 = .ok (.iconst 2, 1) := by decide +kernel
theorem J_MSquareRows_read_d106 : decode J_MSquareRows_read.2.1 106 = .ok (.putfield 285, 3) := by decide +kernel
theorem J_MSquareRows_read_d109 : decode J_MSquareRows_read.2.1 109 = .ok (.iconst (-1), 1) := by decide +kernel
theorem J_MSquareRows_read_d110 : decode J_MSquareRows_read.2.1 110 = .ok (.ireturn, 1) := by decide +kernel
theorem J_MSquareRows_read_d111 : decode J_MSquareRows_read.2.1 111 = .ok (.aload_n 0, 1) := by decide +kernel
theorem J_MSquareRows_read_d112 : decode J_MSquareRows_read.2.1 112 = .ok (.iconst 0, 1) := by decide +kernel
theorem J_MSquareRows_read_d113 : decode J_MSquareRows_read.2.1 113 = .ok (.putfield 279, 3) := by decide +kernel
theorem J_MSquareRows_read_d116 : decode J_MSquareRows_read.2.1 116 = .ok (.aload_n 0, 1) := by decide +kernel
theorem J_MSquareRows_read_d117 : decode J_MSquareRows_read.2.1 117 = .ok (.bipush 8, 2) := by decide +kernel
theorem J_MSquareRows_read_d119 : decode J_MSquareRows_read.2.1 119 = .ok (.aload_n 0, 1) := by decide +kernel
theorem J_MSquareRows_read_d120 : decode J_MSquareRows_read.2.1 120 = .ok (.aload_n 0, 1) := by decide +kernel
theorem J_MSquareRows_read_d121 : decode J_MSquareRows_read.2.1 121 = .ok (.getfield 229, 3) := by decide +kernel
theorem J_MSquareRows_read_d124 : decode J_MSquareRows_read.2.1 124 = .ok (.iload_n 3, 1) := by decide +kernel
theorem J_MSquareRows_read_d125 : decode J_MSquareRows_read.2.1 125 = .ok (.invokevirtual 141, 3) := by decide +kernel
theorem J_MSquareRows_read_d128 : decode J_MSquareRows_read.2.1 128 = .ok (.imul, 1) := by decide +kernel
theorem J_MSquareRows_read_d129 : decode J_MSquareRows_read.2.1 129 = .ok (.putfield 282, 3) := by decide +kernel
theorem J_MSquareRows_read_d132 : decode J_MSquareRows_read.2.1 132 = .ok (.aload_n 0, 1) := by decide +kernel
theorem J_MSquareRows_read_d133 : decode J_MSquareRows_read.2.1 133 = .ok (.iconst 0, 1) := by decide +kernel
theorem J_MSquareRows_read_d134 : decode J_MSquareRows_read.2.1 134 = .ok (.putfield 288, 3) := by decide +kernel
theorem J_MSquareRows_read_d137 : decode J_MSquareRows_read.2.1 137 = .ok (.aload_n 0, 1) := by decide +kernel
theorem J_MSquareRows_read_d138 : decode J_MSquareRows_read.2.1 138 = .ok (.aload_n 0, 1) := by decide +kernel
theorem J_MSquareRows_read_d139 : decode J_MSquareRows_read.2.1 139 = .ok (.getfield 229, 3) := by decide +kernel
theorem J_MSquareRows_read_d142 : decode J_MSquareRows_read.2.1 142 = .ok (.invokevirtual 312, 3) := by decide +kernel
theorem J_MSquareRows_read_d145 : decode J_MSquareRows_read.2.1 145 = .ok (.aload_n 0, 1) := by decide +kernel
theorem J_MSquareRows_read_d146 : decode J_MSquareRows_read.2.1 146 = .ok (.getfield 285, 3) := by decide +kernel
theorem J_MSquareRows_read_d149 : decode J_MSquareRows_read.2.1 149 = .ok (.ifCond .le 5, 3) := by decide +kernel
theorem J_MSquareRows_read_d152 : decode J_MSquareRows_read.2.1 152 = .ok (.iconst (-1), 1) := by decide +kernel
theorem J_MSquareRows_read_d153 : decode J_MSquareRows_read.2.1 153 = .ok (.ireturn, 1) := by decide +kernel
theorem J_MSquareRows_read_d154 : decode J_MSquareRows_read.2.1 154 = .ok (.aload_n 0, 1) := by decide +kernel
theorem J_MSquareRows_read_d155 : decode J_MSquareRows_read.2.1 155 = .ok (.getfield 70, 3) := by decide +kernel
theorem J_MSquareRows_read_d158 : decode J_MSquareRows_read.2.1 158 = .ok (.iconst 0, 1) := by decide +kernel
theorem J_MSquareRows_read_d159 : decode J_MSquareRows_read.2.1 159 = .ok (.iload_n 3, 1) := by decide +kernel
theorem J_MSquareRows_read_d160 : decode J_MSquareRows_read.2.1 160 = .ok (.iastore, 1) := by decide +kernel
theorem J_MSquareRows_read_d161 : decode J_MSquareRows_read.2.1 161 = .ok (.aload_n 0, 1) := by decide +kernel
theorem J_MSquareRows_read_d162 : decode J_MSquareRows_read.2.1 162 = .ok (.getfield 70, 3) := by decide +kernel
theorem J_MSquareRows_read_d165 : decode J_MSquareRows_read.2.1 165 = .ok (.iconst 1, 1) := by decide +kernel
theorem J_MSquareRows_read_d166 : decode J_MSquareRows_read.2.1 166 = .ok (.iload_n 1, 1) := by decide +kernel
theorem J_MSquareRows_read_d167 : decode J_MSquareRows_read.2.1 167 = .ok (.bipush 7, 2) := by decide +kernel
theorem J_MSquareRows_read_d169 : decode J_MSquareRows_read.2.1 169 = .ok (.iand, 1) := by decide +kernel
theorem J_MSquareRows_read_d170 : decode J_MSquareRows_read.2.1 170 = .ok (.iastore, 1) := by decide +kernel
theorem J_MSquareRows_read_d171 : decode J_MSquareRows_read.2.1 171 = .ok (.aload_n 0, 1) := by decide +kernel
theorem J_MSquareRows_read_d172 : decode J_MSquareRows_read.2.1 172 = .ok (.getfield 70, 3) := by decide +kernel
theorem J_MSquareRows_read_d175 : decode J_MSquareRows_read.2.1 175 = .ok (.iconst 2, 1) := by decide +kernel
theorem J_MSquareRows_read_d176 : decode J_MSquareRows_read.2.1 176 = .ok (.iload 4, 2) := by decide +kernel
theorem J_MSquareRows_read_d178 : decode J_MSquareRows_read.2.1 178 = .ok (.iastore, 1) := by decide +kernel
theorem J_MSquareRows_read_d179 : decode J_MSquareRows_read.2.1 179 = .ok (.aload_n 0, 1) := by decide +kernel
theorem J_MSquareRows_read_d180 : decode J_MSquareRows_read.2.1 180 = .ok (.iconst 1, 1) := by decide +kernel
theorem J_MSquareRows_read_d181 : decode J_MSquareRows_read.2.1 181 = .ok (.putfield 303, 3) := by decide +kernel
theorem J_MSquareRows_read_d184 : decode J_MSquareRows_read.2.1 184 = .ok (.aload_n 0, 1) := by decide +kernel
theorem J_MSquareRows_read_d185 : decode J_MSquareRows_read.2.1 185 = .ok (.aload_n 0, 1) := by decide +kernel
theorem J_MSquareRows_read_d186 : decode J_MSquareRows_read.2.1 186 = .ok (.getfield 288, 3) := by decide +kernel
theorem J_MSquareRows_read_d189 : decode J_MSquareRows_read.2.1 189 = .ok (.putfield 77, 3) := by decide +kernel
theorem J_MSquareRows_read_d192 : decode J_MSquareRows_read.2.1 192 = .ok (.iconst 0, 1) := by decide +kernel
theorem J_MSquareRows_read_d193 : decode J_MSquareRows_read.2.1 193 = .ok (.istore 5, 2) := by decide +kernel
theorem J_MSquareRows_read_d195 : decode J_MSquareRows_read.2.1 195 = .ok (.iload 5, 2) := by decide +kernel
theorem J_MSquareRows_read_d197 : decode J_MSquareRows_read.2.1 197 = .ok (.aload_n 0, 1) := by decide +kernel
theorem J_MSquareRows_read_d198 : decode J_MSquareRows_read.2.1 198 = .ok (.getfield 77, 3) := by decide +kernel
theorem J_MSquareRows_read_d201 : decode J_MSquareRows_read.2.1 201 = .ok (.if_icmp .ge 23, 3) := by decide +kernel
theorem J_MSquareRows_read_d204 : decode J_MSquareRows_read.2.1 204 = .ok (.aload_n 0, 1) := by decide +kernel
theorem J_MSquareRows_read_d205 : decode J_MSquareRows_read.2.1 205 = .ok (.getfield 16, 3) := by decide +kernel
theorem J_MSquareRows_read_d208 : decode J_MSquareRows_read.2.1 208 = .ok (.iload 5, 2) := by decide +kernel
theorem J_MSquareRows_read_d210 : decode J_MSquareRows_read.2.1 210 = .ok (.aload_n 0, 1) := by decide +kernel
theorem J_MSquareRows_read_d211 : decode J_MSquareRows_read.2.1 211 = .ok (.getfield 67, 3) := by decide +kernel
theorem J_MSquareRows_read_d214 : decode J_MSquareRows_read.2.1 214 = .ok (.iload 5, 2) := by decide +kernel
theorem J_MSquareRows_read_d216 : decode J_MSquareRows_read.2.1 216 = .ok (.iaload, 1) := by decide +kernel
theorem J_MSquareRows_read_d217 : decode J_MSquareRows_read.2.1 217 = .ok (.iastore, 1) := by decide +kernel
theorem J_MSquareRows_read_d218 : decode J_MSquareRows_read.2.1 218 = .ok (.iinc 5 1, 3) := by decide +kernel
theorem J_MSquareRows_read_d221 : decode J_MSquareRows_read.2.1 221 = .ok (.goto (-26), 3) := by decide +kernel
theorem J_MSquareRows_read_d224 : decode J_MSquareRows_read.2.1 224 = .ok (.aload_n 0, 1) := by decide +kernel
theorem J_MSquareRows_read_d225 : decode J_MSquareRows_read.2.1 225 = .ok (.getfield 77, 3) := by decide +kernel
theorem J_MSquareRows_read_d228 : decode J_MSquareRows_read.2.1 228 = .ok (.ireturn, 1) := by decide +kernel
theorem f_MSquareRows_read_ok {L : Nat} {xs : Nat → Int32} {dep : Nat} {w : Bool} {M : im_M} {Q : Int32 × im_M → Prop} (hM : lw_S w M) (h : ed (f_MSquareRows_read M) Q) : ia (tb_G L xs) (dep + 6) J_MSquareRows_read (rwI w Q) (0, lv_args 0 [.ref 108], [], M) := by
  have hS : im_St (tb_G L xs) (dep + 6) J_MSquareRows_read (ia (tb_G L xs) (dep + 6) J_MSquareRows_read (rwI w Q)) := ia_St
  unfold f_MSquareRows_read at h
  have l0 : im_lk (lv_args 0 [.ref 108]) 0 = some (.ref 108) := rfl
  refine iq_aload_n hS 1 J_MSquareRows_read_d0 l0 rfl ?_
  refine iq_iconst hS 2 J_MSquareRows_read_d1 (v := 0) (by decide +kernel) rfl ?_
  refine iq_putI hS 5 J_MSquareRows_read_d2 lf_16_73 (Or.inl rfl) rfl (ka_108 hM) rfl ?_
  refine iq_aload_n hS 6 J_MSquareRows_read_d5 l0 rfl ?_
  refine iq_iconst hS 7 J_MSquareRows_read_d6 (v := 0) (by decide +kernel) rfl ?_
  refine iq_putI hS 10 J_MSquareRows_read_d7 lf_16_285 (Or.inl rfl) rfl (ka_108 (lw_sI hM)) rfl ?_
  refine iq_aload_n hS 11 J_MSquareRows_read_d10 l0 rfl ?_
  refine iq_getI hS 14 J_MSquareRows_read_d11 lf_16_229 (Or.inl rfl) (ka_108 (lw_sI (lw_sI hM))) rfl ?_
  refine iq_if_ne hS 17 J_MSquareRows_read_d14 (t := 19) rfl (fun q14 => ?_) rfl (fun q14 => ?_)
  · replace h := ed_pos q14 h
    refine iq_aload_n hS 20 J_MSquareRows_read_d19 l0 rfl ?_
    refine iq_iconst hS 21 J_MSquareRows_read_d20 (v := 0) (by decide +kernel) rfl ?_
    refine iq_putZ hS 24 J_MSquareRows_read_d21 lf_16_303 (Or.inl rfl) rfl (ka_108 (lw_sI (lw_sI hM))) (Or.inl rfl) rfl ?_
    refine iq_aload_n hS 25 J_MSquareRows_read_d24 l0 rfl ?_
    obtain ⟨Q1, hQ1, h⟩ := bd1_ed h
    refine iq_cpI hS 28 J_MSquareRows_read_d25 rfl (pr_inst (vs := []) lc_16_306 lT_489 rfl rfl (by decide) (by decide) rfl (Nat.le_of_ble_eq_true rfl) (Nat.le_of_ble_eq_true rfl) (fun _ => Or.inl (pr_b (ka_108 (lw_sI (lw_sI (lw_sI hM)))) (by decide) rfl))) (f_MSquareRows_formNumberRead_ok (dep := dep + 3) (lw_sI (lw_sI (lw_sI hM))) h) rfl ?_
    intro x1 h
    replace h := hQ1 _ h
    refine iq_istore_n hS 29 J_MSquareRows_read_d28 (by decide) rfl ?_
    refine iq_iload_n hS 30 J_MSquareRows_read_d29 lk_1s rfl ?_
    refine iq_if_ge hS 33 J_MSquareRows_read_d30 (t := 40) rfl (fun q30 => ?_) rfl (fun q30 => ?_)
    · replace h := ed_pos q30 h
      refine iq_iload_n hS 41 J_MSquareRows_read_d40 lk_1s rfl ?_
      refine iq_iconst hS 42 J_MSquareRows_read_d41 (v := 3) (by decide +kernel) rfl ?_
      refine iq_ishr hS 43 J_MSquareRows_read_d42 rfl ?_
      refine iq_istore_n hS 44 J_MSquareRows_read_d43 (by decide) rfl ?_
      refine iq_iload_n hS 45 J_MSquareRows_read_d44 lk_1s rfl ?_
      refine iq_iconst hS 46 J_MSquareRows_read_d45 (v := 1) (by decide +kernel) rfl ?_
      have J2 : ∀ (z3 : Int32) (L' : List (Nat × Value)), z3 = ((if ¬ (x1 >>> (3 &&& 31 : Int32) : Int32) = 1 then (if ¬ (x1 >>> (3 &&& 31 : Int32) : Int32) = 0 then (if ¬ (x1 >>> (3 &&& 31 : Int32) : Int32) = 3 then 3 else 2) else 1) else 0) : Int32) → im_lk L' 0 = some (.ref 108) → im_lk L' 1 = some (.int x1) → ia (tb_G L xs) (dep + 6) J_MSquareRows_read (rwI w Q) (71, L', [.int z3], (im_setI (im_setI (im_setI M 108 0 0) 108 31 0) 108 32 0)) := by
        intro z3 L' e4 l5 l6
        subst e4
        refine iq_istore_n hS 72 J_MSquareRows_read_d71 (by decide) rfl ?_
        refine iq_aload_n hS 73 J_MSquareRows_read_d72 (lk_1r l5 (by decide)) rfl ?_
        refine iq_iload_n hS 74 J_MSquareRows_read_d73 (lk_1i l6 (by decide)) rfl ?_
        refine iq_bipush hS 76 J_MSquareRows_read_d74 (v := 7) (by decide +kernel) rfl ?_
        refine iq_iand hS 77 J_MSquareRows_read_d76 rfl ?_
        refine iq_iconst hS 78 J_MSquareRows_read_d77 (v := 1) (by decide +kernel) rfl ?_
        refine iq_aload_n hS 79 J_MSquareRows_read_d78 (lk_1r l5 (by decide)) rfl ?_
        refine iq_getI hS 82 J_MSquareRows_read_d79 lf_16_229 (Or.inl rfl) (ka_108 (lw_sI (lw_sI (lw_sI hM)))) rfl ?_
        obtain ⟨Q7, hQ7, h⟩ := bd1_ed h
        refine iq_cpI hS 85 J_MSquareRows_read_d82 rfl (pr_stat (vs := [_]) lc_16_82 lT_402 rfl rfl (by decide) rfl (Nat.le_of_ble_eq_true rfl) (Nat.le_of_ble_eq_true rfl)) (f_MSquareRows_allCodewords_ok (dep := dep + 5) (lw_sI (lw_sI (lw_sI hM))) h) rfl ?_
        intro x7 h
        replace h := hQ7 _ h
        obtain ⟨Q8, hQ8, h⟩ := bd1_ed h
        refine iq_cwV hS 88 J_MSquareRows_read_d85 rfl (pr_inst (vs := [_, _, _]) lc_16_238 lT_428 rfl rfl (by decide) (by decide) rfl (Nat.le_of_ble_eq_true rfl) (Nat.le_of_ble_eq_true rfl) (fun _ => Or.inl (pr_b (ka_108 (lw_sI (lw_sI (lw_sI hM)))) (by decide) rfl))) (f_MSquareRows_goThrough_ok (dep := dep + 4) (lw_sI (lw_sI (lw_sI hM))) h) rfl ?_
        intro M8 hM8 h
        replace h := hQ8 _ h
        refine iq_aload_n hS 89 J_MSquareRows_read_d88 (lk_1r l5 (by decide)) rfl ?_
        refine iq_aload_n hS 90 J_MSquareRows_read_d89 (lk_1r l5 (by decide)) rfl ?_
        refine iq_getI hS 93 J_MSquareRows_read_d90 lf_16_229 (Or.inl rfl) (ka_108 hM8) rfl ?_
        refine iq_iload_n hS 94 J_MSquareRows_read_d93 lk_1s rfl ?_
        obtain ⟨Q9, hQ9, h⟩ := bd2_ed h
        refine iq_cwI hS 97 J_MSquareRows_read_d94 rfl (pr_inst (vs := [_, _]) lc_16_309 lT_492 rfl rfl (by decide) (by decide) rfl (Nat.le_of_ble_eq_true rfl) (Nat.le_of_ble_eq_true rfl) (fun _ => Or.inl (pr_b (ka_108 hM8) (by decide) rfl))) (f_MSquareRows_allBlocks_ok (dep := dep + 0) hM8 h) rfl ?_
        intro x9 M9 hM9 h
        replace h := hQ9 _ _ h
        refine iq_istore hS 99 J_MSquareRows_read_d97 (by decide) rfl ?_
        refine iq_iload hS 101 J_MSquareRows_read_d99 lk_1s rfl ?_
        refine iq_if_ge hS 104 J_MSquareRows_read_d101 (t := 111) rfl (fun q101 => ?_) rfl (fun q101 => ?_)
        · replace h := ed_pos q101 h
          refine iq_aload_n hS 112 J_MSquareRows_read_d111 (lk_1r (lk_1r l5 (by decide)) (by decide)) rfl ?_
          refine iq_iconst hS 113 J_MSquareRows_read_d112 (v := 0) (by decide +kernel) rfl ?_
          refine iq_putI hS 116 J_MSquareRows_read_d113 lf_16_279 (Or.inl rfl) rfl (ka_108 hM9) rfl ?_
          refine iq_aload_n hS 117 J_MSquareRows_read_d116 (lk_1r (lk_1r l5 (by decide)) (by decide)) rfl ?_
          refine iq_bipush hS 119 J_MSquareRows_read_d117 (v := 8) (by decide +kernel) rfl ?_
          refine iq_aload_n hS 120 J_MSquareRows_read_d119 (lk_1r (lk_1r l5 (by decide)) (by decide)) rfl ?_
          refine iq_aload_n hS 121 J_MSquareRows_read_d120 (lk_1r (lk_1r l5 (by decide)) (by decide)) rfl ?_
          refine iq_getI hS 124 J_MSquareRows_read_d121 lf_16_229 (Or.inl rfl) (ka_108 (lw_sI hM9)) rfl ?_
          refine iq_iload_n hS 125 J_MSquareRows_read_d124 (lk_1i lk_1s (by decide)) rfl ?_
          obtain ⟨Q10, hQ10, h⟩ := bd1_ed h
          refine iq_cpI hS 128 J_MSquareRows_read_d125 rfl (pr_inst (vs := [_, _]) lc_16_141 lT_401 rfl rfl (by decide) (by decide) rfl (Nat.le_of_ble_eq_true rfl) (Nat.le_of_ble_eq_true rfl) (fun _ => Or.inl (pr_b (ka_108 (lw_sI hM9)) (by decide) rfl))) (f_MSquareRows_holds_ok (dep := dep + 4) (lw_sI hM9) h) rfl ?_
          intro x10 h
          replace h := hQ10 _ h
          refine iq_imul hS 129 J_MSquareRows_read_d128 rfl ?_
          refine iq_putI hS 132 J_MSquareRows_read_d129 lf_16_282 (Or.inl rfl) rfl (ka_108 (lw_sI hM9)) rfl ?_
          refine iq_aload_n hS 133 J_MSquareRows_read_d132 (lk_1r (lk_1r l5 (by decide)) (by decide)) rfl ?_
          refine iq_iconst hS 134 J_MSquareRows_read_d133 (v := 0) (by decide +kernel) rfl ?_
          refine iq_putI hS 137 J_MSquareRows_read_d134 lf_16_288 (Or.inl rfl) rfl (ka_108 (lw_sI (lw_sI hM9))) rfl ?_
          refine iq_aload_n hS 138 J_MSquareRows_read_d137 (lk_1r (lk_1r l5 (by decide)) (by decide)) rfl ?_
          refine iq_aload_n hS 139 J_MSquareRows_read_d138 (lk_1r (lk_1r l5 (by decide)) (by decide)) rfl ?_
          refine iq_getI hS 142 J_MSquareRows_read_d139 lf_16_229 (Or.inl rfl) (ka_108 (lw_sI (lw_sI (lw_sI hM9)))) rfl ?_
          obtain ⟨Q11, hQ11, h⟩ := bd1_ed h
          refine iq_cwV hS 145 J_MSquareRows_read_d142 rfl (pr_inst (vs := [_]) lc_16_312 lT_500 rfl rfl (by decide) (by decide) rfl (Nat.le_of_ble_eq_true rfl) (Nat.le_of_ble_eq_true rfl) (fun _ => Or.inl (pr_b (ka_108 (lw_sI (lw_sI (lw_sI hM9)))) (by decide) rfl))) (f_MSquareRows_segments_ok (dep := dep + 3) (lw_sI (lw_sI (lw_sI hM9))) h) rfl ?_
          intro M11 hM11 h
          replace h := hQ11 _ h
          refine iq_aload_n hS 146 J_MSquareRows_read_d145 (lk_1r (lk_1r l5 (by decide)) (by decide)) rfl ?_
          refine iq_getI hS 149 J_MSquareRows_read_d146 lf_16_285 (Or.inl rfl) (ka_108 hM11) rfl ?_
          refine iq_if_le hS 152 J_MSquareRows_read_d149 (t := 154) rfl (fun q149 => ?_) rfl (fun q149 => ?_)
          · replace h := ed_pos q149 h
            refine iq_aload_n hS 155 J_MSquareRows_read_d154 (lk_1r (lk_1r l5 (by decide)) (by decide)) rfl ?_
            refine iq_getR hS 158 J_MSquareRows_read_d155 lf_16_70 (Or.inr ⟨_, rfl⟩) (ka_108 hM11) (ra_108_33 hM11) rfl ?_
            refine iq_iconst hS 159 J_MSquareRows_read_d158 (v := 0) (by decide +kernel) rfl ?_
            refine iq_iload_n hS 160 J_MSquareRows_read_d159 (lk_1i lk_1s (by decide)) rfl ?_
            obtain ⟨g160, h⟩ := ed_gd h
            refine iq_iastore hS 161 J_MSquareRows_read_d160 ⟨(ka_129 hM11).1, (ka_129 hM11).2, g160.1, ix_lt (kl_129 hM11) g160.2⟩ rfl ?_
            refine iq_aload_n hS 162 J_MSquareRows_read_d161 (lk_1r (lk_1r l5 (by decide)) (by decide)) rfl ?_
            refine iq_getR hS 165 J_MSquareRows_read_d162 lf_16_70 (Or.inr ⟨_, rfl⟩) (ka_108 (lw_sI hM11)) (ra_108_33 (lw_sI hM11)) rfl ?_
            refine iq_iconst hS 166 J_MSquareRows_read_d165 (v := 1) (by decide +kernel) rfl ?_
            refine iq_iload_n hS 167 J_MSquareRows_read_d166 (lk_1i (lk_1i l6 (by decide)) (by decide)) rfl ?_
            refine iq_bipush hS 169 J_MSquareRows_read_d167 (v := 7) (by decide +kernel) rfl ?_
            refine iq_iand hS 170 J_MSquareRows_read_d169 rfl ?_
            obtain ⟨g170, h⟩ := ed_gd h
            refine iq_iastore hS 171 J_MSquareRows_read_d170 ⟨(ka_129 (lw_sI hM11)).1, (ka_129 (lw_sI hM11)).2, g170.1, ix_lt (kl_129 (lw_sI hM11)) g170.2⟩ rfl ?_
            refine iq_aload_n hS 172 J_MSquareRows_read_d171 (lk_1r (lk_1r l5 (by decide)) (by decide)) rfl ?_
            refine iq_getR hS 175 J_MSquareRows_read_d172 lf_16_70 (Or.inr ⟨_, rfl⟩) (ka_108 (lw_sI (lw_sI hM11))) (ra_108_33 (lw_sI (lw_sI hM11))) rfl ?_
            refine iq_iconst hS 176 J_MSquareRows_read_d175 (v := 2) (by decide +kernel) rfl ?_
            refine iq_iload hS 178 J_MSquareRows_read_d176 lk_1s rfl ?_
            obtain ⟨g178, h⟩ := ed_gd h
            refine iq_iastore hS 179 J_MSquareRows_read_d178 ⟨(ka_129 (lw_sI (lw_sI hM11))).1, (ka_129 (lw_sI (lw_sI hM11))).2, g178.1, ix_lt (kl_129 (lw_sI (lw_sI hM11))) g178.2⟩ rfl ?_
            refine iq_aload_n hS 180 J_MSquareRows_read_d179 (lk_1r (lk_1r l5 (by decide)) (by decide)) rfl ?_
            refine iq_iconst hS 181 J_MSquareRows_read_d180 (v := 1) (by decide +kernel) rfl ?_
            refine iq_putZ hS 184 J_MSquareRows_read_d181 lf_16_303 (Or.inl rfl) rfl (ka_108 (lw_sI (lw_sI (lw_sI hM11)))) (Or.inr rfl) rfl ?_
            refine iq_aload_n hS 185 J_MSquareRows_read_d184 (lk_1r (lk_1r l5 (by decide)) (by decide)) rfl ?_
            refine iq_aload_n hS 186 J_MSquareRows_read_d185 (lk_1r (lk_1r l5 (by decide)) (by decide)) rfl ?_
            refine iq_getI hS 189 J_MSquareRows_read_d186 lf_16_288 (Or.inl rfl) (ka_108 (lw_sI (lw_sI (lw_sI (lw_sI hM11))))) rfl ?_
            refine iq_putI hS 192 J_MSquareRows_read_d189 lf_16_77 (Or.inl rfl) rfl (ka_108 (lw_sI (lw_sI (lw_sI (lw_sI hM11))))) rfl ?_
            refine iq_iconst hS 193 J_MSquareRows_read_d192 (v := 0) (by decide +kernel) rfl ?_
            refine iq_istore hS 195 J_MSquareRows_read_d193 (by decide) rfl ?_
            obtain ⟨Q12, hQ12, h⟩ := bd1_ed h
            have K12 : ∀ (M13 : im_M) (L' : List (Nat × Value)), lw_S w M13 → im_lk L' 0 = some (.ref 108) → Q12 M13 → ia (tb_G L xs) (dep + 6) J_MSquareRows_read (rwI w Q) (224, L', [], M13) := by
              intro M13 L' hM13 l14 h
              replace h := hQ12 _ h
              refine iq_aload_n hS 225 J_MSquareRows_read_d224 l14 rfl ?_
              refine iq_getI hS 228 J_MSquareRows_read_d225 lf_16_77 (Or.inl rfl) (ka_108 hM13) rfl ?_
              exact iq_iret J_MSquareRows_read_d228 rfl rfl ⟨_, rfl, hM13, ed_some h⟩
            obtain ⟨r12, hr12, hq12⟩ := h
            obtain ⟨n12, hn12⟩ := lp_n hr12
            have I12 : ∀ (n : Nat) (x15 : Int32) (M16 : im_M) (L' : List (Nat × Value)), lw_S w M16 → im_lk L' 0 = some (.ref 108) → im_lk L' 5 = some (.int x15) → lpn (uc2 (f_MSquareRows_read_L195)) n (x15, M16) = some r12 → ia (tb_G L xs) (dep + 6) J_MSquareRows_read (rwI w Q) (195, L', [], M16) := by
              intro n
              induction n with
              | zero => intro x15 M16 L' hM16 l17 l18 hn; exact (lpn_0 hn).elim
              | succ n ih =>
                intro x15 M16 L' hM16 l17 l18 hn
                have h := lpn_ed2 hn
                unfold f_MSquareRows_read_L195 at h
                refine iq_iload hS 197 J_MSquareRows_read_d195 l18 rfl ?_
                refine iq_aload_n hS 198 J_MSquareRows_read_d197 l17 rfl ?_
                refine iq_getI hS 201 J_MSquareRows_read_d198 lf_16_77 (Or.inl rfl) (ka_108 hM16) rfl ?_
                refine iq_icmp_ge hS 204 J_MSquareRows_read_d201 (t := 224) rfl (fun q201 => ?_) rfl (fun q201 => ?_)
                · replace h := ed_pos q201 h
                  exact K12 _ _ hM16 l17 (lq_r h hq12)
                · replace h := ed_neg q201 h
                  refine iq_aload_n hS 205 J_MSquareRows_read_d204 l17 rfl ?_
                  refine iq_getR hS 208 J_MSquareRows_read_d205 lf_16_16 (Or.inr ⟨_, rfl⟩) (ka_108 hM16) (ra_108_3 hM16) rfl ?_
                  refine iq_iload hS 210 J_MSquareRows_read_d208 l18 rfl ?_
                  refine iq_aload_n hS 211 J_MSquareRows_read_d210 l17 rfl ?_
                  refine iq_getR hS 214 J_MSquareRows_read_d211 lf_16_67 (Or.inr ⟨_, rfl⟩) (ka_108 hM16) (ra_108_27 hM16) rfl ?_
                  refine iq_iload hS 216 J_MSquareRows_read_d214 l18 rfl ?_
                  obtain ⟨g216, h⟩ := ed_gd h
                  refine iq_iaload hS 217 J_MSquareRows_read_d216 ⟨(ka_128 hM16).1, (ka_128 hM16).2, g216.1, ix_lt (kl_128 hM16) g216.2⟩ rfl ?_
                  obtain ⟨g217, h⟩ := ed_gd h
                  refine iq_iastore hS 218 J_MSquareRows_read_d217 ⟨(ka_111 hM16).1, (ka_111 hM16).2, g217.1, ix_lt (kl_111 hM16) g217.2⟩ rfl ?_
                  refine iq_iincv hS 221 J_MSquareRows_read_d218 (c := 1) (by decide +kernel) l18 (by decide) rfl ?_
                  refine iq_goto hS J_MSquareRows_read_d221 (t := 195) rfl ?_
                  exact ih _ _ _ (lw_sI hM16) (lk_1r l17 (by decide)) lk_1s (lq_l h)
            exact I12 n12 _ _ _ (lw_sI (lw_sI (lw_sI (lw_sI (lw_sI hM11))))) (lk_1r (lk_1r (lk_1r l5 (by decide)) (by decide)) (by decide)) lk_1s hn12
          · replace h := ed_neg q149 h
            refine iq_iconst hS 153 J_MSquareRows_read_d152 (v := (-1)) (by decide +kernel) rfl ?_
            exact iq_iret J_MSquareRows_read_d153 rfl rfl ⟨_, rfl, hM11, ed_some h⟩
        · replace h := ed_neg q101 h
          refine iq_aload_n hS 105 J_MSquareRows_read_d104 (lk_1r (lk_1r l5 (by decide)) (by decide)) rfl ?_
          refine iq_iconst hS 106 J_MSquareRows_read_d105 (v := 2) (by decide +kernel) rfl ?_
          refine iq_putI hS 109 J_MSquareRows_read_d106 lf_16_285 (Or.inl rfl) rfl (ka_108 hM9) rfl ?_
          refine iq_iconst hS 110 J_MSquareRows_read_d109 (v := (-1)) (by decide +kernel) rfl ?_
          exact iq_iret J_MSquareRows_read_d110 rfl rfl ⟨_, rfl, (lw_sI hM9), ed_some h⟩
      refine iq_icmp_ne hS 49 J_MSquareRows_read_d46 (t := 53) rfl (fun q46 => ?_) rfl (fun q46 => ?_)
      · refine iq_iload_n hS 54 J_MSquareRows_read_d53 lk_1s rfl ?_
        refine iq_if_ne hS 57 J_MSquareRows_read_d54 (t := 61) rfl (fun q54 => ?_) rfl (fun q54 => ?_)
        · refine iq_iload_n hS 62 J_MSquareRows_read_d61 lk_1s rfl ?_
          refine iq_iconst hS 63 J_MSquareRows_read_d62 (v := 3) (by decide +kernel) rfl ?_
          refine iq_icmp_ne hS 66 J_MSquareRows_read_d63 (t := 70) rfl (fun q63 => ?_) rfl (fun q63 => ?_)
          · refine iq_iconst hS 71 J_MSquareRows_read_d70 (v := 3) (by decide +kernel) rfl ?_
            exact J2 _ _ (by simp only [if_pos q46, if_pos q54, if_pos q63]) (lk_1r (lk_1r l0 (by decide)) (by decide)) (lk_1i lk_1s (by decide))
          · refine iq_iconst hS 67 J_MSquareRows_read_d66 (v := 2) (by decide +kernel) rfl ?_
            refine iq_goto hS J_MSquareRows_read_d67 (t := 71) rfl ?_
            exact J2 _ _ (by simp only [if_pos q46, if_pos q54, if_neg q63]) (lk_1r (lk_1r l0 (by decide)) (by decide)) (lk_1i lk_1s (by decide))
        · refine iq_iconst hS 58 J_MSquareRows_read_d57 (v := 1) (by decide +kernel) rfl ?_
          refine iq_goto hS J_MSquareRows_read_d58 (t := 71) rfl ?_
          exact J2 _ _ (by simp only [if_pos q46, if_neg q54]) (lk_1r (lk_1r l0 (by decide)) (by decide)) (lk_1i lk_1s (by decide))
      · refine iq_iconst hS 50 J_MSquareRows_read_d49 (v := 0) (by decide +kernel) rfl ?_
        refine iq_goto hS J_MSquareRows_read_d50 (t := 71) rfl ?_
        exact J2 _ _ (by simp only [if_neg q46]) (lk_1r (lk_1r l0 (by decide)) (by decide)) (lk_1i lk_1s (by decide))
    · replace h := ed_neg q30 h
      refine iq_aload_n hS 34 J_MSquareRows_read_d33 (lk_1r l0 (by decide)) rfl ?_
      refine iq_iconst hS 35 J_MSquareRows_read_d34 (v := 1) (by decide +kernel) rfl ?_
      refine iq_putI hS 38 J_MSquareRows_read_d35 lf_16_285 (Or.inl rfl) rfl (ka_108 (lw_sI (lw_sI (lw_sI hM)))) rfl ?_
      refine iq_iconst hS 39 J_MSquareRows_read_d38 (v := (-1)) (by decide +kernel) rfl ?_
      exact iq_iret J_MSquareRows_read_d39 rfl rfl ⟨_, rfl, (lw_sI (lw_sI (lw_sI (lw_sI hM)))), ed_some h⟩
  · replace h := ed_neg q14 h
    refine iq_iconst hS 18 J_MSquareRows_read_d17 (v := (-1)) (by decide +kernel) rfl ?_
    exact iq_iret J_MSquareRows_read_d18 rfl rfl ⟨_, rfl, (lw_sI (lw_sI hM)), ed_some h⟩
theorem f_MSquareRows_read_fr {M : im_M} {r : Int32 × im_M} (h : f_MSquareRows_read M = some r) : fr 1190331458670679966426802018225542397952 [(108, 0), (108, 4), (108, 28), (108, 29), (108, 30), (108, 31), (108, 32)] M r.2 := by
  replace h : ed (f_MSquareRows_read M) (fun x => x = r) := ⟨r, h, rfl⟩
  unfold f_MSquareRows_read at h
  by_cases q14 : ¬ (im_i (im_setI (im_setI M 108 0 0) 108 31 0) 108 7) = 0
  · replace h := ed_pos q14 h
    obtain ⟨Q1, hQ1, h⟩ := bd1_ed h
    obtain ⟨x1, e1, h⟩ := h
    replace h := hQ1 _ h
    by_cases q30 : 0 ≤ x1
    · replace h := ed_pos q30 h
      obtain ⟨Q3, hQ3, h⟩ := bd1_ed h
      obtain ⟨x3, e3, h⟩ := h
      replace h := hQ3 _ h
      obtain ⟨Q4, hQ4, h⟩ := bd1_ed h
      obtain ⟨M4, e4, h⟩ := h
      replace h := hQ4 _ h
      obtain ⟨Q5, hQ5, h⟩ := bd2_ed h
      obtain ⟨⟨x5, M5⟩, e5, h⟩ := h
      replace h := hQ5 _ _ h
      by_cases q101 : 0 ≤ x5
      · replace h := ed_pos q101 h
        obtain ⟨Q6, hQ6, h⟩ := bd1_ed h
        obtain ⟨x6, e6, h⟩ := h
        replace h := hQ6 _ h
        obtain ⟨Q7, hQ7, h⟩ := bd1_ed h
        obtain ⟨M7, e7, h⟩ := h
        replace h := hQ7 _ h
        by_cases q149 : (im_i M7 108 31) ≤ 0
        · replace h := ed_pos q149 h
          obtain ⟨g160, h⟩ := ed_gd h
          obtain ⟨g170, h⟩ := ed_gd h
          obtain ⟨g178, h⟩ := ed_gd h
          obtain ⟨Q8, hQ8, h⟩ := bd1_ed h
          have K8 : ∀ (M9 : im_M), fr 1190331458670679966426802018225542397952 [(108, 0), (108, 4), (108, 28), (108, 29), (108, 30), (108, 31), (108, 32)] M M9 → Q8 M9 → fr 1190331458670679966426802018225542397952 [(108, 0), (108, 4), (108, 28), (108, 29), (108, 30), (108, 31), (108, 32)] M r.2 := by
            intro M9 hM9 h
            replace h := hQ8 _ h
            exact fr_ret h hM9
          obtain ⟨r8, hr8, hq8⟩ := h
          obtain ⟨n8, hn8⟩ := lp_n hr8
          have I8 : ∀ (n : Nat) (x10 : Int32) (M11 : im_M), fr 1190331458670679966426802018225542397952 [(108, 0), (108, 4), (108, 28), (108, 29), (108, 30), (108, 31), (108, 32)] M M11 → lpn (uc2 (f_MSquareRows_read_L195)) n (x10, M11) = some r8 → fr 1190331458670679966426802018225542397952 [(108, 0), (108, 4), (108, 28), (108, 29), (108, 30), (108, 31), (108, 32)] M r.2 := by
            intro n
            induction n with
            | zero => intro x10 M11 hM11 hn; exact (lpn_0 hn).elim
            | succ n ih =>
              intro x10 M11 hM11 hn
              have h := lpn_ed2 hn
              unfold f_MSquareRows_read_L195 at h
              by_cases q201 : (im_i M11 108 4) ≤ x10
              · replace h := ed_pos q201 h
                exact K8 _ hM11 (lq_r h hq8)
              · replace h := ed_neg q201 h
                obtain ⟨g216, h⟩ := ed_gd h
                obtain ⟨g217, h⟩ := ed_gd h
                exact ih _ _ (fr_I (by decide) hM11) (lq_l h)
          exact I8 n8 _ _ (fr_F (by decide) (fr_F (by decide) (fr_I (by decide) (fr_I (by decide) (fr_I (by decide) (fr_tr (fr_mono (by decide) (by decide +kernel) (f_MSquareRows_segments_fr e7)) (fr_F (by decide) (fr_F (by decide) (fr_F (by decide) (fr_tr (fr_mono (by decide) (by decide +kernel) (f_MSquareRows_allBlocks_fr e5)) (fr_tr (fr_mono (by decide) (by decide +kernel) (f_MSquareRows_goThrough_fr e4)) (fr_F (by decide) (fr_F (by decide) (fr_F (by decide) fr_refl)))))))))))))) hn8
        · replace h := ed_neg q149 h
          exact fr_ret h (fr_tr (fr_mono (by decide) (by decide +kernel) (f_MSquareRows_segments_fr e7)) (fr_F (by decide) (fr_F (by decide) (fr_F (by decide) (fr_tr (fr_mono (by decide) (by decide +kernel) (f_MSquareRows_allBlocks_fr e5)) (fr_tr (fr_mono (by decide) (by decide +kernel) (f_MSquareRows_goThrough_fr e4)) (fr_F (by decide) (fr_F (by decide) (fr_F (by decide) fr_refl)))))))))
      · replace h := ed_neg q101 h
        exact fr_ret h (fr_F (by decide) (fr_tr (fr_mono (by decide) (by decide +kernel) (f_MSquareRows_allBlocks_fr e5)) (fr_tr (fr_mono (by decide) (by decide +kernel) (f_MSquareRows_goThrough_fr e4)) (fr_F (by decide) (fr_F (by decide) (fr_F (by decide) fr_refl))))))
    · replace h := ed_neg q30 h
      exact fr_ret h (fr_F (by decide) (fr_F (by decide) (fr_F (by decide) (fr_F (by decide) fr_refl))))
  · replace h := ed_neg q14 h
    exact fr_ret h (fr_F (by decide) (fr_F (by decide) fr_refl))
noncomputable def f_MSquareRows_at (p0 : Int32) (M : im_M) : Option (Int32 × im_M) := jn0 (fun (_ : Unit) => some ((-1), (im_setI M 108 0 0))) fun k1 => if p0 < 0 then k1 () else if p0 < (im_i (im_setI M 108 0 0) 108 4) then gd (inb p0 3000) <| some ((im_i (im_setI M 108 0 0) 111 (Int32.toNatClampNeg p0)), (im_setI M 108 0 0)) else k1 ()
theorem J_MSquareRows_at_d0 : decode J_MSquareRows_at.2.1 0 = .ok (.aload_n 0, 1) := by decide +kernel
theorem J_MSquareRows_at_d1 : decode J_MSquareRows_at.2.1 1 = .ok (.iconst 0, 1) := by decide +kernel
theorem J_MSquareRows_at_d2 : decode J_MSquareRows_at.2.1 2 = .ok (.putfield 73, 3) := by decide +kernel
theorem J_MSquareRows_at_d5 : decode J_MSquareRows_at.2.1 5 = .ok (.iload_n 1, 1) := by decide +kernel
theorem J_MSquareRows_at_d6 : decode J_MSquareRows_at.2.1 6 = .ok (.ifCond .lt 11, 3) := by decide +kernel
theorem J_MSquareRows_at_d9 : decode J_MSquareRows_at.2.1 9 = .ok (.iload_n 1, 1) := by decide +kernel
theorem J_MSquareRows_at_d10 : decode J_MSquareRows_at.2.1 10 = .ok (.aload_n 0, 1) := by decide +kernel
theorem J_MSquareRows_at_d11 : decode J_MSquareRows_at.2.1 11 = .ok (.getfield 77, 3) := by decide +kernel
theorem J_MSquareRows_at_d14 : decode J_MSquareRows_at.2.1 14 = .ok (.if_icmp .lt 7, 3) := by decide +kernel
theorem J_MSquareRows_at_d17 : decode J_MSquareRows_at.2.1 17 = .ok (.iconst (-1), 1) := by decide +kernel
theorem J_MSquareRows_at_d18 : decode J_MSquareRows_at.2.1 18 = .ok (.goto 9, 3) := by decide +kernel
theorem J_MSquareRows_at_d21 : decode J_MSquareRows_at.2.1 21 = .ok (.aload_n 0, 1) := by decide +kernel
theorem J_MSquareRows_at_d22 : decode J_MSquareRows_at.2.1 22 = .ok (.getfield 16, 3) := by decide +kernel
theorem J_MSquareRows_at_d25 : decode J_MSquareRows_at.2.1 25 = .ok (.iload_n 1, 1) := by decide +kernel
theorem J_MSquareRows_at_d26 : decode J_MSquareRows_at.2.1 26 = .ok (.iaload, 1) := by decide +kernel
theorem J_MSquareRows_at_d27 : decode J_MSquareRows_at.2.1 27 = .ok (.ireturn, 1) := by decide +kernel
theorem f_MSquareRows_at_ok {L : Nat} {xs : Nat → Int32} {dep : Nat} {w : Bool} {p0 : Int32} {M : im_M} {Q : Int32 × im_M → Prop} (hM : lw_S w M) (h : ed (f_MSquareRows_at p0 M) Q) : ia (tb_G L xs) dep J_MSquareRows_at (rwI w Q) (0, lv_args 0 [.ref 108, .int p0], [], M) := by
  have hS : im_St (tb_G L xs) dep J_MSquareRows_at (ia (tb_G L xs) dep J_MSquareRows_at (rwI w Q)) := ia_St
  unfold f_MSquareRows_at at h
  have l0 : im_lk (lv_args 0 [.ref 108, .int p0]) 0 = some (.ref 108) := rfl
  have l1 : im_lk (lv_args 0 [.ref 108, .int p0]) 1 = some (.int p0) := rfl
  refine iq_aload_n hS 1 J_MSquareRows_at_d0 l0 rfl ?_
  refine iq_iconst hS 2 J_MSquareRows_at_d1 (v := 0) (by decide +kernel) rfl ?_
  refine iq_putI hS 5 J_MSquareRows_at_d2 lf_16_73 (Or.inl rfl) rfl (ka_108 hM) rfl ?_
  refine iq_iload_n hS 6 J_MSquareRows_at_d5 l1 rfl ?_
  obtain ⟨k1, Q1, hQ1, hk1, h⟩ := jn0_ed h
  have J1 : ∀  (L' : List (Nat × Value)), Q1 () → ia (tb_G L xs) dep J_MSquareRows_at (rwI w Q) (17, L', [], (im_setI M 108 0 0)) := by
    intro  L'  h
    replace h := hQ1  h
    refine iq_iconst hS 18 J_MSquareRows_at_d17 (v := (-1)) (by decide +kernel) rfl ?_
    refine iq_goto hS J_MSquareRows_at_d18 (t := 27) rfl ?_
    exact iq_iret J_MSquareRows_at_d27 rfl rfl ⟨_, rfl, (lw_sI hM), ed_some h⟩
  refine iq_if_lt hS 9 J_MSquareRows_at_d6 (t := 17) rfl (fun q6 => ?_) rfl (fun q6 => ?_)
  · replace h := ed_pos q6 h
    exact J1  _  (hk1  h)
  · replace h := ed_neg q6 h
    refine iq_iload_n hS 10 J_MSquareRows_at_d9 l1 rfl ?_
    refine iq_aload_n hS 11 J_MSquareRows_at_d10 l0 rfl ?_
    refine iq_getI hS 14 J_MSquareRows_at_d11 lf_16_77 (Or.inl rfl) (ka_108 (lw_sI hM)) rfl ?_
    refine iq_icmp_lt hS 17 J_MSquareRows_at_d14 (t := 21) rfl (fun q14 => ?_) rfl (fun q14 => ?_)
    · replace h := ed_pos q14 h
      refine iq_aload_n hS 22 J_MSquareRows_at_d21 l0 rfl ?_
      refine iq_getR hS 25 J_MSquareRows_at_d22 lf_16_16 (Or.inr ⟨_, rfl⟩) (ka_108 (lw_sI hM)) (ra_108_3 (lw_sI hM)) rfl ?_
      refine iq_iload_n hS 26 J_MSquareRows_at_d25 l1 rfl ?_
      obtain ⟨g26, h⟩ := ed_gd h
      refine iq_iaload hS 27 J_MSquareRows_at_d26 ⟨(ka_111 (lw_sI hM)).1, (ka_111 (lw_sI hM)).2, g26.1, ix_lt (kl_111 (lw_sI hM)) g26.2⟩ rfl ?_
      exact iq_iret J_MSquareRows_at_d27 rfl rfl ⟨_, rfl, (lw_sI hM), ed_some h⟩
    · replace h := ed_neg q14 h
      exact J1  _  (hk1  h)
theorem f_MSquareRows_at_fr {p0 : Int32} {M : im_M} {r : Int32 × im_M} (h : f_MSquareRows_at p0 M = some r) : fr 0 [(108, 0)] M r.2 := by
  replace h : ed (f_MSquareRows_at p0 M) (fun x => x = r) := ⟨r, h, rfl⟩
  unfold f_MSquareRows_at at h
  obtain ⟨k1, Q1, hQ1, hk1, h⟩ := jn0_ed h
  have J1 : Q1 () → fr 0 [(108, 0)] M r.2 := by
    intro  h
    replace h := hQ1  h
    exact fr_ret h (fr_F (by decide) fr_refl)
  by_cases q6 : p0 < 0
  · replace h := ed_pos q6 h
    exact J1  (hk1  h)
  · replace h := ed_neg q6 h
    by_cases q14 : p0 < (im_i (im_setI M 108 0 0) 108 4)
    · replace h := ed_pos q14 h
      obtain ⟨g26, h⟩ := ed_gd h
      exact fr_ret h (fr_F (by decide) fr_refl)
    · replace h := ed_neg q14 h
      exact J1  (hk1  h)
noncomputable def f_M_decode_L67 (v11 : Int32) (v12 : Int32) (v13 : Int32) (x14 : Int32) (M15 : im_M) : Option ((Int32 × im_M) ⊕ (im_M)) := if v12 ≤ x14 then some (.inr M15) else bd2 (f_MPlaceRows_modules v11 x14 v13 M15) fun (x16 : Int64) (M16 : im_M) => bd2 (f_MSquareRows_spoil x14 v13 x16 M16) fun (x17 : Int32) (M17 : im_M) => some (.inl ((x14 + 64), M17))
noncomputable def f_M_decode_L59 (v6 : Int32) (v7 : Int32) (x8 : Int32) (M9 : im_M) : Option ((Int32 × im_M) ⊕ (im_M)) := if v7 ≤ x8 then some (.inr M9) else bd1 (lp (uc2 (f_M_decode_L67 v6 v7 x8)) (0, M9)) fun (M18 : im_M) => some (.inl ((x8 + 1), M18))
noncomputable def f_M_decode_L144 (v23 : Int32) (x24 : Int32) (M25 : im_M) : Option ((Int32 × im_M) ⊕ (im_M)) := if v23 ≤ x24 then some (.inr M25) else bd2 (f_MSquareRows_at x24 M25) fun (x26 : Int32) (M26 : im_M) => gd (inb x24 3000) <| some (.inl ((x24 + 1), (im_setI M26 137 (Int32.toNatClampNeg x24) x26)))
noncomputable def f_M_decode (p0 : Int32) (M : im_M) : Option (Int32 × im_M) := bd2 (f_MPlaceRows_place p0 0 M) fun (x1 : Int32) (M1 : im_M) => if (im_i (im_setI M1 69 0 ((if 0 ≤ x1 then 0 else 1) : Int32)) 69 0) ≤ 0 then bd2 (f_MPlaceRows_place p0 3 (im_setI (im_setI (im_setI M1 69 0 ((if 0 ≤ x1 then 0 else 1) : Int32)) 69 10 (-1)) 69 12 0)) fun (x3 : Int32) (M3 : im_M) => bd2 (f_MSquareRows_blank x3 M3) fun (x4 : Int32) (M4 : im_M) => bd1 (lp (uc2 (f_M_decode_L59 p0 x4)) (0, M4)) fun (M19 : im_M) => bd2 (f_MSquareRows_wipe M19) fun (x20 : Int32) (M20 : im_M) => bd2 (f_MSquareRows_read M20) fun (x21 : Int32) (M21 : im_M) => if x21 < 0 then some (x21, M21) else bd1 (lp (uc2 (f_M_decode_L144 x21)) (0, (im_setI (im_setI M21 69 10 0) 69 12 x21))) fun (M27 : im_M) => some (x21, M27) else some (0, (im_setI M1 69 0 ((if 0 ≤ x1 then 0 else 1) : Int32)))
theorem J_M_decode_d0 : decode J_M_decode.2.1 0 = .ok (.aload_n 0, 1) := by decide +kernel
theorem J_M_decode_d1 : decode J_M_decode.2.1 1 = .ok (.aload_n 0, 1) := by decide +kernel
theorem J_M_decode_d2 : decode J_M_decode.2.1 2 = .ok (.getfield 44, 3) := by decide +kernel
theorem J_M_decode_d5 : decode J_M_decode.2.1 5 = .ok (.iload_n 1, 1) := by decide +kernel
theorem J_M_decode_d6 : decode J_M_decode.2.1 6 = .ok (.iconst 0, 1) := by decide +kernel
theorem J_M_decode_d7 : decode J_M_decode.2.1 7 = .ok (.invokevirtual 227, 3) := by decide +kernel
theorem J_M_decode_d10 : decode J_M_decode.2.1 10 = .ok (.ifCond .ge 7, 3) := by decide +kernel
theorem J_M_decode_d13 : decode J_M_decode.2.1 13 = .ok (.iconst 1, 1) := by decide +kernel
theorem J_M_decode_d14 : decode J_M_decode.2.1 14 = .ok (.goto 4, 3) := by decide +kernel
theorem J_M_decode_d17 : decode J_M_decode.2.1 17 = .ok (.iconst 0, 1) := by decide +kernel
theorem J_M_decode_d18 : decode J_M_decode.2.1 18 = .ok (.putfield 58, 3) := by decide +kernel
theorem J_M_decode_d21 : decode J_M_decode.2.1 21 = .ok (.aload_n 0, 1) := by decide +kernel
theorem J_M_decode_d22 : decode J_M_decode.2.1 22 = .ok (.getfield 58, 3) := by decide +kernel
theorem J_M_decode_d25 : decode J_M_decode.2.1 25 = .ok (.ifCond .le 5, 3) := by decide +kernel
theorem J_M_decode_d28 : decode J_M_decode.2.1 28 = .ok (.iconst 0, 1) := by decide +kernel
theorem J_M_decode_d29 : decode J_M_decode.2.1 29 = .ok (.ireturn, 1) := by decide +kernel
theorem J_M_decode_d30 : decode J_M_decode.2.1 30 = .ok (.aload_n 0, 1) := by decide +kernel
theorem J_M_decode_d31 : decode J_M_decode.2.1 31 = .ok (.iconst (-1), 1) := by decide +kernel
theorem J_M_decode_d32 : decode J_M_decode.2.1 32 = .ok (.putfield 51, 3) := by decide +kernel
theorem J_M_decode_d35 : decode J_M_decode.2.1 35 = .ok (.aload_n 0, 1) := by decide +kernel
theorem J_M_decode_d36 : decode J_M_decode.2.1 36 = .ok (.iconst 0, 1) := by decide +kernel
theorem J_M_decode_d37 : decode J_M_decode.2.1 37 = .ok (.putfield 229, 3) := by decide +kernel
theorem J_M_decode_d40 : decode J_M_decode.2.1 40 = .ok (.aload_n 0, 1) := by decide +kernel
theorem J_M_decode_d41 : decode J_M_decode.2.1 41 = .ok (.getfield 37, 3) := by decide +kernel
theorem J_M_decode_d44 : decode J_M_decode.2.1 44 = .ok (.aload_n 0, 1) := by decide +kernel
theorem J_M_decode_d45 : decode J_M_decode.2.1 45 = .ok (.getfield 44, 3) := by decide +kernel
theorem J_M_decode_d48 : decode J_M_decode.2.1 48 = .ok (.iload_n 1, 1) := by decide +kernel
theorem J_M_decode_d49 : decode J_M_decode.2.1 49 = .ok (.iconst 3, 1) := by decide +kernel
theorem J_M_decode_d50 : decode J_M_decode.2.1 50 = .ok (.invokevirtual 227, 3) := by decide +kernel
theorem J_M_decode_d53 : decode J_M_decode.2.1 53 = .ok (.invokevirtual 232, 3) := by decide +kernel
theorem J_M_decode_d56 : decode J_M_decode.2.1 56 = .ok (.istore_n 2, 1) := by decide +kernel
theorem J_M_decode_d57 : decode J_M_decode.2.1 57 = .ok (.iconst 0, 1) := by decide +kernel
theorem J_M_decode_d58 : decode J_M_decode.2.1 58 = .ok (.istore_n 3, 1) := by decide +kernel
theorem J_M_decode_d59 : decode J_M_decode.2.1 59 = .ok (.iload_n 3, 1) := by decide +kernel
theorem J_M_decode_d60 : decode J_M_decode.2.1 60 = .ok (.iload_n 2, 1) := by decide +kernel
theorem J_M_decode_d61 : decode J_M_decode.2.1 61 = .ok (.if_icmp .ge 47, 3) := by decide +kernel
theorem J_M_decode_d64 : decode J_M_decode.2.1 64 = .ok (.iconst 0, 1) := by decide +kernel
theorem J_M_decode_d65 : decode J_M_decode.2.1 65 = .ok (.istore 4, 2) := by decide +kernel
theorem J_M_decode_d67 : decode J_M_decode.2.1 67 = .ok (.iload 4, 2) := by decide +kernel
theorem J_M_decode_d69 : decode J_M_decode.2.1 69 = .ok (.iload_n 2, 1) := by decide +kernel
theorem J_M_decode_d70 : decode J_M_decode.2.1 70 = .ok (.if_icmp .ge 32, 3) := by decide +kernel
theorem J_M_decode_d73 : decode J_M_decode.2.1 73 = .ok (.aload_n 0, 1) := by decide +kernel
theorem J_M_decode_d74 : decode J_M_decode.2.1 74 = .ok (.getfield 37, 3) := by decide +kernel
theorem J_M_decode_d77 : decode J_M_decode.2.1 77 = .ok (.iload 4, 2) := by decide +kernel
theorem J_M_decode_d79 : decode J_M_decode.2.1 79 = .ok (.iload_n 3, 1) := by decide +kernel
theorem J_M_decode_d80 : decode J_M_decode.2.1 80 = .ok (.aload_n 0, 1) := by decide +kernel
theorem J_M_decode_d81 : decode J_M_decode.2.1 81 = .ok (.getfield 44, 3) := by decide +kernel
theorem J_M_decode_d84 : decode J_M_decode.2.1 84 = .ok (.iload_n 1, 1) := by decide +kernel
theorem J_M_decode_d85 : decode J_M_decode.2.1 85 = .ok (.iload 4, 2) := by decide +kernel
theorem J_M_decode_d87 : decode J_M_decode.2.1 87 = .ok (.iload_n 3, 1) := by decide +kernel
theorem J_M_decode_d88 : decode J_M_decode.2.1 88 = .ok (.invokevirtual 235, 3) := by decide +kernel
theorem J_M_decode_d91 : decode J_M_decode.2.1 91 = .ok (.invokevirtual 238, 3) := by decide +kernel
theorem J_M_decode_d94 : decode J_M_decode.2.1 94 = .ok (.istore 5, 2) := by decide +kernel
theorem J_M_decode_d96 : decode J_M_decode.2.1 96 = .ok (.iinc 4 64, 3) := by decide +kernel
theorem J_M_decode_d99 : decode J_M_decode.2.1 99 = .ok (.goto (-32), 3) := by decide +kernel
theorem J_M_decode_d102 : decode J_M_decode.2.1 102 = .ok (.iinc 3 1, 3) := by decide +kernel
theorem J_M_decode_d105 : decode J_M_decode.2.1 105 = .ok (.goto (-46), 3) := by decide +kernel
theorem J_M_decode_d108 : decode J_M_decode.2.1 108 = .ok (.aload_n 0, 1) := by decide +kernel
theorem J_M_decode_d109 : decode J_M_decode.2.1 109 = .ok (.getfield 37, 3) := by decide +kernel
theorem J_M_decode_d112 : decode J_M_decode.2.1 112 = .ok (.invokevirtual 135, 3) := by decide +kernel
theorem J_M_decode_d115 : decode J_M_decode.2.1 115 = .ok (.istore_n 3, 1) := by decide +kernel
theorem J_M_decode_d116 : decode J_M_decode.2.1 116 = .ok (.aload_n 0, 1) := by decide +kernel
theorem J_M_decode_d117 : decode J_M_decode.2.1 117 = .ok (.getfield 37, 3) := by decide +kernel
theorem J_M_decode_d120 : decode J_M_decode.2.1 120 = .ok (.invokevirtual 241, 3) := by decide +kernel
theorem J_M_decode_d123 : decode J_M_decode.2.1 123 = .ok (.istore 4, 2) := by decide +kernel
theorem J_M_decode_d125 : decode J_M_decode.2.1 125 = .ok (.iload 4, 2) := by decide +kernel
theorem J_M_decode_d127 : decode J_M_decode.2.1 127 = .ok (.ifCond .lt 46, 3) := by decide +kernel
theorem J_M_decode_d130 : decode J_M_decode.2.1 130 = .ok (.aload_n 0, 1) := by decide +kernel
theorem J_M_decode_d131 : decode J_M_decode.2.1 131 = .ok (.iconst 0, 1) := by decide +kernel
theorem J_M_decode_d132 : decode J_M_decode.2.1 132 = .ok (.putfield 51, 3) := by decide +kernel
theorem J_M_decode_d135 : decode J_M_decode.2.1 135 = .ok (.aload_n 0, 1) := by decide +kernel
theorem J_M_decode_d136 : decode J_M_decode.2.1 136 = .ok (.iload 4, 2) := by decide +kernel
theorem J_M_decode_d138 : decode J_M_decode.2.1 138 = .ok (.putfield 229, 3) := by decide +kernel
theorem J_M_decode_d141 : decode J_M_decode.2.1 141 = .ok (.iconst 0, 1) := by decide +kernel
theorem J_M_decode_d142 : decode J_M_decode.2.1 142 = .ok (.istore 5, 2) := by decide +kernel
theorem J_M_decode_d144 : decode J_M_decode.2.1 144 = .ok (.iload 5, 2) := by decide +kernel
theorem J_M_decode_d146 : decode J_M_decode.2.1 146 = .ok (.iload 4, 2) := by decide +kernel
theorem J_M_decode_d148 : decode J_M_decode.2.1 148 = .ok (.if_icmp .ge 25, 3) := by decide +kernel
theorem J_M_decode_d151 : decode J_M_decode.2.1 151 = .ok (.aload_n 0, 1) := by decide +kernel
theorem J_M_decode_d152 : decode J_M_decode.2.1 152 = .ok (.getfield 55, 3) := by decide +kernel
theorem J_M_decode_d155 : decode J_M_decode.2.1 155 = .ok (.iload 5, 2) := by decide +kernel
theorem J_M_decode_d157 : decode J_M_decode.2.1 157 = .ok (.aload_n 0, 1) := by decide +kernel
theorem J_M_decode_d158 : decode J_M_decode.2.1 158 = .ok (.getfield 37, 3) := by decide +kernel
theorem J_M_decode_d161 : decode J_M_decode.2.1 161 = .ok (.iload 5, 2) := by decide +kernel
theorem J_M_decode_d163 : decode J_M_decode.2.1 163 = .ok (.invokevirtual 242, 3) := by decide +kernel
theorem J_M_decode_d166 : decode J_M_decode.2.1 166 = .ok (.iastore, 1) := by decide +kernel
theorem J_M_decode_d167 : decode J_M_decode.2.1 167 = .ok (.iinc 5 1, 3) := by decide +kernel
theorem J_M_decode_d170 : decode J_M_decode.2.1 170 = .ok (.goto (-26), 3) := by decide +kernel
theorem J_M_decode_d173 : decode J_M_decode.2.1 173 = .ok (.iload 4, 2) := by decide +kernel
theorem J_M_decode_d175 : decode J_M_decode.2.1 175 = .ok (.ireturn, 1) := by decide +kernel
theorem f_M_decode_ok {L : Nat} {xs : Nat → Int32} {dep : Nat} {w : Bool} {p0 : Int32} {M : im_M} {Q : Int32 × im_M → Prop} (hM : lw_S w M) (h : ed (f_M_decode p0 M) Q) : ia (tb_G L xs) (dep + 7) J_M_decode (rwI w Q) (0, lv_args 0 [.ref 69, .int p0], [], M) := by
  have hS : im_St (tb_G L xs) (dep + 7) J_M_decode (ia (tb_G L xs) (dep + 7) J_M_decode (rwI w Q)) := ia_St
  unfold f_M_decode at h
  have l0 : im_lk (lv_args 0 [.ref 69, .int p0]) 0 = some (.ref 69) := rfl
  have l1 : im_lk (lv_args 0 [.ref 69, .int p0]) 1 = some (.int p0) := rfl
  refine iq_aload_n hS 1 J_M_decode_d0 l0 rfl ?_
  refine iq_aload_n hS 2 J_M_decode_d1 l0 rfl ?_
  refine iq_getR hS 5 J_M_decode_d2 lf_17_44 (Or.inl ⟨_, rfl⟩) (ka_69 hM) (ra_69_7 hM) rfl ?_
  refine iq_iload_n hS 6 J_M_decode_d5 l1 rfl ?_
  refine iq_iconst hS 7 J_M_decode_d6 (v := 0) (by decide +kernel) rfl ?_
  obtain ⟨Q1, hQ1, h⟩ := bd2_ed h
  refine iq_cwI hS 10 J_M_decode_d7 rfl (pr_inst (vs := [_, _]) lc_17_227 lT_482 rfl rfl (by decide) (by decide) rfl (Nat.le_of_ble_eq_true rfl) (Nat.le_of_ble_eq_true rfl) (fun _ => Or.inl (pr_b (ka_130 hM) (by decide) rfl))) (f_MPlaceRows_place_ok (dep := dep + 6) hM h) rfl ?_
  intro x1 M1 hM1 h
  replace h := hQ1 _ _ h
  have J2 : ∀ (z3 : Int32) (L' : List (Nat × Value)), z3 = ((if 0 ≤ x1 then 0 else 1) : Int32) → im_lk L' 0 = some (.ref 69) → im_lk L' 1 = some (.int p0) → ia (tb_G L xs) (dep + 7) J_M_decode (rwI w Q) (18, L', [.int z3, .ref 69], M1) := by
    intro z3 L' e4 l5 l6
    subst e4
    refine iq_putI hS 21 J_M_decode_d18 lf_17_58 (Or.inl rfl) rfl (ka_69 hM1) rfl ?_
    refine iq_aload_n hS 22 J_M_decode_d21 l5 rfl ?_
    refine iq_getI hS 25 J_M_decode_d22 lf_17_58 (Or.inl rfl) (ka_69 (lw_sI hM1)) rfl ?_
    refine iq_if_le hS 28 J_M_decode_d25 (t := 30) rfl (fun q25 => ?_) rfl (fun q25 => ?_)
    · replace h := ed_pos q25 h
      refine iq_aload_n hS 31 J_M_decode_d30 l5 rfl ?_
      refine iq_iconst hS 32 J_M_decode_d31 (v := (-1)) (by decide +kernel) rfl ?_
      refine iq_putI hS 35 J_M_decode_d32 lf_17_51 (Or.inl rfl) rfl (ka_69 (lw_sI hM1)) rfl ?_
      refine iq_aload_n hS 36 J_M_decode_d35 l5 rfl ?_
      refine iq_iconst hS 37 J_M_decode_d36 (v := 0) (by decide +kernel) rfl ?_
      refine iq_putI hS 40 J_M_decode_d37 lf_17_229 (Or.inl rfl) rfl (ka_69 (lw_sI (lw_sI hM1))) rfl ?_
      refine iq_aload_n hS 41 J_M_decode_d40 l5 rfl ?_
      refine iq_getR hS 44 J_M_decode_d41 lf_17_37 (Or.inl ⟨_, rfl⟩) (ka_69 (lw_sI (lw_sI (lw_sI hM1)))) (ra_69_6 (lw_sI (lw_sI (lw_sI hM1)))) rfl ?_
      refine iq_aload_n hS 45 J_M_decode_d44 l5 rfl ?_
      refine iq_getR hS 48 J_M_decode_d45 lf_17_44 (Or.inl ⟨_, rfl⟩) (ka_69 (lw_sI (lw_sI (lw_sI hM1)))) (ra_69_7 (lw_sI (lw_sI (lw_sI hM1)))) rfl ?_
      refine iq_iload_n hS 49 J_M_decode_d48 l6 rfl ?_
      refine iq_iconst hS 50 J_M_decode_d49 (v := 3) (by decide +kernel) rfl ?_
      obtain ⟨Q7, hQ7, h⟩ := bd2_ed h
      refine iq_cwI hS 53 J_M_decode_d50 rfl (pr_inst (vs := [_, _]) lc_17_227 lT_482 rfl rfl (by decide) (by decide) rfl (Nat.le_of_ble_eq_true rfl) (Nat.le_of_ble_eq_true rfl) (fun _ => Or.inl (pr_b (ka_130 (lw_sI (lw_sI (lw_sI hM1)))) (by decide) rfl))) (f_MPlaceRows_place_ok (dep := dep + 6) (lw_sI (lw_sI (lw_sI hM1))) h) rfl ?_
      intro x7 M7 hM7 h
      replace h := hQ7 _ _ h
      obtain ⟨Q8, hQ8, h⟩ := bd2_ed h
      refine iq_cwI hS 56 J_M_decode_d53 rfl (pr_inst (vs := [_]) lc_17_232 lT_484 rfl rfl (by decide) (by decide) rfl (Nat.le_of_ble_eq_true rfl) (Nat.le_of_ble_eq_true rfl) (fun _ => Or.inl (pr_b (ka_108 hM7) (by decide) rfl))) (f_MSquareRows_blank_ok (dep := dep + 2) hM7 h) rfl ?_
      intro x8 M8 hM8 h
      replace h := hQ8 _ _ h
      refine iq_istore_n hS 57 J_M_decode_d56 (by decide) rfl ?_
      refine iq_iconst hS 58 J_M_decode_d57 (v := 0) (by decide +kernel) rfl ?_
      refine iq_istore_n hS 59 J_M_decode_d58 (by decide) rfl ?_
      obtain ⟨Q9, hQ9, h⟩ := bd1_ed h
      have K9 : ∀ (M10 : im_M) (L' : List (Nat × Value)), lw_S w M10 → im_lk L' 0 = some (.ref 69) → Q9 M10 → ia (tb_G L xs) (dep + 7) J_M_decode (rwI w Q) (108, L', [], M10) := by
        intro M10 L' hM10 l11 h
        replace h := hQ9 _ h
        refine iq_aload_n hS 109 J_M_decode_d108 l11 rfl ?_
        refine iq_getR hS 112 J_M_decode_d109 lf_17_37 (Or.inl ⟨_, rfl⟩) (ka_69 hM10) (ra_69_6 hM10) rfl ?_
        obtain ⟨Q12, hQ12, h⟩ := bd2_ed h
        refine iq_cwI hS 115 J_M_decode_d112 rfl (pr_inst (vs := []) lc_17_135 lT_386 rfl rfl (by decide) (by decide) rfl (Nat.le_of_ble_eq_true rfl) (Nat.le_of_ble_eq_true rfl) (fun _ => Or.inl (pr_b (ka_108 hM10) (by decide) rfl))) (f_MSquareRows_wipe_ok (dep := dep + 6) hM10 h) rfl ?_
        intro x12 M12 hM12 h
        replace h := hQ12 _ _ h
        refine iq_istore_n hS 116 J_M_decode_d115 (by decide) rfl ?_
        refine iq_aload_n hS 117 J_M_decode_d116 (lk_1r l11 (by decide)) rfl ?_
        refine iq_getR hS 120 J_M_decode_d117 lf_17_37 (Or.inl ⟨_, rfl⟩) (ka_69 hM12) (ra_69_6 hM12) rfl ?_
        obtain ⟨Q13, hQ13, h⟩ := bd2_ed h
        refine iq_cwI hS 123 J_M_decode_d120 rfl (pr_inst (vs := []) lc_17_241 lT_488 rfl rfl (by decide) (by decide) rfl (Nat.le_of_ble_eq_true rfl) (Nat.le_of_ble_eq_true rfl) (fun _ => Or.inl (pr_b (ka_108 hM12) (by decide) rfl))) (f_MSquareRows_read_ok (dep := dep + 0) hM12 h) rfl ?_
        intro x13 M13 hM13 h
        replace h := hQ13 _ _ h
        refine iq_istore hS 125 J_M_decode_d123 (by decide) rfl ?_
        refine iq_iload hS 127 J_M_decode_d125 lk_1s rfl ?_
        refine iq_if_lt hS 130 J_M_decode_d127 (t := 173) rfl (fun q127 => ?_) rfl (fun q127 => ?_)
        · replace h := ed_pos q127 h
          refine iq_iload hS 175 J_M_decode_d173 lk_1s rfl ?_
          exact iq_iret J_M_decode_d175 rfl rfl ⟨_, rfl, hM13, ed_some h⟩
        · replace h := ed_neg q127 h
          refine iq_aload_n hS 131 J_M_decode_d130 (lk_1r (lk_1r l11 (by decide)) (by decide)) rfl ?_
          refine iq_iconst hS 132 J_M_decode_d131 (v := 0) (by decide +kernel) rfl ?_
          refine iq_putI hS 135 J_M_decode_d132 lf_17_51 (Or.inl rfl) rfl (ka_69 hM13) rfl ?_
          refine iq_aload_n hS 136 J_M_decode_d135 (lk_1r (lk_1r l11 (by decide)) (by decide)) rfl ?_
          refine iq_iload hS 138 J_M_decode_d136 lk_1s rfl ?_
          refine iq_putI hS 141 J_M_decode_d138 lf_17_229 (Or.inl rfl) rfl (ka_69 (lw_sI hM13)) rfl ?_
          refine iq_iconst hS 142 J_M_decode_d141 (v := 0) (by decide +kernel) rfl ?_
          refine iq_istore hS 144 J_M_decode_d142 (by decide) rfl ?_
          obtain ⟨Q14, hQ14, h⟩ := bd1_ed h
          have K14 : ∀ (M15 : im_M) (L' : List (Nat × Value)), lw_S w M15 → im_lk L' 4 = some (.int x13) → Q14 M15 → ia (tb_G L xs) (dep + 7) J_M_decode (rwI w Q) (173, L', [], M15) := by
            intro M15 L' hM15 l16 h
            replace h := hQ14 _ h
            refine iq_iload hS 175 J_M_decode_d173 l16 rfl ?_
            exact iq_iret J_M_decode_d175 rfl rfl ⟨_, rfl, hM15, ed_some h⟩
          obtain ⟨r14, hr14, hq14⟩ := h
          obtain ⟨n14, hn14⟩ := lp_n hr14
          have I14 : ∀ (n : Nat) (x17 : Int32) (M18 : im_M) (L' : List (Nat × Value)), lw_S w M18 → im_lk L' 0 = some (.ref 69) → im_lk L' 4 = some (.int x13) → im_lk L' 5 = some (.int x17) → lpn (uc2 (f_M_decode_L144 x13)) n (x17, M18) = some r14 → ia (tb_G L xs) (dep + 7) J_M_decode (rwI w Q) (144, L', [], M18) := by
            intro n
            induction n with
            | zero => intro x17 M18 L' hM18 l19 l20 l21 hn; exact (lpn_0 hn).elim
            | succ n ih =>
              intro x17 M18 L' hM18 l19 l20 l21 hn
              have h := lpn_ed2 hn
              unfold f_M_decode_L144 at h
              refine iq_iload hS 146 J_M_decode_d144 l21 rfl ?_
              refine iq_iload hS 148 J_M_decode_d146 l20 rfl ?_
              refine iq_icmp_ge hS 151 J_M_decode_d148 (t := 173) rfl (fun q148 => ?_) rfl (fun q148 => ?_)
              · replace h := ed_pos q148 h
                exact K14 _ _ hM18 l20 (lq_r h hq14)
              · replace h := ed_neg q148 h
                refine iq_aload_n hS 152 J_M_decode_d151 l19 rfl ?_
                refine iq_getR hS 155 J_M_decode_d152 lf_17_55 (Or.inr ⟨_, rfl⟩) (ka_69 hM18) (ra_69_11 hM18) rfl ?_
                refine iq_iload hS 157 J_M_decode_d155 l21 rfl ?_
                refine iq_aload_n hS 158 J_M_decode_d157 l19 rfl ?_
                refine iq_getR hS 161 J_M_decode_d158 lf_17_37 (Or.inl ⟨_, rfl⟩) (ka_69 hM18) (ra_69_6 hM18) rfl ?_
                refine iq_iload hS 163 J_M_decode_d161 l21 rfl ?_
                obtain ⟨Q22, hQ22, h⟩ := bd2_ed h
                refine iq_cwI hS 166 J_M_decode_d163 rfl (pr_inst (vs := [_]) lc_17_242 lT_505 rfl rfl (by decide) (by decide) rfl (Nat.le_of_ble_eq_true rfl) (Nat.le_of_ble_eq_true rfl) (fun _ => Or.inl (pr_b (ka_108 hM18) (by decide) rfl))) (f_MSquareRows_at_ok (dep := dep + 6) hM18 h) rfl ?_
                intro x22 M22 hM22 h
                replace h := hQ22 _ _ h
                obtain ⟨g166, h⟩ := ed_gd h
                refine iq_iastore hS 167 J_M_decode_d166 ⟨(ka_137 hM22).1, (ka_137 hM22).2, g166.1, ix_lt (kl_137 hM22) g166.2⟩ rfl ?_
                refine iq_iincv hS 170 J_M_decode_d167 (c := 1) (by decide +kernel) l21 (by decide) rfl ?_
                refine iq_goto hS J_M_decode_d170 (t := 144) rfl ?_
                exact ih _ _ _ (lw_sI hM22) (lk_1r l19 (by decide)) (lk_1i l20 (by decide)) lk_1s (lq_l h)
          exact I14 n14 _ _ _ (lw_sI (lw_sI hM13)) (lk_1r (lk_1r (lk_1r l11 (by decide)) (by decide)) (by decide)) (lk_1i lk_1s (by decide)) lk_1s hn14
      obtain ⟨r9, hr9, hq9⟩ := h
      obtain ⟨n9, hn9⟩ := lp_n hr9
      have I9 : ∀ (n : Nat) (x23 : Int32) (M24 : im_M) (L' : List (Nat × Value)), lw_S w M24 → im_lk L' 0 = some (.ref 69) → im_lk L' 1 = some (.int p0) → im_lk L' 2 = some (.int x8) → im_lk L' 3 = some (.int x23) → lpn (uc2 (f_M_decode_L59 p0 x8)) n (x23, M24) = some r9 → ia (tb_G L xs) (dep + 7) J_M_decode (rwI w Q) (59, L', [], M24) := by
        intro n
        induction n with
        | zero => intro x23 M24 L' hM24 l25 l26 l27 l28 hn; exact (lpn_0 hn).elim
        | succ n ih =>
          intro x23 M24 L' hM24 l25 l26 l27 l28 hn
          have h := lpn_ed2 hn
          unfold f_M_decode_L59 at h
          refine iq_iload_n hS 60 J_M_decode_d59 l28 rfl ?_
          refine iq_iload_n hS 61 J_M_decode_d60 l27 rfl ?_
          refine iq_icmp_ge hS 64 J_M_decode_d61 (t := 108) rfl (fun q61 => ?_) rfl (fun q61 => ?_)
          · replace h := ed_pos q61 h
            exact K9 _ _ hM24 l25 (lq_r h hq9)
          · replace h := ed_neg q61 h
            refine iq_iconst hS 65 J_M_decode_d64 (v := 0) (by decide +kernel) rfl ?_
            refine iq_istore hS 67 J_M_decode_d65 (by decide) rfl ?_
            obtain ⟨Q29, hQ29, h⟩ := bd1_ed h
            have K29 : ∀ (M30 : im_M) (L' : List (Nat × Value)), lw_S w M30 → im_lk L' 0 = some (.ref 69) → im_lk L' 1 = some (.int p0) → im_lk L' 2 = some (.int x8) → im_lk L' 3 = some (.int x23) → Q29 M30 → ia (tb_G L xs) (dep + 7) J_M_decode (rwI w Q) (102, L', [], M30) := by
              intro M30 L' hM30 l31 l32 l33 l34 h
              replace h := hQ29 _ h
              refine iq_iincv hS 105 J_M_decode_d102 (c := 1) (by decide +kernel) l34 (by decide) rfl ?_
              refine iq_goto hS J_M_decode_d105 (t := 59) rfl ?_
              exact ih _ _ _ hM30 (lk_1r l31 (by decide)) (lk_1i l32 (by decide)) (lk_1i l33 (by decide)) lk_1s (lq_l h)
            obtain ⟨r29, hr29, hq29⟩ := h
            obtain ⟨n29, hn29⟩ := lp_n hr29
            have I29 : ∀ (n : Nat) (x35 : Int32) (M36 : im_M) (L' : List (Nat × Value)), lw_S w M36 → im_lk L' 0 = some (.ref 69) → im_lk L' 1 = some (.int p0) → im_lk L' 2 = some (.int x8) → im_lk L' 3 = some (.int x23) → im_lk L' 4 = some (.int x35) → lpn (uc2 (f_M_decode_L67 p0 x8 x23)) n (x35, M36) = some r29 → ia (tb_G L xs) (dep + 7) J_M_decode (rwI w Q) (67, L', [], M36) := by
              intro n
              induction n with
              | zero => intro x35 M36 L' hM36 l37 l38 l39 l40 l41 hn; exact (lpn_0 hn).elim
              | succ n ih =>
                intro x35 M36 L' hM36 l37 l38 l39 l40 l41 hn
                have h := lpn_ed2 hn
                unfold f_M_decode_L67 at h
                refine iq_iload hS 69 J_M_decode_d67 l41 rfl ?_
                refine iq_iload_n hS 70 J_M_decode_d69 l39 rfl ?_
                refine iq_icmp_ge hS 73 J_M_decode_d70 (t := 102) rfl (fun q70 => ?_) rfl (fun q70 => ?_)
                · replace h := ed_pos q70 h
                  exact K29 _ _ hM36 l37 l38 l39 l40 (lq_r h hq29)
                · replace h := ed_neg q70 h
                  refine iq_aload_n hS 74 J_M_decode_d73 l37 rfl ?_
                  refine iq_getR hS 77 J_M_decode_d74 lf_17_37 (Or.inl ⟨_, rfl⟩) (ka_69 hM36) (ra_69_6 hM36) rfl ?_
                  refine iq_iload hS 79 J_M_decode_d77 l41 rfl ?_
                  refine iq_iload_n hS 80 J_M_decode_d79 l40 rfl ?_
                  refine iq_aload_n hS 81 J_M_decode_d80 l37 rfl ?_
                  refine iq_getR hS 84 J_M_decode_d81 lf_17_44 (Or.inl ⟨_, rfl⟩) (ka_69 hM36) (ra_69_7 hM36) rfl ?_
                  refine iq_iload_n hS 85 J_M_decode_d84 l38 rfl ?_
                  refine iq_iload hS 87 J_M_decode_d85 l41 rfl ?_
                  refine iq_iload_n hS 88 J_M_decode_d87 l40 rfl ?_
                  obtain ⟨Q42, hQ42, h⟩ := bd2_ed h
                  refine iq_cwL hS 91 J_M_decode_d88 rfl (pr_inst (vs := [_, _, _]) lc_17_235 lT_485 rfl rfl (by decide) (by decide) rfl (Nat.le_of_ble_eq_true rfl) (Nat.le_of_ble_eq_true rfl) (fun _ => Or.inl (pr_b (ka_130 hM36) (by decide) rfl))) (f_MPlaceRows_modules_ok (dep := dep + 4) hM36 h) rfl ?_
                  intro x42 M42 hM42 h
                  replace h := hQ42 _ _ h
                  obtain ⟨Q43, hQ43, h⟩ := bd2_ed h
                  refine iq_cwI hS 94 J_M_decode_d91 rfl (pr_inst (vs := [_, _, _]) lc_17_238 lT_487 rfl rfl (by decide) (by decide) rfl (Nat.le_of_ble_eq_true rfl) (Nat.le_of_ble_eq_true rfl) (fun _ => Or.inl (pr_b (ka_108 hM42) (by decide) rfl))) (f_MSquareRows_spoil_ok (dep := dep + 5) hM42 h) rfl ?_
                  intro x43 M43 hM43 h
                  replace h := hQ43 _ _ h
                  refine iq_istore hS 96 J_M_decode_d94 (by decide) rfl ?_
                  refine iq_iincv hS 99 J_M_decode_d96 (c := 64) (by decide +kernel) (lk_1i l41 (by decide)) (by decide) rfl ?_
                  refine iq_goto hS J_M_decode_d99 (t := 67) rfl ?_
                  exact ih _ _ _ hM43 (lk_1r (lk_1r l37 (by decide)) (by decide)) (lk_1i (lk_1i l38 (by decide)) (by decide)) (lk_1i (lk_1i l39 (by decide)) (by decide)) (lk_1i (lk_1i l40 (by decide)) (by decide)) lk_1s (lq_l h)
            exact I29 n29 _ _ _ hM24 (lk_1r l25 (by decide)) (lk_1i l26 (by decide)) (lk_1i l27 (by decide)) (lk_1i l28 (by decide)) lk_1s hn29
      exact I9 n9 _ _ _ hM8 (lk_1r (lk_1r l5 (by decide)) (by decide)) (lk_1i (lk_1i l6 (by decide)) (by decide)) (lk_1i lk_1s (by decide)) lk_1s hn9
    · replace h := ed_neg q25 h
      refine iq_iconst hS 29 J_M_decode_d28 (v := 0) (by decide +kernel) rfl ?_
      exact iq_iret J_M_decode_d29 rfl rfl ⟨_, rfl, (lw_sI hM1), ed_some h⟩
  refine iq_if_ge hS 13 J_M_decode_d10 (t := 17) rfl (fun q10 => ?_) rfl (fun q10 => ?_)
  · refine iq_iconst hS 18 J_M_decode_d17 (v := 0) (by decide +kernel) rfl ?_
    exact J2 _ _ (by simp only [if_pos q10]) l0 l1
  · refine iq_iconst hS 14 J_M_decode_d13 (v := 1) (by decide +kernel) rfl ?_
    refine iq_goto hS J_M_decode_d14 (t := 18) rfl ?_
    exact J2 _ _ (by simp only [if_neg q10]) l0 l1
theorem f_M_decode_fr {p0 : Int32} {M : im_M} {r : Int32 × im_M} (h : f_M_decode p0 M = some r) : fr 178137172642152398037036854943737670795264 [(69, 0), (69, 10), (69, 12), (108, 0), (108, 4), (108, 7), (108, 8), (108, 9), (108, 28), (108, 29), (108, 30), (108, 31), (108, 32), (130, 0)] M r.2 := by
  replace h : ed (f_M_decode p0 M) (fun x => x = r) := ⟨r, h, rfl⟩
  unfold f_M_decode at h
  obtain ⟨Q1, hQ1, h⟩ := bd2_ed h
  obtain ⟨⟨x1, M1⟩, e1, h⟩ := h
  replace h := hQ1 _ _ h
  by_cases q25 : (im_i (im_setI M1 69 0 ((if 0 ≤ x1 then 0 else 1) : Int32)) 69 0) ≤ 0
  · replace h := ed_pos q25 h
    obtain ⟨Q3, hQ3, h⟩ := bd2_ed h
    obtain ⟨⟨x3, M3⟩, e3, h⟩ := h
    replace h := hQ3 _ _ h
    obtain ⟨Q4, hQ4, h⟩ := bd2_ed h
    obtain ⟨⟨x4, M4⟩, e4, h⟩ := h
    replace h := hQ4 _ _ h
    obtain ⟨Q5, hQ5, h⟩ := bd1_ed h
    have K5 : ∀ (M6 : im_M), fr 178137172642152398037036854943737670795264 [(69, 0), (69, 10), (69, 12), (108, 0), (108, 4), (108, 7), (108, 8), (108, 9), (108, 28), (108, 29), (108, 30), (108, 31), (108, 32), (130, 0)] M M6 → Q5 M6 → fr 178137172642152398037036854943737670795264 [(69, 0), (69, 10), (69, 12), (108, 0), (108, 4), (108, 7), (108, 8), (108, 9), (108, 28), (108, 29), (108, 30), (108, 31), (108, 32), (130, 0)] M r.2 := by
      intro M6 hM6 h
      replace h := hQ5 _ h
      obtain ⟨Q7, hQ7, h⟩ := bd2_ed h
      obtain ⟨⟨x7, M7⟩, e7, h⟩ := h
      replace h := hQ7 _ _ h
      obtain ⟨Q8, hQ8, h⟩ := bd2_ed h
      obtain ⟨⟨x8, M8⟩, e8, h⟩ := h
      replace h := hQ8 _ _ h
      by_cases q127 : x8 < 0
      · replace h := ed_pos q127 h
        exact fr_ret h (fr_tr (fr_mono (by decide) (by decide +kernel) (f_MSquareRows_read_fr e8)) (fr_tr (fr_mono (by decide) (by decide +kernel) (f_MSquareRows_wipe_fr e7)) hM6))
      · replace h := ed_neg q127 h
        obtain ⟨Q9, hQ9, h⟩ := bd1_ed h
        have K9 : ∀ (M10 : im_M), fr 178137172642152398037036854943737670795264 [(69, 0), (69, 10), (69, 12), (108, 0), (108, 4), (108, 7), (108, 8), (108, 9), (108, 28), (108, 29), (108, 30), (108, 31), (108, 32), (130, 0)] M M10 → Q9 M10 → fr 178137172642152398037036854943737670795264 [(69, 0), (69, 10), (69, 12), (108, 0), (108, 4), (108, 7), (108, 8), (108, 9), (108, 28), (108, 29), (108, 30), (108, 31), (108, 32), (130, 0)] M r.2 := by
          intro M10 hM10 h
          replace h := hQ9 _ h
          exact fr_ret h hM10
        obtain ⟨r9, hr9, hq9⟩ := h
        obtain ⟨n9, hn9⟩ := lp_n hr9
        have I9 : ∀ (n : Nat) (x11 : Int32) (M12 : im_M), fr 178137172642152398037036854943737670795264 [(69, 0), (69, 10), (69, 12), (108, 0), (108, 4), (108, 7), (108, 8), (108, 9), (108, 28), (108, 29), (108, 30), (108, 31), (108, 32), (130, 0)] M M12 → lpn (uc2 (f_M_decode_L144 x8)) n (x11, M12) = some r9 → fr 178137172642152398037036854943737670795264 [(69, 0), (69, 10), (69, 12), (108, 0), (108, 4), (108, 7), (108, 8), (108, 9), (108, 28), (108, 29), (108, 30), (108, 31), (108, 32), (130, 0)] M r.2 := by
          intro n
          induction n with
          | zero => intro x11 M12 hM12 hn; exact (lpn_0 hn).elim
          | succ n ih =>
            intro x11 M12 hM12 hn
            have h := lpn_ed2 hn
            unfold f_M_decode_L144 at h
            by_cases q148 : x8 ≤ x11
            · replace h := ed_pos q148 h
              exact K9 _ hM12 (lq_r h hq9)
            · replace h := ed_neg q148 h
              obtain ⟨Q13, hQ13, h⟩ := bd2_ed h
              obtain ⟨⟨x13, M13⟩, e13, h⟩ := h
              replace h := hQ13 _ _ h
              obtain ⟨g166, h⟩ := ed_gd h
              exact ih _ _ (fr_I (by decide) (fr_tr (fr_mono (by decide) (by decide +kernel) (f_MSquareRows_at_fr e13)) hM12)) (lq_l h)
        exact I9 n9 _ _ (fr_F (by decide) (fr_F (by decide) (fr_tr (fr_mono (by decide) (by decide +kernel) (f_MSquareRows_read_fr e8)) (fr_tr (fr_mono (by decide) (by decide +kernel) (f_MSquareRows_wipe_fr e7)) hM6)))) hn9
    obtain ⟨r5, hr5, hq5⟩ := h
    obtain ⟨n5, hn5⟩ := lp_n hr5
    have I5 : ∀ (n : Nat) (x14 : Int32) (M15 : im_M), fr 178137172642152398037036854943737670795264 [(69, 0), (69, 10), (69, 12), (108, 0), (108, 4), (108, 7), (108, 8), (108, 9), (108, 28), (108, 29), (108, 30), (108, 31), (108, 32), (130, 0)] M M15 → lpn (uc2 (f_M_decode_L59 p0 x4)) n (x14, M15) = some r5 → fr 178137172642152398037036854943737670795264 [(69, 0), (69, 10), (69, 12), (108, 0), (108, 4), (108, 7), (108, 8), (108, 9), (108, 28), (108, 29), (108, 30), (108, 31), (108, 32), (130, 0)] M r.2 := by
      intro n
      induction n with
      | zero => intro x14 M15 hM15 hn; exact (lpn_0 hn).elim
      | succ n ih =>
        intro x14 M15 hM15 hn
        have h := lpn_ed2 hn
        unfold f_M_decode_L59 at h
        by_cases q61 : x4 ≤ x14
        · replace h := ed_pos q61 h
          exact K5 _ hM15 (lq_r h hq5)
        · replace h := ed_neg q61 h
          obtain ⟨Q16, hQ16, h⟩ := bd1_ed h
          have K16 : ∀ (M17 : im_M), fr 178137172642152398037036854943737670795264 [(69, 0), (69, 10), (69, 12), (108, 0), (108, 4), (108, 7), (108, 8), (108, 9), (108, 28), (108, 29), (108, 30), (108, 31), (108, 32), (130, 0)] M M17 → Q16 M17 → fr 178137172642152398037036854943737670795264 [(69, 0), (69, 10), (69, 12), (108, 0), (108, 4), (108, 7), (108, 8), (108, 9), (108, 28), (108, 29), (108, 30), (108, 31), (108, 32), (130, 0)] M r.2 := by
            intro M17 hM17 h
            replace h := hQ16 _ h
            exact ih _ _ hM17 (lq_l h)
          obtain ⟨r16, hr16, hq16⟩ := h
          obtain ⟨n16, hn16⟩ := lp_n hr16
          have I16 : ∀ (n : Nat) (x18 : Int32) (M19 : im_M), fr 178137172642152398037036854943737670795264 [(69, 0), (69, 10), (69, 12), (108, 0), (108, 4), (108, 7), (108, 8), (108, 9), (108, 28), (108, 29), (108, 30), (108, 31), (108, 32), (130, 0)] M M19 → lpn (uc2 (f_M_decode_L67 p0 x4 x14)) n (x18, M19) = some r16 → fr 178137172642152398037036854943737670795264 [(69, 0), (69, 10), (69, 12), (108, 0), (108, 4), (108, 7), (108, 8), (108, 9), (108, 28), (108, 29), (108, 30), (108, 31), (108, 32), (130, 0)] M r.2 := by
            intro n
            induction n with
            | zero => intro x18 M19 hM19 hn; exact (lpn_0 hn).elim
            | succ n ih =>
              intro x18 M19 hM19 hn
              have h := lpn_ed2 hn
              unfold f_M_decode_L67 at h
              by_cases q70 : x4 ≤ x18
              · replace h := ed_pos q70 h
                exact K16 _ hM19 (lq_r h hq16)
              · replace h := ed_neg q70 h
                obtain ⟨Q20, hQ20, h⟩ := bd2_ed h
                obtain ⟨⟨x20, M20⟩, e20, h⟩ := h
                replace h := hQ20 _ _ h
                obtain ⟨Q21, hQ21, h⟩ := bd2_ed h
                obtain ⟨⟨x21, M21⟩, e21, h⟩ := h
                replace h := hQ21 _ _ h
                exact ih _ _ (fr_tr (fr_mono (by decide) (by decide +kernel) (f_MSquareRows_spoil_fr e21)) (fr_tr (fr_mono (by decide) (by decide +kernel) (f_MPlaceRows_modules_fr e20)) hM19)) (lq_l h)
          exact I16 n16 _ _ hM15 hn16
    exact I5 n5 _ _ (fr_tr (fr_mono (by decide) (by decide +kernel) (f_MSquareRows_blank_fr e4)) (fr_tr (fr_mono (by decide) (by decide +kernel) (f_MPlaceRows_place_fr e3)) (fr_F (by decide) (fr_F (by decide) (fr_F (by decide) (fr_tr (fr_mono (by decide) (by decide +kernel) (f_MPlaceRows_place_fr e1)) fr_refl)))))) hn5
  · replace h := ed_neg q25 h
    exact fr_ret h (fr_F (by decide) (fr_tr (fr_mono (by decide) (by decide +kernel) (f_MPlaceRows_place_fr e1)) fr_refl))
noncomputable def f_MLineRows_clear (M : im_M) : Option (Int32 × im_M) := some ((im_i (im_setI M 96 3 0) 96 10), (im_setI (im_setI M 96 3 0) 96 10 0))
theorem J_MLineRows_clear_d0 : decode J_MLineRows_clear.2.1 0 = .ok (.aload_n 0, 1) := by decide +kernel
theorem J_MLineRows_clear_d1 : decode J_MLineRows_clear.2.1 1 = .ok (.iconst 0, 1) := by decide +kernel
theorem J_MLineRows_clear_d2 : decode J_MLineRows_clear.2.1 2 = .ok (.putfield 149, 3) := by decide +kernel
theorem J_MLineRows_clear_d5 : decode J_MLineRows_clear.2.1 5 = .ok (.aload_n 0, 1) := by decide +kernel
theorem J_MLineRows_clear_d6 : decode J_MLineRows_clear.2.1 6 = .ok (.getfield 202, 3) := by decide +kernel
theorem J_MLineRows_clear_d9 : decode J_MLineRows_clear.2.1 9 = .ok (.istore_n 1, 1) := by decide +kernel
theorem J_MLineRows_clear_d10 : decode J_MLineRows_clear.2.1 10 = .ok (.aload_n 0, 1) := by decide +kernel
theorem J_MLineRows_clear_d11 : decode J_MLineRows_clear.2.1 11 = .ok (.iconst 0, 1) := by decide +kernel
theorem J_MLineRows_clear_d12 : decode J_MLineRows_clear.2.1 12 = .ok (.putfield 202, 3) := by decide +kernel
theorem J_MLineRows_clear_d15 : decode J_MLineRows_clear.2.1 15 = .ok (.iload_n 1, 1) := by decide +kernel
theorem J_MLineRows_clear_d16 : decode J_MLineRows_clear.2.1 16 = .ok (.ireturn, 1) := by decide +kernel
theorem f_MLineRows_clear_ok {L : Nat} {xs : Nat → Int32} {dep : Nat} {w : Bool} {M : im_M} {Q : Int32 × im_M → Prop} (hM : lw_S w M) (h : ed (f_MLineRows_clear M) Q) : ia (tb_G L xs) dep J_MLineRows_clear (rwI w Q) (0, lv_args 0 [.ref 96], [], M) := by
  have hS : im_St (tb_G L xs) dep J_MLineRows_clear (ia (tb_G L xs) dep J_MLineRows_clear (rwI w Q)) := ia_St
  unfold f_MLineRows_clear at h
  have l0 : im_lk (lv_args 0 [.ref 96]) 0 = some (.ref 96) := rfl
  refine iq_aload_n hS 1 J_MLineRows_clear_d0 l0 rfl ?_
  refine iq_iconst hS 2 J_MLineRows_clear_d1 (v := 0) (by decide +kernel) rfl ?_
  refine iq_putI hS 5 J_MLineRows_clear_d2 lf_13_149 (Or.inl rfl) rfl (ka_96 hM) rfl ?_
  refine iq_aload_n hS 6 J_MLineRows_clear_d5 l0 rfl ?_
  refine iq_getI hS 9 J_MLineRows_clear_d6 lf_13_202 (Or.inl rfl) (ka_96 (lw_sI hM)) rfl ?_
  refine iq_istore_n hS 10 J_MLineRows_clear_d9 (by decide) rfl ?_
  refine iq_aload_n hS 11 J_MLineRows_clear_d10 (lk_1r l0 (by decide)) rfl ?_
  refine iq_iconst hS 12 J_MLineRows_clear_d11 (v := 0) (by decide +kernel) rfl ?_
  refine iq_putI hS 15 J_MLineRows_clear_d12 lf_13_202 (Or.inl rfl) rfl (ka_96 (lw_sI hM)) rfl ?_
  refine iq_iload_n hS 16 J_MLineRows_clear_d15 lk_1s rfl ?_
  exact iq_iret J_MLineRows_clear_d16 rfl rfl ⟨_, rfl, (lw_sI (lw_sI hM)), ed_some h⟩
theorem f_MLineRows_clear_fr {M : im_M} {r : Int32 × im_M} (h : f_MLineRows_clear M = some r) : fr 0 [(96, 3), (96, 10)] M r.2 := by
  replace h : ed (f_MLineRows_clear M) (fun x => x = r) := ⟨r, h, rfl⟩
  unfold f_MLineRows_clear at h
  exact fr_ret h (fr_F (by decide) (fr_F (by decide) fr_refl))
noncomputable def f_MLineRows_put_L23 (v3 : Int32) (v4 : Int64) (x5 : Int32) (M6 : im_M) : Option ((Int32 × im_M) ⊕ (im_M)) := if v3 ≤ x5 then some (.inr M6) else if ¬ (im_i M6 96 3) = 0 then some (.inr M6) else some (.inl ((x5 + 1), (im_setI M6 96 3 ((if ¬ (lg_cmp ((v4 >>> (Int32.toInt64 ((8 : Int32) * x5) &&& 63) : Int64) &&& 255) 0) = 0 then 0 else 1) : Int32))))
noncomputable def f_MLineRows_put_L93 (v10 : Int32) (v11 : Int64) (x12 : Int32) (M13 : im_M) : Option ((Int32 × im_M) ⊕ (im_M)) := if v10 ≤ x12 then some (.inr M13) else gd (inb (im_i M13 96 10) 800) <| some (.inl ((x12 + 1), (im_setI (im_setI M13 103 (Int32.toNatClampNeg (im_i M13 96 10)) (Int64.toInt32 ((v11 >>> (Int32.toInt64 ((8 : Int32) * x12) &&& 63) : Int64) &&& 255))) 96 10 ((im_i (im_setI M13 103 (Int32.toNatClampNeg (im_i M13 96 10)) (Int64.toInt32 ((v11 >>> (Int32.toInt64 ((8 : Int32) * x12) &&& 63) : Int64) &&& 255))) 96 10) + 1))))
noncomputable def f_MLineRows_put (p0 : Int32) (p1 : Int64) (M : im_M) : Option (Int32 × im_M) := bd1 (lp (uc2 (f_MLineRows_put_L23 p0 p1)) (0, (im_setI M 96 3 ((if p0 < 1 then 1 else (if p0 ≤ 8 then 0 else 1)) : Int32)))) fun (M8 : im_M) => if (im_i M8 96 3) ≤ 0 then if ((im_i M8 96 10) + p0) ≤ 800 then bd1 (lp (uc2 (f_MLineRows_put_L93 p0 p1)) (0, M8)) fun (M14 : im_M) => some ((im_i M14 96 10), M14) else some ((-1), M8) else some (0, M8)
theorem J_MLineRows_put_d0 : decode J_MLineRows_put.2.1 0 = .ok (.aload_n 0, 1) := by decide +kernel
theorem J_MLineRows_put_d1 : decode J_MLineRows_put.2.1 1 = .ok (.iload_n 1, 1) := by decide +kernel
theorem J_MLineRows_put_d2 : decode J_MLineRows_put.2.1 2 = .ok (.iconst 1, 1) := by decide +kernel
theorem J_MLineRows_put_d3 : decode J_MLineRows_put.2.1 3 = .ok (.if_icmp .lt 9, 3) := by decide +kernel
theorem J_MLineRows_put_d6 : decode J_MLineRows_put.2.1 6 = .ok (.iload_n 1, 1) := by decide +kernel
theorem J_MLineRows_put_d7 : decode J_MLineRows_put.2.1 7 = .ok (.bipush 8, 2) := by decide +kernel
theorem J_MLineRows_put_d9 : decode J_MLineRows_put.2.1 9 = .ok (.if_icmp .le 7, 3) := by decide +kernel
theorem J_MLineRows_put_d12 : decode J_MLineRows_put.2.1 12 = .ok (.iconst 1, 1) := by decide +kernel
theorem J_MLineRows_put_d13 : decode J_MLineRows_put.2.1 13 = .ok (.goto 4, 3) := by decide +kernel
theorem J_MLineRows_put_d16 : decode J_MLineRows_put.2.1 16 = .ok (.iconst 0, 1) := by decide +kernel
theorem J_MLineRows_put_d17 : decode J_MLineRows_put.2.1 17 = .ok (.putfield 149, 3) := by decide +kernel
theorem J_MLineRows_put_d20 : decode J_MLineRows_put.2.1 20 = .ok (.iconst 0, 1) := by decide +kernel
theorem J_MLineRows_put_d21 : decode J_MLineRows_put.2.1 21 = .ok (.istore 4, 2) := by decide +kernel
theorem J_MLineRows_put_d23 : decode J_MLineRows_put.2.1 23 = .ok (.iload 4, 2) := by decide +kernel
theorem J_MLineRows_put_d25 : decode J_MLineRows_put.2.1 25 = .ok (.iload_n 1, 1) := by decide +kernel
theorem J_MLineRows_put_d26 : decode J_MLineRows_put.2.1 26 = .ok (.if_icmp .ge 41, 3) := by decide +kernel
theorem J_MLineRows_put_d29 : decode J_MLineRows_put.2.1 29 = .ok (.aload_n 0, 1) := by decide +kernel
theorem J_MLineRows_put_d30 : decode J_MLineRows_put.2.1 30 = .ok (.getfield 149, 3) := by decide +kernel
theorem J_MLineRows_put_d33 : decode J_MLineRows_put.2.1 33 = .ok (.ifCond .ne 34, 3) := by decide +kernel
theorem J_MLineRows_put_d36 : decode J_MLineRows_put.2.1 36 = .ok (.aload_n 0, 1) := by decide +kernel
theorem J_MLineRows_put_d37 : decode J_MLineRows_put.2.1 37 = .ok (.lload_n 2, 1) := by decide +kernel
theorem J_MLineRows_put_d38 : decode J_MLineRows_put.2.1 38 = .ok (.bipush 8, 2) := by decide +kernel
theorem J_MLineRows_put_d40 : decode J_MLineRows_put.2.1 40 = .ok (.iload 4, 2) := by decide +kernel
theorem J_MLineRows_put_d42 : decode J_MLineRows_put.2.1 42 = .ok (.imul, 1) := by decide +kernel
theorem J_MLineRows_put_d43 : decode J_MLineRows_put.2.1 43 = .ok (.lshr, 1) := by decide +kernel
theorem J_MLineRows_put_d44 : decode J_MLineRows_put.2.1 44 = .ok (.ldc2_w 153, 3) := by decide +kernel
theorem J_MLineRows_put_d47 : decode J_MLineRows_put.2.1 47 = .ok (.land, 1) := by decide +kernel
theorem J_MLineRows_put_d48 : decode J_MLineRows_put.2.1 48 = .ok (.lconst 0, 1) := by decide +kernel
theorem J_MLineRows_put_d49 : decode J_MLineRows_put.2.1 49 = .ok (.lcmp, 1) := by decide +kernel
theorem J_MLineRows_put_d50 : decode J_MLineRows_put.2.1 50 = .ok (.ifCond .ne 7, 3) := by decide +kernel
theorem J_MLineRows_put_d53 : decode J_MLineRows_put.2.1 53 = .ok (.iconst 1, 1) := by decide +kernel
theorem J_MLineRows_put_d54 : decode J_MLineRows_put.2.1 54 = .ok (.goto 4, 3) := by decide +kernel
theorem J_MLineRows_put_d57 : decode J_MLineRows_put.2.1 57 = .ok (.iconst 0, 1) := by decide +kernel
theorem J_MLineRows_put_d58 : decode J_MLineRows_put.2.1 58 = .ok (.putfield 149, 3) := by decide +kernel
theorem J_MLineRows_put_d61 : decode J_MLineRows_put.2.1 61 = .ok (.iinc 4 1, 3) := by decide +kernel
theorem J_MLineRows_put_d64 : decode J_MLineRows_put.2.1 64 = .ok (.goto (-41), 3) := by decide +kernel
theorem J_MLineRows_put_d67 : decode J_MLineRows_put.2.1 67 = .ok (.aload_n 0, 1) := by decide +kernel
theorem J_MLineRows_put_d68 : decode J_MLineRows_put.2.1 68 = .ok (.getfield 149, 3) := by decide +kernel
theorem J_MLineRows_put_d71 : decode J_MLineRows_put.2.1 71 = .ok (.ifCond .le 5, 3) := by decide +kernel
theorem J_MLineRows_put_d74 : decode J_MLineRows_put.2.1 74 = .ok (.iconst 0, 1) := by decide +kernel
theorem J_MLineRows_put_d75 : decode J_MLineRows_put.2.1 75 = .ok (.ireturn, 1) := by decide +kernel
theorem J_MLineRows_put_d76 : decode J_MLineRows_put.2.1 76 = .ok (.aload_n 0, 1) := by decide +kernel
theorem J_MLineRows_put_d77 : decode J_MLineRows_put.2.1 77 = .ok (.getfield 202, 3) := by decide +kernel
theorem J_MLineRows_put_d80 : decode J_MLineRows_put.2.1 80 = .ok (.iload_n 1, 1) := by decide +kernel
theorem J_MLineRows_put_d81 : decode J_MLineRows_put.2.1 81 = .ok (.iadd, 1) := by decide +kernel
theorem J_MLineRows_put_d82 : decode J_MLineRows_put.2.1 82 = .ok (.sipush 800, 3) := by decide +kernel
theorem J_MLineRows_put_d85 : decode J_MLineRows_put.2.1 85 = .ok (.if_icmp .le 5, 3) := by decide +kernel
theorem J_MLineRows_put_d88 : decode J_MLineRows_put.2.1 88 = .ok (.iconst (-1), 1) := by decide +kernel
theorem J_MLineRows_put_d89 : decode J_MLineRows_put.2.1 89 = .ok (.ireturn, 1) := by decide +kernel
theorem J_MLineRows_put_d90 : decode J_MLineRows_put.2.1 90 = .ok (.iconst 0, 1) := by decide +kernel
theorem J_MLineRows_put_d91 : decode J_MLineRows_put.2.1 91 = .ok (.istore 4, 2) := by decide +kernel
theorem J_MLineRows_put_d93 : decode J_MLineRows_put.2.1 93 = .ok (.iload 4, 2) := by decide +kernel
theorem J_MLineRows_put_d95 : decode J_MLineRows_put.2.1 95 = .ok (.iload_n 1, 1) := by decide +kernel
theorem J_MLineRows_put_d96 : decode J_MLineRows_put.2.1 96 = .ok (.if_icmp .ge 40, 3) := by decide +kernel
theorem J_MLineRows_put_d99 : decode J_MLineRows_put.2.1 99 = .ok (.aload_n 0, 1) := by decide +kernel
theorem J_MLineRows_put_d100 : decode J_MLineRows_put.2.1 100 = .ok (.getfield 134, 3) := by decide +kernel
theorem J_MLineRows_put_d103 : decode J_MLineRows_put.2.1 103 = .ok (.aload_n 0, 1) := by decide +kernel
theorem J_MLineRows_put_d104 : decode J_MLineRows_put.2.1 104 = .ok (.getfield 202, 3) := by decide +kernel
theorem J_MLineRows_put_d107 : decode J_MLineRows_put.2.1 107 = .ok (.lload_n 2, 1) := by decide +kernel
theorem J_MLineRows_put_d108 : decode J_MLineRows_put.2.1 108 = .ok (.bipush 8, 2) := by decide +kernel
theorem J_MLineRows_put_d110 : decode J_MLineRows_put.2.1 110 = .ok (.iload 4, 2) := by decide +kernel
theorem J_MLineRows_put_d112 : decode J_MLineRows_put.2.1 112 = .ok (.imul, 1) := by decide +kernel
theorem J_MLineRows_put_d113 : decode J_MLineRows_put.2.1 113 = .ok (.lshr, 1) := by decide +kernel
theorem J_MLineRows_put_d114 : decode J_MLineRows_put.2.1 114 = .ok (.ldc2_w 153, 3) := by decide +kernel
theorem J_MLineRows_put_d117 : decode J_MLineRows_put.2.1 117 = .ok (.land, 1) := by decide +kernel
theorem J_MLineRows_put_d118 : decode J_MLineRows_put.2.1 118 = .ok (.l2i, 1) := by decide +kernel
theorem J_MLineRows_put_d119 : decode J_MLineRows_put.2.1 119 = .ok (.iastore, 1) := by decide +kernel
theorem J_MLineRows_put_d120 : decode J_MLineRows_put.2.1 120 = .ok (.aload_n 0, 1) := by decide +kernel
theorem J_MLineRows_put_d121 : decode J_MLineRows_put.2.1 121 = .ok (.dup, 1) := by decide +kernel
theorem J_MLineRows_put_d122 : decode J_MLineRows_put.2.1 122 = .ok (.getfield 202, 3) := by decide +kernel
theorem J_MLineRows_put_d125 : decode J_MLineRows_put.2.1 125 = .ok (.iconst 1, 1) := by decide +kernel
theorem J_MLineRows_put_d126 : decode J_MLineRows_put.2.1 126 = .ok (.iadd, 1) := by decide +kernel
theorem J_MLineRows_put_d127 : decode J_MLineRows_put.2.1 127 = .ok (.putfield 202, 3) := by decide +kernel
theorem J_MLineRows_put_d130 : decode J_MLineRows_put.2.1 130 = .ok (.iinc 4 1, 3) := by decide +kernel
theorem J_MLineRows_put_d133 : decode J_MLineRows_put.2.1 133 = .ok (.goto (-40), 3) := by decide +kernel
theorem J_MLineRows_put_d136 : decode J_MLineRows_put.2.1 136 = .ok (.aload_n 0, 1) := by decide +kernel
theorem J_MLineRows_put_d137 : decode J_MLineRows_put.2.1 137 = .ok (.getfield 202, 3) := by decide +kernel
theorem J_MLineRows_put_d140 : decode J_MLineRows_put.2.1 140 = .ok (.ireturn, 1) := by decide +kernel
theorem f_MLineRows_put_ok {L : Nat} {xs : Nat → Int32} {dep : Nat} {w : Bool} {p0 : Int32} {p1 : Int64} {M : im_M} {Q : Int32 × im_M → Prop} (hM : lw_S w M) (h : ed (f_MLineRows_put p0 p1 M) Q) : ia (tb_G L xs) dep J_MLineRows_put (rwI w Q) (0, lv_args 0 [.ref 96, .int p0, .long p1], [], M) := by
  have hS : im_St (tb_G L xs) dep J_MLineRows_put (ia (tb_G L xs) dep J_MLineRows_put (rwI w Q)) := ia_St
  unfold f_MLineRows_put at h
  have l0 : im_lk (lv_args 0 [.ref 96, .int p0, .long p1]) 0 = some (.ref 96) := rfl
  have l1 : im_lk (lv_args 0 [.ref 96, .int p0, .long p1]) 1 = some (.int p0) := rfl
  have l2 : im_lk (lv_args 0 [.ref 96, .int p0, .long p1]) 2 = some (.long p1) := rfl
  refine iq_aload_n hS 1 J_MLineRows_put_d0 l0 rfl ?_
  refine iq_iload_n hS 2 J_MLineRows_put_d1 l1 rfl ?_
  refine iq_iconst hS 3 J_MLineRows_put_d2 (v := 1) (by decide +kernel) rfl ?_
  have J1 : ∀ (z2 : Int32) (L' : List (Nat × Value)), z2 = ((if p0 < 1 then 1 else (if p0 ≤ 8 then 0 else 1)) : Int32) → im_lk L' 0 = some (.ref 96) → im_lk L' 1 = some (.int p0) → im_lk L' 2 = some (.long p1) → ia (tb_G L xs) dep J_MLineRows_put (rwI w Q) (17, L', [.int z2, .ref 96], M) := by
    intro z2 L' e3 l4 l5 l6
    subst e3
    refine iq_putI hS 20 J_MLineRows_put_d17 lf_13_149 (Or.inl rfl) rfl (ka_96 hM) rfl ?_
    refine iq_iconst hS 21 J_MLineRows_put_d20 (v := 0) (by decide +kernel) rfl ?_
    refine iq_istore hS 23 J_MLineRows_put_d21 (by decide) rfl ?_
    obtain ⟨Q7, hQ7, h⟩ := bd1_ed h
    have K7 : ∀ (M8 : im_M) (L' : List (Nat × Value)), lw_S w M8 → im_lk L' 0 = some (.ref 96) → im_lk L' 1 = some (.int p0) → im_lk L' 2 = some (.long p1) → Q7 M8 → ia (tb_G L xs) dep J_MLineRows_put (rwI w Q) (67, L', [], M8) := by
      intro M8 L' hM8 l9 l10 l11 h
      replace h := hQ7 _ h
      refine iq_aload_n hS 68 J_MLineRows_put_d67 l9 rfl ?_
      refine iq_getI hS 71 J_MLineRows_put_d68 lf_13_149 (Or.inl rfl) (ka_96 hM8) rfl ?_
      refine iq_if_le hS 74 J_MLineRows_put_d71 (t := 76) rfl (fun q71 => ?_) rfl (fun q71 => ?_)
      · replace h := ed_pos q71 h
        refine iq_aload_n hS 77 J_MLineRows_put_d76 l9 rfl ?_
        refine iq_getI hS 80 J_MLineRows_put_d77 lf_13_202 (Or.inl rfl) (ka_96 hM8) rfl ?_
        refine iq_iload_n hS 81 J_MLineRows_put_d80 l10 rfl ?_
        refine iq_iadd hS 82 J_MLineRows_put_d81 rfl ?_
        refine iq_sipush hS 85 J_MLineRows_put_d82 (v := 800) (by decide +kernel) rfl ?_
        refine iq_icmp_le hS 88 J_MLineRows_put_d85 (t := 90) rfl (fun q85 => ?_) rfl (fun q85 => ?_)
        · replace h := ed_pos q85 h
          refine iq_iconst hS 91 J_MLineRows_put_d90 (v := 0) (by decide +kernel) rfl ?_
          refine iq_istore hS 93 J_MLineRows_put_d91 (by decide) rfl ?_
          obtain ⟨Q12, hQ12, h⟩ := bd1_ed h
          have K12 : ∀ (M13 : im_M) (L' : List (Nat × Value)), lw_S w M13 → im_lk L' 0 = some (.ref 96) → Q12 M13 → ia (tb_G L xs) dep J_MLineRows_put (rwI w Q) (136, L', [], M13) := by
            intro M13 L' hM13 l14 h
            replace h := hQ12 _ h
            refine iq_aload_n hS 137 J_MLineRows_put_d136 l14 rfl ?_
            refine iq_getI hS 140 J_MLineRows_put_d137 lf_13_202 (Or.inl rfl) (ka_96 hM13) rfl ?_
            exact iq_iret J_MLineRows_put_d140 rfl rfl ⟨_, rfl, hM13, ed_some h⟩
          obtain ⟨r12, hr12, hq12⟩ := h
          obtain ⟨n12, hn12⟩ := lp_n hr12
          have I12 : ∀ (n : Nat) (x15 : Int32) (M16 : im_M) (L' : List (Nat × Value)), lw_S w M16 → im_lk L' 0 = some (.ref 96) → im_lk L' 1 = some (.int p0) → im_lk L' 2 = some (.long p1) → im_lk L' 4 = some (.int x15) → lpn (uc2 (f_MLineRows_put_L93 p0 p1)) n (x15, M16) = some r12 → ia (tb_G L xs) dep J_MLineRows_put (rwI w Q) (93, L', [], M16) := by
            intro n
            induction n with
            | zero => intro x15 M16 L' hM16 l17 l18 l19 l20 hn; exact (lpn_0 hn).elim
            | succ n ih =>
              intro x15 M16 L' hM16 l17 l18 l19 l20 hn
              have h := lpn_ed2 hn
              unfold f_MLineRows_put_L93 at h
              refine iq_iload hS 95 J_MLineRows_put_d93 l20 rfl ?_
              refine iq_iload_n hS 96 J_MLineRows_put_d95 l18 rfl ?_
              refine iq_icmp_ge hS 99 J_MLineRows_put_d96 (t := 136) rfl (fun q96 => ?_) rfl (fun q96 => ?_)
              · replace h := ed_pos q96 h
                exact K12 _ _ hM16 l17 (lq_r h hq12)
              · replace h := ed_neg q96 h
                refine iq_aload_n hS 100 J_MLineRows_put_d99 l17 rfl ?_
                refine iq_getR hS 103 J_MLineRows_put_d100 lf_13_134 (Or.inr ⟨_, rfl⟩) (ka_96 hM16) (ra_96_9 hM16) rfl ?_
                refine iq_aload_n hS 104 J_MLineRows_put_d103 l17 rfl ?_
                refine iq_getI hS 107 J_MLineRows_put_d104 lf_13_202 (Or.inl rfl) (ka_96 hM16) rfl ?_
                refine iq_lload_n hS 108 J_MLineRows_put_d107 l19 rfl ?_
                refine iq_bipush hS 110 J_MLineRows_put_d108 (v := 8) (by decide +kernel) rfl ?_
                refine iq_iload hS 112 J_MLineRows_put_d110 l20 rfl ?_
                refine iq_imul hS 113 J_MLineRows_put_d112 rfl ?_
                refine iq_lshr hS 114 J_MLineRows_put_d113 rfl ?_
                refine iq_ldc2_w hS 117 J_MLineRows_put_d114 lk_13_153 rfl ?_
                refine iq_land hS 118 J_MLineRows_put_d117 rfl ?_
                refine iq_l2i hS 119 J_MLineRows_put_d118 rfl ?_
                obtain ⟨g119, h⟩ := ed_gd h
                refine iq_iastore hS 120 J_MLineRows_put_d119 ⟨(ka_103 hM16).1, (ka_103 hM16).2, g119.1, ix_lt (kl_103 hM16) g119.2⟩ rfl ?_
                refine iq_aload_n hS 121 J_MLineRows_put_d120 l17 rfl ?_
                refine iq_dup hS 122 J_MLineRows_put_d121 rfl rfl ?_
                refine iq_getI hS 125 J_MLineRows_put_d122 lf_13_202 (Or.inl rfl) (ka_96 (lw_sI hM16)) rfl ?_
                refine iq_iconst hS 126 J_MLineRows_put_d125 (v := 1) (by decide +kernel) rfl ?_
                refine iq_iadd hS 127 J_MLineRows_put_d126 rfl ?_
                refine iq_putI hS 130 J_MLineRows_put_d127 lf_13_202 (Or.inl rfl) rfl (ka_96 (lw_sI hM16)) rfl ?_
                refine iq_iincv hS 133 J_MLineRows_put_d130 (c := 1) (by decide +kernel) l20 (by decide) rfl ?_
                refine iq_goto hS J_MLineRows_put_d133 (t := 93) rfl ?_
                exact ih _ _ _ (lw_sI (lw_sI hM16)) (lk_1r l17 (by decide)) (lk_1i l18 (by decide)) (lk_1l l19 (by decide) (by decide)) lk_1s (lq_l h)
          exact I12 n12 _ _ _ hM8 (lk_1r l9 (by decide)) (lk_1i l10 (by decide)) (lk_1l l11 (by decide) (by decide)) lk_1s hn12
        · replace h := ed_neg q85 h
          refine iq_iconst hS 89 J_MLineRows_put_d88 (v := (-1)) (by decide +kernel) rfl ?_
          exact iq_iret J_MLineRows_put_d89 rfl rfl ⟨_, rfl, hM8, ed_some h⟩
      · replace h := ed_neg q71 h
        refine iq_iconst hS 75 J_MLineRows_put_d74 (v := 0) (by decide +kernel) rfl ?_
        exact iq_iret J_MLineRows_put_d75 rfl rfl ⟨_, rfl, hM8, ed_some h⟩
    obtain ⟨r7, hr7, hq7⟩ := h
    obtain ⟨n7, hn7⟩ := lp_n hr7
    have I7 : ∀ (n : Nat) (x21 : Int32) (M22 : im_M) (L' : List (Nat × Value)), lw_S w M22 → im_lk L' 0 = some (.ref 96) → im_lk L' 1 = some (.int p0) → im_lk L' 2 = some (.long p1) → im_lk L' 4 = some (.int x21) → lpn (uc2 (f_MLineRows_put_L23 p0 p1)) n (x21, M22) = some r7 → ia (tb_G L xs) dep J_MLineRows_put (rwI w Q) (23, L', [], M22) := by
      intro n
      induction n with
      | zero => intro x21 M22 L' hM22 l23 l24 l25 l26 hn; exact (lpn_0 hn).elim
      | succ n ih =>
        intro x21 M22 L' hM22 l23 l24 l25 l26 hn
        have h := lpn_ed2 hn
        unfold f_MLineRows_put_L23 at h
        refine iq_iload hS 25 J_MLineRows_put_d23 l26 rfl ?_
        refine iq_iload_n hS 26 J_MLineRows_put_d25 l24 rfl ?_
        refine iq_icmp_ge hS 29 J_MLineRows_put_d26 (t := 67) rfl (fun q26 => ?_) rfl (fun q26 => ?_)
        · replace h := ed_pos q26 h
          exact K7 _ _ hM22 l23 l24 l25 (lq_r h hq7)
        · replace h := ed_neg q26 h
          refine iq_aload_n hS 30 J_MLineRows_put_d29 l23 rfl ?_
          refine iq_getI hS 33 J_MLineRows_put_d30 lf_13_149 (Or.inl rfl) (ka_96 hM22) rfl ?_
          refine iq_if_ne hS 36 J_MLineRows_put_d33 (t := 67) rfl (fun q33 => ?_) rfl (fun q33 => ?_)
          · replace h := ed_pos q33 h
            exact K7 _ _ hM22 l23 l24 l25 (lq_r h hq7)
          · replace h := ed_neg q33 h
            refine iq_aload_n hS 37 J_MLineRows_put_d36 l23 rfl ?_
            refine iq_lload_n hS 38 J_MLineRows_put_d37 l25 rfl ?_
            refine iq_bipush hS 40 J_MLineRows_put_d38 (v := 8) (by decide +kernel) rfl ?_
            refine iq_iload hS 42 J_MLineRows_put_d40 l26 rfl ?_
            refine iq_imul hS 43 J_MLineRows_put_d42 rfl ?_
            refine iq_lshr hS 44 J_MLineRows_put_d43 rfl ?_
            refine iq_ldc2_w hS 47 J_MLineRows_put_d44 lk_13_153 rfl ?_
            refine iq_land hS 48 J_MLineRows_put_d47 rfl ?_
            refine iq_lconst hS 49 J_MLineRows_put_d48 (v := 0) (by decide +kernel) rfl ?_
            refine iq_lcmp hS 50 J_MLineRows_put_d49 rfl ?_
            have J27 : ∀ (z28 : Int32) (L' : List (Nat × Value)), z28 = ((if ¬ (lg_cmp ((p1 >>> (Int32.toInt64 ((8 : Int32) * x21) &&& 63) : Int64) &&& 255) 0) = 0 then 0 else 1) : Int32) → im_lk L' 0 = some (.ref 96) → im_lk L' 1 = some (.int p0) → im_lk L' 2 = some (.long p1) → im_lk L' 4 = some (.int x21) → ia (tb_G L xs) dep J_MLineRows_put (rwI w Q) (58, L', [.int z28, .ref 96], M22) := by
              intro z28 L' e29 l30 l31 l32 l33
              subst e29
              refine iq_putI hS 61 J_MLineRows_put_d58 lf_13_149 (Or.inl rfl) rfl (ka_96 hM22) rfl ?_
              refine iq_iincv hS 64 J_MLineRows_put_d61 (c := 1) (by decide +kernel) l33 (by decide) rfl ?_
              refine iq_goto hS J_MLineRows_put_d64 (t := 23) rfl ?_
              exact ih _ _ _ (lw_sI hM22) (lk_1r l30 (by decide)) (lk_1i l31 (by decide)) (lk_1l l32 (by decide) (by decide)) lk_1s (lq_l h)
            refine iq_if_ne hS 53 J_MLineRows_put_d50 (t := 57) rfl (fun q50 => ?_) rfl (fun q50 => ?_)
            · refine iq_iconst hS 58 J_MLineRows_put_d57 (v := 0) (by decide +kernel) rfl ?_
              exact J27 _ _ (by simp only [if_pos q50]) l23 l24 l25 l26
            · refine iq_iconst hS 54 J_MLineRows_put_d53 (v := 1) (by decide +kernel) rfl ?_
              refine iq_goto hS J_MLineRows_put_d54 (t := 58) rfl ?_
              exact J27 _ _ (by simp only [if_neg q50]) l23 l24 l25 l26
    exact I7 n7 _ _ _ (lw_sI hM) (lk_1r l4 (by decide)) (lk_1i l5 (by decide)) (lk_1l l6 (by decide) (by decide)) lk_1s hn7
  refine iq_icmp_lt hS 6 J_MLineRows_put_d3 (t := 12) rfl (fun q3 => ?_) rfl (fun q3 => ?_)
  · refine iq_iconst hS 13 J_MLineRows_put_d12 (v := 1) (by decide +kernel) rfl ?_
    refine iq_goto hS J_MLineRows_put_d13 (t := 17) rfl ?_
    exact J1 _ _ (by simp only [if_pos q3]) l0 l1 l2
  · refine iq_iload_n hS 7 J_MLineRows_put_d6 l1 rfl ?_
    refine iq_bipush hS 9 J_MLineRows_put_d7 (v := 8) (by decide +kernel) rfl ?_
    refine iq_icmp_le hS 12 J_MLineRows_put_d9 (t := 16) rfl (fun q9 => ?_) rfl (fun q9 => ?_)
    · refine iq_iconst hS 17 J_MLineRows_put_d16 (v := 0) (by decide +kernel) rfl ?_
      exact J1 _ _ (by simp only [if_neg q3, if_pos q9]) l0 l1 l2
    · refine iq_iconst hS 13 J_MLineRows_put_d12 (v := 1) (by decide +kernel) rfl ?_
      refine iq_goto hS J_MLineRows_put_d13 (t := 17) rfl ?_
      exact J1 _ _ (by simp only [if_neg q3, if_neg q9]) l0 l1 l2
theorem f_MLineRows_put_fr {p0 : Int32} {p1 : Int64} {M : im_M} {r : Int32 × im_M} (h : f_MLineRows_put p0 p1 M = some r) : fr 10141204801825835211973625643008 [(96, 3), (96, 10)] M r.2 := by
  replace h : ed (f_MLineRows_put p0 p1 M) (fun x => x = r) := ⟨r, h, rfl⟩
  unfold f_MLineRows_put at h
  obtain ⟨Q2, hQ2, h⟩ := bd1_ed h
  have K2 : ∀ (M3 : im_M), fr 10141204801825835211973625643008 [(96, 3), (96, 10)] M M3 → Q2 M3 → fr 10141204801825835211973625643008 [(96, 3), (96, 10)] M r.2 := by
    intro M3 hM3 h
    replace h := hQ2 _ h
    by_cases q71 : (im_i M3 96 3) ≤ 0
    · replace h := ed_pos q71 h
      by_cases q85 : ((im_i M3 96 10) + p0) ≤ 800
      · replace h := ed_pos q85 h
        obtain ⟨Q4, hQ4, h⟩ := bd1_ed h
        have K4 : ∀ (M5 : im_M), fr 10141204801825835211973625643008 [(96, 3), (96, 10)] M M5 → Q4 M5 → fr 10141204801825835211973625643008 [(96, 3), (96, 10)] M r.2 := by
          intro M5 hM5 h
          replace h := hQ4 _ h
          exact fr_ret h hM5
        obtain ⟨r4, hr4, hq4⟩ := h
        obtain ⟨n4, hn4⟩ := lp_n hr4
        have I4 : ∀ (n : Nat) (x6 : Int32) (M7 : im_M), fr 10141204801825835211973625643008 [(96, 3), (96, 10)] M M7 → lpn (uc2 (f_MLineRows_put_L93 p0 p1)) n (x6, M7) = some r4 → fr 10141204801825835211973625643008 [(96, 3), (96, 10)] M r.2 := by
          intro n
          induction n with
          | zero => intro x6 M7 hM7 hn; exact (lpn_0 hn).elim
          | succ n ih =>
            intro x6 M7 hM7 hn
            have h := lpn_ed2 hn
            unfold f_MLineRows_put_L93 at h
            by_cases q96 : p0 ≤ x6
            · replace h := ed_pos q96 h
              exact K4 _ hM7 (lq_r h hq4)
            · replace h := ed_neg q96 h
              obtain ⟨g119, h⟩ := ed_gd h
              exact ih _ _ (fr_F (by decide) (fr_I (by decide) hM7)) (lq_l h)
        exact I4 n4 _ _ hM3 hn4
      · replace h := ed_neg q85 h
        exact fr_ret h hM3
    · replace h := ed_neg q71 h
      exact fr_ret h hM3
  obtain ⟨r2, hr2, hq2⟩ := h
  obtain ⟨n2, hn2⟩ := lp_n hr2
  have I2 : ∀ (n : Nat) (x8 : Int32) (M9 : im_M), fr 10141204801825835211973625643008 [(96, 3), (96, 10)] M M9 → lpn (uc2 (f_MLineRows_put_L23 p0 p1)) n (x8, M9) = some r2 → fr 10141204801825835211973625643008 [(96, 3), (96, 10)] M r.2 := by
    intro n
    induction n with
    | zero => intro x8 M9 hM9 hn; exact (lpn_0 hn).elim
    | succ n ih =>
      intro x8 M9 hM9 hn
      have h := lpn_ed2 hn
      unfold f_MLineRows_put_L23 at h
      by_cases q26 : p0 ≤ x8
      · replace h := ed_pos q26 h
        exact K2 _ hM9 (lq_r h hq2)
      · replace h := ed_neg q26 h
        by_cases q33 : ¬ (im_i M9 96 3) = 0
        · replace h := ed_pos q33 h
          exact K2 _ hM9 (lq_r h hq2)
        · replace h := ed_neg q33 h
          exact ih _ _ (fr_F (by decide) hM9) (lq_l h)
  exact I2 n2 _ _ (fr_F (by decide) fr_refl) hn2
noncomputable def f_MLineRows_spoil (p0 : Int32) (p1 : Int32) (M : im_M) : Option (Int32 × im_M) := if (im_i (im_setI M 96 3 ((if p0 < 0 then 1 else (if p0 < (im_i M 96 10) then (if p1 < 1 then 2 else (if p1 ≤ 2000 then 0 else 2)) else 1)) : Int32)) 96 3) ≤ 0 then gd (inb p0 800) <| gd (inb p0 800) <| some ((im_i (im_setI M 96 3 ((if p0 < 0 then 1 else (if p0 < (im_i M 96 10) then (if p1 < 1 then 2 else (if p1 ≤ 2000 then 0 else 2)) else 1)) : Int32)) 103 (Int32.toNatClampNeg p0)), (im_setI (im_setI M 96 3 ((if p0 < 0 then 1 else (if p0 < (im_i M 96 10) then (if p1 < 1 then 2 else (if p1 ≤ 2000 then 0 else 2)) else 1)) : Int32)) 103 (Int32.toNatClampNeg p0) p1)) else some (0, (im_setI M 96 3 ((if p0 < 0 then 1 else (if p0 < (im_i M 96 10) then (if p1 < 1 then 2 else (if p1 ≤ 2000 then 0 else 2)) else 1)) : Int32)))
theorem J_MLineRows_spoil_d0 : decode J_MLineRows_spoil.2.1 0 = .ok (.aload_n 0, 1) := by decide +kernel
theorem J_MLineRows_spoil_d1 : decode J_MLineRows_spoil.2.1 1 = .ok (.iload_n 1, 1) := by decide +kernel
theorem J_MLineRows_spoil_d2 : decode J_MLineRows_spoil.2.1 2 = .ok (.ifCond .lt 11, 3) := by decide +kernel
theorem J_MLineRows_spoil_d5 : decode J_MLineRows_spoil.2.1 5 = .ok (.iload_n 1, 1) := by decide +kernel
theorem J_MLineRows_spoil_d6 : decode J_MLineRows_spoil.2.1 6 = .ok (.aload_n 0, 1) := by decide +kernel
theorem J_MLineRows_spoil_d7 : decode J_MLineRows_spoil.2.1 7 = .ok (.getfield 202, 3) := by decide +kernel
theorem J_MLineRows_spoil_d10 : decode J_MLineRows_spoil.2.1 10 = .ok (.if_icmp .lt 7, 3) := by decide +kernel
theorem J_MLineRows_spoil_d13 : decode J_MLineRows_spoil.2.1 13 = .ok (.iconst 1, 1) := by decide +kernel
theorem J_MLineRows_spoil_d14 : decode J_MLineRows_spoil.2.1 14 = .ok (.goto 20, 3) := by decide +kernel
theorem J_MLineRows_spoil_d17 : decode J_MLineRows_spoil.2.1 17 = .ok (.iload_n 2, 1) := by decide +kernel
theorem J_MLineRows_spoil_d18 : decode J_MLineRows_spoil.2.1 18 = .ok (.iconst 1, 1) := by decide +kernel
theorem J_MLineRows_spoil_d19 : decode J_MLineRows_spoil.2.1 19 = .ok (.if_icmp .lt 10, 3) := by decide +kernel
theorem J_MLineRows_spoil_d22 : decode J_MLineRows_spoil.2.1 22 = .ok (.iload_n 2, 1) := by decide +kernel
theorem J_MLineRows_spoil_d23 : decode J_MLineRows_spoil.2.1 23 = .ok (.sipush 2000, 3) := by decide +kernel
theorem J_MLineRows_spoil_d26 : decode J_MLineRows_spoil.2.1 26 = .ok (.if_icmp .le 7, 3) := by decide +kernel
theorem J_MLineRows_spoil_d29 : decode J_MLineRows_spoil.2.1 29 = .ok (.iconst 2, 1) := by decide +kernel
theorem J_MLineRows_spoil_d30 : decode J_MLineRows_spoil.2.1 30 = .ok (.goto 4, 3) := by decide +kernel
theorem J_MLineRows_spoil_d33 : decode J_MLineRows_spoil.2.1 33 = .ok (.iconst 0, 1) := by decide +kernel
theorem J_MLineRows_spoil_d34 : decode J_MLineRows_spoil.2.1 34 = .ok (.putfield 149, 3) := by decide +kernel
theorem J_MLineRows_spoil_d37 : decode J_MLineRows_spoil.2.1 37 = .ok (.aload_n 0, 1) := by decide +kernel
theorem J_MLineRows_spoil_d38 : decode J_MLineRows_spoil.2.1 38 = .ok (.getfield 149, 3) := by decide +kernel
theorem J_MLineRows_spoil_d41 : decode J_MLineRows_spoil.2.1 41 = .ok (.ifCond .le 5, 3) := by decide +kernel
theorem J_MLineRows_spoil_d44 : decode J_MLineRows_spoil.2.1 44 = .ok (.iconst 0, 1) := by decide +kernel
theorem J_MLineRows_spoil_d45 : decode J_MLineRows_spoil.2.1 45 = .ok (.ireturn, 1) := by decide +kernel
theorem J_MLineRows_spoil_d46 : decode J_MLineRows_spoil.2.1 46 = .ok (.aload_n 0, 1) := by decide +kernel
theorem J_MLineRows_spoil_d47 : decode J_MLineRows_spoil.2.1 47 = .ok (.getfield 134, 3) := by decide +kernel
theorem J_MLineRows_spoil_d50 : decode J_MLineRows_spoil.2.1 50 = .ok (.iload_n 1, 1) := by decide +kernel
theorem J_MLineRows_spoil_d51 : decode J_MLineRows_spoil.2.1 51 = .ok (.iaload, 1) := by decide +kernel
theorem J_MLineRows_spoil_d52 : decode J_MLineRows_spoil.2.1 52 = .ok (.istore_n 3, 1) := by decide +kernel
theorem J_MLineRows_spoil_d53 : decode J_MLineRows_spoil.2.1 53 = .ok (.aload_n 0, 1) := by decide +kernel
theorem J_MLineRows_spoil_d54 : decode J_MLineRows_spoil.2.1 54 = .ok (.getfield 134, 3) := by decide +kernel
theorem J_MLineRows_spoil_d57 : decode J_MLineRows_spoil.2.1 57 = .ok (.iload_n 1, 1) := by decide +kernel
theorem J_MLineRows_spoil_d58 : decode J_MLineRows_spoil.2.1 58 = .ok (.iload_n 2, 1) := by decide +kernel
theorem J_MLineRows_spoil_d59 : decode J_MLineRows_spoil.2.1 59 = .ok (.iastore, 1) := by decide +kernel
theorem J_MLineRows_spoil_d60 : decode J_MLineRows_spoil.2.1 60 = .ok (.iload_n 3, 1) := by decide +kernel
theorem J_MLineRows_spoil_d61 : decode J_MLineRows_spoil.2.1 61 = .ok (.ireturn, 1) := by decide +kernel
theorem f_MLineRows_spoil_ok {L : Nat} {xs : Nat → Int32} {dep : Nat} {w : Bool} {p0 : Int32} {p1 : Int32} {M : im_M} {Q : Int32 × im_M → Prop} (hM : lw_S w M) (h : ed (f_MLineRows_spoil p0 p1 M) Q) : ia (tb_G L xs) dep J_MLineRows_spoil (rwI w Q) (0, lv_args 0 [.ref 96, .int p0, .int p1], [], M) := by
  have hS : im_St (tb_G L xs) dep J_MLineRows_spoil (ia (tb_G L xs) dep J_MLineRows_spoil (rwI w Q)) := ia_St
  unfold f_MLineRows_spoil at h
  have l0 : im_lk (lv_args 0 [.ref 96, .int p0, .int p1]) 0 = some (.ref 96) := rfl
  have l1 : im_lk (lv_args 0 [.ref 96, .int p0, .int p1]) 1 = some (.int p0) := rfl
  have l2 : im_lk (lv_args 0 [.ref 96, .int p0, .int p1]) 2 = some (.int p1) := rfl
  refine iq_aload_n hS 1 J_MLineRows_spoil_d0 l0 rfl ?_
  refine iq_iload_n hS 2 J_MLineRows_spoil_d1 l1 rfl ?_
  have J1 : ∀ (z2 : Int32) (L' : List (Nat × Value)), z2 = ((if p0 < 0 then 1 else (if p0 < (im_i M 96 10) then (if p1 < 1 then 2 else (if p1 ≤ 2000 then 0 else 2)) else 1)) : Int32) → im_lk L' 0 = some (.ref 96) → im_lk L' 1 = some (.int p0) → im_lk L' 2 = some (.int p1) → ia (tb_G L xs) dep J_MLineRows_spoil (rwI w Q) (34, L', [.int z2, .ref 96], M) := by
    intro z2 L' e3 l4 l5 l6
    subst e3
    refine iq_putI hS 37 J_MLineRows_spoil_d34 lf_13_149 (Or.inl rfl) rfl (ka_96 hM) rfl ?_
    refine iq_aload_n hS 38 J_MLineRows_spoil_d37 l4 rfl ?_
    refine iq_getI hS 41 J_MLineRows_spoil_d38 lf_13_149 (Or.inl rfl) (ka_96 (lw_sI hM)) rfl ?_
    refine iq_if_le hS 44 J_MLineRows_spoil_d41 (t := 46) rfl (fun q41 => ?_) rfl (fun q41 => ?_)
    · replace h := ed_pos q41 h
      refine iq_aload_n hS 47 J_MLineRows_spoil_d46 l4 rfl ?_
      refine iq_getR hS 50 J_MLineRows_spoil_d47 lf_13_134 (Or.inr ⟨_, rfl⟩) (ka_96 (lw_sI hM)) (ra_96_9 (lw_sI hM)) rfl ?_
      refine iq_iload_n hS 51 J_MLineRows_spoil_d50 l5 rfl ?_
      obtain ⟨g51, h⟩ := ed_gd h
      refine iq_iaload hS 52 J_MLineRows_spoil_d51 ⟨(ka_103 (lw_sI hM)).1, (ka_103 (lw_sI hM)).2, g51.1, ix_lt (kl_103 (lw_sI hM)) g51.2⟩ rfl ?_
      refine iq_istore_n hS 53 J_MLineRows_spoil_d52 (by decide) rfl ?_
      refine iq_aload_n hS 54 J_MLineRows_spoil_d53 (lk_1r l4 (by decide)) rfl ?_
      refine iq_getR hS 57 J_MLineRows_spoil_d54 lf_13_134 (Or.inr ⟨_, rfl⟩) (ka_96 (lw_sI hM)) (ra_96_9 (lw_sI hM)) rfl ?_
      refine iq_iload_n hS 58 J_MLineRows_spoil_d57 (lk_1i l5 (by decide)) rfl ?_
      refine iq_iload_n hS 59 J_MLineRows_spoil_d58 (lk_1i l6 (by decide)) rfl ?_
      obtain ⟨g59, h⟩ := ed_gd h
      refine iq_iastore hS 60 J_MLineRows_spoil_d59 ⟨(ka_103 (lw_sI hM)).1, (ka_103 (lw_sI hM)).2, g59.1, ix_lt (kl_103 (lw_sI hM)) g59.2⟩ rfl ?_
      refine iq_iload_n hS 61 J_MLineRows_spoil_d60 lk_1s rfl ?_
      exact iq_iret J_MLineRows_spoil_d61 rfl rfl ⟨_, rfl, (lw_sI (lw_sI hM)), ed_some h⟩
    · replace h := ed_neg q41 h
      refine iq_iconst hS 45 J_MLineRows_spoil_d44 (v := 0) (by decide +kernel) rfl ?_
      exact iq_iret J_MLineRows_spoil_d45 rfl rfl ⟨_, rfl, (lw_sI hM), ed_some h⟩
  refine iq_if_lt hS 5 J_MLineRows_spoil_d2 (t := 13) rfl (fun q2 => ?_) rfl (fun q2 => ?_)
  · refine iq_iconst hS 14 J_MLineRows_spoil_d13 (v := 1) (by decide +kernel) rfl ?_
    refine iq_goto hS J_MLineRows_spoil_d14 (t := 34) rfl ?_
    exact J1 _ _ (by simp only [if_pos q2]) l0 l1 l2
  · refine iq_iload_n hS 6 J_MLineRows_spoil_d5 l1 rfl ?_
    refine iq_aload_n hS 7 J_MLineRows_spoil_d6 l0 rfl ?_
    refine iq_getI hS 10 J_MLineRows_spoil_d7 lf_13_202 (Or.inl rfl) (ka_96 hM) rfl ?_
    refine iq_icmp_lt hS 13 J_MLineRows_spoil_d10 (t := 17) rfl (fun q10 => ?_) rfl (fun q10 => ?_)
    · refine iq_iload_n hS 18 J_MLineRows_spoil_d17 l2 rfl ?_
      refine iq_iconst hS 19 J_MLineRows_spoil_d18 (v := 1) (by decide +kernel) rfl ?_
      refine iq_icmp_lt hS 22 J_MLineRows_spoil_d19 (t := 29) rfl (fun q19 => ?_) rfl (fun q19 => ?_)
      · refine iq_iconst hS 30 J_MLineRows_spoil_d29 (v := 2) (by decide +kernel) rfl ?_
        refine iq_goto hS J_MLineRows_spoil_d30 (t := 34) rfl ?_
        exact J1 _ _ (by simp only [if_neg q2, if_pos q10, if_pos q19]) l0 l1 l2
      · refine iq_iload_n hS 23 J_MLineRows_spoil_d22 l2 rfl ?_
        refine iq_sipush hS 26 J_MLineRows_spoil_d23 (v := 2000) (by decide +kernel) rfl ?_
        refine iq_icmp_le hS 29 J_MLineRows_spoil_d26 (t := 33) rfl (fun q26 => ?_) rfl (fun q26 => ?_)
        · refine iq_iconst hS 34 J_MLineRows_spoil_d33 (v := 0) (by decide +kernel) rfl ?_
          exact J1 _ _ (by simp only [if_neg q2, if_pos q10, if_neg q19, if_pos q26]) l0 l1 l2
        · refine iq_iconst hS 30 J_MLineRows_spoil_d29 (v := 2) (by decide +kernel) rfl ?_
          refine iq_goto hS J_MLineRows_spoil_d30 (t := 34) rfl ?_
          exact J1 _ _ (by simp only [if_neg q2, if_pos q10, if_neg q19, if_neg q26]) l0 l1 l2
    · refine iq_iconst hS 14 J_MLineRows_spoil_d13 (v := 1) (by decide +kernel) rfl ?_
      refine iq_goto hS J_MLineRows_spoil_d14 (t := 34) rfl ?_
      exact J1 _ _ (by simp only [if_neg q2, if_neg q10]) l0 l1 l2
theorem f_MLineRows_spoil_fr {p0 : Int32} {p1 : Int32} {M : im_M} {r : Int32 × im_M} (h : f_MLineRows_spoil p0 p1 M = some r) : fr 10141204801825835211973625643008 [(96, 3)] M r.2 := by
  replace h : ed (f_MLineRows_spoil p0 p1 M) (fun x => x = r) := ⟨r, h, rfl⟩
  unfold f_MLineRows_spoil at h
  by_cases q41 : (im_i (im_setI M 96 3 ((if p0 < 0 then 1 else (if p0 < (im_i M 96 10) then (if p1 < 1 then 2 else (if p1 ≤ 2000 then 0 else 2)) else 1)) : Int32)) 96 3) ≤ 0
  · replace h := ed_pos q41 h
    obtain ⟨g51, h⟩ := ed_gd h
    obtain ⟨g59, h⟩ := ed_gd h
    exact fr_ret h (fr_I (by decide) (fr_F (by decide) fr_refl))
  · replace h := ed_neg q41 h
    exact fr_ret h (fr_F (by decide) fr_refl)
noncomputable def f_M_strip_L12 (v3 : Int32) (v4 : Int32) (v5 : Int32) (v6 : Int32) (x7 : Int32) (M8 : im_M) : Option ((Int32 × im_M) ⊕ (im_M)) := if v5 ≤ x7 then some (.inr M8) else bd2 (f_MLineRows_put 1 1 M8) fun (x9 : Int32) (M9 : im_M) => bd2 (f_MDotRows_run v3 v4 x7 v6 M9) fun (x10 : Int32) (M10 : im_M) => bd2 (f_MLineRows_spoil x7 x10 M10) fun (x11 : Int32) (M11 : im_M) => some (.inl ((x7 + 1), M11))
noncomputable def f_M_strip (p0 : Int32) (p1 : Int32) (p2 : Int32) (p3 : Int32) (M : im_M) : Option (im_M) := bd2 (f_MLineRows_clear M) fun (x1 : Int32) (M1 : im_M) => bd1 (lp (uc2 (f_M_strip_L12 p0 p1 p2 p3)) (0, M1)) fun (M12 : im_M) => some M12
theorem J_M_strip_d0 : decode J_M_strip.2.1 0 = .ok (.aload_n 0, 1) := by decide +kernel
theorem J_M_strip_d1 : decode J_M_strip.2.1 1 = .ok (.getfield 30, 3) := by decide +kernel
theorem J_M_strip_d4 : decode J_M_strip.2.1 4 = .ok (.invokevirtual 245, 3) := by decide +kernel
theorem J_M_strip_d7 : decode J_M_strip.2.1 7 = .ok (.istore 5, 2) := by decide +kernel
theorem J_M_strip_d9 : decode J_M_strip.2.1 9 = .ok (.iconst 0, 1) := by decide +kernel
theorem J_M_strip_d10 : decode J_M_strip.2.1 10 = .ok (.istore 6, 2) := by decide +kernel
theorem J_M_strip_d12 : decode J_M_strip.2.1 12 = .ok (.iload 6, 2) := by decide +kernel
theorem J_M_strip_d14 : decode J_M_strip.2.1 14 = .ok (.iload_n 3, 1) := by decide +kernel
theorem J_M_strip_d15 : decode J_M_strip.2.1 15 = .ok (.if_icmp .ge 44, 3) := by decide +kernel
theorem J_M_strip_d18 : decode J_M_strip.2.1 18 = .ok (.aload_n 0, 1) := by decide +kernel
theorem J_M_strip_d19 : decode J_M_strip.2.1 19 = .ok (.getfield 30, 3) := by decide +kernel
theorem J_M_strip_d22 : decode J_M_strip.2.1 22 = .ok (.iconst 1, 1) := by decide +kernel
theorem J_M_strip_d23 : decode J_M_strip.2.1 23 = .ok (.lconst 1, 1) := by decide +kernel
theorem J_M_strip_d24 : decode J_M_strip.2.1 24 = .ok (.invokevirtual 248, 3) := by decide +kernel
theorem J_M_strip_d27 : decode J_M_strip.2.1 27 = .ok (.istore 5, 2) := by decide +kernel
theorem J_M_strip_d29 : decode J_M_strip.2.1 29 = .ok (.aload_n 0, 1) := by decide +kernel
theorem J_M_strip_d30 : decode J_M_strip.2.1 30 = .ok (.getfield 30, 3) := by decide +kernel
theorem J_M_strip_d33 : decode J_M_strip.2.1 33 = .ok (.iload 6, 2) := by decide +kernel
theorem J_M_strip_d35 : decode J_M_strip.2.1 35 = .ok (.aload_n 0, 1) := by decide +kernel
theorem J_M_strip_d36 : decode J_M_strip.2.1 36 = .ok (.getfield 23, 3) := by decide +kernel
theorem J_M_strip_d39 : decode J_M_strip.2.1 39 = .ok (.iload_n 1, 1) := by decide +kernel
theorem J_M_strip_d40 : decode J_M_strip.2.1 40 = .ok (.iload_n 2, 1) := by decide +kernel
theorem J_M_strip_d41 : decode J_M_strip.2.1 41 = .ok (.iload 6, 2) := by decide +kernel
theorem J_M_strip_d43 : decode J_M_strip.2.1 43 = .ok (.iload 4, 2) := by decide +kernel
theorem J_M_strip_d45 : decode J_M_strip.2.1 45 = .ok (.invokevirtual 219, 3) := by decide +kernel
theorem J_M_strip_d48 : decode J_M_strip.2.1 48 = .ok (.invokevirtual 249, 3) := by decide +kernel
theorem J_M_strip_d51 : decode J_M_strip.2.1 51 = .ok (.istore 5, 2) := by decide +kernel
theorem J_M_strip_d53 : decode J_M_strip.2.1 53 = .ok (.iinc 6 1, 3) := by decide +kernel
theorem J_M_strip_d56 : decode J_M_strip.2.1 56 = .ok (.goto (-44), 3) := by decide +kernel
theorem J_M_strip_d59 : decode J_M_strip.2.1 59 = .ok (.return_, 1) := by decide +kernel
theorem f_M_strip_ok {L : Nat} {xs : Nat → Int32} {dep : Nat} {w : Bool} {p0 : Int32} {p1 : Int32} {p2 : Int32} {p3 : Int32} {M : im_M} {Q : im_M → Prop} (hM : lw_S w M) (h : ed (f_M_strip p0 p1 p2 p3 M) Q) : ia (tb_G L xs) (dep + 3) J_M_strip (rwV w Q) (0, lv_args 0 [.ref 69, .int p0, .int p1, .int p2, .int p3], [], M) := by
  have hS : im_St (tb_G L xs) (dep + 3) J_M_strip (ia (tb_G L xs) (dep + 3) J_M_strip (rwV w Q)) := ia_St
  unfold f_M_strip at h
  have l0 : im_lk (lv_args 0 [.ref 69, .int p0, .int p1, .int p2, .int p3]) 0 = some (.ref 69) := rfl
  have l1 : im_lk (lv_args 0 [.ref 69, .int p0, .int p1, .int p2, .int p3]) 1 = some (.int p0) := rfl
  have l2 : im_lk (lv_args 0 [.ref 69, .int p0, .int p1, .int p2, .int p3]) 2 = some (.int p1) := rfl
  have l3 : im_lk (lv_args 0 [.ref 69, .int p0, .int p1, .int p2, .int p3]) 3 = some (.int p2) := rfl
  have l4 : im_lk (lv_args 0 [.ref 69, .int p0, .int p1, .int p2, .int p3]) 4 = some (.int p3) := rfl
  refine iq_aload_n hS 1 J_M_strip_d0 l0 rfl ?_
  refine iq_getR hS 4 J_M_strip_d1 lf_17_30 (Or.inl ⟨_, rfl⟩) (ka_69 hM) (ra_69_5 hM) rfl ?_
  obtain ⟨Q1, hQ1, h⟩ := bd2_ed h
  refine iq_cwI hS 7 J_M_strip_d4 rfl (pr_inst (vs := []) lc_17_245 lT_508 rfl rfl (by decide) (by decide) rfl (Nat.le_of_ble_eq_true rfl) (Nat.le_of_ble_eq_true rfl) (fun _ => Or.inl (pr_b (ka_96 hM) (by decide) rfl))) (f_MLineRows_clear_ok (dep := dep + 2) hM h) rfl ?_
  intro x1 M1 hM1 h
  replace h := hQ1 _ _ h
  refine iq_istore hS 9 J_M_strip_d7 (by decide) rfl ?_
  refine iq_iconst hS 10 J_M_strip_d9 (v := 0) (by decide +kernel) rfl ?_
  refine iq_istore hS 12 J_M_strip_d10 (by decide) rfl ?_
  obtain ⟨Q2, hQ2, h⟩ := bd1_ed h
  have K2 : ∀ (M3 : im_M) (L' : List (Nat × Value)), lw_S w M3 → Q2 M3 → ia (tb_G L xs) (dep + 3) J_M_strip (rwV w Q) (59, L', [], M3) := by
    intro M3 L' hM3  h
    replace h := hQ2 _ h
    exact iq_ret J_M_strip_d59 rfl ⟨rfl, hM3, ed_some h⟩
  obtain ⟨r2, hr2, hq2⟩ := h
  obtain ⟨n2, hn2⟩ := lp_n hr2
  have I2 : ∀ (n : Nat) (x4 : Int32) (M5 : im_M) (L' : List (Nat × Value)), lw_S w M5 → im_lk L' 0 = some (.ref 69) → im_lk L' 1 = some (.int p0) → im_lk L' 2 = some (.int p1) → im_lk L' 3 = some (.int p2) → im_lk L' 4 = some (.int p3) → im_lk L' 6 = some (.int x4) → lpn (uc2 (f_M_strip_L12 p0 p1 p2 p3)) n (x4, M5) = some r2 → ia (tb_G L xs) (dep + 3) J_M_strip (rwV w Q) (12, L', [], M5) := by
    intro n
    induction n with
    | zero => intro x4 M5 L' hM5 l6 l7 l8 l9 l10 l11 hn; exact (lpn_0 hn).elim
    | succ n ih =>
      intro x4 M5 L' hM5 l6 l7 l8 l9 l10 l11 hn
      have h := lpn_ed2 hn
      unfold f_M_strip_L12 at h
      refine iq_iload hS 14 J_M_strip_d12 l11 rfl ?_
      refine iq_iload_n hS 15 J_M_strip_d14 l9 rfl ?_
      refine iq_icmp_ge hS 18 J_M_strip_d15 (t := 59) rfl (fun q15 => ?_) rfl (fun q15 => ?_)
      · replace h := ed_pos q15 h
        exact K2 _ _ hM5  (lq_r h hq2)
      · replace h := ed_neg q15 h
        refine iq_aload_n hS 19 J_M_strip_d18 l6 rfl ?_
        refine iq_getR hS 22 J_M_strip_d19 lf_17_30 (Or.inl ⟨_, rfl⟩) (ka_69 hM5) (ra_69_5 hM5) rfl ?_
        refine iq_iconst hS 23 J_M_strip_d22 (v := 1) (by decide +kernel) rfl ?_
        refine iq_lconst hS 24 J_M_strip_d23 (v := 1) (by decide +kernel) rfl ?_
        obtain ⟨Q12, hQ12, h⟩ := bd2_ed h
        refine iq_cwI hS 27 J_M_strip_d24 rfl (pr_inst (vs := [_, _]) lc_17_248 lT_509 rfl rfl (by decide) (by decide) rfl (Nat.le_of_ble_eq_true rfl) (Nat.le_of_ble_eq_true rfl) (fun _ => Or.inl (pr_b (ka_96 hM5) (by decide) rfl))) (f_MLineRows_put_ok (dep := dep + 2) hM5 h) rfl ?_
        intro x12 M12 hM12 h
        replace h := hQ12 _ _ h
        refine iq_istore hS 29 J_M_strip_d27 (by decide) rfl ?_
        refine iq_aload_n hS 30 J_M_strip_d29 (lk_1r l6 (by decide)) rfl ?_
        refine iq_getR hS 33 J_M_strip_d30 lf_17_30 (Or.inl ⟨_, rfl⟩) (ka_69 hM12) (ra_69_5 hM12) rfl ?_
        refine iq_iload hS 35 J_M_strip_d33 (lk_1i l11 (by decide)) rfl ?_
        refine iq_aload_n hS 36 J_M_strip_d35 (lk_1r l6 (by decide)) rfl ?_
        refine iq_getR hS 39 J_M_strip_d36 lf_17_23 (Or.inl ⟨_, rfl⟩) (ka_69 hM12) (ra_69_4 hM12) rfl ?_
        refine iq_iload_n hS 40 J_M_strip_d39 (lk_1i l7 (by decide)) rfl ?_
        refine iq_iload_n hS 41 J_M_strip_d40 (lk_1i l8 (by decide)) rfl ?_
        refine iq_iload hS 43 J_M_strip_d41 (lk_1i l11 (by decide)) rfl ?_
        refine iq_iload hS 45 J_M_strip_d43 (lk_1i l10 (by decide)) rfl ?_
        obtain ⟨Q13, hQ13, h⟩ := bd2_ed h
        refine iq_cwI hS 48 J_M_strip_d45 rfl (pr_inst (vs := [_, _, _, _]) lc_17_219 lT_459 rfl rfl (by decide) (by decide) rfl (Nat.le_of_ble_eq_true rfl) (Nat.le_of_ble_eq_true rfl) (fun _ => Or.inl (pr_b (ka_89 hM12) (by decide) rfl))) (f_MDotRows_run_ok (dep := dep + 0) hM12 h) rfl ?_
        intro x13 M13 hM13 h
        replace h := hQ13 _ _ h
        obtain ⟨Q14, hQ14, h⟩ := bd2_ed h
        refine iq_cwI hS 51 J_M_strip_d48 rfl (pr_inst (vs := [_, _]) lc_17_249 lT_510 rfl rfl (by decide) (by decide) rfl (Nat.le_of_ble_eq_true rfl) (Nat.le_of_ble_eq_true rfl) (fun _ => Or.inl (pr_b (ka_96 hM13) (by decide) rfl))) (f_MLineRows_spoil_ok (dep := dep + 2) hM13 h) rfl ?_
        intro x14 M14 hM14 h
        replace h := hQ14 _ _ h
        refine iq_istore hS 53 J_M_strip_d51 (by decide) rfl ?_
        refine iq_iincv hS 56 J_M_strip_d53 (c := 1) (by decide +kernel) (lk_1i (lk_1i l11 (by decide)) (by decide)) (by decide) rfl ?_
        refine iq_goto hS J_M_strip_d56 (t := 12) rfl ?_
        exact ih _ _ _ hM14 (lk_1r (lk_1r (lk_1r l6 (by decide)) (by decide)) (by decide)) (lk_1i (lk_1i (lk_1i l7 (by decide)) (by decide)) (by decide)) (lk_1i (lk_1i (lk_1i l8 (by decide)) (by decide)) (by decide)) (lk_1i (lk_1i (lk_1i l9 (by decide)) (by decide)) (by decide)) (lk_1i (lk_1i (lk_1i l10 (by decide)) (by decide)) (by decide)) lk_1s (lq_l h)
  exact I2 n2 _ _ _ hM1 (lk_1r (lk_1r l0 (by decide)) (by decide)) (lk_1i (lk_1i l1 (by decide)) (by decide)) (lk_1i (lk_1i l2 (by decide)) (by decide)) (lk_1i (lk_1i l3 (by decide)) (by decide)) (lk_1i (lk_1i l4 (by decide)) (by decide)) lk_1s hn2
theorem f_M_strip_fr {p0 : Int32} {p1 : Int32} {p2 : Int32} {p3 : Int32} {M : im_M} {r : im_M} (h : f_M_strip p0 p1 p2 p3 M = some r) : fr 10141204801825835211973625643008 [(89, 0), (96, 3), (96, 10)] M r := by
  replace h : ed (f_M_strip p0 p1 p2 p3 M) (fun x => x = r) := ⟨r, h, rfl⟩
  unfold f_M_strip at h
  obtain ⟨Q1, hQ1, h⟩ := bd2_ed h
  obtain ⟨⟨x1, M1⟩, e1, h⟩ := h
  replace h := hQ1 _ _ h
  obtain ⟨Q2, hQ2, h⟩ := bd1_ed h
  have K2 : ∀ (M3 : im_M), fr 10141204801825835211973625643008 [(89, 0), (96, 3), (96, 10)] M M3 → Q2 M3 → fr 10141204801825835211973625643008 [(89, 0), (96, 3), (96, 10)] M r := by
    intro M3 hM3 h
    replace h := hQ2 _ h
    exact fr_retV h hM3
  obtain ⟨r2, hr2, hq2⟩ := h
  obtain ⟨n2, hn2⟩ := lp_n hr2
  have I2 : ∀ (n : Nat) (x4 : Int32) (M5 : im_M), fr 10141204801825835211973625643008 [(89, 0), (96, 3), (96, 10)] M M5 → lpn (uc2 (f_M_strip_L12 p0 p1 p2 p3)) n (x4, M5) = some r2 → fr 10141204801825835211973625643008 [(89, 0), (96, 3), (96, 10)] M r := by
    intro n
    induction n with
    | zero => intro x4 M5 hM5 hn; exact (lpn_0 hn).elim
    | succ n ih =>
      intro x4 M5 hM5 hn
      have h := lpn_ed2 hn
      unfold f_M_strip_L12 at h
      by_cases q15 : p2 ≤ x4
      · replace h := ed_pos q15 h
        exact K2 _ hM5 (lq_r h hq2)
      · replace h := ed_neg q15 h
        obtain ⟨Q6, hQ6, h⟩ := bd2_ed h
        obtain ⟨⟨x6, M6⟩, e6, h⟩ := h
        replace h := hQ6 _ _ h
        obtain ⟨Q7, hQ7, h⟩ := bd2_ed h
        obtain ⟨⟨x7, M7⟩, e7, h⟩ := h
        replace h := hQ7 _ _ h
        obtain ⟨Q8, hQ8, h⟩ := bd2_ed h
        obtain ⟨⟨x8, M8⟩, e8, h⟩ := h
        replace h := hQ8 _ _ h
        exact ih _ _ (fr_tr (fr_mono (by decide) (by decide +kernel) (f_MLineRows_spoil_fr e8)) (fr_tr (fr_mono (by decide) (by decide +kernel) (f_MDotRows_run_fr e7)) (fr_tr (fr_mono (by decide) (by decide +kernel) (f_MLineRows_put_fr e6)) hM5))) (lq_l h)
  exact I2 n2 _ _ (fr_tr (fr_mono (by decide) (by decide +kernel) (f_MLineRows_clear_fr e1)) fr_refl) hn2
noncomputable def f_MLineRows_sumOf_L5 (v2 : Int32) (v3 : Int32) (M6 : im_M) (x4 : Int32) (x5 : Int32) : Option ((Int32 × Int32) ⊕ (Int32)) := if (v2 + v3) ≤ x5 then some (.inr x4) else gd (inb x5 800) <| some (.inl ((x4 + (im_i M6 103 (Int32.toNatClampNeg x5))), (x5 + 1)))
noncomputable def f_MLineRows_sumOf (p0 : Int32) (p1 : Int32) (M : im_M) : Option (Int32) := bd1 (lp (uc2 (f_MLineRows_sumOf_L5 p0 p1 M)) (0, p0)) fun (y7 : Int32) => some y7
theorem J_MLineRows_sumOf_d0 : decode J_MLineRows_sumOf.2.1 0 = .ok (.iconst 0, 1) := by decide +kernel
theorem J_MLineRows_sumOf_d1 : decode J_MLineRows_sumOf.2.1 1 = .ok (.istore_n 3, 1) := by decide +kernel
theorem J_MLineRows_sumOf_d2 : decode J_MLineRows_sumOf.2.1 2 = .ok (.iload_n 1, 1) := by decide +kernel
theorem J_MLineRows_sumOf_d3 : decode J_MLineRows_sumOf.2.1 3 = .ok (.istore 4, 2) := by decide +kernel
theorem J_MLineRows_sumOf_d5 : decode J_MLineRows_sumOf.2.1 5 = .ok (.iload 4, 2) := by decide +kernel
theorem J_MLineRows_sumOf_d7 : decode J_MLineRows_sumOf.2.1 7 = .ok (.iload_n 1, 1) := by decide +kernel
theorem J_MLineRows_sumOf_d8 : decode J_MLineRows_sumOf.2.1 8 = .ok (.iload_n 2, 1) := by decide +kernel
theorem J_MLineRows_sumOf_d9 : decode J_MLineRows_sumOf.2.1 9 = .ok (.iadd, 1) := by decide +kernel
theorem J_MLineRows_sumOf_d10 : decode J_MLineRows_sumOf.2.1 10 = .ok (.if_icmp .ge 19, 3) := by decide +kernel
theorem J_MLineRows_sumOf_d13 : decode J_MLineRows_sumOf.2.1 13 = .ok (.iload_n 3, 1) := by decide +kernel
theorem J_MLineRows_sumOf_d14 : decode J_MLineRows_sumOf.2.1 14 = .ok (.aload_n 0, 1) := by decide +kernel
theorem J_MLineRows_sumOf_d15 : decode J_MLineRows_sumOf.2.1 15 = .ok (.getfield 134, 3) := by decide +kernel
theorem J_MLineRows_sumOf_d18 : decode J_MLineRows_sumOf.2.1 18 = .ok (.iload 4, 2) := by decide +kernel
theorem J_MLineRows_sumOf_d20 : decode J_MLineRows_sumOf.2.1 20 = .ok (.iaload, 1) := by decide +kernel
theorem J_MLineRows_sumOf_d21 : decode J_MLineRows_sumOf.2.1 21 = .ok (.iadd, 1) := by decide +kernel
theorem J_MLineRows_sumOf_d22 : decode J_MLineRows_sumOf.2.1 22 = .ok (.istore_n 3, 1) := by decide +kernel
theorem J_MLineRows_sumOf_d23 : decode J_MLineRows_sumOf.2.1 23 = .ok (.iinc 4 1, 3) := by decide +kernel
theorem J_MLineRows_sumOf_d26 : decode J_MLineRows_sumOf.2.1 26 = .ok (.goto (-21), 3) := by decide +kernel
theorem J_MLineRows_sumOf_d29 : decode J_MLineRows_sumOf.2.1 29 = .ok (.iload_n 3, 1) := by decide +kernel
theorem J_MLineRows_sumOf_d30 : decode J_MLineRows_sumOf.2.1 30 = .ok (.ireturn, 1) := by decide +kernel
theorem f_MLineRows_sumOf_ok {L : Nat} {xs : Nat → Int32} {dep : Nat} {w : Bool} {p0 : Int32} {p1 : Int32} {M : im_M} {Q : Int32 → Prop} (hM : lw_S w M) (h : ed (f_MLineRows_sumOf p0 p1 M) Q) : ia (tb_G L xs) dep J_MLineRows_sumOf (rpI M Q) (0, lv_args 0 [.ref 96, .int p0, .int p1], [], M) := by
  have hS : im_St (tb_G L xs) dep J_MLineRows_sumOf (ia (tb_G L xs) dep J_MLineRows_sumOf (rpI M Q)) := ia_St
  unfold f_MLineRows_sumOf at h
  have l0 : im_lk (lv_args 0 [.ref 96, .int p0, .int p1]) 0 = some (.ref 96) := rfl
  have l1 : im_lk (lv_args 0 [.ref 96, .int p0, .int p1]) 1 = some (.int p0) := rfl
  have l2 : im_lk (lv_args 0 [.ref 96, .int p0, .int p1]) 2 = some (.int p1) := rfl
  refine iq_iconst hS 1 J_MLineRows_sumOf_d0 (v := 0) (by decide +kernel) rfl ?_
  refine iq_istore_n hS 2 J_MLineRows_sumOf_d1 (by decide) rfl ?_
  refine iq_iload_n hS 3 J_MLineRows_sumOf_d2 (lk_1i l1 (by decide)) rfl ?_
  refine iq_istore hS 5 J_MLineRows_sumOf_d3 (by decide) rfl ?_
  obtain ⟨Q1, hQ1, h⟩ := bd1_ed h
  have K1 : ∀ (y2 : Int32) (L' : List (Nat × Value)), im_lk L' 3 = some (.int y2) → Q1 y2 → ia (tb_G L xs) dep J_MLineRows_sumOf (rpI M Q) (29, L', [], M) := by
    intro y2 L' l3 h
    replace h := hQ1 _ h
    refine iq_iload_n hS 30 J_MLineRows_sumOf_d29 l3 rfl ?_
    exact iq_iret J_MLineRows_sumOf_d30 rfl rfl ⟨_, rfl, rfl, ed_some h⟩
  obtain ⟨r1, hr1, hq1⟩ := h
  obtain ⟨n1, hn1⟩ := lp_n hr1
  have I1 : ∀ (n : Nat) (x4 : Int32) (x5 : Int32) (L' : List (Nat × Value)), im_lk L' 0 = some (.ref 96) → im_lk L' 1 = some (.int p0) → im_lk L' 2 = some (.int p1) → im_lk L' 3 = some (.int x4) → im_lk L' 4 = some (.int x5) → lpn (uc2 (f_MLineRows_sumOf_L5 p0 p1 M)) n (x4, x5) = some r1 → ia (tb_G L xs) dep J_MLineRows_sumOf (rpI M Q) (5, L', [], M) := by
    intro n
    induction n with
    | zero => intro x4 x5 L' l6 l7 l8 l9 l10 hn; exact (lpn_0 hn).elim
    | succ n ih =>
      intro x4 x5 L' l6 l7 l8 l9 l10 hn
      have h := lpn_ed2 hn
      unfold f_MLineRows_sumOf_L5 at h
      refine iq_iload hS 7 J_MLineRows_sumOf_d5 l10 rfl ?_
      refine iq_iload_n hS 8 J_MLineRows_sumOf_d7 l7 rfl ?_
      refine iq_iload_n hS 9 J_MLineRows_sumOf_d8 l8 rfl ?_
      refine iq_iadd hS 10 J_MLineRows_sumOf_d9 rfl ?_
      refine iq_icmp_ge hS 13 J_MLineRows_sumOf_d10 (t := 29) rfl (fun q10 => ?_) rfl (fun q10 => ?_)
      · replace h := ed_pos q10 h
        exact K1 _ _ l9 (lq_r h hq1)
      · replace h := ed_neg q10 h
        refine iq_iload_n hS 14 J_MLineRows_sumOf_d13 l9 rfl ?_
        refine iq_aload_n hS 15 J_MLineRows_sumOf_d14 l6 rfl ?_
        refine iq_getR hS 18 J_MLineRows_sumOf_d15 lf_13_134 (Or.inr ⟨_, rfl⟩) (ka_96 hM) (ra_96_9 hM) rfl ?_
        refine iq_iload hS 20 J_MLineRows_sumOf_d18 l10 rfl ?_
        obtain ⟨g20, h⟩ := ed_gd h
        refine iq_iaload hS 21 J_MLineRows_sumOf_d20 ⟨(ka_103 hM).1, (ka_103 hM).2, g20.1, ix_lt (kl_103 hM) g20.2⟩ rfl ?_
        refine iq_iadd hS 22 J_MLineRows_sumOf_d21 rfl ?_
        refine iq_istore_n hS 23 J_MLineRows_sumOf_d22 (by decide) rfl ?_
        refine iq_iincv hS 26 J_MLineRows_sumOf_d23 (c := 1) (by decide +kernel) (lk_1i l10 (by decide)) (by decide) rfl ?_
        refine iq_goto hS J_MLineRows_sumOf_d26 (t := 5) rfl ?_
        exact ih _ _ _ (lk_1r (lk_1r l6 (by decide)) (by decide)) (lk_1i (lk_1i l7 (by decide)) (by decide)) (lk_1i (lk_1i l8 (by decide)) (by decide)) (lk_1i lk_1s (by decide)) lk_1s (lq_l h)
  exact I1 n1 _ _ _ (lk_1r (lk_1r l0 (by decide)) (by decide)) (lk_1i (lk_1i l1 (by decide)) (by decide)) (lk_1i (lk_1i l2 (by decide)) (by decide)) (lk_1i lk_1s (by decide)) lk_1s hn1
noncomputable def f_MLineRows_counts_L6 (v2 : Int32) (v3 : Int32) (v4 : Int32) (v5 : Int32) (M8 : im_M) (x6 : Int32) (x7 : Int32) : Option ((Int32 × Int32) ⊕ (Int32)) := if (v2 + v3) ≤ x7 then some (.inr x6) else gd (inb x7 800) <| gd (¬ ((2 : Int32) * v4) = (0 : Int32)) <| some (.inl ((((10 : Int32) * x6) + ((if (((((2 : Int32) * (im_i M8 103 (Int32.toNatClampNeg x7))) * v5) + v4) / ((2 : Int32) * v4)) ≤ 9 then (((((2 : Int32) * (im_i M8 103 (Int32.toNatClampNeg x7))) * v5) + v4) / ((2 : Int32) * v4)) else 9) : Int32)), (x7 + 1)))
noncomputable def f_MLineRows_counts (p0 : Int32) (p1 : Int32) (p2 : Int32) (p3 : Int32) (M : im_M) : Option (Int32) := bd1 (lp (uc2 (f_MLineRows_counts_L6 p0 p1 p2 p3 M)) (0, p0)) fun (y10 : Int32) => some y10
theorem J_MLineRows_counts_d0 : decode J_MLineRows_counts.2.1 0 = .ok (.iconst 0, 1) := by decide +kernel
theorem J_MLineRows_counts_d1 : decode J_MLineRows_counts.2.1 1 = .ok (.istore 5, 2) := by decide +kernel
theorem J_MLineRows_counts_d3 : decode J_MLineRows_counts.2.1 3 = .ok (.iload_n 1, 1) := by decide +kernel
theorem J_MLineRows_counts_d4 : decode J_MLineRows_counts.2.1 4 = .ok (.istore 6, 2) := by decide +kernel
theorem J_MLineRows_counts_d6 : decode J_MLineRows_counts.2.1 6 = .ok (.iload 6, 2) := by decide +kernel
theorem J_MLineRows_counts_d8 : decode J_MLineRows_counts.2.1 8 = .ok (.iload_n 1, 1) := by decide +kernel
theorem J_MLineRows_counts_d9 : decode J_MLineRows_counts.2.1 9 = .ok (.iload_n 2, 1) := by decide +kernel
theorem J_MLineRows_counts_d10 : decode J_MLineRows_counts.2.1 10 = .ok (.iadd, 1) := by decide +kernel
theorem J_MLineRows_counts_d11 : decode J_MLineRows_counts.2.1 11 = .ok (.if_icmp .ge 51, 3) := by decide +kernel
theorem J_MLineRows_counts_d14 : decode J_MLineRows_counts.2.1 14 = .ok (.iconst 2, 1) := by decide +kernel
theorem J_MLineRows_counts_d15 : decode J_MLineRows_counts.2.1 15 = .ok (.aload_n 0, 1) := by decide +kernel
theorem J_MLineRows_counts_d16 : decode J_MLineRows_counts.2.1 16 = .ok (.getfield 134, 3) := by decide +kernel
theorem J_MLineRows_counts_d19 : decode J_MLineRows_counts.2.1 19 = .ok (.iload 6, 2) := by decide +kernel
theorem J_MLineRows_counts_d21 : decode J_MLineRows_counts.2.1 21 = .ok (.iaload, 1) := by decide +kernel
theorem J_MLineRows_counts_d22 : decode J_MLineRows_counts.2.1 22 = .ok (.imul, 1) := by decide +kernel
theorem J_MLineRows_counts_d23 : decode J_MLineRows_counts.2.1 23 = .ok (.iload 4, 2) := by decide +kernel
theorem J_MLineRows_counts_d25 : decode J_MLineRows_counts.2.1 25 = .ok (.imul, 1) := by decide +kernel
theorem J_MLineRows_counts_d26 : decode J_MLineRows_counts.2.1 26 = .ok (.iload_n 3, 1) := by decide +kernel
theorem J_MLineRows_counts_d27 : decode J_MLineRows_counts.2.1 27 = .ok (.iadd, 1) := by decide +kernel
theorem J_MLineRows_counts_d28 : decode J_MLineRows_counts.2.1 28 = .ok (.iconst 2, 1) := by decide +kernel
theorem J_MLineRows_counts_d29 : decode J_MLineRows_counts.2.1 29 = .ok (.iload_n 3, 1) := by decide +kernel
theorem J_MLineRows_counts_d30 : decode J_MLineRows_counts.2.1 30 = .ok (.imul, 1) := by decide +kernel
theorem J_MLineRows_counts_d31 : decode J_MLineRows_counts.2.1 31 = .ok (.idiv, 1) := by decide +kernel
theorem J_MLineRows_counts_d32 : decode J_MLineRows_counts.2.1 32 = .ok (.istore 7, 2) := by decide +kernel
theorem J_MLineRows_counts_d34 : decode J_MLineRows_counts.2.1 34 = .ok (.bipush 10, 2) := by decide +kernel
theorem J_MLineRows_counts_d36 : decode J_MLineRows_counts.2.1 36 = .ok (.iload 5, 2) := by decide +kernel
theorem J_MLineRows_counts_d38 : decode J_MLineRows_counts.2.1 38 = .ok (.imul, 1) := by decide +kernel
theorem J_MLineRows_counts_d39 : decode J_MLineRows_counts.2.1 39 = .ok (.iload 7, 2) := by decide +kernel
theorem J_MLineRows_counts_d41 : decode J_MLineRows_counts.2.1 41 = .ok (.bipush 9, 2) := by decide +kernel
theorem J_MLineRows_counts_d43 : decode J_MLineRows_counts.2.1 43 = .ok (.if_icmp .le 8, 3) := by decide +kernel
theorem J_MLineRows_counts_d46 : decode J_MLineRows_counts.2.1 46 = .ok (.bipush 9, 2) := by decide +kernel
theorem J_MLineRows_counts_d48 : decode J_MLineRows_counts.2.1 48 = .ok (.goto 5, 3) := by decide +kernel
theorem J_MLineRows_counts_d51 : decode J_MLineRows_counts.2.1 51 = .ok (.iload 7, 2) := by decide +kernel
theorem J_MLineRows_counts_d53 : decode J_MLineRows_counts.2.1 53 = .ok (.iadd, 1) := by decide +kernel
theorem J_MLineRows_counts_d54 : decode J_MLineRows_counts.2.1 54 = .ok (.istore 5, 2) := by decide +kernel
theorem J_MLineRows_counts_d56 : decode J_MLineRows_counts.2.1 56 = .ok (.iinc 6 1, 3) := by decide +kernel
theorem J_MLineRows_counts_d59 : decode J_MLineRows_counts.2.1 59 = .ok (.goto (-53), 3) := by decide +kernel
theorem J_MLineRows_counts_d62 : decode J_MLineRows_counts.2.1 62 = .ok (.iload 5, 2) := by decide +kernel
theorem J_MLineRows_counts_d64 : decode J_MLineRows_counts.2.1 64 = .ok (.ireturn, 1) := by decide +kernel
theorem f_MLineRows_counts_ok {L : Nat} {xs : Nat → Int32} {dep : Nat} {w : Bool} {p0 : Int32} {p1 : Int32} {p2 : Int32} {p3 : Int32} {M : im_M} {Q : Int32 → Prop} (hM : lw_S w M) (h : ed (f_MLineRows_counts p0 p1 p2 p3 M) Q) : ia (tb_G L xs) dep J_MLineRows_counts (rpI M Q) (0, lv_args 0 [.ref 96, .int p0, .int p1, .int p2, .int p3], [], M) := by
  have hS : im_St (tb_G L xs) dep J_MLineRows_counts (ia (tb_G L xs) dep J_MLineRows_counts (rpI M Q)) := ia_St
  unfold f_MLineRows_counts at h
  have l0 : im_lk (lv_args 0 [.ref 96, .int p0, .int p1, .int p2, .int p3]) 0 = some (.ref 96) := rfl
  have l1 : im_lk (lv_args 0 [.ref 96, .int p0, .int p1, .int p2, .int p3]) 1 = some (.int p0) := rfl
  have l2 : im_lk (lv_args 0 [.ref 96, .int p0, .int p1, .int p2, .int p3]) 2 = some (.int p1) := rfl
  have l3 : im_lk (lv_args 0 [.ref 96, .int p0, .int p1, .int p2, .int p3]) 3 = some (.int p2) := rfl
  have l4 : im_lk (lv_args 0 [.ref 96, .int p0, .int p1, .int p2, .int p3]) 4 = some (.int p3) := rfl
  refine iq_iconst hS 1 J_MLineRows_counts_d0 (v := 0) (by decide +kernel) rfl ?_
  refine iq_istore hS 3 J_MLineRows_counts_d1 (by decide) rfl ?_
  refine iq_iload_n hS 4 J_MLineRows_counts_d3 (lk_1i l1 (by decide)) rfl ?_
  refine iq_istore hS 6 J_MLineRows_counts_d4 (by decide) rfl ?_
  obtain ⟨Q1, hQ1, h⟩ := bd1_ed h
  have K1 : ∀ (y2 : Int32) (L' : List (Nat × Value)), im_lk L' 5 = some (.int y2) → Q1 y2 → ia (tb_G L xs) dep J_MLineRows_counts (rpI M Q) (62, L', [], M) := by
    intro y2 L' l3 h
    replace h := hQ1 _ h
    refine iq_iload hS 64 J_MLineRows_counts_d62 l3 rfl ?_
    exact iq_iret J_MLineRows_counts_d64 rfl rfl ⟨_, rfl, rfl, ed_some h⟩
  obtain ⟨r1, hr1, hq1⟩ := h
  obtain ⟨n1, hn1⟩ := lp_n hr1
  have I1 : ∀ (n : Nat) (x4 : Int32) (x5 : Int32) (L' : List (Nat × Value)), im_lk L' 0 = some (.ref 96) → im_lk L' 1 = some (.int p0) → im_lk L' 2 = some (.int p1) → im_lk L' 3 = some (.int p2) → im_lk L' 4 = some (.int p3) → im_lk L' 5 = some (.int x4) → im_lk L' 6 = some (.int x5) → lpn (uc2 (f_MLineRows_counts_L6 p0 p1 p2 p3 M)) n (x4, x5) = some r1 → ia (tb_G L xs) dep J_MLineRows_counts (rpI M Q) (6, L', [], M) := by
    intro n
    induction n with
    | zero => intro x4 x5 L' l6 l7 l8 l9 l10 l11 l12 hn; exact (lpn_0 hn).elim
    | succ n ih =>
      intro x4 x5 L' l6 l7 l8 l9 l10 l11 l12 hn
      have h := lpn_ed2 hn
      unfold f_MLineRows_counts_L6 at h
      refine iq_iload hS 8 J_MLineRows_counts_d6 l12 rfl ?_
      refine iq_iload_n hS 9 J_MLineRows_counts_d8 l7 rfl ?_
      refine iq_iload_n hS 10 J_MLineRows_counts_d9 l8 rfl ?_
      refine iq_iadd hS 11 J_MLineRows_counts_d10 rfl ?_
      refine iq_icmp_ge hS 14 J_MLineRows_counts_d11 (t := 62) rfl (fun q11 => ?_) rfl (fun q11 => ?_)
      · replace h := ed_pos q11 h
        exact K1 _ _ l11 (lq_r h hq1)
      · replace h := ed_neg q11 h
        refine iq_iconst hS 15 J_MLineRows_counts_d14 (v := 2) (by decide +kernel) rfl ?_
        refine iq_aload_n hS 16 J_MLineRows_counts_d15 l6 rfl ?_
        refine iq_getR hS 19 J_MLineRows_counts_d16 lf_13_134 (Or.inr ⟨_, rfl⟩) (ka_96 hM) (ra_96_9 hM) rfl ?_
        refine iq_iload hS 21 J_MLineRows_counts_d19 l12 rfl ?_
        obtain ⟨g21, h⟩ := ed_gd h
        refine iq_iaload hS 22 J_MLineRows_counts_d21 ⟨(ka_103 hM).1, (ka_103 hM).2, g21.1, ix_lt (kl_103 hM) g21.2⟩ rfl ?_
        refine iq_imul hS 23 J_MLineRows_counts_d22 rfl ?_
        refine iq_iload hS 25 J_MLineRows_counts_d23 l10 rfl ?_
        refine iq_imul hS 26 J_MLineRows_counts_d25 rfl ?_
        refine iq_iload_n hS 27 J_MLineRows_counts_d26 l9 rfl ?_
        refine iq_iadd hS 28 J_MLineRows_counts_d27 rfl ?_
        refine iq_iconst hS 29 J_MLineRows_counts_d28 (v := 2) (by decide +kernel) rfl ?_
        refine iq_iload_n hS 30 J_MLineRows_counts_d29 l9 rfl ?_
        refine iq_imul hS 31 J_MLineRows_counts_d30 rfl ?_
        obtain ⟨g31, h⟩ := ed_gd h
        refine iq_idiv hS 32 J_MLineRows_counts_d31 g31 rfl ?_
        refine iq_istore hS 34 J_MLineRows_counts_d32 (by decide) rfl ?_
        refine iq_bipush hS 36 J_MLineRows_counts_d34 (v := 10) (by decide +kernel) rfl ?_
        refine iq_iload hS 38 J_MLineRows_counts_d36 (lk_1i l11 (by decide)) rfl ?_
        refine iq_imul hS 39 J_MLineRows_counts_d38 rfl ?_
        refine iq_iload hS 41 J_MLineRows_counts_d39 lk_1s rfl ?_
        refine iq_bipush hS 43 J_MLineRows_counts_d41 (v := 9) (by decide +kernel) rfl ?_
        have J13 : ∀ (z14 : Int32) (L' : List (Nat × Value)), z14 = ((if (((((2 : Int32) * (im_i M 103 (Int32.toNatClampNeg x5))) * p3) + p2) / ((2 : Int32) * p2)) ≤ 9 then (((((2 : Int32) * (im_i M 103 (Int32.toNatClampNeg x5))) * p3) + p2) / ((2 : Int32) * p2)) else 9) : Int32) → im_lk L' 0 = some (.ref 96) → im_lk L' 1 = some (.int p0) → im_lk L' 2 = some (.int p1) → im_lk L' 3 = some (.int p2) → im_lk L' 4 = some (.int p3) → im_lk L' 6 = some (.int x5) → ia (tb_G L xs) dep J_MLineRows_counts (rpI M Q) (53, L', [.int z14, .int ((10 : Int32) * x4)], M) := by
          intro z14 L' e15 l16 l17 l18 l19 l20 l21
          subst e15
          refine iq_iadd hS 54 J_MLineRows_counts_d53 rfl ?_
          refine iq_istore hS 56 J_MLineRows_counts_d54 (by decide) rfl ?_
          refine iq_iincv hS 59 J_MLineRows_counts_d56 (c := 1) (by decide +kernel) (lk_1i l21 (by decide)) (by decide) rfl ?_
          refine iq_goto hS J_MLineRows_counts_d59 (t := 6) rfl ?_
          exact ih _ _ _ (lk_1r (lk_1r l16 (by decide)) (by decide)) (lk_1i (lk_1i l17 (by decide)) (by decide)) (lk_1i (lk_1i l18 (by decide)) (by decide)) (lk_1i (lk_1i l19 (by decide)) (by decide)) (lk_1i (lk_1i l20 (by decide)) (by decide)) (lk_1i lk_1s (by decide)) lk_1s (lq_l h)
        refine iq_icmp_le hS 46 J_MLineRows_counts_d43 (t := 51) rfl (fun q43 => ?_) rfl (fun q43 => ?_)
        · refine iq_iload hS 53 J_MLineRows_counts_d51 lk_1s rfl ?_
          exact J13 _ _ (by simp only [if_pos q43]) (lk_1r l6 (by decide)) (lk_1i l7 (by decide)) (lk_1i l8 (by decide)) (lk_1i l9 (by decide)) (lk_1i l10 (by decide)) (lk_1i l12 (by decide))
        · refine iq_bipush hS 48 J_MLineRows_counts_d46 (v := 9) (by decide +kernel) rfl ?_
          refine iq_goto hS J_MLineRows_counts_d48 (t := 53) rfl ?_
          exact J13 _ _ (by simp only [if_neg q43]) (lk_1r l6 (by decide)) (lk_1i l7 (by decide)) (lk_1i l8 (by decide)) (lk_1i l9 (by decide)) (lk_1i l10 (by decide)) (lk_1i l12 (by decide))
  exact I1 n1 _ _ _ (lk_1r (lk_1r l0 (by decide)) (by decide)) (lk_1i (lk_1i l1 (by decide)) (by decide)) (lk_1i (lk_1i l2 (by decide)) (by decide)) (lk_1i (lk_1i l3 (by decide)) (by decide)) (lk_1i (lk_1i l4 (by decide)) (by decide)) (lk_1i lk_1s (by decide)) lk_1s hn1
noncomputable def f_MLineRows_place_L2 (v2 : Int32) (M4 : im_M) (x3 : Int32) : Option ((Int32) ⊕ ((Unit) ⊕ (Int32))) := if 106 ≤ x3 then some (.inr (.inl ())) else gd (inb x3 106) <| if ¬ (im_i M4 97 (Int32.toNatClampNeg x3)) = v2 then some (.inl (x3 + 1)) else some (.inr (.inr x3))
noncomputable def f_MLineRows_place (p1 : Int32) (M : im_M) : Option (Int32) := bs0 (lp (uc1 (f_MLineRows_place_L2 p1 M)) 0) (fun (_ : Unit) => some (-1)) (fun t => some t)
theorem J_MLineRows_place_d0 : decode J_MLineRows_place.2.1 0 = .ok (.iconst 0, 1) := by decide +kernel
theorem J_MLineRows_place_d1 : decode J_MLineRows_place.2.1 1 = .ok (.istore_n 2, 1) := by decide +kernel
theorem J_MLineRows_place_d2 : decode J_MLineRows_place.2.1 2 = .ok (.iload_n 2, 1) := by decide +kernel
theorem J_MLineRows_place_d3 : decode J_MLineRows_place.2.1 3 = .ok (.aload_n 0, 1) := by decide +kernel
theorem J_MLineRows_place_d4 : decode J_MLineRows_place.2.1 4 = .ok (.arraylength, 1) := by decide +kernel
theorem J_MLineRows_place_d5 : decode J_MLineRows_place.2.1 5 = .ok (.if_icmp .ge 18, 3) := by decide +kernel
theorem J_MLineRows_place_d8 : decode J_MLineRows_place.2.1 8 = .ok (.aload_n 0, 1) := by decide +kernel
theorem J_MLineRows_place_d9 : decode J_MLineRows_place.2.1 9 = .ok (.iload_n 2, 1) := by decide +kernel
theorem J_MLineRows_place_d10 : decode J_MLineRows_place.2.1 10 = .ok (.iaload, 1) := by decide +kernel
theorem J_MLineRows_place_d11 : decode J_MLineRows_place.2.1 11 = .ok (.iload_n 1, 1) := by decide +kernel
theorem J_MLineRows_place_d12 : decode J_MLineRows_place.2.1 12 = .ok (.if_icmp .ne 5, 3) := by decide +kernel
theorem J_MLineRows_place_d15 : decode J_MLineRows_place.2.1 15 = .ok (.iload_n 2, 1) := by decide +kernel
theorem J_MLineRows_place_d16 : decode J_MLineRows_place.2.1 16 = .ok (.ireturn, 1) := by decide +kernel
theorem J_MLineRows_place_d17 : decode J_MLineRows_place.2.1 17 = .ok (.iinc 2 1, 3) := by decide +kernel
theorem J_MLineRows_place_d20 : decode J_MLineRows_place.2.1 20 = .ok (.goto (-18), 3) := by decide +kernel
theorem J_MLineRows_place_d23 : decode J_MLineRows_place.2.1 23 = .ok (.iconst (-1), 1) := by decide +kernel
theorem J_MLineRows_place_d24 : decode J_MLineRows_place.2.1 24 = .ok (.ireturn, 1) := by decide +kernel
theorem f_MLineRows_place_ok {L : Nat} {xs : Nat → Int32} {dep : Nat} {w : Bool} {p1 : Int32} {M : im_M} {Q : Int32 → Prop} (hM : lw_S w M) (h : ed (f_MLineRows_place p1 M) Q) : ia (tb_G L xs) dep J_MLineRows_place (rpI M Q) (0, lv_args 0 [.ref 97, .int p1], [], M) := by
  have hS : im_St (tb_G L xs) dep J_MLineRows_place (ia (tb_G L xs) dep J_MLineRows_place (rpI M Q)) := ia_St
  unfold f_MLineRows_place at h
  have l0 : im_lk (lv_args 0 [.ref 97, .int p1]) 0 = some (.ref 97) := rfl
  have l1 : im_lk (lv_args 0 [.ref 97, .int p1]) 1 = some (.int p1) := rfl
  refine iq_iconst hS 1 J_MLineRows_place_d0 (v := 0) (by decide +kernel) rfl ?_
  refine iq_istore_n hS 2 J_MLineRows_place_d1 (by decide) rfl ?_
  obtain ⟨Q1, hQ1, hR1, h⟩ := bs0_ed h
  have K1 : ∀  (L' : List (Nat × Value)), Q1 (.inl ()) → ia (tb_G L xs) dep J_MLineRows_place (rpI M Q) (23, L', [], M) := by
    intro  L'  h
    replace h := hQ1  h
    refine iq_iconst hS 24 J_MLineRows_place_d23 (v := (-1)) (by decide +kernel) rfl ?_
    exact iq_iret J_MLineRows_place_d24 rfl rfl ⟨_, rfl, rfl, ed_some h⟩
  obtain ⟨r1, hr1, hq1⟩ := h
  obtain ⟨n1, hn1⟩ := lp_n hr1
  have I1 : ∀ (n : Nat) (x2 : Int32) (L' : List (Nat × Value)), im_lk L' 0 = some (.ref 97) → im_lk L' 1 = some (.int p1) → im_lk L' 2 = some (.int x2) → lpn (uc1 (f_MLineRows_place_L2 p1 M)) n x2 = some r1 → ia (tb_G L xs) dep J_MLineRows_place (rpI M Q) (2, L', [], M) := by
    intro n
    induction n with
    | zero => intro x2 L' l3 l4 l5 hn; exact (lpn_0 hn).elim
    | succ n ih =>
      intro x2 L' l3 l4 l5 hn
      have h := lpn_ed1 hn
      unfold f_MLineRows_place_L2 at h
      refine iq_iload_n hS 3 J_MLineRows_place_d2 l5 rfl ?_
      refine iq_aload_n hS 4 J_MLineRows_place_d3 l3 rfl ?_
      refine iq_alenv hS 5 J_MLineRows_place_d4 (v := 106) (ka_97 hM) (by decide) (by decide) (kl_97 hM) (by decide +kernel) rfl ?_
      refine iq_icmp_ge hS 8 J_MLineRows_place_d5 (t := 23) rfl (fun q5 => ?_) rfl (fun q5 => ?_)
      · replace h := ed_pos q5 h
        exact K1  _  (lq_r h hq1)
      · replace h := ed_neg q5 h
        refine iq_aload_n hS 9 J_MLineRows_place_d8 l3 rfl ?_
        refine iq_iload_n hS 10 J_MLineRows_place_d9 l5 rfl ?_
        obtain ⟨g10, h⟩ := ed_gd h
        refine iq_iaload hS 11 J_MLineRows_place_d10 ⟨(ka_97 hM).1, (ka_97 hM).2, g10.1, ix_lt (kl_97 hM) g10.2⟩ rfl ?_
        refine iq_iload_n hS 12 J_MLineRows_place_d11 l4 rfl ?_
        refine iq_icmp_ne hS 15 J_MLineRows_place_d12 (t := 17) rfl (fun q12 => ?_) rfl (fun q12 => ?_)
        · replace h := ed_pos q12 h
          refine iq_iincv hS 20 J_MLineRows_place_d17 (c := 1) (by decide +kernel) l5 (by decide) rfl ?_
          refine iq_goto hS J_MLineRows_place_d20 (t := 2) rfl ?_
          exact ih _ _ (lk_1r l3 (by decide)) (lk_1i l4 (by decide)) lk_1s (lq_l h)
        · replace h := ed_neg q12 h
          refine iq_iload_n hS 16 J_MLineRows_place_d15 l5 rfl ?_
          exact iq_iret J_MLineRows_place_d16 rfl rfl ⟨_, rfl, rfl, ed_some (hR1 _ (lq_r h hq1))⟩
  exact I1 n1 _ _ (lk_1r l0 (by decide)) (lk_1i l1 (by decide)) lk_1s hn1
noncomputable def f_MLineRows_check_1_L6 (v2 : Int32) (M5 : im_M) (x3 : Int32) (x4 : Int32) : Option ((Int32 × Int32) ⊕ (Int32)) := if v2 ≤ x4 then some (.inr x3) else gd (inb x4 140) <| some (.inl ((x3 + (x4 * (im_i M5 105 (Int32.toNatClampNeg x4)))), (x4 + 1)))
noncomputable def f_MLineRows_check_1 (p1 : Int32) (M : im_M) : Option (Int32) := gd (inb 0 140) <| bd1 (lp (uc2 (f_MLineRows_check_1_L6 p1 M)) ((im_i M 105 (Int32.toNatClampNeg 0)), 1)) fun (y6 : Int32) => some (y6 - y6 / 103 * 103)
theorem f_MLineRows_check_1_ok {L : Nat} {xs : Nat → Int32} {dep : Nat} {w : Bool} {p1 : Int32} {M : im_M} {Q : Int32 → Prop} (hM : lw_S w M) (h : ed (f_MLineRows_check_1 p1 M) Q) : ia (tb_G L xs) dep J_MLineRows_check (rpI M Q) (0, lv_args 0 [.ref 105, .int p1], [], M) := by
  have hS : im_St (tb_G L xs) dep J_MLineRows_check (ia (tb_G L xs) dep J_MLineRows_check (rpI M Q)) := ia_St
  unfold f_MLineRows_check_1 at h
  have l0 : im_lk (lv_args 0 [.ref 105, .int p1]) 0 = some (.ref 105) := rfl
  have l1 : im_lk (lv_args 0 [.ref 105, .int p1]) 1 = some (.int p1) := rfl
  refine iq_aload_n hS 1 J_MLineRows_check_d0 l0 rfl ?_
  refine iq_iconst hS 2 J_MLineRows_check_d1 (v := 0) (by decide +kernel) rfl ?_
  obtain ⟨g2, h⟩ := ed_gd h
  refine iq_iaload hS 3 J_MLineRows_check_d2 ⟨(ka_105 hM).1, (ka_105 hM).2, g2.1, ix_lt (kl_105 hM) g2.2⟩ rfl ?_
  refine iq_istore_n hS 4 J_MLineRows_check_d3 (by decide) rfl ?_
  refine iq_iconst hS 5 J_MLineRows_check_d4 (v := 1) (by decide +kernel) rfl ?_
  refine iq_istore_n hS 6 J_MLineRows_check_d5 (by decide) rfl ?_
  obtain ⟨Q1, hQ1, h⟩ := bd1_ed h
  have K1 : ∀ (y2 : Int32) (L' : List (Nat × Value)), im_lk L' 2 = some (.int y2) → Q1 y2 → ia (tb_G L xs) dep J_MLineRows_check (rpI M Q) (25, L', [], M) := by
    intro y2 L' l3 h
    replace h := hQ1 _ h
    refine iq_iload_n hS 26 J_MLineRows_check_d25 l3 rfl ?_
    refine iq_bipush hS 28 J_MLineRows_check_d26 (v := 103) (by decide +kernel) rfl ?_
    refine iq_irem hS 29 J_MLineRows_check_d28 (by decide) rfl ?_
    exact iq_iret J_MLineRows_check_d29 rfl rfl ⟨_, rfl, rfl, ed_some h⟩
  obtain ⟨r1, hr1, hq1⟩ := h
  obtain ⟨n1, hn1⟩ := lp_n hr1
  have I1 : ∀ (n : Nat) (x4 : Int32) (x5 : Int32) (L' : List (Nat × Value)), im_lk L' 0 = some (.ref 105) → im_lk L' 1 = some (.int p1) → im_lk L' 2 = some (.int x4) → im_lk L' 3 = some (.int x5) → lpn (uc2 (f_MLineRows_check_1_L6 p1 M)) n (x4, x5) = some r1 → ia (tb_G L xs) dep J_MLineRows_check (rpI M Q) (6, L', [], M) := by
    intro n
    induction n with
    | zero => intro x4 x5 L' l6 l7 l8 l9 hn; exact (lpn_0 hn).elim
    | succ n ih =>
      intro x4 x5 L' l6 l7 l8 l9 hn
      have h := lpn_ed2 hn
      unfold f_MLineRows_check_1_L6 at h
      refine iq_iload_n hS 7 J_MLineRows_check_d6 l9 rfl ?_
      refine iq_iload_n hS 8 J_MLineRows_check_d7 l7 rfl ?_
      refine iq_icmp_ge hS 11 J_MLineRows_check_d8 (t := 25) rfl (fun q8 => ?_) rfl (fun q8 => ?_)
      · replace h := ed_pos q8 h
        exact K1 _ _ l8 (lq_r h hq1)
      · replace h := ed_neg q8 h
        refine iq_iload_n hS 12 J_MLineRows_check_d11 l8 rfl ?_
        refine iq_iload_n hS 13 J_MLineRows_check_d12 l9 rfl ?_
        refine iq_aload_n hS 14 J_MLineRows_check_d13 l6 rfl ?_
        refine iq_iload_n hS 15 J_MLineRows_check_d14 l9 rfl ?_
        obtain ⟨g15, h⟩ := ed_gd h
        refine iq_iaload hS 16 J_MLineRows_check_d15 ⟨(ka_105 hM).1, (ka_105 hM).2, g15.1, ix_lt (kl_105 hM) g15.2⟩ rfl ?_
        refine iq_imul hS 17 J_MLineRows_check_d16 rfl ?_
        refine iq_iadd hS 18 J_MLineRows_check_d17 rfl ?_
        refine iq_istore_n hS 19 J_MLineRows_check_d18 (by decide) rfl ?_
        refine iq_iincv hS 22 J_MLineRows_check_d19 (c := 1) (by decide +kernel) (lk_1i l9 (by decide)) (by decide) rfl ?_
        refine iq_goto hS J_MLineRows_check_d22 (t := 6) rfl ?_
        exact ih _ _ _ (lk_1r (lk_1r l6 (by decide)) (by decide)) (lk_1i (lk_1i l7 (by decide)) (by decide)) (lk_1i lk_1s (by decide)) lk_1s (lq_l h)
  exact I1 n1 _ _ _ (lk_1r (lk_1r l0 (by decide)) (by decide)) (lk_1i (lk_1i l1 (by decide)) (by decide)) (lk_1i lk_1s (by decide)) lk_1s hn1
noncomputable def f_MLineRows_tell (p0 : Int32) (M : im_M) : Option (im_M) := gd (inb (im_i M 96 17) 300) <| some (im_setI (im_setI M 107 (Int32.toNatClampNeg (im_i M 96 17)) p0) 96 17 ((im_i (im_setI M 107 (Int32.toNatClampNeg (im_i M 96 17)) p0) 96 17) + 1))
theorem J_MLineRows_tell_d0 : decode J_MLineRows_tell.2.1 0 = .ok (.aload_n 0, 1) := by decide +kernel
theorem J_MLineRows_tell_d1 : decode J_MLineRows_tell.2.1 1 = .ok (.getfield 146, 3) := by decide +kernel
theorem J_MLineRows_tell_d4 : decode J_MLineRows_tell.2.1 4 = .ok (.aload_n 0, 1) := by decide +kernel
theorem J_MLineRows_tell_d5 : decode J_MLineRows_tell.2.1 5 = .ok (.getfield 250, 3) := by decide +kernel
theorem J_MLineRows_tell_d8 : decode J_MLineRows_tell.2.1 8 = .ok (.iload_n 1, 1) := by decide +kernel
theorem J_MLineRows_tell_d9 : decode J_MLineRows_tell.2.1 9 = .ok (.iastore, 1) := by decide +kernel
theorem J_MLineRows_tell_d10 : decode J_MLineRows_tell.2.1 10 = .ok (.aload_n 0, 1) := by decide +kernel
theorem J_MLineRows_tell_d11 : decode J_MLineRows_tell.2.1 11 = .ok (.dup, 1) := by decide +kernel
theorem J_MLineRows_tell_d12 : decode J_MLineRows_tell.2.1 12 = .ok (.getfield 250, 3) := by decide +kernel
theorem J_MLineRows_tell_d15 : decode J_MLineRows_tell.2.1 15 = .ok (.iconst 1, 1) := by decide +kernel
theorem J_MLineRows_tell_d16 : decode J_MLineRows_tell.2.1 16 = .ok (.iadd, 1) := by decide +kernel
theorem J_MLineRows_tell_d17 : decode J_MLineRows_tell.2.1 17 = .ok (.putfield 250, 3) := by decide +kernel
theorem J_MLineRows_tell_d20 : decode J_MLineRows_tell.2.1 20 = .ok (.return_, 1) := by decide +kernel
theorem f_MLineRows_tell_ok {L : Nat} {xs : Nat → Int32} {dep : Nat} {w : Bool} {p0 : Int32} {M : im_M} {Q : im_M → Prop} (hM : lw_S w M) (h : ed (f_MLineRows_tell p0 M) Q) : ia (tb_G L xs) dep J_MLineRows_tell (rwV w Q) (0, lv_args 0 [.ref 96, .int p0], [], M) := by
  have hS : im_St (tb_G L xs) dep J_MLineRows_tell (ia (tb_G L xs) dep J_MLineRows_tell (rwV w Q)) := ia_St
  unfold f_MLineRows_tell at h
  have l0 : im_lk (lv_args 0 [.ref 96, .int p0]) 0 = some (.ref 96) := rfl
  have l1 : im_lk (lv_args 0 [.ref 96, .int p0]) 1 = some (.int p0) := rfl
  refine iq_aload_n hS 1 J_MLineRows_tell_d0 l0 rfl ?_
  refine iq_getR hS 4 J_MLineRows_tell_d1 lf_13_146 (Or.inr ⟨_, rfl⟩) (ka_96 hM) (ra_96_16 hM) rfl ?_
  refine iq_aload_n hS 5 J_MLineRows_tell_d4 l0 rfl ?_
  refine iq_getI hS 8 J_MLineRows_tell_d5 lf_13_250 (Or.inl rfl) (ka_96 hM) rfl ?_
  refine iq_iload_n hS 9 J_MLineRows_tell_d8 l1 rfl ?_
  obtain ⟨g9, h⟩ := ed_gd h
  refine iq_iastore hS 10 J_MLineRows_tell_d9 ⟨(ka_107 hM).1, (ka_107 hM).2, g9.1, ix_lt (kl_107 hM) g9.2⟩ rfl ?_
  refine iq_aload_n hS 11 J_MLineRows_tell_d10 l0 rfl ?_
  refine iq_dup hS 12 J_MLineRows_tell_d11 rfl rfl ?_
  refine iq_getI hS 15 J_MLineRows_tell_d12 lf_13_250 (Or.inl rfl) (ka_96 (lw_sI hM)) rfl ?_
  refine iq_iconst hS 16 J_MLineRows_tell_d15 (v := 1) (by decide +kernel) rfl ?_
  refine iq_iadd hS 17 J_MLineRows_tell_d16 rfl ?_
  refine iq_putI hS 20 J_MLineRows_tell_d17 lf_13_250 (Or.inl rfl) rfl (ka_96 (lw_sI hM)) rfl ?_
  exact iq_ret J_MLineRows_tell_d20 rfl ⟨rfl, (lw_sI (lw_sI hM)), ed_some h⟩
theorem f_MLineRows_tell_fr {p0 : Int32} {M : im_M} {r : im_M} (h : f_MLineRows_tell p0 M = some r) : fr 162259276829213363391578010288128 [(96, 17)] M r := by
  replace h : ed (f_MLineRows_tell p0 M) (fun x => x = r) := ⟨r, h, rfl⟩
  unfold f_MLineRows_tell at h
  obtain ⟨g9, h⟩ := ed_gd h
  exact fr_retV h (fr_F (by decide) (fr_I (by decide) fr_refl))
noncomputable def f_MLineRows_isRow_L2 (v2 : Int32) (x3 : Int32) (M4 : im_M) : Option ((Int32 × im_M) ⊕ ((im_M) ⊕ (Int32 × im_M))) := if v2 ≤ x3 then some (.inr (.inl M4)) else bd1 (f_MLineRows_sumOf ((6 : Int32) * x3) 6 M4) fun (x5 : Int32) => bd1 (f_MLineRows_counts ((6 : Int32) * x3) 6 x5 11 M4) fun (x6 : Int32) => bd1 (f_MLineRows_place x6 M4) fun (x7 : Int32) => gd (inb x3 140) <| gd (inb x3 140) <| if 0 ≤ (im_i (im_setI M4 105 (Int32.toNatClampNeg x3) x7) 105 (Int32.toNatClampNeg x3)) then some (.inl ((x3 + 1), (im_setI M4 105 (Int32.toNatClampNeg x3) x7))) else some (.inr (.inr (0, (im_setI M4 105 (Int32.toNatClampNeg x3) x7))))
noncomputable def f_MLineRows_isRow_L137 (v13 : Int32) (x14 : Int32) (x15 : Int32) (M16 : im_M) : Option ((Int32 × Int32 × im_M) ⊕ ((im_M) ⊕ (Int32 × im_M))) := if (v13 - 1) ≤ x15 then some (.inr (.inl M16)) else gd (inb x15 140) <| jn3 (fun (y40 : Int32) (y41 : Int32) (M42 : im_M) => some (.inl (y40, (y41 + 1), M42))) fun k17 => if ¬ (im_i M16 105 (Int32.toNatClampNeg x15)) = 102 then bd1 (f_MLineRows_goes x14 (im_i M16 105 (Int32.toNatClampNeg x15)) M16) fun (x18 : Int32) => jn1 (fun (y27 : Int32) => if ¬ y27 = 2 then if ¬ (im_i M16 105 (Int32.toNatClampNeg x15)) = 98 then if (im_i M16 105 (Int32.toNatClampNeg x15)) ≤ 95 then bd1 (f_MLineRows_signOf y27 (im_i M16 105 (Int32.toNatClampNeg x15)) M16) fun (x33 : Int32) => bd1 (f_MLineRows_tell x33 M16) fun (M34 : im_M) => k17 y27 x15 M34 else some (.inr (.inr (0, M16))) else if (x15 + 1) = (v13 - 1) then some (.inr (.inr (0, M16))) else gd (inb (x15 + 1) 140) <| if (im_i M16 105 (Int32.toNatClampNeg (x15 + 1))) ≤ 95 then gd (inb (x15 + 1) 140) <| bd1 (f_MLineRows_signOf ((1 : Int32) - y27) (im_i M16 105 (Int32.toNatClampNeg (x15 + 1))) M16) fun (x35 : Int32) => bd1 (f_MLineRows_tell x35 M16) fun (M36 : im_M) => k17 y27 (x15 + 1) M36 else some (.inr (.inr (0, M16))) else if (im_i M16 105 (Int32.toNatClampNeg x15)) ≤ 99 then bd1 (f_MLineRows_tell ((48 : Int32) + ((im_i M16 105 (Int32.toNatClampNeg x15)) / 10)) M16) fun (M37 : im_M) => bd1 (f_MLineRows_tell ((48 : Int32) + ((im_i M16 105 (Int32.toNatClampNeg x15)) - (im_i M16 105 (Int32.toNatClampNeg x15)) / 10 * 10)) M37) fun (M38 : im_M) => k17 y27 x15 M38 else some (.inr (.inr (0, M16)))) fun k19 => if x18 < 0 then k19 x14 else jn0 (fun (_ : Unit) => bd1 (f_MLineRows_goes x14 (im_i M16 105 (Int32.toNatClampNeg x15)) M16) fun (x26 : Int32) => k17 x26 x15 M16) fun k20 => if ¬ x14 = 2 then k20 () else if (im_i M16 105 (Int32.toNatClampNeg x15)) ≤ 99 then k19 x14 else k20 () else bd1 (f_MLineRows_tell 128 M16) fun (M39 : im_M) => k17 x14 x15 M39
noncomputable def f_MLineRows_isRow (p0 : Int32) (M : im_M) : Option (Int32 × im_M) := bs1 (lp (uc2 (f_MLineRows_isRow_L2 p0)) (0, M)) (fun (M8 : im_M) => bd1 (f_MLineRows_sumOf ((6 : Int32) * p0) 7 M8) fun (x9 : Int32) => bd1 (f_MLineRows_counts ((6 : Int32) * p0) 7 x9 13 M8) fun (x10 : Int32) => if ¬ x10 = 2331112 then some (0, M8) else gd (inb 0 140) <| if (im_i M8 105 (Int32.toNatClampNeg 0)) < 103 then some (0, M8) else gd (inb (p0 - 1) 140) <| bd1 (f_MLineRows_check_1 (p0 - 1) M8) fun (x11 : Int32) => if (im_i M8 105 (Int32.toNatClampNeg (p0 - 1))) = x11 then gd (inb 0 140) <| bs1 (lp (uc3 (f_MLineRows_isRow_L137 p0)) (((im_i M8 105 (Int32.toNatClampNeg 0)) - 103), 1, (im_setI M8 96 17 0))) (fun (M47 : im_M) => some (1, M47)) (fun t => some t) else some (0, M8)) (fun t => some t)
theorem J_MLineRows_isRow_d0 : decode J_MLineRows_isRow.2.1 0 = .ok (.iconst 0, 1) := by decide +kernel
theorem J_MLineRows_isRow_d1 : decode J_MLineRows_isRow.2.1 1 = .ok (.istore_n 2, 1) := by decide +kernel
theorem J_MLineRows_isRow_d2 : decode J_MLineRows_isRow.2.1 2 = .ok (.iload_n 2, 1) := by decide +kernel
theorem J_MLineRows_isRow_d3 : decode J_MLineRows_isRow.2.1 3 = .ok (.iload_n 1, 1) := by decide +kernel
theorem J_MLineRows_isRow_d4 : decode J_MLineRows_isRow.2.1 4 = .ok (.if_icmp .ge 55, 3) := by decide +kernel
theorem J_MLineRows_isRow_d7 : decode J_MLineRows_isRow.2.1 7 = .ok (.aload_n 0, 1) := by decide +kernel
theorem J_MLineRows_isRow_d8 : decode J_MLineRows_isRow.2.1 8 = .ok (.getfield 140, 3) := by decide +kernel
theorem J_MLineRows_isRow_d11 : decode J_MLineRows_isRow.2.1 11 = .ok (.iload_n 2, 1) := by decide +kernel
theorem J_MLineRows_isRow_d12 : decode J_MLineRows_isRow.2.1 12 = .ok (.aload_n 0, 1) := by decide +kernel
theorem J_MLineRows_isRow_d13 : decode J_MLineRows_isRow.2.1 13 = .ok (.getfield 113, 3) := by decide +kernel
theorem J_MLineRows_isRow_d16 : decode J_MLineRows_isRow.2.1 16 = .ok (.aload_n 0, 1) := by decide +kernel
theorem J_MLineRows_isRow_d17 : decode J_MLineRows_isRow.2.1 17 = .ok (.bipush 6, 2) := by decide +kernel
theorem J_MLineRows_isRow_d19 : decode J_MLineRows_isRow.2.1 19 = .ok (.iload_n 2, 1) := by decide +kernel
theorem J_MLineRows_isRow_d20 : decode J_MLineRows_isRow.2.1 20 = .ok (.imul, 1) := by decide +kernel
theorem J_MLineRows_isRow_d21 : decode J_MLineRows_isRow.2.1 21 = .ok (.bipush 6, 2) := by decide +kernel
theorem J_MLineRows_isRow_d23 : decode J_MLineRows_isRow.2.1 23 = .ok (.aload_n 0, 1) := by decide +kernel
theorem J_MLineRows_isRow_d24 : decode J_MLineRows_isRow.2.1 24 = .ok (.bipush 6, 2) := by decide +kernel
theorem J_MLineRows_isRow_d26 : decode J_MLineRows_isRow.2.1 26 = .ok (.iload_n 2, 1) := by decide +kernel
theorem J_MLineRows_isRow_d27 : decode J_MLineRows_isRow.2.1 27 = .ok (.imul, 1) := by decide +kernel
theorem J_MLineRows_isRow_d28 : decode J_MLineRows_isRow.2.1 28 = .ok (.bipush 6, 2) := by decide +kernel
theorem J_MLineRows_isRow_d30 : decode J_MLineRows_isRow.2.1 30 = .ok (.invokevirtual 240, 3) := by decide +kernel
theorem J_MLineRows_isRow_d33 : decode J_MLineRows_isRow.2.1 33 = .ok (.bipush 11, 2) := by decide +kernel
theorem J_MLineRows_isRow_d35 : decode J_MLineRows_isRow.2.1 35 = .ok (.invokevirtual 243, 3) := by decide +kernel
theorem J_MLineRows_isRow_d38 : decode J_MLineRows_isRow.2.1 38 = .ok (.invokestatic 247, 3) := by decide +kernel
theorem J_MLineRows_isRow_d41 : decode J_MLineRows_isRow.2.1 41 = .ok (.iastore, 1) := by decide +kernel
theorem J_MLineRows_isRow_d42 : decode J_MLineRows_isRow.2.1 42 = .ok (.aload_n 0, 1) := by decide +kernel
theorem J_MLineRows_isRow_d43 : decode J_MLineRows_isRow.2.1 43 = .ok (.getfield 140, 3) := by decide +kernel
theorem J_MLineRows_isRow_d46 : decode J_MLineRows_isRow.2.1 46 = .ok (.iload_n 2, 1) := by decide +kernel
theorem J_MLineRows_isRow_d47 : decode J_MLineRows_isRow.2.1 47 = .ok (.iaload, 1) := by decide +kernel
theorem J_MLineRows_isRow_d48 : decode J_MLineRows_isRow.2.1 48 = .ok (.ifCond .ge 5, 3) := by decide +kernel
theorem J_MLineRows_isRow_d51 : decode J_MLineRows_isRow.2.1 51 = .ok (.iconst 0, 1) := by decide +kernel
theorem J_MLineRows_isRow_d52 : decode J_MLineRows_isRow.2.1 52 = .ok (.ireturn, 1) := by decide +kernel
theorem J_MLineRows_isRow_d53 : decode J_MLineRows_isRow.2.1 53 = .ok (.iinc 2 1, 3) := by decide +kernel
theorem J_MLineRows_isRow_d56 : decode J_MLineRows_isRow.2.1 56 = .ok (.goto (-54), 3) := by decide +kernel
theorem J_MLineRows_isRow_d59 : decode J_MLineRows_isRow.2.1 59 = .ok (.aload_n 0, 1) := by decide +kernel
theorem J_MLineRows_isRow_d60 : decode J_MLineRows_isRow.2.1 60 = .ok (.bipush 6, 2) := by decide +kernel
theorem J_MLineRows_isRow_d62 : decode J_MLineRows_isRow.2.1 62 = .ok (.iload_n 1, 1) := by decide +kernel
theorem J_MLineRows_isRow_d63 : decode J_MLineRows_isRow.2.1 63 = .ok (.imul, 1) := by decide +kernel
theorem J_MLineRows_isRow_d64 : decode J_MLineRows_isRow.2.1 64 = .ok (.bipush 7, 2) := by decide +kernel
theorem J_MLineRows_isRow_d66 : decode J_MLineRows_isRow.2.1 66 = .ok (.aload_n 0, 1) := by decide +kernel
theorem J_MLineRows_isRow_d67 : decode J_MLineRows_isRow.2.1 67 = .ok (.bipush 6, 2) := by decide +kernel
theorem J_MLineRows_isRow_d69 : decode J_MLineRows_isRow.2.1 69 = .ok (.iload_n 1, 1) := by decide +kernel
theorem J_MLineRows_isRow_d70 : decode J_MLineRows_isRow.2.1 70 = .ok (.imul, 1) := by decide +kernel
theorem J_MLineRows_isRow_d71 : decode J_MLineRows_isRow.2.1 71 = .ok (.bipush 7, 2) := by decide +kernel
theorem J_MLineRows_isRow_d73 : decode J_MLineRows_isRow.2.1 73 = .ok (.invokevirtual 240, 3) := by decide +kernel
theorem J_MLineRows_isRow_d76 : decode J_MLineRows_isRow.2.1 76 = .ok (.bipush 13, 2) := by decide +kernel
theorem J_MLineRows_isRow_d78 : decode J_MLineRows_isRow.2.1 78 = .ok (.invokevirtual 243, 3) := by decide +kernel
theorem J_MLineRows_isRow_d81 : decode J_MLineRows_isRow.2.1 81 = .ok (.ldc 213, 2) := by decide +kernel
theorem J_MLineRows_isRow_d83 : decode J_MLineRows_isRow.2.1 83 = .ok (.if_icmp .ne 35, 3) := by decide +kernel
theorem J_MLineRows_isRow_d86 : decode J_MLineRows_isRow.2.1 86 = .ok (.aload_n 0, 1) := by decide +kernel
theorem J_MLineRows_isRow_d87 : decode J_MLineRows_isRow.2.1 87 = .ok (.getfield 140, 3) := by decide +kernel
theorem J_MLineRows_isRow_d90 : decode J_MLineRows_isRow.2.1 90 = .ok (.iconst 0, 1) := by decide +kernel
theorem J_MLineRows_isRow_d91 : decode J_MLineRows_isRow.2.1 91 = .ok (.iaload, 1) := by decide +kernel
theorem J_MLineRows_isRow_d92 : decode J_MLineRows_isRow.2.1 92 = .ok (.bipush 103, 2) := by decide +kernel
theorem J_MLineRows_isRow_d94 : decode J_MLineRows_isRow.2.1 94 = .ok (.if_icmp .lt 24, 3) := by decide +kernel
theorem J_MLineRows_isRow_d97 : decode J_MLineRows_isRow.2.1 97 = .ok (.aload_n 0, 1) := by decide +kernel
theorem J_MLineRows_isRow_d98 : decode J_MLineRows_isRow.2.1 98 = .ok (.getfield 140, 3) := by decide +kernel
theorem J_MLineRows_isRow_d101 : decode J_MLineRows_isRow.2.1 101 = .ok (.iload_n 1, 1) := by decide +kernel
theorem J_MLineRows_isRow_d102 : decode J_MLineRows_isRow.2.1 102 = .ok (.iconst 1, 1) := by decide +kernel
theorem J_MLineRows_isRow_d103 : decode J_MLineRows_isRow.2.1 103 = .ok (.isub, 1) := by decide +kernel
theorem J_MLineRows_isRow_d104 : decode J_MLineRows_isRow.2.1 104 = .ok (.iaload, 1) := by decide +kernel
theorem J_MLineRows_isRow_d105 : decode J_MLineRows_isRow.2.1 105 = .ok (.aload_n 0, 1) := by decide +kernel
theorem J_MLineRows_isRow_d106 : decode J_MLineRows_isRow.2.1 106 = .ok (.getfield 140, 3) := by decide +kernel
theorem J_MLineRows_isRow_d109 : decode J_MLineRows_isRow.2.1 109 = .ok (.iload_n 1, 1) := by decide +kernel
theorem J_MLineRows_isRow_d110 : decode J_MLineRows_isRow.2.1 110 = .ok (.iconst 1, 1) := by decide +kernel
theorem J_MLineRows_isRow_d111 : decode J_MLineRows_isRow.2.1 111 = .ok (.isub, 1) := by decide +kernel
theorem J_MLineRows_isRow_d112 : decode J_MLineRows_isRow.2.1 112 = .ok (.invokestatic 198, 3) := by decide +kernel
theorem J_MLineRows_isRow_d115 : decode J_MLineRows_isRow.2.1 115 = .ok (.if_icmp .eq 5, 3) := by decide +kernel
theorem J_MLineRows_isRow_d118 : decode J_MLineRows_isRow.2.1 118 = .ok (.iconst 0, 1) := by decide +kernel
theorem J_MLineRows_isRow_d119 : decode J_MLineRows_isRow.2.1 119 = .ok (.ireturn, 1) := by decide +kernel
theorem J_MLineRows_isRow_d120 : decode J_MLineRows_isRow.2.1 120 = .ok (.aload_n 0, 1) := by decide +kernel
theorem J_MLineRows_isRow_d121 : decode J_MLineRows_isRow.2.1 121 = .ok (.getfield 140, 3) := by decide +kernel
theorem J_MLineRows_isRow_d124 : decode J_MLineRows_isRow.2.1 124 = .ok (.iconst 0, 1) := by decide +kernel
theorem J_MLineRows_isRow_d125 : decode J_MLineRows_isRow.2.1 125 = .ok (.iaload, 1) := by decide +kernel
theorem J_MLineRows_isRow_d126 : decode J_MLineRows_isRow.2.1 126 = .ok (.bipush 103, 2) := by decide +kernel
theorem J_MLineRows_isRow_d128 : decode J_MLineRows_isRow.2.1 128 = .ok (.isub, 1) := by decide +kernel
theorem J_MLineRows_isRow_d129 : decode J_MLineRows_isRow.2.1 129 = .ok (.istore_n 2, 1) := by decide +kernel
theorem J_MLineRows_isRow_d130 : decode J_MLineRows_isRow.2.1 130 = .ok (.aload_n 0, 1) := by decide +kernel
theorem J_MLineRows_isRow_d131 : decode J_MLineRows_isRow.2.1 131 = .ok (.iconst 0, 1) := by decide +kernel
theorem J_MLineRows_isRow_d132 : decode J_MLineRows_isRow.2.1 132 = .ok (.putfield 250, 3) := by decide +kernel
theorem J_MLineRows_isRow_d135 : decode J_MLineRows_isRow.2.1 135 = .ok (.iconst 1, 1) := by decide +kernel
theorem J_MLineRows_isRow_d136 : decode J_MLineRows_isRow.2.1 136 = .ok (.istore_n 3, 1) := by decide +kernel
theorem J_MLineRows_isRow_d137 : decode J_MLineRows_isRow.2.1 137 = .ok (.iload_n 3, 1) := by decide +kernel
theorem J_MLineRows_isRow_d138 : decode J_MLineRows_isRow.2.1 138 = .ok (.iload_n 1, 1) := by decide +kernel
theorem J_MLineRows_isRow_d139 : decode J_MLineRows_isRow.2.1 139 = .ok (.iconst 1, 1) := by decide +kernel
theorem J_MLineRows_isRow_d140 : decode J_MLineRows_isRow.2.1 140 = .ok (.isub, 1) := by decide +kernel
theorem J_MLineRows_isRow_d141 : decode J_MLineRows_isRow.2.1 141 = .ok (.if_icmp .ge 174, 3) := by decide +kernel
theorem J_MLineRows_isRow_d144 : decode J_MLineRows_isRow.2.1 144 = .ok (.aload_n 0, 1) := by decide +kernel
theorem J_MLineRows_isRow_d145 : decode J_MLineRows_isRow.2.1 145 = .ok (.getfield 140, 3) := by decide +kernel
theorem J_MLineRows_isRow_d148 : decode J_MLineRows_isRow.2.1 148 = .ok (.iload_n 3, 1) := by decide +kernel
theorem J_MLineRows_isRow_d149 : decode J_MLineRows_isRow.2.1 149 = .ok (.iaload, 1) := by decide +kernel
theorem J_MLineRows_isRow_d150 : decode J_MLineRows_isRow.2.1 150 = .ok (.istore 4, 2) := by decide +kernel
theorem J_MLineRows_isRow_d152 : decode J_MLineRows_isRow.2.1 152 = .ok (.iload 4, 2) := by decide +kernel
theorem J_MLineRows_isRow_d154 : decode J_MLineRows_isRow.2.1 154 = .ok (.bipush 102, 2) := by decide +kernel
theorem J_MLineRows_isRow_d156 : decode J_MLineRows_isRow.2.1 156 = .ok (.if_icmp .ne 13, 3) := by decide +kernel
theorem J_MLineRows_isRow_d159 : decode J_MLineRows_isRow.2.1 159 = .ok (.aload_n 0, 1) := by decide +kernel
theorem J_MLineRows_isRow_d160 : decode J_MLineRows_isRow.2.1 160 = .ok (.sipush 128, 3) := by decide +kernel
theorem J_MLineRows_isRow_d163 : decode J_MLineRows_isRow.2.1 163 = .ok (.invokevirtual 253, 3) := by decide +kernel
theorem J_MLineRows_isRow_d166 : decode J_MLineRows_isRow.2.1 166 = .ok (.goto 143, 3) := by decide +kernel
theorem J_MLineRows_isRow_d169 : decode J_MLineRows_isRow.2.1 169 = .ok (.iload_n 2, 1) := by decide +kernel
theorem J_MLineRows_isRow_d170 : decode J_MLineRows_isRow.2.1 170 = .ok (.iload 4, 2) := by decide +kernel
theorem J_MLineRows_isRow_d172 : decode J_MLineRows_isRow.2.1 172 = .ok (.invokestatic 179, 3) := by decide +kernel
theorem J_MLineRows_isRow_d175 : decode J_MLineRows_isRow.2.1 175 = .ok (.ifCond .lt 25, 3) := by decide +kernel
theorem J_MLineRows_isRow_d178 : decode J_MLineRows_isRow.2.1 178 = .ok (.iload_n 2, 1) := by decide +kernel
theorem J_MLineRows_isRow_d179 : decode J_MLineRows_isRow.2.1 179 = .ok (.iconst 2, 1) := by decide +kernel
theorem J_MLineRows_isRow_d180 : decode J_MLineRows_isRow.2.1 180 = .ok (.if_icmp .ne 10, 3) := by decide +kernel
theorem J_MLineRows_isRow_d183 : decode J_MLineRows_isRow.2.1 183 = .ok (.iload 4, 2) := by decide +kernel
theorem J_MLineRows_isRow_d185 : decode J_MLineRows_isRow.2.1 185 = .ok (.bipush 99, 2) := by decide +kernel
theorem J_MLineRows_isRow_d187 : decode J_MLineRows_isRow.2.1 187 = .ok (.if_icmp .le 13, 3) := by decide +kernel
theorem J_MLineRows_isRow_d190 : decode J_MLineRows_isRow.2.1 190 = .ok (.iload_n 2, 1) := by decide +kernel
theorem J_MLineRows_isRow_d191 : decode J_MLineRows_isRow.2.1 191 = .ok (.iload 4, 2) := by decide +kernel
theorem J_MLineRows_isRow_d193 : decode J_MLineRows_isRow.2.1 193 = .ok (.invokestatic 179, 3) := by decide +kernel
theorem J_MLineRows_isRow_d196 : decode J_MLineRows_isRow.2.1 196 = .ok (.istore_n 2, 1) := by decide +kernel
theorem J_MLineRows_isRow_d197 : decode J_MLineRows_isRow.2.1 197 = .ok (.goto 112, 3) := by decide +kernel
theorem J_MLineRows_isRow_d200 : decode J_MLineRows_isRow.2.1 200 = .ok (.iload_n 2, 1) := by decide +kernel
theorem J_MLineRows_isRow_d201 : decode J_MLineRows_isRow.2.1 201 = .ok (.iconst 2, 1) := by decide +kernel
theorem J_MLineRows_isRow_d202 : decode J_MLineRows_isRow.2.1 202 = .ok (.if_icmp .ne 39, 3) := by decide +kernel
theorem J_MLineRows_isRow_d205 : decode J_MLineRows_isRow.2.1 205 = .ok (.iload 4, 2) := by decide +kernel
theorem J_MLineRows_isRow_d207 : decode J_MLineRows_isRow.2.1 207 = .ok (.bipush 99, 2) := by decide +kernel
theorem J_MLineRows_isRow_d209 : decode J_MLineRows_isRow.2.1 209 = .ok (.if_icmp .le 5, 3) := by decide +kernel
theorem J_MLineRows_isRow_d212 : decode J_MLineRows_isRow.2.1 212 = .ok (.iconst 0, 1) := by decide +kernel
theorem J_MLineRows_isRow_d213 : decode J_MLineRows_isRow.2.1 213 = .ok (.ireturn, 1) := by decide +kernel
theorem J_MLineRows_isRow_d214 : decode J_MLineRows_isRow.2.1 214 = .ok (.aload_n 0, 1) := by decide +kernel
theorem J_MLineRows_isRow_d215 : decode J_MLineRows_isRow.2.1 215 = .ok (.bipush 48, 2) := by decide +kernel
theorem J_MLineRows_isRow_d217 : decode J_MLineRows_isRow.2.1 217 = .ok (.iload 4, 2) := by decide +kernel
theorem J_MLineRows_isRow_d219 : decode J_MLineRows_isRow.2.1 219 = .ok (.bipush 10, 2) := by decide +kernel
theorem J_MLineRows_isRow_d221 : decode J_MLineRows_isRow.2.1 221 = .ok (.idiv, 1) := by decide +kernel
theorem J_MLineRows_isRow_d222 : decode J_MLineRows_isRow.2.1 222 = .ok (.iadd, 1) := by decide +kernel
theorem J_MLineRows_isRow_d223 : decode J_MLineRows_isRow.2.1 223 = .ok (.invokevirtual 253, 3) := by decide +kernel
theorem J_MLineRows_isRow_d226 : decode J_MLineRows_isRow.2.1 226 = .ok (.aload_n 0, 1) := by decide +kernel
theorem J_MLineRows_isRow_d227 : decode J_MLineRows_isRow.2.1 227 = .ok (.bipush 48, 2) := by decide +kernel
theorem J_MLineRows_isRow_d229 : decode J_MLineRows_isRow.2.1 229 = .ok (.iload 4, 2) := by decide +kernel
theorem J_MLineRows_isRow_d231 : decode J_MLineRows_isRow.2.1 231 = .ok (.bipush 10, 2) := by decide +kernel
theorem J_MLineRows_isRow_d233 : decode J_MLineRows_isRow.2.1 233 = .ok (.irem, 1) := by decide +kernel
theorem J_MLineRows_isRow_d234 : decode J_MLineRows_isRow.2.1 234 = .ok (.iadd, 1) := by decide +kernel
theorem J_MLineRows_isRow_d235 : decode J_MLineRows_isRow.2.1 235 = .ok (.invokevirtual 253, 3) := by decide +kernel
theorem J_MLineRows_isRow_d238 : decode J_MLineRows_isRow.2.1 238 = .ok (.goto 71, 3) := by decide +kernel
theorem J_MLineRows_isRow_d241 : decode J_MLineRows_isRow.2.1 241 = .ok (.iload 4, 2) := by decide +kernel
theorem J_MLineRows_isRow_d243 : decode J_MLineRows_isRow.2.1 243 = .ok (.bipush 98, 2) := by decide +kernel
theorem J_MLineRows_isRow_d245 : decode J_MLineRows_isRow.2.1 245 = .ok (.if_icmp .ne 45, 3) := by decide +kernel
theorem J_MLineRows_isRow_d248 : decode J_MLineRows_isRow.2.1 248 = .ok (.iinc 3 1, 3) := by decide +kernel
theorem J_MLineRows_isRow_d251 : decode J_MLineRows_isRow.2.1 251 = .ok (.iload_n 3, 1) := by decide +kernel
theorem J_MLineRows_isRow_d252 : decode J_MLineRows_isRow.2.1 252 = .ok (.iload_n 1, 1) := by decide +kernel
theorem J_MLineRows_isRow_d253 : decode J_MLineRows_isRow.2.1 253 = .ok (.iconst 1, 1) := by decide +kernel
theorem J_MLineRows_isRow_d254 : decode J_MLineRows_isRow.2.1 254 = .ok (.isub, 1) := by decide +kernel
theorem J_MLineRows_isRow_d255 : decode J_MLineRows_isRow.2.1 255 = .ok (.if_icmp .eq 14, 3) := by decide +kernel
theorem J_MLineRows_isRow_d258 : decode J_MLineRows_isRow.2.1 258 = .ok (.aload_n 0, 1) := by decide +kernel
theorem J_MLineRows_isRow_d259 : decode J_MLineRows_isRow.2.1 259 = .ok (.getfield 140, 3) := by decide +kernel
theorem J_MLineRows_isRow_d262 : decode J_MLineRows_isRow.2.1 262 = .ok (.iload_n 3, 1) := by decide +kernel
theorem J_MLineRows_isRow_d263 : decode J_MLineRows_isRow.2.1 263 = .ok (.iaload, 1) := by decide +kernel
theorem J_MLineRows_isRow_d264 : decode J_MLineRows_isRow.2.1 264 = .ok (.bipush 95, 2) := by decide +kernel
theorem J_MLineRows_isRow_d266 : decode J_MLineRows_isRow.2.1 266 = .ok (.if_icmp .le 5, 3) := by decide +kernel
theorem J_MLineRows_isRow_d269 : decode J_MLineRows_isRow.2.1 269 = .ok (.iconst 0, 1) := by decide +kernel
theorem J_MLineRows_isRow_d270 : decode J_MLineRows_isRow.2.1 270 = .ok (.ireturn, 1) := by decide +kernel
theorem J_MLineRows_isRow_d271 : decode J_MLineRows_isRow.2.1 271 = .ok (.aload_n 0, 1) := by decide +kernel
theorem J_MLineRows_isRow_d272 : decode J_MLineRows_isRow.2.1 272 = .ok (.iconst 1, 1) := by decide +kernel
theorem J_MLineRows_isRow_d273 : decode J_MLineRows_isRow.2.1 273 = .ok (.iload_n 2, 1) := by decide +kernel
theorem J_MLineRows_isRow_d274 : decode J_MLineRows_isRow.2.1 274 = .ok (.isub, 1) := by decide +kernel
theorem J_MLineRows_isRow_d275 : decode J_MLineRows_isRow.2.1 275 = .ok (.aload_n 0, 1) := by decide +kernel
theorem J_MLineRows_isRow_d276 : decode J_MLineRows_isRow.2.1 276 = .ok (.getfield 140, 3) := by decide +kernel
theorem J_MLineRows_isRow_d279 : decode J_MLineRows_isRow.2.1 279 = .ok (.iload_n 3, 1) := by decide +kernel
theorem J_MLineRows_isRow_d280 : decode J_MLineRows_isRow.2.1 280 = .ok (.iaload, 1) := by decide +kernel
theorem J_MLineRows_isRow_d281 : decode J_MLineRows_isRow.2.1 281 = .ok (.invokestatic 168, 3) := by decide +kernel
theorem J_MLineRows_isRow_d284 : decode J_MLineRows_isRow.2.1 284 = .ok (.invokevirtual 253, 3) := by decide +kernel
theorem J_MLineRows_isRow_d287 : decode J_MLineRows_isRow.2.1 287 = .ok (.goto 22, 3) := by decide +kernel
theorem J_MLineRows_isRow_d290 : decode J_MLineRows_isRow.2.1 290 = .ok (.iload 4, 2) := by decide +kernel
theorem J_MLineRows_isRow_d292 : decode J_MLineRows_isRow.2.1 292 = .ok (.bipush 95, 2) := by decide +kernel
theorem J_MLineRows_isRow_d294 : decode J_MLineRows_isRow.2.1 294 = .ok (.if_icmp .le 5, 3) := by decide +kernel
theorem J_MLineRows_isRow_d297 : decode J_MLineRows_isRow.2.1 297 = .ok (.iconst 0, 1) := by decide +kernel
theorem J_MLineRows_isRow_d298 : decode J_MLineRows_isRow.2.1 298 = .ok (.ireturn, 1) := by decide +kernel
theorem J_MLineRows_isRow_d299 : decode J_MLineRows_isRow.2.1 299 = .ok (.aload_n 0, 1) := by decide +kernel
theorem J_MLineRows_isRow_d300 : decode J_MLineRows_isRow.2.1 300 = .ok (.iload_n 2, 1) := by decide +kernel
theorem J_MLineRows_isRow_d301 : decode J_MLineRows_isRow.2.1 301 = .ok (.iload 4, 2) := by decide +kernel
theorem J_MLineRows_isRow_d303 : decode J_MLineRows_isRow.2.1 303 = .ok (.invokestatic 168, 3) := by decide +kernel
theorem J_MLineRows_isRow_d306 : decode J_MLineRows_isRow.2.1 306 = .ok (.invokevirtual 253, 3) := by decide +kernel
theorem J_MLineRows_isRow_d309 : decode J_MLineRows_isRow.2.1 309 = .ok (.iinc 3 1, 3) := by decide +kernel
theorem J_MLineRows_isRow_d312 : decode J_MLineRows_isRow.2.1 312 = .ok (.goto (-175), 3) := by decide +kernel
theorem J_MLineRows_isRow_d315 : decode J_MLineRows_isRow.2.1 315 = .ok (.iconst 1, 1) := by decide +kernel
theorem J_MLineRows_isRow_d316 : decode J_MLineRows_isRow.2.1 316 = .ok (.ireturn, 1) := by decide +kernel
theorem f_MLineRows_isRow_ok {L : Nat} {xs : Nat → Int32} {dep : Nat} {w : Bool} {p0 : Int32} {M : im_M} {Q : Int32 × im_M → Prop} (hM : lw_S w M) (h : ed (f_MLineRows_isRow p0 M) Q) : ia (tb_G L xs) (dep + 1) J_MLineRows_isRow (rwI w Q) (0, lv_args 0 [.ref 96, .int p0], [], M) := by
  have hS : im_St (tb_G L xs) (dep + 1) J_MLineRows_isRow (ia (tb_G L xs) (dep + 1) J_MLineRows_isRow (rwI w Q)) := ia_St
  unfold f_MLineRows_isRow at h
  have l0 : im_lk (lv_args 0 [.ref 96, .int p0]) 0 = some (.ref 96) := rfl
  have l1 : im_lk (lv_args 0 [.ref 96, .int p0]) 1 = some (.int p0) := rfl
  refine iq_iconst hS 1 J_MLineRows_isRow_d0 (v := 0) (by decide +kernel) rfl ?_
  refine iq_istore_n hS 2 J_MLineRows_isRow_d1 (by decide) rfl ?_
  obtain ⟨Q1, hQ1, hR1, h⟩ := bs1_ed h
  have K1 : ∀ (M2 : im_M) (L' : List (Nat × Value)), lw_S w M2 → im_lk L' 0 = some (.ref 96) → im_lk L' 1 = some (.int p0) → Q1 (.inl M2) → ia (tb_G L xs) (dep + 1) J_MLineRows_isRow (rwI w Q) (59, L', [], M2) := by
    intro M2 L' hM2 l3 l4 h
    replace h := hQ1 _ h
    refine iq_aload_n hS 60 J_MLineRows_isRow_d59 l3 rfl ?_
    refine iq_bipush hS 62 J_MLineRows_isRow_d60 (v := 6) (by decide +kernel) rfl ?_
    refine iq_iload_n hS 63 J_MLineRows_isRow_d62 l4 rfl ?_
    refine iq_imul hS 64 J_MLineRows_isRow_d63 rfl ?_
    refine iq_bipush hS 66 J_MLineRows_isRow_d64 (v := 7) (by decide +kernel) rfl ?_
    refine iq_aload_n hS 67 J_MLineRows_isRow_d66 l3 rfl ?_
    refine iq_bipush hS 69 J_MLineRows_isRow_d67 (v := 6) (by decide +kernel) rfl ?_
    refine iq_iload_n hS 70 J_MLineRows_isRow_d69 l4 rfl ?_
    refine iq_imul hS 71 J_MLineRows_isRow_d70 rfl ?_
    refine iq_bipush hS 73 J_MLineRows_isRow_d71 (v := 7) (by decide +kernel) rfl ?_
    obtain ⟨Q5, hQ5, h⟩ := bd1_ed h
    refine iq_cpI hS 76 J_MLineRows_isRow_d73 rfl (pr_inst (vs := [_, _]) lc_13_240 lT_514 rfl rfl (by decide) (by decide) rfl (Nat.le_of_ble_eq_true rfl) (Nat.le_of_ble_eq_true rfl) (fun _ => Or.inl (pr_b (ka_96 hM2) (by decide) rfl))) (f_MLineRows_sumOf_ok (dep := dep + 0) hM2 h) rfl ?_
    intro x5 h
    replace h := hQ5 _ h
    refine iq_bipush hS 78 J_MLineRows_isRow_d76 (v := 13) (by decide +kernel) rfl ?_
    obtain ⟨Q6, hQ6, h⟩ := bd1_ed h
    refine iq_cpI hS 81 J_MLineRows_isRow_d78 rfl (pr_inst (vs := [_, _, _, _]) lc_13_243 lT_515 rfl rfl (by decide) (by decide) rfl (Nat.le_of_ble_eq_true rfl) (Nat.le_of_ble_eq_true rfl) (fun _ => Or.inl (pr_b (ka_96 hM2) (by decide) rfl))) (f_MLineRows_counts_ok (dep := dep + 0) hM2 h) rfl ?_
    intro x6 h
    replace h := hQ6 _ h
    refine iq_ldc hS 83 J_MLineRows_isRow_d81 lk_13_213 rfl ?_
    refine iq_icmp_ne hS 86 J_MLineRows_isRow_d83 (t := 118) rfl (fun q83 => ?_) rfl (fun q83 => ?_)
    · replace h := ed_pos q83 h
      refine iq_iconst hS 119 J_MLineRows_isRow_d118 (v := 0) (by decide +kernel) rfl ?_
      exact iq_iret J_MLineRows_isRow_d119 rfl rfl ⟨_, rfl, hM2, ed_some h⟩
    · replace h := ed_neg q83 h
      refine iq_aload_n hS 87 J_MLineRows_isRow_d86 l3 rfl ?_
      refine iq_getR hS 90 J_MLineRows_isRow_d87 lf_13_140 (Or.inr ⟨_, rfl⟩) (ka_96 hM2) (ra_96_12 hM2) rfl ?_
      refine iq_iconst hS 91 J_MLineRows_isRow_d90 (v := 0) (by decide +kernel) rfl ?_
      obtain ⟨g91, h⟩ := ed_gd h
      refine iq_iaload hS 92 J_MLineRows_isRow_d91 ⟨(ka_105 hM2).1, (ka_105 hM2).2, g91.1, ix_lt (kl_105 hM2) g91.2⟩ rfl ?_
      refine iq_bipush hS 94 J_MLineRows_isRow_d92 (v := 103) (by decide +kernel) rfl ?_
      refine iq_icmp_lt hS 97 J_MLineRows_isRow_d94 (t := 118) rfl (fun q94 => ?_) rfl (fun q94 => ?_)
      · replace h := ed_pos q94 h
        refine iq_iconst hS 119 J_MLineRows_isRow_d118 (v := 0) (by decide +kernel) rfl ?_
        exact iq_iret J_MLineRows_isRow_d119 rfl rfl ⟨_, rfl, hM2, ed_some h⟩
      · replace h := ed_neg q94 h
        refine iq_aload_n hS 98 J_MLineRows_isRow_d97 l3 rfl ?_
        refine iq_getR hS 101 J_MLineRows_isRow_d98 lf_13_140 (Or.inr ⟨_, rfl⟩) (ka_96 hM2) (ra_96_12 hM2) rfl ?_
        refine iq_iload_n hS 102 J_MLineRows_isRow_d101 l4 rfl ?_
        refine iq_iconst hS 103 J_MLineRows_isRow_d102 (v := 1) (by decide +kernel) rfl ?_
        refine iq_isub hS 104 J_MLineRows_isRow_d103 rfl ?_
        obtain ⟨g104, h⟩ := ed_gd h
        refine iq_iaload hS 105 J_MLineRows_isRow_d104 ⟨(ka_105 hM2).1, (ka_105 hM2).2, g104.1, ix_lt (kl_105 hM2) g104.2⟩ rfl ?_
        refine iq_aload_n hS 106 J_MLineRows_isRow_d105 l3 rfl ?_
        refine iq_getR hS 109 J_MLineRows_isRow_d106 lf_13_140 (Or.inr ⟨_, rfl⟩) (ka_96 hM2) (ra_96_12 hM2) rfl ?_
        refine iq_iload_n hS 110 J_MLineRows_isRow_d109 l4 rfl ?_
        refine iq_iconst hS 111 J_MLineRows_isRow_d110 (v := 1) (by decide +kernel) rfl ?_
        refine iq_isub hS 112 J_MLineRows_isRow_d111 rfl ?_
        obtain ⟨Q7, hQ7, h⟩ := bd1_ed h
        refine iq_cpI hS 115 J_MLineRows_isRow_d112 rfl (pr_stat (vs := [_, _]) lc_13_198 lT_371 rfl rfl (by decide) rfl (Nat.le_of_ble_eq_true rfl) (Nat.le_of_ble_eq_true rfl)) (f_MLineRows_check_1_ok (dep := dep + 0) hM2 h) rfl ?_
        intro x7 h
        replace h := hQ7 _ h
        refine iq_icmp_eq hS 118 J_MLineRows_isRow_d115 (t := 120) rfl (fun q115 => ?_) rfl (fun q115 => ?_)
        · replace h := ed_pos q115 h
          refine iq_aload_n hS 121 J_MLineRows_isRow_d120 l3 rfl ?_
          refine iq_getR hS 124 J_MLineRows_isRow_d121 lf_13_140 (Or.inr ⟨_, rfl⟩) (ka_96 hM2) (ra_96_12 hM2) rfl ?_
          refine iq_iconst hS 125 J_MLineRows_isRow_d124 (v := 0) (by decide +kernel) rfl ?_
          obtain ⟨g125, h⟩ := ed_gd h
          refine iq_iaload hS 126 J_MLineRows_isRow_d125 ⟨(ka_105 hM2).1, (ka_105 hM2).2, g125.1, ix_lt (kl_105 hM2) g125.2⟩ rfl ?_
          refine iq_bipush hS 128 J_MLineRows_isRow_d126 (v := 103) (by decide +kernel) rfl ?_
          refine iq_isub hS 129 J_MLineRows_isRow_d128 rfl ?_
          refine iq_istore_n hS 130 J_MLineRows_isRow_d129 (by decide) rfl ?_
          refine iq_aload_n hS 131 J_MLineRows_isRow_d130 (lk_1r l3 (by decide)) rfl ?_
          refine iq_iconst hS 132 J_MLineRows_isRow_d131 (v := 0) (by decide +kernel) rfl ?_
          refine iq_putI hS 135 J_MLineRows_isRow_d132 lf_13_250 (Or.inl rfl) rfl (ka_96 hM2) rfl ?_
          refine iq_iconst hS 136 J_MLineRows_isRow_d135 (v := 1) (by decide +kernel) rfl ?_
          refine iq_istore_n hS 137 J_MLineRows_isRow_d136 (by decide) rfl ?_
          obtain ⟨Q8, hQ8, hR8, h⟩ := bs1_ed h
          have K8 : ∀ (M9 : im_M) (L' : List (Nat × Value)), lw_S w M9 → Q8 (.inl M9) → ia (tb_G L xs) (dep + 1) J_MLineRows_isRow (rwI w Q) (315, L', [], M9) := by
            intro M9 L' hM9  h
            replace h := hQ8 _ h
            refine iq_iconst hS 316 J_MLineRows_isRow_d315 (v := 1) (by decide +kernel) rfl ?_
            exact iq_iret J_MLineRows_isRow_d316 rfl rfl ⟨_, rfl, hM9, ed_some h⟩
          obtain ⟨r8, hr8, hq8⟩ := h
          obtain ⟨n8, hn8⟩ := lp_n hr8
          have I8 : ∀ (n : Nat) (x10 : Int32) (x11 : Int32) (M12 : im_M) (L' : List (Nat × Value)), lw_S w M12 → im_lk L' 0 = some (.ref 96) → im_lk L' 1 = some (.int p0) → im_lk L' 2 = some (.int x10) → im_lk L' 3 = some (.int x11) → lpn (uc3 (f_MLineRows_isRow_L137 p0)) n (x10, x11, M12) = some r8 → ia (tb_G L xs) (dep + 1) J_MLineRows_isRow (rwI w Q) (137, L', [], M12) := by
            intro n
            induction n with
            | zero => intro x10 x11 M12 L' hM12 l13 l14 l15 l16 hn; exact (lpn_0 hn).elim
            | succ n ih =>
              intro x10 x11 M12 L' hM12 l13 l14 l15 l16 hn
              have h := lpn_ed3 hn
              unfold f_MLineRows_isRow_L137 at h
              refine iq_iload_n hS 138 J_MLineRows_isRow_d137 l16 rfl ?_
              refine iq_iload_n hS 139 J_MLineRows_isRow_d138 l14 rfl ?_
              refine iq_iconst hS 140 J_MLineRows_isRow_d139 (v := 1) (by decide +kernel) rfl ?_
              refine iq_isub hS 141 J_MLineRows_isRow_d140 rfl ?_
              refine iq_icmp_ge hS 144 J_MLineRows_isRow_d141 (t := 315) rfl (fun q141 => ?_) rfl (fun q141 => ?_)
              · replace h := ed_pos q141 h
                exact K8 _ _ hM12  (lq_r h hq8)
              · replace h := ed_neg q141 h
                refine iq_aload_n hS 145 J_MLineRows_isRow_d144 l13 rfl ?_
                refine iq_getR hS 148 J_MLineRows_isRow_d145 lf_13_140 (Or.inr ⟨_, rfl⟩) (ka_96 hM12) (ra_96_12 hM12) rfl ?_
                refine iq_iload_n hS 149 J_MLineRows_isRow_d148 l16 rfl ?_
                obtain ⟨g149, h⟩ := ed_gd h
                refine iq_iaload hS 150 J_MLineRows_isRow_d149 ⟨(ka_105 hM12).1, (ka_105 hM12).2, g149.1, ix_lt (kl_105 hM12) g149.2⟩ rfl ?_
                refine iq_istore hS 152 J_MLineRows_isRow_d150 (by decide) rfl ?_
                refine iq_iload hS 154 J_MLineRows_isRow_d152 lk_1s rfl ?_
                refine iq_bipush hS 156 J_MLineRows_isRow_d154 (v := 102) (by decide +kernel) rfl ?_
                obtain ⟨k17, Q17, hQ17, hk17, h⟩ := jn3_ed h
                have J17 : ∀ (y40 : Int32) (y41 : Int32) (M42 : im_M) (L' : List (Nat × Value)), lw_S w M42 → im_lk L' 0 = some (.ref 96) → im_lk L' 1 = some (.int p0) → im_lk L' 2 = some (.int y40) → im_lk L' 3 = some (.int y41) → Q17 y40 y41 M42 → ia (tb_G L xs) (dep + 1) J_MLineRows_isRow (rwI w Q) (309, L', [], M42) := by
                  intro y40 y41 M42 L' hM42 l43 l44 l45 l46 h
                  replace h := hQ17 _ _ _ h
                  refine iq_iincv hS 312 J_MLineRows_isRow_d309 (c := 1) (by decide +kernel) l46 (by decide) rfl ?_
                  refine iq_goto hS J_MLineRows_isRow_d312 (t := 137) rfl ?_
                  exact ih _ _ _ _ hM42 (lk_1r l43 (by decide)) (lk_1i l44 (by decide)) (lk_1i l45 (by decide)) lk_1s (lq_l h)
                refine iq_icmp_ne hS 159 J_MLineRows_isRow_d156 (t := 169) rfl (fun q156 => ?_) rfl (fun q156 => ?_)
                · replace h := ed_pos q156 h
                  refine iq_iload_n hS 170 J_MLineRows_isRow_d169 (lk_1i l15 (by decide)) rfl ?_
                  refine iq_iload hS 172 J_MLineRows_isRow_d170 lk_1s rfl ?_
                  obtain ⟨Q18, hQ18, h⟩ := bd1_ed h
                  refine iq_cpI hS 175 J_MLineRows_isRow_d172 rfl (pr_stat (vs := [_, _]) lc_13_179 lT_368 rfl rfl (by decide) rfl (Nat.le_of_ble_eq_true rfl) (Nat.le_of_ble_eq_true rfl)) (f_MLineRows_goes_ok (dep := dep + 0) hM12 h) rfl ?_
                  intro x18 h
                  replace h := hQ18 _ h
                  obtain ⟨k19, Q19, hQ19, hk19, h⟩ := jn1_ed h
                  have J19 : ∀ (y27 : Int32) (L' : List (Nat × Value)), im_lk L' 0 = some (.ref 96) → im_lk L' 1 = some (.int p0) → im_lk L' 2 = some (.int y27) → im_lk L' 3 = some (.int x11) → im_lk L' 4 = some (.int (im_i M12 105 (Int32.toNatClampNeg x11))) → Q19 y27 → ia (tb_G L xs) (dep + 1) J_MLineRows_isRow (rwI w Q) (200, L', [], M12) := by
                    intro y27 L' l28 l29 l30 l31 l32 h
                    replace h := hQ19 _ h
                    refine iq_iload_n hS 201 J_MLineRows_isRow_d200 l30 rfl ?_
                    refine iq_iconst hS 202 J_MLineRows_isRow_d201 (v := 2) (by decide +kernel) rfl ?_
                    refine iq_icmp_ne hS 205 J_MLineRows_isRow_d202 (t := 241) rfl (fun q202 => ?_) rfl (fun q202 => ?_)
                    · replace h := ed_pos q202 h
                      refine iq_iload hS 243 J_MLineRows_isRow_d241 l32 rfl ?_
                      refine iq_bipush hS 245 J_MLineRows_isRow_d243 (v := 98) (by decide +kernel) rfl ?_
                      refine iq_icmp_ne hS 248 J_MLineRows_isRow_d245 (t := 290) rfl (fun q245 => ?_) rfl (fun q245 => ?_)
                      · replace h := ed_pos q245 h
                        refine iq_iload hS 292 J_MLineRows_isRow_d290 l32 rfl ?_
                        refine iq_bipush hS 294 J_MLineRows_isRow_d292 (v := 95) (by decide +kernel) rfl ?_
                        refine iq_icmp_le hS 297 J_MLineRows_isRow_d294 (t := 299) rfl (fun q294 => ?_) rfl (fun q294 => ?_)
                        · replace h := ed_pos q294 h
                          refine iq_aload_n hS 300 J_MLineRows_isRow_d299 l28 rfl ?_
                          refine iq_iload_n hS 301 J_MLineRows_isRow_d300 l30 rfl ?_
                          refine iq_iload hS 303 J_MLineRows_isRow_d301 l32 rfl ?_
                          obtain ⟨Q33, hQ33, h⟩ := bd1_ed h
                          refine iq_cpI hS 306 J_MLineRows_isRow_d303 rfl (pr_stat (vs := [_, _]) lc_13_168 lT_366 rfl rfl (by decide) rfl (Nat.le_of_ble_eq_true rfl) (Nat.le_of_ble_eq_true rfl)) (f_MLineRows_signOf_ok (dep := dep + 0) hM12 h) rfl ?_
                          intro x33 h
                          replace h := hQ33 _ h
                          obtain ⟨Q34, hQ34, h⟩ := bd1_ed h
                          refine iq_cwV hS 309 J_MLineRows_isRow_d306 rfl (pr_inst (vs := [_]) lc_13_253 lT_517 rfl rfl (by decide) (by decide) rfl (Nat.le_of_ble_eq_true rfl) (Nat.le_of_ble_eq_true rfl) (fun _ => Or.inl (pr_b (ka_96 hM12) (by decide) rfl))) (f_MLineRows_tell_ok (dep := dep + 0) hM12 h) rfl ?_
                          intro M34 hM34 h
                          replace h := hQ34 _ h
                          exact J17 _ _ _ _ hM34 l28 l29 l30 l31 (hk17 _ _ _ h)
                        · replace h := ed_neg q294 h
                          refine iq_iconst hS 298 J_MLineRows_isRow_d297 (v := 0) (by decide +kernel) rfl ?_
                          exact iq_iret J_MLineRows_isRow_d298 rfl rfl ⟨_, rfl, hM12, ed_some (hR8 _ (lq_r h hq8))⟩
                      · replace h := ed_neg q245 h
                        refine iq_iincv hS 251 J_MLineRows_isRow_d248 (c := 1) (by decide +kernel) l31 (by decide) rfl ?_
                        refine iq_iload_n hS 252 J_MLineRows_isRow_d251 lk_1s rfl ?_
                        refine iq_iload_n hS 253 J_MLineRows_isRow_d252 (lk_1i l29 (by decide)) rfl ?_
                        refine iq_iconst hS 254 J_MLineRows_isRow_d253 (v := 1) (by decide +kernel) rfl ?_
                        refine iq_isub hS 255 J_MLineRows_isRow_d254 rfl ?_
                        refine iq_icmp_eq hS 258 J_MLineRows_isRow_d255 (t := 269) rfl (fun q255 => ?_) rfl (fun q255 => ?_)
                        · replace h := ed_pos q255 h
                          refine iq_iconst hS 270 J_MLineRows_isRow_d269 (v := 0) (by decide +kernel) rfl ?_
                          exact iq_iret J_MLineRows_isRow_d270 rfl rfl ⟨_, rfl, hM12, ed_some (hR8 _ (lq_r h hq8))⟩
                        · replace h := ed_neg q255 h
                          refine iq_aload_n hS 259 J_MLineRows_isRow_d258 (lk_1r l28 (by decide)) rfl ?_
                          refine iq_getR hS 262 J_MLineRows_isRow_d259 lf_13_140 (Or.inr ⟨_, rfl⟩) (ka_96 hM12) (ra_96_12 hM12) rfl ?_
                          refine iq_iload_n hS 263 J_MLineRows_isRow_d262 lk_1s rfl ?_
                          obtain ⟨g263, h⟩ := ed_gd h
                          refine iq_iaload hS 264 J_MLineRows_isRow_d263 ⟨(ka_105 hM12).1, (ka_105 hM12).2, g263.1, ix_lt (kl_105 hM12) g263.2⟩ rfl ?_
                          refine iq_bipush hS 266 J_MLineRows_isRow_d264 (v := 95) (by decide +kernel) rfl ?_
                          refine iq_icmp_le hS 269 J_MLineRows_isRow_d266 (t := 271) rfl (fun q266 => ?_) rfl (fun q266 => ?_)
                          · replace h := ed_pos q266 h
                            refine iq_aload_n hS 272 J_MLineRows_isRow_d271 (lk_1r l28 (by decide)) rfl ?_
                            refine iq_iconst hS 273 J_MLineRows_isRow_d272 (v := 1) (by decide +kernel) rfl ?_
                            refine iq_iload_n hS 274 J_MLineRows_isRow_d273 (lk_1i l30 (by decide)) rfl ?_
                            refine iq_isub hS 275 J_MLineRows_isRow_d274 rfl ?_
                            refine iq_aload_n hS 276 J_MLineRows_isRow_d275 (lk_1r l28 (by decide)) rfl ?_
                            refine iq_getR hS 279 J_MLineRows_isRow_d276 lf_13_140 (Or.inr ⟨_, rfl⟩) (ka_96 hM12) (ra_96_12 hM12) rfl ?_
                            refine iq_iload_n hS 280 J_MLineRows_isRow_d279 lk_1s rfl ?_
                            obtain ⟨g280, h⟩ := ed_gd h
                            refine iq_iaload hS 281 J_MLineRows_isRow_d280 ⟨(ka_105 hM12).1, (ka_105 hM12).2, g280.1, ix_lt (kl_105 hM12) g280.2⟩ rfl ?_
                            obtain ⟨Q35, hQ35, h⟩ := bd1_ed h
                            refine iq_cpI hS 284 J_MLineRows_isRow_d281 rfl (pr_stat (vs := [_, _]) lc_13_168 lT_366 rfl rfl (by decide) rfl (Nat.le_of_ble_eq_true rfl) (Nat.le_of_ble_eq_true rfl)) (f_MLineRows_signOf_ok (dep := dep + 0) hM12 h) rfl ?_
                            intro x35 h
                            replace h := hQ35 _ h
                            obtain ⟨Q36, hQ36, h⟩ := bd1_ed h
                            refine iq_cwV hS 287 J_MLineRows_isRow_d284 rfl (pr_inst (vs := [_]) lc_13_253 lT_517 rfl rfl (by decide) (by decide) rfl (Nat.le_of_ble_eq_true rfl) (Nat.le_of_ble_eq_true rfl) (fun _ => Or.inl (pr_b (ka_96 hM12) (by decide) rfl))) (f_MLineRows_tell_ok (dep := dep + 0) hM12 h) rfl ?_
                            intro M36 hM36 h
                            replace h := hQ36 _ h
                            refine iq_goto hS J_MLineRows_isRow_d287 (t := 309) rfl ?_
                            exact J17 _ _ _ _ hM36 (lk_1r l28 (by decide)) (lk_1i l29 (by decide)) (lk_1i l30 (by decide)) lk_1s (hk17 _ _ _ h)
                          · replace h := ed_neg q266 h
                            refine iq_iconst hS 270 J_MLineRows_isRow_d269 (v := 0) (by decide +kernel) rfl ?_
                            exact iq_iret J_MLineRows_isRow_d270 rfl rfl ⟨_, rfl, hM12, ed_some (hR8 _ (lq_r h hq8))⟩
                    · replace h := ed_neg q202 h
                      refine iq_iload hS 207 J_MLineRows_isRow_d205 l32 rfl ?_
                      refine iq_bipush hS 209 J_MLineRows_isRow_d207 (v := 99) (by decide +kernel) rfl ?_
                      refine iq_icmp_le hS 212 J_MLineRows_isRow_d209 (t := 214) rfl (fun q209 => ?_) rfl (fun q209 => ?_)
                      · replace h := ed_pos q209 h
                        refine iq_aload_n hS 215 J_MLineRows_isRow_d214 l28 rfl ?_
                        refine iq_bipush hS 217 J_MLineRows_isRow_d215 (v := 48) (by decide +kernel) rfl ?_
                        refine iq_iload hS 219 J_MLineRows_isRow_d217 l32 rfl ?_
                        refine iq_bipush hS 221 J_MLineRows_isRow_d219 (v := 10) (by decide +kernel) rfl ?_
                        refine iq_idiv hS 222 J_MLineRows_isRow_d221 (by decide) rfl ?_
                        refine iq_iadd hS 223 J_MLineRows_isRow_d222 rfl ?_
                        obtain ⟨Q37, hQ37, h⟩ := bd1_ed h
                        refine iq_cwV hS 226 J_MLineRows_isRow_d223 rfl (pr_inst (vs := [_]) lc_13_253 lT_517 rfl rfl (by decide) (by decide) rfl (Nat.le_of_ble_eq_true rfl) (Nat.le_of_ble_eq_true rfl) (fun _ => Or.inl (pr_b (ka_96 hM12) (by decide) rfl))) (f_MLineRows_tell_ok (dep := dep + 0) hM12 h) rfl ?_
                        intro M37 hM37 h
                        replace h := hQ37 _ h
                        refine iq_aload_n hS 227 J_MLineRows_isRow_d226 l28 rfl ?_
                        refine iq_bipush hS 229 J_MLineRows_isRow_d227 (v := 48) (by decide +kernel) rfl ?_
                        refine iq_iload hS 231 J_MLineRows_isRow_d229 l32 rfl ?_
                        refine iq_bipush hS 233 J_MLineRows_isRow_d231 (v := 10) (by decide +kernel) rfl ?_
                        refine iq_irem hS 234 J_MLineRows_isRow_d233 (by decide) rfl ?_
                        refine iq_iadd hS 235 J_MLineRows_isRow_d234 rfl ?_
                        obtain ⟨Q38, hQ38, h⟩ := bd1_ed h
                        refine iq_cwV hS 238 J_MLineRows_isRow_d235 rfl (pr_inst (vs := [_]) lc_13_253 lT_517 rfl rfl (by decide) (by decide) rfl (Nat.le_of_ble_eq_true rfl) (Nat.le_of_ble_eq_true rfl) (fun _ => Or.inl (pr_b (ka_96 hM37) (by decide) rfl))) (f_MLineRows_tell_ok (dep := dep + 0) hM37 h) rfl ?_
                        intro M38 hM38 h
                        replace h := hQ38 _ h
                        refine iq_goto hS J_MLineRows_isRow_d238 (t := 309) rfl ?_
                        exact J17 _ _ _ _ hM38 l28 l29 l30 l31 (hk17 _ _ _ h)
                      · replace h := ed_neg q209 h
                        refine iq_iconst hS 213 J_MLineRows_isRow_d212 (v := 0) (by decide +kernel) rfl ?_
                        exact iq_iret J_MLineRows_isRow_d213 rfl rfl ⟨_, rfl, hM12, ed_some (hR8 _ (lq_r h hq8))⟩
                  refine iq_if_lt hS 178 J_MLineRows_isRow_d175 (t := 200) rfl (fun q175 => ?_) rfl (fun q175 => ?_)
                  · replace h := ed_pos q175 h
                    exact J19 _ _ (lk_1r l13 (by decide)) (lk_1i l14 (by decide)) (lk_1i l15 (by decide)) (lk_1i l16 (by decide)) lk_1s (hk19 _ h)
                  · replace h := ed_neg q175 h
                    refine iq_iload_n hS 179 J_MLineRows_isRow_d178 (lk_1i l15 (by decide)) rfl ?_
                    refine iq_iconst hS 180 J_MLineRows_isRow_d179 (v := 2) (by decide +kernel) rfl ?_
                    obtain ⟨k20, Q20, hQ20, hk20, h⟩ := jn0_ed h
                    have J20 : ∀  (L' : List (Nat × Value)), im_lk L' 0 = some (.ref 96) → im_lk L' 1 = some (.int p0) → im_lk L' 2 = some (.int x10) → im_lk L' 3 = some (.int x11) → im_lk L' 4 = some (.int (im_i M12 105 (Int32.toNatClampNeg x11))) → Q20 () → ia (tb_G L xs) (dep + 1) J_MLineRows_isRow (rwI w Q) (190, L', [], M12) := by
                      intro  L' l21 l22 l23 l24 l25 h
                      replace h := hQ20  h
                      refine iq_iload_n hS 191 J_MLineRows_isRow_d190 l23 rfl ?_
                      refine iq_iload hS 193 J_MLineRows_isRow_d191 l25 rfl ?_
                      obtain ⟨Q26, hQ26, h⟩ := bd1_ed h
                      refine iq_cpI hS 196 J_MLineRows_isRow_d193 rfl (pr_stat (vs := [_, _]) lc_13_179 lT_368 rfl rfl (by decide) rfl (Nat.le_of_ble_eq_true rfl) (Nat.le_of_ble_eq_true rfl)) (f_MLineRows_goes_ok (dep := dep + 0) hM12 h) rfl ?_
                      intro x26 h
                      replace h := hQ26 _ h
                      refine iq_istore_n hS 197 J_MLineRows_isRow_d196 (by decide) rfl ?_
                      refine iq_goto hS J_MLineRows_isRow_d197 (t := 309) rfl ?_
                      exact J17 _ _ _ _ hM12 (lk_1r l21 (by decide)) (lk_1i l22 (by decide)) lk_1s (lk_1i l24 (by decide)) (hk17 _ _ _ h)
                    refine iq_icmp_ne hS 183 J_MLineRows_isRow_d180 (t := 190) rfl (fun q180 => ?_) rfl (fun q180 => ?_)
                    · replace h := ed_pos q180 h
                      exact J20  _ (lk_1r l13 (by decide)) (lk_1i l14 (by decide)) (lk_1i l15 (by decide)) (lk_1i l16 (by decide)) lk_1s (hk20  h)
                    · replace h := ed_neg q180 h
                      refine iq_iload hS 185 J_MLineRows_isRow_d183 lk_1s rfl ?_
                      refine iq_bipush hS 187 J_MLineRows_isRow_d185 (v := 99) (by decide +kernel) rfl ?_
                      refine iq_icmp_le hS 190 J_MLineRows_isRow_d187 (t := 200) rfl (fun q187 => ?_) rfl (fun q187 => ?_)
                      · replace h := ed_pos q187 h
                        exact J19 _ _ (lk_1r l13 (by decide)) (lk_1i l14 (by decide)) (lk_1i l15 (by decide)) (lk_1i l16 (by decide)) lk_1s (hk19 _ h)
                      · replace h := ed_neg q187 h
                        exact J20  _ (lk_1r l13 (by decide)) (lk_1i l14 (by decide)) (lk_1i l15 (by decide)) (lk_1i l16 (by decide)) lk_1s (hk20  h)
                · replace h := ed_neg q156 h
                  refine iq_aload_n hS 160 J_MLineRows_isRow_d159 (lk_1r l13 (by decide)) rfl ?_
                  refine iq_sipush hS 163 J_MLineRows_isRow_d160 (v := 128) (by decide +kernel) rfl ?_
                  obtain ⟨Q39, hQ39, h⟩ := bd1_ed h
                  refine iq_cwV hS 166 J_MLineRows_isRow_d163 rfl (pr_inst (vs := [_]) lc_13_253 lT_517 rfl rfl (by decide) (by decide) rfl (Nat.le_of_ble_eq_true rfl) (Nat.le_of_ble_eq_true rfl) (fun _ => Or.inl (pr_b (ka_96 hM12) (by decide) rfl))) (f_MLineRows_tell_ok (dep := dep + 0) hM12 h) rfl ?_
                  intro M39 hM39 h
                  replace h := hQ39 _ h
                  refine iq_goto hS J_MLineRows_isRow_d166 (t := 309) rfl ?_
                  exact J17 _ _ _ _ hM39 (lk_1r l13 (by decide)) (lk_1i l14 (by decide)) (lk_1i l15 (by decide)) (lk_1i l16 (by decide)) (hk17 _ _ _ h)
          exact I8 n8 _ _ _ _ (lw_sI hM2) (lk_1r (lk_1r l3 (by decide)) (by decide)) (lk_1i (lk_1i l4 (by decide)) (by decide)) (lk_1i lk_1s (by decide)) lk_1s hn8
        · replace h := ed_neg q115 h
          refine iq_iconst hS 119 J_MLineRows_isRow_d118 (v := 0) (by decide +kernel) rfl ?_
          exact iq_iret J_MLineRows_isRow_d119 rfl rfl ⟨_, rfl, hM2, ed_some h⟩
  obtain ⟨r1, hr1, hq1⟩ := h
  obtain ⟨n1, hn1⟩ := lp_n hr1
  have I1 : ∀ (n : Nat) (x47 : Int32) (M48 : im_M) (L' : List (Nat × Value)), lw_S w M48 → im_lk L' 0 = some (.ref 96) → im_lk L' 1 = some (.int p0) → im_lk L' 2 = some (.int x47) → lpn (uc2 (f_MLineRows_isRow_L2 p0)) n (x47, M48) = some r1 → ia (tb_G L xs) (dep + 1) J_MLineRows_isRow (rwI w Q) (2, L', [], M48) := by
    intro n
    induction n with
    | zero => intro x47 M48 L' hM48 l49 l50 l51 hn; exact (lpn_0 hn).elim
    | succ n ih =>
      intro x47 M48 L' hM48 l49 l50 l51 hn
      have h := lpn_ed2 hn
      unfold f_MLineRows_isRow_L2 at h
      refine iq_iload_n hS 3 J_MLineRows_isRow_d2 l51 rfl ?_
      refine iq_iload_n hS 4 J_MLineRows_isRow_d3 l50 rfl ?_
      refine iq_icmp_ge hS 7 J_MLineRows_isRow_d4 (t := 59) rfl (fun q4 => ?_) rfl (fun q4 => ?_)
      · replace h := ed_pos q4 h
        exact K1 _ _ hM48 l49 l50 (lq_r h hq1)
      · replace h := ed_neg q4 h
        refine iq_aload_n hS 8 J_MLineRows_isRow_d7 l49 rfl ?_
        refine iq_getR hS 11 J_MLineRows_isRow_d8 lf_13_140 (Or.inr ⟨_, rfl⟩) (ka_96 hM48) (ra_96_12 hM48) rfl ?_
        refine iq_iload_n hS 12 J_MLineRows_isRow_d11 l51 rfl ?_
        refine iq_aload_n hS 13 J_MLineRows_isRow_d12 l49 rfl ?_
        refine iq_getR hS 16 J_MLineRows_isRow_d13 lf_13_113 (Or.inr ⟨_, rfl⟩) (ka_96 hM48) (ra_96_0 hM48) rfl ?_
        refine iq_aload_n hS 17 J_MLineRows_isRow_d16 l49 rfl ?_
        refine iq_bipush hS 19 J_MLineRows_isRow_d17 (v := 6) (by decide +kernel) rfl ?_
        refine iq_iload_n hS 20 J_MLineRows_isRow_d19 l51 rfl ?_
        refine iq_imul hS 21 J_MLineRows_isRow_d20 rfl ?_
        refine iq_bipush hS 23 J_MLineRows_isRow_d21 (v := 6) (by decide +kernel) rfl ?_
        refine iq_aload_n hS 24 J_MLineRows_isRow_d23 l49 rfl ?_
        refine iq_bipush hS 26 J_MLineRows_isRow_d24 (v := 6) (by decide +kernel) rfl ?_
        refine iq_iload_n hS 27 J_MLineRows_isRow_d26 l51 rfl ?_
        refine iq_imul hS 28 J_MLineRows_isRow_d27 rfl ?_
        refine iq_bipush hS 30 J_MLineRows_isRow_d28 (v := 6) (by decide +kernel) rfl ?_
        obtain ⟨Q52, hQ52, h⟩ := bd1_ed h
        refine iq_cpI hS 33 J_MLineRows_isRow_d30 rfl (pr_inst (vs := [_, _]) lc_13_240 lT_514 rfl rfl (by decide) (by decide) rfl (Nat.le_of_ble_eq_true rfl) (Nat.le_of_ble_eq_true rfl) (fun _ => Or.inl (pr_b (ka_96 hM48) (by decide) rfl))) (f_MLineRows_sumOf_ok (dep := dep + 0) hM48 h) rfl ?_
        intro x52 h
        replace h := hQ52 _ h
        refine iq_bipush hS 35 J_MLineRows_isRow_d33 (v := 11) (by decide +kernel) rfl ?_
        obtain ⟨Q53, hQ53, h⟩ := bd1_ed h
        refine iq_cpI hS 38 J_MLineRows_isRow_d35 rfl (pr_inst (vs := [_, _, _, _]) lc_13_243 lT_515 rfl rfl (by decide) (by decide) rfl (Nat.le_of_ble_eq_true rfl) (Nat.le_of_ble_eq_true rfl) (fun _ => Or.inl (pr_b (ka_96 hM48) (by decide) rfl))) (f_MLineRows_counts_ok (dep := dep + 0) hM48 h) rfl ?_
        intro x53 h
        replace h := hQ53 _ h
        obtain ⟨Q54, hQ54, h⟩ := bd1_ed h
        refine iq_cpI hS 41 J_MLineRows_isRow_d38 rfl (pr_stat (vs := [_, _]) lc_13_247 lT_516 rfl rfl (by decide) rfl (Nat.le_of_ble_eq_true rfl) (Nat.le_of_ble_eq_true rfl)) (f_MLineRows_place_ok (dep := dep + 0) hM48 h) rfl ?_
        intro x54 h
        replace h := hQ54 _ h
        obtain ⟨g41, h⟩ := ed_gd h
        refine iq_iastore hS 42 J_MLineRows_isRow_d41 ⟨(ka_105 hM48).1, (ka_105 hM48).2, g41.1, ix_lt (kl_105 hM48) g41.2⟩ rfl ?_
        refine iq_aload_n hS 43 J_MLineRows_isRow_d42 l49 rfl ?_
        refine iq_getR hS 46 J_MLineRows_isRow_d43 lf_13_140 (Or.inr ⟨_, rfl⟩) (ka_96 (lw_sI hM48)) (ra_96_12 (lw_sI hM48)) rfl ?_
        refine iq_iload_n hS 47 J_MLineRows_isRow_d46 l51 rfl ?_
        obtain ⟨g47, h⟩ := ed_gd h
        refine iq_iaload hS 48 J_MLineRows_isRow_d47 ⟨(ka_105 (lw_sI hM48)).1, (ka_105 (lw_sI hM48)).2, g47.1, ix_lt (kl_105 (lw_sI hM48)) g47.2⟩ rfl ?_
        refine iq_if_ge hS 51 J_MLineRows_isRow_d48 (t := 53) rfl (fun q48 => ?_) rfl (fun q48 => ?_)
        · replace h := ed_pos q48 h
          refine iq_iincv hS 56 J_MLineRows_isRow_d53 (c := 1) (by decide +kernel) l51 (by decide) rfl ?_
          refine iq_goto hS J_MLineRows_isRow_d56 (t := 2) rfl ?_
          exact ih _ _ _ (lw_sI hM48) (lk_1r l49 (by decide)) (lk_1i l50 (by decide)) lk_1s (lq_l h)
        · replace h := ed_neg q48 h
          refine iq_iconst hS 52 J_MLineRows_isRow_d51 (v := 0) (by decide +kernel) rfl ?_
          exact iq_iret J_MLineRows_isRow_d52 rfl rfl ⟨_, rfl, (lw_sI hM48), ed_some (hR1 _ (lq_r h hq1))⟩
  exact I1 n1 _ _ _ hM (lk_1r l0 (by decide)) (lk_1i l1 (by decide)) lk_1s hn1
theorem f_MLineRows_isRow_fr {p0 : Int32} {M : im_M} {r : Int32 × im_M} (h : f_MLineRows_isRow p0 M = some r) : fr 202824096036516704239472512860160 [(96, 17)] M r.2 := by
  replace h : ed (f_MLineRows_isRow p0 M) (fun x => x = r) := ⟨r, h, rfl⟩
  unfold f_MLineRows_isRow at h
  obtain ⟨Q1, hQ1, hR1, h⟩ := bs1_ed h
  have K1 : ∀ (M2 : im_M), fr 202824096036516704239472512860160 [(96, 17)] M M2 → Q1 (.inl M2) → fr 202824096036516704239472512860160 [(96, 17)] M r.2 := by
    intro M2 hM2 h
    replace h := hQ1 _ h
    obtain ⟨Q3, hQ3, h⟩ := bd1_ed h
    obtain ⟨x3, e3, h⟩ := h
    replace h := hQ3 _ h
    obtain ⟨Q4, hQ4, h⟩ := bd1_ed h
    obtain ⟨x4, e4, h⟩ := h
    replace h := hQ4 _ h
    by_cases q83 : ¬ x4 = 2331112
    · replace h := ed_pos q83 h
      exact fr_ret h hM2
    · replace h := ed_neg q83 h
      obtain ⟨g91, h⟩ := ed_gd h
      by_cases q94 : (im_i M2 105 (Int32.toNatClampNeg 0)) < 103
      · replace h := ed_pos q94 h
        exact fr_ret h hM2
      · replace h := ed_neg q94 h
        obtain ⟨g104, h⟩ := ed_gd h
        obtain ⟨Q5, hQ5, h⟩ := bd1_ed h
        obtain ⟨x5, e5, h⟩ := h
        replace h := hQ5 _ h
        by_cases q115 : (im_i M2 105 (Int32.toNatClampNeg (p0 - 1))) = x5
        · replace h := ed_pos q115 h
          obtain ⟨g125, h⟩ := ed_gd h
          obtain ⟨Q6, hQ6, hR6, h⟩ := bs1_ed h
          have K6 : ∀ (M7 : im_M), fr 202824096036516704239472512860160 [(96, 17)] M M7 → Q6 (.inl M7) → fr 202824096036516704239472512860160 [(96, 17)] M r.2 := by
            intro M7 hM7 h
            replace h := hQ6 _ h
            exact fr_ret h hM7
          obtain ⟨r6, hr6, hq6⟩ := h
          obtain ⟨n6, hn6⟩ := lp_n hr6
          have I6 : ∀ (n : Nat) (x8 : Int32) (x9 : Int32) (M10 : im_M), fr 202824096036516704239472512860160 [(96, 17)] M M10 → lpn (uc3 (f_MLineRows_isRow_L137 p0)) n (x8, x9, M10) = some r6 → fr 202824096036516704239472512860160 [(96, 17)] M r.2 := by
            intro n
            induction n with
            | zero => intro x8 x9 M10 hM10 hn; exact (lpn_0 hn).elim
            | succ n ih =>
              intro x8 x9 M10 hM10 hn
              have h := lpn_ed3 hn
              unfold f_MLineRows_isRow_L137 at h
              by_cases q141 : (p0 - 1) ≤ x9
              · replace h := ed_pos q141 h
                exact K6 _ hM10 (lq_r h hq6)
              · replace h := ed_neg q141 h
                obtain ⟨g149, h⟩ := ed_gd h
                obtain ⟨k11, Q11, hQ11, hk11, h⟩ := jn3_ed h
                have J11 : ∀ (y34 : Int32) (y35 : Int32) (M36 : im_M), fr 202824096036516704239472512860160 [(96, 17)] M M36 → Q11 y34 y35 M36 → fr 202824096036516704239472512860160 [(96, 17)] M r.2 := by
                  intro y34 y35 M36 hM36 h
                  replace h := hQ11 _ _ _ h
                  exact ih _ _ _ hM36 (lq_l h)
                by_cases q156 : ¬ (im_i M10 105 (Int32.toNatClampNeg x9)) = 102
                · replace h := ed_pos q156 h
                  obtain ⟨Q12, hQ12, h⟩ := bd1_ed h
                  obtain ⟨x12, e12, h⟩ := h
                  replace h := hQ12 _ h
                  obtain ⟨k13, Q13, hQ13, hk13, h⟩ := jn1_ed h
                  have J13 : ∀ (y21 : Int32), Q13 y21 → fr 202824096036516704239472512860160 [(96, 17)] M r.2 := by
                    intro y21 h
                    replace h := hQ13 _ h
                    by_cases q202 : ¬ y21 = 2
                    · replace h := ed_pos q202 h
                      by_cases q245 : ¬ (im_i M10 105 (Int32.toNatClampNeg x9)) = 98
                      · replace h := ed_pos q245 h
                        by_cases q294 : (im_i M10 105 (Int32.toNatClampNeg x9)) ≤ 95
                        · replace h := ed_pos q294 h
                          obtain ⟨Q27, hQ27, h⟩ := bd1_ed h
                          obtain ⟨x27, e27, h⟩ := h
                          replace h := hQ27 _ h
                          obtain ⟨Q28, hQ28, h⟩ := bd1_ed h
                          obtain ⟨M28, e28, h⟩ := h
                          replace h := hQ28 _ h
                          exact J11 _ _ _ (fr_tr (fr_mono (by decide) (by decide +kernel) (f_MLineRows_tell_fr e28)) hM10) (hk11 _ _ _ h)
                        · replace h := ed_neg q294 h
                          exact fr_ret (hR6 _ (lq_r h hq6)) hM10
                      · replace h := ed_neg q245 h
                        by_cases q255 : (x9 + 1) = (p0 - 1)
                        · replace h := ed_pos q255 h
                          exact fr_ret (hR6 _ (lq_r h hq6)) hM10
                        · replace h := ed_neg q255 h
                          obtain ⟨g263, h⟩ := ed_gd h
                          by_cases q266 : (im_i M10 105 (Int32.toNatClampNeg (x9 + 1))) ≤ 95
                          · replace h := ed_pos q266 h
                            obtain ⟨g280, h⟩ := ed_gd h
                            obtain ⟨Q29, hQ29, h⟩ := bd1_ed h
                            obtain ⟨x29, e29, h⟩ := h
                            replace h := hQ29 _ h
                            obtain ⟨Q30, hQ30, h⟩ := bd1_ed h
                            obtain ⟨M30, e30, h⟩ := h
                            replace h := hQ30 _ h
                            exact J11 _ _ _ (fr_tr (fr_mono (by decide) (by decide +kernel) (f_MLineRows_tell_fr e30)) hM10) (hk11 _ _ _ h)
                          · replace h := ed_neg q266 h
                            exact fr_ret (hR6 _ (lq_r h hq6)) hM10
                    · replace h := ed_neg q202 h
                      by_cases q209 : (im_i M10 105 (Int32.toNatClampNeg x9)) ≤ 99
                      · replace h := ed_pos q209 h
                        obtain ⟨Q31, hQ31, h⟩ := bd1_ed h
                        obtain ⟨M31, e31, h⟩ := h
                        replace h := hQ31 _ h
                        obtain ⟨Q32, hQ32, h⟩ := bd1_ed h
                        obtain ⟨M32, e32, h⟩ := h
                        replace h := hQ32 _ h
                        exact J11 _ _ _ (fr_tr (fr_mono (by decide) (by decide +kernel) (f_MLineRows_tell_fr e32)) (fr_tr (fr_mono (by decide) (by decide +kernel) (f_MLineRows_tell_fr e31)) hM10)) (hk11 _ _ _ h)
                      · replace h := ed_neg q209 h
                        exact fr_ret (hR6 _ (lq_r h hq6)) hM10
                  by_cases q175 : x12 < 0
                  · replace h := ed_pos q175 h
                    exact J13 _ (hk13 _ h)
                  · replace h := ed_neg q175 h
                    obtain ⟨k14, Q14, hQ14, hk14, h⟩ := jn0_ed h
                    have J14 : Q14 () → fr 202824096036516704239472512860160 [(96, 17)] M r.2 := by
                      intro  h
                      replace h := hQ14  h
                      obtain ⟨Q20, hQ20, h⟩ := bd1_ed h
                      obtain ⟨x20, e20, h⟩ := h
                      replace h := hQ20 _ h
                      exact J11 _ _ _ hM10 (hk11 _ _ _ h)
                    by_cases q180 : ¬ x8 = 2
                    · replace h := ed_pos q180 h
                      exact J14  (hk14  h)
                    · replace h := ed_neg q180 h
                      by_cases q187 : (im_i M10 105 (Int32.toNatClampNeg x9)) ≤ 99
                      · replace h := ed_pos q187 h
                        exact J13 _ (hk13 _ h)
                      · replace h := ed_neg q187 h
                        exact J14  (hk14  h)
                · replace h := ed_neg q156 h
                  obtain ⟨Q33, hQ33, h⟩ := bd1_ed h
                  obtain ⟨M33, e33, h⟩ := h
                  replace h := hQ33 _ h
                  exact J11 _ _ _ (fr_tr (fr_mono (by decide) (by decide +kernel) (f_MLineRows_tell_fr e33)) hM10) (hk11 _ _ _ h)
          exact I6 n6 _ _ _ (fr_F (by decide) hM2) hn6
        · replace h := ed_neg q115 h
          exact fr_ret h hM2
  obtain ⟨r1, hr1, hq1⟩ := h
  obtain ⟨n1, hn1⟩ := lp_n hr1
  have I1 : ∀ (n : Nat) (x41 : Int32) (M42 : im_M), fr 202824096036516704239472512860160 [(96, 17)] M M42 → lpn (uc2 (f_MLineRows_isRow_L2 p0)) n (x41, M42) = some r1 → fr 202824096036516704239472512860160 [(96, 17)] M r.2 := by
    intro n
    induction n with
    | zero => intro x41 M42 hM42 hn; exact (lpn_0 hn).elim
    | succ n ih =>
      intro x41 M42 hM42 hn
      have h := lpn_ed2 hn
      unfold f_MLineRows_isRow_L2 at h
      by_cases q4 : p0 ≤ x41
      · replace h := ed_pos q4 h
        exact K1 _ hM42 (lq_r h hq1)
      · replace h := ed_neg q4 h
        obtain ⟨Q43, hQ43, h⟩ := bd1_ed h
        obtain ⟨x43, e43, h⟩ := h
        replace h := hQ43 _ h
        obtain ⟨Q44, hQ44, h⟩ := bd1_ed h
        obtain ⟨x44, e44, h⟩ := h
        replace h := hQ44 _ h
        obtain ⟨Q45, hQ45, h⟩ := bd1_ed h
        obtain ⟨x45, e45, h⟩ := h
        replace h := hQ45 _ h
        obtain ⟨g41, h⟩ := ed_gd h
        obtain ⟨g47, h⟩ := ed_gd h
        by_cases q48 : 0 ≤ (im_i (im_setI M42 105 (Int32.toNatClampNeg x41) x45) 105 (Int32.toNatClampNeg x41))
        · replace h := ed_pos q48 h
          exact ih _ _ (fr_I (by decide) hM42) (lq_l h)
        · replace h := ed_neg q48 h
          exact fr_ret (hR1 _ (lq_r h hq1)) (fr_I (by decide) hM42)
  exact I1 n1 _ _ fr_refl hn1
noncomputable def f_MLineRows_place_1_L2 (v2 : Int32) (M4 : im_M) (x3 : Int32) : Option ((Int32) ⊕ ((Unit) ⊕ (Int32))) := if 10 ≤ x3 then some (.inr (.inl ())) else gd (inb x3 10) <| if ¬ (im_i M4 98 (Int32.toNatClampNeg x3)) = v2 then some (.inl (x3 + 1)) else some (.inr (.inr x3))
noncomputable def f_MLineRows_place_1 (p1 : Int32) (M : im_M) : Option (Int32) := bs0 (lp (uc1 (f_MLineRows_place_1_L2 p1 M)) 0) (fun (_ : Unit) => some (-1)) (fun t => some t)
theorem f_MLineRows_place_1_ok {L : Nat} {xs : Nat → Int32} {dep : Nat} {w : Bool} {p1 : Int32} {M : im_M} {Q : Int32 → Prop} (hM : lw_S w M) (h : ed (f_MLineRows_place_1 p1 M) Q) : ia (tb_G L xs) dep J_MLineRows_place (rpI M Q) (0, lv_args 0 [.ref 98, .int p1], [], M) := by
  have hS : im_St (tb_G L xs) dep J_MLineRows_place (ia (tb_G L xs) dep J_MLineRows_place (rpI M Q)) := ia_St
  unfold f_MLineRows_place_1 at h
  have l0 : im_lk (lv_args 0 [.ref 98, .int p1]) 0 = some (.ref 98) := rfl
  have l1 : im_lk (lv_args 0 [.ref 98, .int p1]) 1 = some (.int p1) := rfl
  refine iq_iconst hS 1 J_MLineRows_place_d0 (v := 0) (by decide +kernel) rfl ?_
  refine iq_istore_n hS 2 J_MLineRows_place_d1 (by decide) rfl ?_
  obtain ⟨Q1, hQ1, hR1, h⟩ := bs0_ed h
  have K1 : ∀  (L' : List (Nat × Value)), Q1 (.inl ()) → ia (tb_G L xs) dep J_MLineRows_place (rpI M Q) (23, L', [], M) := by
    intro  L'  h
    replace h := hQ1  h
    refine iq_iconst hS 24 J_MLineRows_place_d23 (v := (-1)) (by decide +kernel) rfl ?_
    exact iq_iret J_MLineRows_place_d24 rfl rfl ⟨_, rfl, rfl, ed_some h⟩
  obtain ⟨r1, hr1, hq1⟩ := h
  obtain ⟨n1, hn1⟩ := lp_n hr1
  have I1 : ∀ (n : Nat) (x2 : Int32) (L' : List (Nat × Value)), im_lk L' 0 = some (.ref 98) → im_lk L' 1 = some (.int p1) → im_lk L' 2 = some (.int x2) → lpn (uc1 (f_MLineRows_place_1_L2 p1 M)) n x2 = some r1 → ia (tb_G L xs) dep J_MLineRows_place (rpI M Q) (2, L', [], M) := by
    intro n
    induction n with
    | zero => intro x2 L' l3 l4 l5 hn; exact (lpn_0 hn).elim
    | succ n ih =>
      intro x2 L' l3 l4 l5 hn
      have h := lpn_ed1 hn
      unfold f_MLineRows_place_1_L2 at h
      refine iq_iload_n hS 3 J_MLineRows_place_d2 l5 rfl ?_
      refine iq_aload_n hS 4 J_MLineRows_place_d3 l3 rfl ?_
      refine iq_alenv hS 5 J_MLineRows_place_d4 (v := 10) (ka_98 hM) (by decide) (by decide) (kl_98 hM) (by decide +kernel) rfl ?_
      refine iq_icmp_ge hS 8 J_MLineRows_place_d5 (t := 23) rfl (fun q5 => ?_) rfl (fun q5 => ?_)
      · replace h := ed_pos q5 h
        exact K1  _  (lq_r h hq1)
      · replace h := ed_neg q5 h
        refine iq_aload_n hS 9 J_MLineRows_place_d8 l3 rfl ?_
        refine iq_iload_n hS 10 J_MLineRows_place_d9 l5 rfl ?_
        obtain ⟨g10, h⟩ := ed_gd h
        refine iq_iaload hS 11 J_MLineRows_place_d10 ⟨(ka_98 hM).1, (ka_98 hM).2, g10.1, ix_lt (kl_98 hM) g10.2⟩ rfl ?_
        refine iq_iload_n hS 12 J_MLineRows_place_d11 l4 rfl ?_
        refine iq_icmp_ne hS 15 J_MLineRows_place_d12 (t := 17) rfl (fun q12 => ?_) rfl (fun q12 => ?_)
        · replace h := ed_pos q12 h
          refine iq_iincv hS 20 J_MLineRows_place_d17 (c := 1) (by decide +kernel) l5 (by decide) rfl ?_
          refine iq_goto hS J_MLineRows_place_d20 (t := 2) rfl ?_
          exact ih _ _ (lk_1r l3 (by decide)) (lk_1i l4 (by decide)) lk_1s (lq_l h)
        · replace h := ed_neg q12 h
          refine iq_iload_n hS 16 J_MLineRows_place_d15 l5 rfl ?_
          exact iq_iret J_MLineRows_place_d16 rfl rfl ⟨_, rfl, rfl, ed_some (hR1 _ (lq_r h hq1))⟩
  exact I1 n1 _ _ (lk_1r l0 (by decide)) (lk_1i l1 (by decide)) lk_1s hn1
noncomputable def f_MLineRows_place_2_L2 (v2 : Int32) (M4 : im_M) (x3 : Int32) : Option ((Int32) ⊕ ((Unit) ⊕ (Int32))) := if 10 ≤ x3 then some (.inr (.inl ())) else gd (inb x3 10) <| if ¬ (im_i M4 99 (Int32.toNatClampNeg x3)) = v2 then some (.inl (x3 + 1)) else some (.inr (.inr x3))
noncomputable def f_MLineRows_place_2 (p1 : Int32) (M : im_M) : Option (Int32) := bs0 (lp (uc1 (f_MLineRows_place_2_L2 p1 M)) 0) (fun (_ : Unit) => some (-1)) (fun t => some t)
theorem f_MLineRows_place_2_ok {L : Nat} {xs : Nat → Int32} {dep : Nat} {w : Bool} {p1 : Int32} {M : im_M} {Q : Int32 → Prop} (hM : lw_S w M) (h : ed (f_MLineRows_place_2 p1 M) Q) : ia (tb_G L xs) dep J_MLineRows_place (rpI M Q) (0, lv_args 0 [.ref 99, .int p1], [], M) := by
  have hS : im_St (tb_G L xs) dep J_MLineRows_place (ia (tb_G L xs) dep J_MLineRows_place (rpI M Q)) := ia_St
  unfold f_MLineRows_place_2 at h
  have l0 : im_lk (lv_args 0 [.ref 99, .int p1]) 0 = some (.ref 99) := rfl
  have l1 : im_lk (lv_args 0 [.ref 99, .int p1]) 1 = some (.int p1) := rfl
  refine iq_iconst hS 1 J_MLineRows_place_d0 (v := 0) (by decide +kernel) rfl ?_
  refine iq_istore_n hS 2 J_MLineRows_place_d1 (by decide) rfl ?_
  obtain ⟨Q1, hQ1, hR1, h⟩ := bs0_ed h
  have K1 : ∀  (L' : List (Nat × Value)), Q1 (.inl ()) → ia (tb_G L xs) dep J_MLineRows_place (rpI M Q) (23, L', [], M) := by
    intro  L'  h
    replace h := hQ1  h
    refine iq_iconst hS 24 J_MLineRows_place_d23 (v := (-1)) (by decide +kernel) rfl ?_
    exact iq_iret J_MLineRows_place_d24 rfl rfl ⟨_, rfl, rfl, ed_some h⟩
  obtain ⟨r1, hr1, hq1⟩ := h
  obtain ⟨n1, hn1⟩ := lp_n hr1
  have I1 : ∀ (n : Nat) (x2 : Int32) (L' : List (Nat × Value)), im_lk L' 0 = some (.ref 99) → im_lk L' 1 = some (.int p1) → im_lk L' 2 = some (.int x2) → lpn (uc1 (f_MLineRows_place_2_L2 p1 M)) n x2 = some r1 → ia (tb_G L xs) dep J_MLineRows_place (rpI M Q) (2, L', [], M) := by
    intro n
    induction n with
    | zero => intro x2 L' l3 l4 l5 hn; exact (lpn_0 hn).elim
    | succ n ih =>
      intro x2 L' l3 l4 l5 hn
      have h := lpn_ed1 hn
      unfold f_MLineRows_place_2_L2 at h
      refine iq_iload_n hS 3 J_MLineRows_place_d2 l5 rfl ?_
      refine iq_aload_n hS 4 J_MLineRows_place_d3 l3 rfl ?_
      refine iq_alenv hS 5 J_MLineRows_place_d4 (v := 10) (ka_99 hM) (by decide) (by decide) (kl_99 hM) (by decide +kernel) rfl ?_
      refine iq_icmp_ge hS 8 J_MLineRows_place_d5 (t := 23) rfl (fun q5 => ?_) rfl (fun q5 => ?_)
      · replace h := ed_pos q5 h
        exact K1  _  (lq_r h hq1)
      · replace h := ed_neg q5 h
        refine iq_aload_n hS 9 J_MLineRows_place_d8 l3 rfl ?_
        refine iq_iload_n hS 10 J_MLineRows_place_d9 l5 rfl ?_
        obtain ⟨g10, h⟩ := ed_gd h
        refine iq_iaload hS 11 J_MLineRows_place_d10 ⟨(ka_99 hM).1, (ka_99 hM).2, g10.1, ix_lt (kl_99 hM) g10.2⟩ rfl ?_
        refine iq_iload_n hS 12 J_MLineRows_place_d11 l4 rfl ?_
        refine iq_icmp_ne hS 15 J_MLineRows_place_d12 (t := 17) rfl (fun q12 => ?_) rfl (fun q12 => ?_)
        · replace h := ed_pos q12 h
          refine iq_iincv hS 20 J_MLineRows_place_d17 (c := 1) (by decide +kernel) l5 (by decide) rfl ?_
          refine iq_goto hS J_MLineRows_place_d20 (t := 2) rfl ?_
          exact ih _ _ (lk_1r l3 (by decide)) (lk_1i l4 (by decide)) lk_1s (lq_l h)
        · replace h := ed_neg q12 h
          refine iq_iload_n hS 16 J_MLineRows_place_d15 l5 rfl ?_
          exact iq_iret J_MLineRows_place_d16 rfl rfl ⟨_, rfl, rfl, ed_some (hR1 _ (lq_r h hq1))⟩
  exact I1 n1 _ _ (lk_1r l0 (by decide)) (lk_1i l1 (by decide)) lk_1s hn1
noncomputable def f_MLineRows_isThirteen_L59 (x6 : Int32) (x7 : Int32) (M8 : im_M) : Option ((Int32 × Int32 × im_M) ⊕ ((Int32 × im_M) ⊕ (Int32 × im_M))) := if 13 < x7 then some (.inr (.inl (x6, M8))) else bd1 (f_MLineRows_sumOf ((if 8 ≤ x7 then ((32 : Int32) + ((4 : Int32) * (x7 - 8))) else ((3 : Int32) + ((4 : Int32) * (x7 - 2)))) : Int32) 4 M8) fun (x10 : Int32) => bd1 (f_MLineRows_counts ((if 8 ≤ x7 then ((32 : Int32) + ((4 : Int32) * (x7 - 8))) else ((3 : Int32) + ((4 : Int32) * (x7 - 2)))) : Int32) 4 x10 7 M8) fun (x11 : Int32) => bd1 (f_MLineRows_place_1 x11 M8) fun (x12 : Int32) => jn0 (fun (_ : Unit) => bd1 (if ((if 0 ≤ x12 then 0 else 1) : Int32) = 0 then some x11 else bd1 (f_MLineRows_reversed x11 M8) fun (x23 : Int32) => some x23) fun (y24 : Int32) => bd1 (f_MLineRows_place_1 y24 M8) fun (x29 : Int32) => gd (inb x7 140) <| some (.inl (((if 8 ≤ x7 then x6 else (if ((if 0 ≤ x12 then 0 else 1) : Int32) = 0 then (((2 : Int32) * x6) + 0) else (((2 : Int32) * x6) + 1))) : Int32), (x7 + 1), (im_setI M8 105 (Int32.toNatClampNeg x7) x29)))) fun k14 => if ((if 0 ≤ x12 then 0 else 1) : Int32) = 0 then k14 () else if 7 < x7 then some (.inr (.inr (0, M8))) else bd1 (f_MLineRows_reversed x11 M8) fun (x15 : Int32) => bd1 (f_MLineRows_place_1 x15 M8) fun (x16 : Int32) => if 0 ≤ x16 then k14 () else some (.inr (.inr (0, M8)))
noncomputable def f_MLineRows_isThirteen_L240 (M37 : im_M) (x35 : Int32) (x36 : Int32) : Option ((Int32 × Int32) ⊕ (Int32)) := if 13 < x36 then some (.inr x35) else gd (inb x36 140) <| some (.inl ((x35 + (((if ¬ (x36 - x36 / 2 * 2) = 1 then 3 else 1) : Int32) * (im_i M37 105 (Int32.toNatClampNeg x36)))), (x36 + 1)))
noncomputable def f_MLineRows_isThirteen_L303 (x41 : Int32) (M42 : im_M) : Option ((Int32 × im_M) ⊕ (im_M)) := if 13 < x41 then some (.inr M42) else gd (inb x41 140) <| bd1 (f_MLineRows_tell ((48 : Int32) + (im_i M42 105 (Int32.toNatClampNeg x41))) M42) fun (M43 : im_M) => some (.inl ((x41 + 1), M43))
noncomputable def f_MLineRows_isThirteen (M : im_M) : Option (Int32 × im_M) := bd1 (f_MLineRows_sumOf 0 59 M) fun (x1 : Int32) => bd1 (f_MLineRows_counts 0 3 x1 95 M) fun (x2 : Int32) => if ¬ x2 = 111 then some (0, M) else bd1 (f_MLineRows_counts 27 5 x1 95 M) fun (x3 : Int32) => if ¬ x3 = 11111 then some (0, M) else bd1 (f_MLineRows_counts 56 3 x1 95 M) fun (x4 : Int32) => if x4 = 111 then bs2 (lp (uc3 (f_MLineRows_isThirteen_L59)) (0, 2, M)) (fun (y31 : Int32) (M32 : im_M) => bd1 (f_MLineRows_place_2 y31 M32) fun (x33 : Int32) => gd (inb 1 140) <| gd (inb 1 140) <| bd1 (lp (uc2 (f_MLineRows_isThirteen_L240 (im_setI M32 105 (Int32.toNatClampNeg 1) x33))) ((im_i (im_setI M32 105 (Int32.toNatClampNeg 1) x33) 105 (Int32.toNatClampNeg 1)), 2)) fun (y39 : Int32) => gd (inb 1 140) <| if (im_i (im_setI M32 105 (Int32.toNatClampNeg 1) x33) 105 (Int32.toNatClampNeg 1)) < 0 then some (0, (im_setI M32 105 (Int32.toNatClampNeg 1) x33)) else if (y39 - y39 / 10 * 10) = 0 then bd1 (lp (uc2 (f_MLineRows_isThirteen_L303)) (1, (im_setI (im_setI M32 105 (Int32.toNatClampNeg 1) x33) 96 17 0))) fun (M44 : im_M) => some (1, M44) else some (0, (im_setI M32 105 (Int32.toNatClampNeg 1) x33))) (fun t => some t) else some (0, M)
theorem J_MLineRows_isThirteen_d0 : decode J_MLineRows_isThirteen.2.1 0 = .ok (.aload_n 0, 1) := by decide +kernel
theorem J_MLineRows_isThirteen_d1 : decode J_MLineRows_isThirteen.2.1 1 = .ok (.iconst 0, 1) := by decide +kernel
theorem J_MLineRows_isThirteen_d2 : decode J_MLineRows_isThirteen.2.1 2 = .ok (.bipush 59, 2) := by decide +kernel
theorem J_MLineRows_isThirteen_d4 : decode J_MLineRows_isThirteen.2.1 4 = .ok (.invokevirtual 240, 3) := by decide +kernel
theorem J_MLineRows_isThirteen_d7 : decode J_MLineRows_isThirteen.2.1 7 = .ok (.istore_n 1, 1) := by decide +kernel
theorem J_MLineRows_isThirteen_d8 : decode J_MLineRows_isThirteen.2.1 8 = .ok (.aload_n 0, 1) := by decide +kernel
theorem J_MLineRows_isThirteen_d9 : decode J_MLineRows_isThirteen.2.1 9 = .ok (.iconst 0, 1) := by decide +kernel
theorem J_MLineRows_isThirteen_d10 : decode J_MLineRows_isThirteen.2.1 10 = .ok (.iconst 3, 1) := by decide +kernel
theorem J_MLineRows_isThirteen_d11 : decode J_MLineRows_isThirteen.2.1 11 = .ok (.iload_n 1, 1) := by decide +kernel
theorem J_MLineRows_isThirteen_d12 : decode J_MLineRows_isThirteen.2.1 12 = .ok (.bipush 95, 2) := by decide +kernel
theorem J_MLineRows_isThirteen_d14 : decode J_MLineRows_isThirteen.2.1 14 = .ok (.invokevirtual 243, 3) := by decide +kernel
theorem J_MLineRows_isThirteen_d17 : decode J_MLineRows_isThirteen.2.1 17 = .ok (.bipush 111, 2) := by decide +kernel
theorem J_MLineRows_isThirteen_d19 : decode J_MLineRows_isThirteen.2.1 19 = .ok (.if_icmp .ne 34, 3) := by decide +kernel
theorem J_MLineRows_isThirteen_d22 : decode J_MLineRows_isThirteen.2.1 22 = .ok (.aload_n 0, 1) := by decide +kernel
theorem J_MLineRows_isThirteen_d23 : decode J_MLineRows_isThirteen.2.1 23 = .ok (.bipush 27, 2) := by decide +kernel
theorem J_MLineRows_isThirteen_d25 : decode J_MLineRows_isThirteen.2.1 25 = .ok (.iconst 5, 1) := by decide +kernel
theorem J_MLineRows_isThirteen_d26 : decode J_MLineRows_isThirteen.2.1 26 = .ok (.iload_n 1, 1) := by decide +kernel
theorem J_MLineRows_isThirteen_d27 : decode J_MLineRows_isThirteen.2.1 27 = .ok (.bipush 95, 2) := by decide +kernel
theorem J_MLineRows_isThirteen_d29 : decode J_MLineRows_isThirteen.2.1 29 = .ok (.invokevirtual 243, 3) := by decide +kernel
theorem J_MLineRows_isThirteen_d32 : decode J_MLineRows_isThirteen.2.1 32 = .ok (.sipush 11111, 3) := by decide +kernel
theorem J_MLineRows_isThirteen_d35 : decode J_MLineRows_isThirteen.2.1 35 = .ok (.if_icmp .ne 18, 3) := by decide +kernel
theorem J_MLineRows_isThirteen_d38 : decode J_MLineRows_isThirteen.2.1 38 = .ok (.aload_n 0, 1) := by decide +kernel
theorem J_MLineRows_isThirteen_d39 : decode J_MLineRows_isThirteen.2.1 39 = .ok (.bipush 56, 2) := by decide +kernel
theorem J_MLineRows_isThirteen_d41 : decode J_MLineRows_isThirteen.2.1 41 = .ok (.iconst 3, 1) := by decide +kernel
theorem J_MLineRows_isThirteen_d42 : decode J_MLineRows_isThirteen.2.1 42 = .ok (.iload_n 1, 1) := by decide +kernel
theorem J_MLineRows_isThirteen_d43 : decode J_MLineRows_isThirteen.2.1 43 = .ok (.bipush 95, 2) := by decide +kernel
theorem J_MLineRows_isThirteen_d45 : decode J_MLineRows_isThirteen.2.1 45 = .ok (.invokevirtual 243, 3) := by decide +kernel
theorem J_MLineRows_isThirteen_d48 : decode J_MLineRows_isThirteen.2.1 48 = .ok (.bipush 111, 2) := by decide +kernel
theorem J_MLineRows_isThirteen_d50 : decode J_MLineRows_isThirteen.2.1 50 = .ok (.if_icmp .eq 5, 3) := by decide +kernel
theorem J_MLineRows_isThirteen_d53 : decode J_MLineRows_isThirteen.2.1 53 = .ok (.iconst 0, 1) := by decide +kernel
theorem J_MLineRows_isThirteen_d54 : decode J_MLineRows_isThirteen.2.1 54 = .ok (.ireturn, 1) := by decide +kernel
theorem J_MLineRows_isThirteen_d55 : decode J_MLineRows_isThirteen.2.1 55 = .ok (.iconst 0, 1) := by decide +kernel
theorem J_MLineRows_isThirteen_d56 : decode J_MLineRows_isThirteen.2.1 56 = .ok (.istore_n 2, 1) := by decide +kernel
theorem J_MLineRows_isThirteen_d57 : decode J_MLineRows_isThirteen.2.1 57 = .ok (.iconst 2, 1) := by decide +kernel
theorem J_MLineRows_isThirteen_d58 : decode J_MLineRows_isThirteen.2.1 58 = .ok (.istore_n 3, 1) := by decide +kernel
theorem J_MLineRows_isThirteen_d59 : decode J_MLineRows_isThirteen.2.1 59 = .ok (.iload_n 3, 1) := by decide +kernel
theorem J_MLineRows_isThirteen_d60 : decode J_MLineRows_isThirteen.2.1 60 = .ok (.bipush 13, 2) := by decide +kernel
theorem J_MLineRows_isThirteen_d62 : decode J_MLineRows_isThirteen.2.1 62 = .ok (.if_icmp .gt 154, 3) := by decide +kernel
theorem J_MLineRows_isThirteen_d65 : decode J_MLineRows_isThirteen.2.1 65 = .ok (.iload_n 3, 1) := by decide +kernel
theorem J_MLineRows_isThirteen_d66 : decode J_MLineRows_isThirteen.2.1 66 = .ok (.bipush 8, 2) := by decide +kernel
theorem J_MLineRows_isThirteen_d68 : decode J_MLineRows_isThirteen.2.1 68 = .ok (.if_icmp .ge 13, 3) := by decide +kernel
theorem J_MLineRows_isThirteen_d71 : decode J_MLineRows_isThirteen.2.1 71 = .ok (.iconst 3, 1) := by decide +kernel
theorem J_MLineRows_isThirteen_d72 : decode J_MLineRows_isThirteen.2.1 72 = .ok (.iconst 4, 1) := by decide +kernel
theorem J_MLineRows_isThirteen_d73 : decode J_MLineRows_isThirteen.2.1 73 = .ok (.iload_n 3, 1) := by decide +kernel
theorem J_MLineRows_isThirteen_d74 : decode J_MLineRows_isThirteen.2.1 74 = .ok (.iconst 2, 1) := by decide +kernel
theorem J_MLineRows_isThirteen_d75 : decode J_MLineRows_isThirteen.2.1 75 = .ok (.isub, 1) := by decide +kernel
theorem J_MLineRows_isThirteen_d76 : decode J_MLineRows_isThirteen.2.1 76 = .ok (.imul, 1) := by decide +kernel
theorem J_MLineRows_isThirteen_d77 : decode J_MLineRows_isThirteen.2.1 77 = .ok (.iadd, 1) := by decide +kernel
theorem J_MLineRows_isThirteen_d78 : decode J_MLineRows_isThirteen.2.1 78 = .ok (.goto 12, 3) := by decide +kernel
theorem J_MLineRows_isThirteen_d81 : decode J_MLineRows_isThirteen.2.1 81 = .ok (.bipush 32, 2) := by decide +kernel
theorem J_MLineRows_isThirteen_d83 : decode J_MLineRows_isThirteen.2.1 83 = .ok (.iconst 4, 1) := by decide +kernel
theorem J_MLineRows_isThirteen_d84 : decode J_MLineRows_isThirteen.2.1 84 = .ok (.iload_n 3, 1) := by decide +kernel
theorem J_MLineRows_isThirteen_d85 : decode J_MLineRows_isThirteen.2.1 85 = .ok (.bipush 8, 2) := by decide +kernel
theorem J_MLineRows_isThirteen_d87 : decode J_MLineRows_isThirteen.2.1 87 = .ok (.isub, 1) := by decide +kernel
theorem J_MLineRows_isThirteen_d88 : decode J_MLineRows_isThirteen.2.1 88 = .ok (.imul, 1) := by decide +kernel
theorem J_MLineRows_isThirteen_d89 : decode J_MLineRows_isThirteen.2.1 89 = .ok (.iadd, 1) := by decide +kernel
theorem J_MLineRows_isThirteen_d90 : decode J_MLineRows_isThirteen.2.1 90 = .ok (.istore 4, 2) := by decide +kernel
theorem J_MLineRows_isThirteen_d92 : decode J_MLineRows_isThirteen.2.1 92 = .ok (.aload_n 0, 1) := by decide +kernel
theorem J_MLineRows_isThirteen_d93 : decode J_MLineRows_isThirteen.2.1 93 = .ok (.iload 4, 2) := by decide +kernel
theorem J_MLineRows_isThirteen_d95 : decode J_MLineRows_isThirteen.2.1 95 = .ok (.iconst 4, 1) := by decide +kernel
theorem J_MLineRows_isThirteen_d96 : decode J_MLineRows_isThirteen.2.1 96 = .ok (.aload_n 0, 1) := by decide +kernel
theorem J_MLineRows_isThirteen_d97 : decode J_MLineRows_isThirteen.2.1 97 = .ok (.iload 4, 2) := by decide +kernel
theorem J_MLineRows_isThirteen_d99 : decode J_MLineRows_isThirteen.2.1 99 = .ok (.iconst 4, 1) := by decide +kernel
theorem J_MLineRows_isThirteen_d100 : decode J_MLineRows_isThirteen.2.1 100 = .ok (.invokevirtual 240, 3) := by decide +kernel
theorem J_MLineRows_isThirteen_d103 : decode J_MLineRows_isThirteen.2.1 103 = .ok (.bipush 7, 2) := by decide +kernel
theorem J_MLineRows_isThirteen_d105 : decode J_MLineRows_isThirteen.2.1 105 = .ok (.invokevirtual 243, 3) := by decide +kernel
theorem J_MLineRows_isThirteen_d108 : decode J_MLineRows_isThirteen.2.1 108 = .ok (.istore 5, 2) := by decide +kernel
theorem J_MLineRows_isThirteen_d110 : decode J_MLineRows_isThirteen.2.1 110 = .ok (.aload_n 0, 1) := by decide +kernel
theorem J_MLineRows_isThirteen_d111 : decode J_MLineRows_isThirteen.2.1 111 = .ok (.getfield 119, 3) := by decide +kernel
theorem J_MLineRows_isThirteen_d114 : decode J_MLineRows_isThirteen.2.1 114 = .ok (.iload 5, 2) := by decide +kernel
theorem J_MLineRows_isThirteen_d116 : decode J_MLineRows_isThirteen.2.1 116 = .ok (.invokestatic 247, 3) := by decide +kernel
theorem J_MLineRows_isThirteen_d119 : decode J_MLineRows_isThirteen.2.1 119 = .ok (.ifCond .ge 7, 3) := by decide +kernel
theorem J_MLineRows_isThirteen_d122 : decode J_MLineRows_isThirteen.2.1 122 = .ok (.iconst 1, 1) := by decide +kernel
theorem J_MLineRows_isThirteen_d123 : decode J_MLineRows_isThirteen.2.1 123 = .ok (.goto 4, 3) := by decide +kernel
theorem J_MLineRows_isThirteen_d126 : decode J_MLineRows_isThirteen.2.1 126 = .ok (.iconst 0, 1) := by decide +kernel
theorem J_MLineRows_isThirteen_d127 : decode J_MLineRows_isThirteen.2.1 127 = .ok (.istore 6, 2) := by decide +kernel
theorem J_MLineRows_isThirteen_d129 : decode J_MLineRows_isThirteen.2.1 129 = .ok (.iload 6, 2) := by decide +kernel
theorem J_MLineRows_isThirteen_d131 : decode J_MLineRows_isThirteen.2.1 131 = .ok (.ifCond .eq 26, 3) := by decide +kernel
theorem J_MLineRows_isThirteen_d134 : decode J_MLineRows_isThirteen.2.1 134 = .ok (.iload_n 3, 1) := by decide +kernel
theorem J_MLineRows_isThirteen_d135 : decode J_MLineRows_isThirteen.2.1 135 = .ok (.bipush 7, 2) := by decide +kernel
theorem J_MLineRows_isThirteen_d137 : decode J_MLineRows_isThirteen.2.1 137 = .ok (.if_icmp .gt 18, 3) := by decide +kernel
theorem J_MLineRows_isThirteen_d140 : decode J_MLineRows_isThirteen.2.1 140 = .ok (.aload_n 0, 1) := by decide +kernel
theorem J_MLineRows_isThirteen_d141 : decode J_MLineRows_isThirteen.2.1 141 = .ok (.getfield 119, 3) := by decide +kernel
theorem J_MLineRows_isThirteen_d144 : decode J_MLineRows_isThirteen.2.1 144 = .ok (.iload 5, 2) := by decide +kernel
theorem J_MLineRows_isThirteen_d146 : decode J_MLineRows_isThirteen.2.1 146 = .ok (.invokestatic 233, 3) := by decide +kernel
theorem J_MLineRows_isThirteen_d149 : decode J_MLineRows_isThirteen.2.1 149 = .ok (.invokestatic 247, 3) := by decide +kernel
theorem J_MLineRows_isThirteen_d152 : decode J_MLineRows_isThirteen.2.1 152 = .ok (.ifCond .ge 5, 3) := by decide +kernel
theorem J_MLineRows_isThirteen_d155 : decode J_MLineRows_isThirteen.2.1 155 = .ok (.iconst 0, 1) := by decide +kernel
theorem J_MLineRows_isThirteen_d156 : decode J_MLineRows_isThirteen.2.1 156 = .ok (.ireturn, 1) := by decide +kernel
theorem J_MLineRows_isThirteen_d157 : decode J_MLineRows_isThirteen.2.1 157 = .ok (.aload_n 0, 1) := by decide +kernel
theorem J_MLineRows_isThirteen_d158 : decode J_MLineRows_isThirteen.2.1 158 = .ok (.getfield 140, 3) := by decide +kernel
theorem J_MLineRows_isThirteen_d161 : decode J_MLineRows_isThirteen.2.1 161 = .ok (.iload_n 3, 1) := by decide +kernel
theorem J_MLineRows_isThirteen_d162 : decode J_MLineRows_isThirteen.2.1 162 = .ok (.aload_n 0, 1) := by decide +kernel
theorem J_MLineRows_isThirteen_d163 : decode J_MLineRows_isThirteen.2.1 163 = .ok (.getfield 119, 3) := by decide +kernel
theorem J_MLineRows_isThirteen_d166 : decode J_MLineRows_isThirteen.2.1 166 = .ok (.iload 6, 2) := by decide +kernel
theorem J_MLineRows_isThirteen_d168 : decode J_MLineRows_isThirteen.2.1 168 = .ok (.ifCond .eq 11, 3) := by decide +kernel
theorem J_MLineRows_isThirteen_d171 : decode J_MLineRows_isThirteen.2.1 171 = .ok (.iload 5, 2) := by decide +kernel
theorem J_MLineRows_isThirteen_d173 : decode J_MLineRows_isThirteen.2.1 173 = .ok (.invokestatic 233, 3) := by decide +kernel
theorem J_MLineRows_isThirteen_d176 : decode J_MLineRows_isThirteen.2.1 176 = .ok (.goto 5, 3) := by decide +kernel
theorem J_MLineRows_isThirteen_d179 : decode J_MLineRows_isThirteen.2.1 179 = .ok (.iload 5, 2) := by decide +kernel
theorem J_MLineRows_isThirteen_d181 : decode J_MLineRows_isThirteen.2.1 181 = .ok (.invokestatic 247, 3) := by decide +kernel
theorem J_MLineRows_isThirteen_d184 : decode J_MLineRows_isThirteen.2.1 184 = .ok (.iastore, 1) := by decide +kernel
theorem J_MLineRows_isThirteen_d185 : decode J_MLineRows_isThirteen.2.1 185 = .ok (.iload_n 3, 1) := by decide +kernel
theorem J_MLineRows_isThirteen_d186 : decode J_MLineRows_isThirteen.2.1 186 = .ok (.bipush 8, 2) := by decide +kernel
theorem J_MLineRows_isThirteen_d188 : decode J_MLineRows_isThirteen.2.1 188 = .ok (.if_icmp .ge 20, 3) := by decide +kernel
theorem J_MLineRows_isThirteen_d191 : decode J_MLineRows_isThirteen.2.1 191 = .ok (.iconst 2, 1) := by decide +kernel
theorem J_MLineRows_isThirteen_d192 : decode J_MLineRows_isThirteen.2.1 192 = .ok (.iload_n 2, 1) := by decide +kernel
theorem J_MLineRows_isThirteen_d193 : decode J_MLineRows_isThirteen.2.1 193 = .ok (.imul, 1) := by decide +kernel
theorem J_MLineRows_isThirteen_d194 : decode J_MLineRows_isThirteen.2.1 194 = .ok (.iload 6, 2) := by decide +kernel
theorem J_MLineRows_isThirteen_d196 : decode J_MLineRows_isThirteen.2.1 196 = .ok (.ifCond .eq 7, 3) := by decide +kernel
theorem J_MLineRows_isThirteen_d199 : decode J_MLineRows_isThirteen.2.1 199 = .ok (.iconst 1, 1) := by decide +kernel
theorem J_MLineRows_isThirteen_d200 : decode J_MLineRows_isThirteen.2.1 200 = .ok (.goto 4, 3) := by decide +kernel
theorem J_MLineRows_isThirteen_d203 : decode J_MLineRows_isThirteen.2.1 203 = .ok (.iconst 0, 1) := by decide +kernel
theorem J_MLineRows_isThirteen_d204 : decode J_MLineRows_isThirteen.2.1 204 = .ok (.iadd, 1) := by decide +kernel
theorem J_MLineRows_isThirteen_d205 : decode J_MLineRows_isThirteen.2.1 205 = .ok (.goto 4, 3) := by decide +kernel
theorem J_MLineRows_isThirteen_d208 : decode J_MLineRows_isThirteen.2.1 208 = .ok (.iload_n 2, 1) := by decide +kernel
theorem J_MLineRows_isThirteen_d209 : decode J_MLineRows_isThirteen.2.1 209 = .ok (.istore_n 2, 1) := by decide +kernel
theorem J_MLineRows_isThirteen_d210 : decode J_MLineRows_isThirteen.2.1 210 = .ok (.iinc 3 1, 3) := by decide +kernel
theorem J_MLineRows_isThirteen_d213 : decode J_MLineRows_isThirteen.2.1 213 = .ok (.goto (-154), 3) := by decide +kernel
theorem J_MLineRows_isThirteen_d216 : decode J_MLineRows_isThirteen.2.1 216 = .ok (.aload_n 0, 1) := by decide +kernel
theorem J_MLineRows_isThirteen_d217 : decode J_MLineRows_isThirteen.2.1 217 = .ok (.getfield 140, 3) := by decide +kernel
theorem J_MLineRows_isThirteen_d220 : decode J_MLineRows_isThirteen.2.1 220 = .ok (.iconst 1, 1) := by decide +kernel
theorem J_MLineRows_isThirteen_d221 : decode J_MLineRows_isThirteen.2.1 221 = .ok (.aload_n 0, 1) := by decide +kernel
theorem J_MLineRows_isThirteen_d222 : decode J_MLineRows_isThirteen.2.1 222 = .ok (.getfield 122, 3) := by decide +kernel
theorem J_MLineRows_isThirteen_d225 : decode J_MLineRows_isThirteen.2.1 225 = .ok (.iload_n 2, 1) := by decide +kernel
theorem J_MLineRows_isThirteen_d226 : decode J_MLineRows_isThirteen.2.1 226 = .ok (.invokestatic 247, 3) := by decide +kernel
theorem J_MLineRows_isThirteen_d229 : decode J_MLineRows_isThirteen.2.1 229 = .ok (.iastore, 1) := by decide +kernel
theorem J_MLineRows_isThirteen_d230 : decode J_MLineRows_isThirteen.2.1 230 = .ok (.aload_n 0, 1) := by decide +kernel
theorem J_MLineRows_isThirteen_d231 : decode J_MLineRows_isThirteen.2.1 231 = .ok (.getfield 140, 3) := by decide +kernel
theorem J_MLineRows_isThirteen_d234 : decode J_MLineRows_isThirteen.2.1 234 = .ok (.iconst 1, 1) := by decide +kernel
theorem J_MLineRows_isThirteen_d235 : decode J_MLineRows_isThirteen.2.1 235 = .ok (.iaload, 1) := by decide +kernel
theorem J_MLineRows_isThirteen_d236 : decode J_MLineRows_isThirteen.2.1 236 = .ok (.istore_n 3, 1) := by decide +kernel
theorem J_MLineRows_isThirteen_d237 : decode J_MLineRows_isThirteen.2.1 237 = .ok (.iconst 2, 1) := by decide +kernel
theorem J_MLineRows_isThirteen_d238 : decode J_MLineRows_isThirteen.2.1 238 = .ok (.istore 4, 2) := by decide +kernel
theorem J_MLineRows_isThirteen_d240 : decode J_MLineRows_isThirteen.2.1 240 = .ok (.iload 4, 2) := by decide +kernel
theorem J_MLineRows_isThirteen_d242 : decode J_MLineRows_isThirteen.2.1 242 = .ok (.bipush 13, 2) := by decide +kernel
theorem J_MLineRows_isThirteen_d244 : decode J_MLineRows_isThirteen.2.1 244 = .ok (.if_icmp .gt 33, 3) := by decide +kernel
theorem J_MLineRows_isThirteen_d247 : decode J_MLineRows_isThirteen.2.1 247 = .ok (.iload_n 3, 1) := by decide +kernel
theorem J_MLineRows_isThirteen_d248 : decode J_MLineRows_isThirteen.2.1 248 = .ok (.iload 4, 2) := by decide +kernel
theorem J_MLineRows_isThirteen_d250 : decode J_MLineRows_isThirteen.2.1 250 = .ok (.iconst 2, 1) := by decide +kernel
theorem J_MLineRows_isThirteen_d251 : decode J_MLineRows_isThirteen.2.1 251 = .ok (.irem, 1) := by decide +kernel
theorem J_MLineRows_isThirteen_d252 : decode J_MLineRows_isThirteen.2.1 252 = .ok (.iconst 1, 1) := by decide +kernel
theorem J_MLineRows_isThirteen_d253 : decode J_MLineRows_isThirteen.2.1 253 = .ok (.if_icmp .ne 7, 3) := by decide +kernel
theorem J_MLineRows_isThirteen_d256 : decode J_MLineRows_isThirteen.2.1 256 = .ok (.iconst 1, 1) := by decide +kernel
theorem J_MLineRows_isThirteen_d257 : decode J_MLineRows_isThirteen.2.1 257 = .ok (.goto 4, 3) := by decide +kernel
theorem J_MLineRows_isThirteen_d260 : decode J_MLineRows_isThirteen.2.1 260 = .ok (.iconst 3, 1) := by decide +kernel
theorem J_MLineRows_isThirteen_d261 : decode J_MLineRows_isThirteen.2.1 261 = .ok (.aload_n 0, 1) := by decide +kernel
theorem J_MLineRows_isThirteen_d262 : decode J_MLineRows_isThirteen.2.1 262 = .ok (.getfield 140, 3) := by decide +kernel
theorem J_MLineRows_isThirteen_d265 : decode J_MLineRows_isThirteen.2.1 265 = .ok (.iload 4, 2) := by decide +kernel
theorem J_MLineRows_isThirteen_d267 : decode J_MLineRows_isThirteen.2.1 267 = .ok (.iaload, 1) := by decide +kernel
theorem J_MLineRows_isThirteen_d268 : decode J_MLineRows_isThirteen.2.1 268 = .ok (.imul, 1) := by decide +kernel
theorem J_MLineRows_isThirteen_d269 : decode J_MLineRows_isThirteen.2.1 269 = .ok (.iadd, 1) := by decide +kernel
theorem J_MLineRows_isThirteen_d270 : decode J_MLineRows_isThirteen.2.1 270 = .ok (.istore_n 3, 1) := by decide +kernel
theorem J_MLineRows_isThirteen_d271 : decode J_MLineRows_isThirteen.2.1 271 = .ok (.iinc 4 1, 3) := by decide +kernel
theorem J_MLineRows_isThirteen_d274 : decode J_MLineRows_isThirteen.2.1 274 = .ok (.goto (-34), 3) := by decide +kernel
theorem J_MLineRows_isThirteen_d277 : decode J_MLineRows_isThirteen.2.1 277 = .ok (.aload_n 0, 1) := by decide +kernel
theorem J_MLineRows_isThirteen_d278 : decode J_MLineRows_isThirteen.2.1 278 = .ok (.getfield 140, 3) := by decide +kernel
theorem J_MLineRows_isThirteen_d281 : decode J_MLineRows_isThirteen.2.1 281 = .ok (.iconst 1, 1) := by decide +kernel
theorem J_MLineRows_isThirteen_d282 : decode J_MLineRows_isThirteen.2.1 282 = .ok (.iaload, 1) := by decide +kernel
theorem J_MLineRows_isThirteen_d283 : decode J_MLineRows_isThirteen.2.1 283 = .ok (.ifCond .lt 10, 3) := by decide +kernel
theorem J_MLineRows_isThirteen_d286 : decode J_MLineRows_isThirteen.2.1 286 = .ok (.iload_n 3, 1) := by decide +kernel
theorem J_MLineRows_isThirteen_d287 : decode J_MLineRows_isThirteen.2.1 287 = .ok (.bipush 10, 2) := by decide +kernel
theorem J_MLineRows_isThirteen_d289 : decode J_MLineRows_isThirteen.2.1 289 = .ok (.irem, 1) := by decide +kernel
theorem J_MLineRows_isThirteen_d290 : decode J_MLineRows_isThirteen.2.1 290 = .ok (.ifCond .eq 5, 3) := by decide +kernel
theorem J_MLineRows_isThirteen_d293 : decode J_MLineRows_isThirteen.2.1 293 = .ok (.iconst 0, 1) := by decide +kernel
theorem J_MLineRows_isThirteen_d294 : decode J_MLineRows_isThirteen.2.1 294 = .ok (.ireturn, 1) := by decide +kernel
theorem J_MLineRows_isThirteen_d295 : decode J_MLineRows_isThirteen.2.1 295 = .ok (.aload_n 0, 1) := by decide +kernel
theorem J_MLineRows_isThirteen_d296 : decode J_MLineRows_isThirteen.2.1 296 = .ok (.iconst 0, 1) := by decide +kernel
theorem J_MLineRows_isThirteen_d297 : decode J_MLineRows_isThirteen.2.1 297 = .ok (.putfield 250, 3) := by decide +kernel
theorem J_MLineRows_isThirteen_d300 : decode J_MLineRows_isThirteen.2.1 300 = .ok (.iconst 1, 1) := by decide +kernel
theorem J_MLineRows_isThirteen_d301 : decode J_MLineRows_isThirteen.2.1 301 = .ok (.istore 4, 2) := by decide +kernel
theorem J_MLineRows_isThirteen_d303 : decode J_MLineRows_isThirteen.2.1 303 = .ok (.iload 4, 2) := by decide +kernel
theorem J_MLineRows_isThirteen_d305 : decode J_MLineRows_isThirteen.2.1 305 = .ok (.bipush 13, 2) := by decide +kernel
theorem J_MLineRows_isThirteen_d307 : decode J_MLineRows_isThirteen.2.1 307 = .ok (.if_icmp .gt 23, 3) := by decide +kernel
theorem J_MLineRows_isThirteen_d310 : decode J_MLineRows_isThirteen.2.1 310 = .ok (.aload_n 0, 1) := by decide +kernel
theorem J_MLineRows_isThirteen_d311 : decode J_MLineRows_isThirteen.2.1 311 = .ok (.bipush 48, 2) := by decide +kernel
theorem J_MLineRows_isThirteen_d313 : decode J_MLineRows_isThirteen.2.1 313 = .ok (.aload_n 0, 1) := by decide +kernel
theorem J_MLineRows_isThirteen_d314 : decode J_MLineRows_isThirteen.2.1 314 = .ok (.getfield 140, 3) := by decide +kernel
theorem J_MLineRows_isThirteen_d317 : decode J_MLineRows_isThirteen.2.1 317 = .ok (.iload 4, 2) := by decide +kernel
theorem J_MLineRows_isThirteen_d319 : decode J_MLineRows_isThirteen.2.1 319 = .ok (.iaload, 1) := by decide +kernel
theorem J_MLineRows_isThirteen_d320 : decode J_MLineRows_isThirteen.2.1 320 = .ok (.iadd, 1) := by decide +kernel
theorem J_MLineRows_isThirteen_d321 : decode J_MLineRows_isThirteen.2.1 321 = .ok (.invokevirtual 253, 3) := by decide +kernel
theorem J_MLineRows_isThirteen_d324 : decode J_MLineRows_isThirteen.2.1 324 = .ok (.iinc 4 1, 3) := by decide +kernel
theorem J_MLineRows_isThirteen_d327 : decode J_MLineRows_isThirteen.2.1 327 = .ok (.goto (-24), 3) := by decide +kernel
theorem J_MLineRows_isThirteen_d330 : decode J_MLineRows_isThirteen.2.1 330 = .ok (.iconst 1, 1) := by decide +kernel
theorem J_MLineRows_isThirteen_d331 : decode J_MLineRows_isThirteen.2.1 331 = .ok (.ireturn, 1) := by decide +kernel
theorem f_MLineRows_isThirteen_ok {L : Nat} {xs : Nat → Int32} {dep : Nat} {w : Bool} {M : im_M} {Q : Int32 × im_M → Prop} (hM : lw_S w M) (h : ed (f_MLineRows_isThirteen M) Q) : ia (tb_G L xs) (dep + 1) J_MLineRows_isThirteen (rwI w Q) (0, lv_args 0 [.ref 96], [], M) := by
  have hS : im_St (tb_G L xs) (dep + 1) J_MLineRows_isThirteen (ia (tb_G L xs) (dep + 1) J_MLineRows_isThirteen (rwI w Q)) := ia_St
  unfold f_MLineRows_isThirteen at h
  have l0 : im_lk (lv_args 0 [.ref 96]) 0 = some (.ref 96) := rfl
  refine iq_aload_n hS 1 J_MLineRows_isThirteen_d0 l0 rfl ?_
  refine iq_iconst hS 2 J_MLineRows_isThirteen_d1 (v := 0) (by decide +kernel) rfl ?_
  refine iq_bipush hS 4 J_MLineRows_isThirteen_d2 (v := 59) (by decide +kernel) rfl ?_
  obtain ⟨Q1, hQ1, h⟩ := bd1_ed h
  refine iq_cpI hS 7 J_MLineRows_isThirteen_d4 rfl (pr_inst (vs := [_, _]) lc_13_240 lT_514 rfl rfl (by decide) (by decide) rfl (Nat.le_of_ble_eq_true rfl) (Nat.le_of_ble_eq_true rfl) (fun _ => Or.inl (pr_b (ka_96 hM) (by decide) rfl))) (f_MLineRows_sumOf_ok (dep := dep + 0) hM h) rfl ?_
  intro x1 h
  replace h := hQ1 _ h
  refine iq_istore_n hS 8 J_MLineRows_isThirteen_d7 (by decide) rfl ?_
  refine iq_aload_n hS 9 J_MLineRows_isThirteen_d8 (lk_1r l0 (by decide)) rfl ?_
  refine iq_iconst hS 10 J_MLineRows_isThirteen_d9 (v := 0) (by decide +kernel) rfl ?_
  refine iq_iconst hS 11 J_MLineRows_isThirteen_d10 (v := 3) (by decide +kernel) rfl ?_
  refine iq_iload_n hS 12 J_MLineRows_isThirteen_d11 lk_1s rfl ?_
  refine iq_bipush hS 14 J_MLineRows_isThirteen_d12 (v := 95) (by decide +kernel) rfl ?_
  obtain ⟨Q2, hQ2, h⟩ := bd1_ed h
  refine iq_cpI hS 17 J_MLineRows_isThirteen_d14 rfl (pr_inst (vs := [_, _, _, _]) lc_13_243 lT_515 rfl rfl (by decide) (by decide) rfl (Nat.le_of_ble_eq_true rfl) (Nat.le_of_ble_eq_true rfl) (fun _ => Or.inl (pr_b (ka_96 hM) (by decide) rfl))) (f_MLineRows_counts_ok (dep := dep + 0) hM h) rfl ?_
  intro x2 h
  replace h := hQ2 _ h
  refine iq_bipush hS 19 J_MLineRows_isThirteen_d17 (v := 111) (by decide +kernel) rfl ?_
  refine iq_icmp_ne hS 22 J_MLineRows_isThirteen_d19 (t := 53) rfl (fun q19 => ?_) rfl (fun q19 => ?_)
  · replace h := ed_pos q19 h
    refine iq_iconst hS 54 J_MLineRows_isThirteen_d53 (v := 0) (by decide +kernel) rfl ?_
    exact iq_iret J_MLineRows_isThirteen_d54 rfl rfl ⟨_, rfl, hM, ed_some h⟩
  · replace h := ed_neg q19 h
    refine iq_aload_n hS 23 J_MLineRows_isThirteen_d22 (lk_1r l0 (by decide)) rfl ?_
    refine iq_bipush hS 25 J_MLineRows_isThirteen_d23 (v := 27) (by decide +kernel) rfl ?_
    refine iq_iconst hS 26 J_MLineRows_isThirteen_d25 (v := 5) (by decide +kernel) rfl ?_
    refine iq_iload_n hS 27 J_MLineRows_isThirteen_d26 lk_1s rfl ?_
    refine iq_bipush hS 29 J_MLineRows_isThirteen_d27 (v := 95) (by decide +kernel) rfl ?_
    obtain ⟨Q3, hQ3, h⟩ := bd1_ed h
    refine iq_cpI hS 32 J_MLineRows_isThirteen_d29 rfl (pr_inst (vs := [_, _, _, _]) lc_13_243 lT_515 rfl rfl (by decide) (by decide) rfl (Nat.le_of_ble_eq_true rfl) (Nat.le_of_ble_eq_true rfl) (fun _ => Or.inl (pr_b (ka_96 hM) (by decide) rfl))) (f_MLineRows_counts_ok (dep := dep + 0) hM h) rfl ?_
    intro x3 h
    replace h := hQ3 _ h
    refine iq_sipush hS 35 J_MLineRows_isThirteen_d32 (v := 11111) (by decide +kernel) rfl ?_
    refine iq_icmp_ne hS 38 J_MLineRows_isThirteen_d35 (t := 53) rfl (fun q35 => ?_) rfl (fun q35 => ?_)
    · replace h := ed_pos q35 h
      refine iq_iconst hS 54 J_MLineRows_isThirteen_d53 (v := 0) (by decide +kernel) rfl ?_
      exact iq_iret J_MLineRows_isThirteen_d54 rfl rfl ⟨_, rfl, hM, ed_some h⟩
    · replace h := ed_neg q35 h
      refine iq_aload_n hS 39 J_MLineRows_isThirteen_d38 (lk_1r l0 (by decide)) rfl ?_
      refine iq_bipush hS 41 J_MLineRows_isThirteen_d39 (v := 56) (by decide +kernel) rfl ?_
      refine iq_iconst hS 42 J_MLineRows_isThirteen_d41 (v := 3) (by decide +kernel) rfl ?_
      refine iq_iload_n hS 43 J_MLineRows_isThirteen_d42 lk_1s rfl ?_
      refine iq_bipush hS 45 J_MLineRows_isThirteen_d43 (v := 95) (by decide +kernel) rfl ?_
      obtain ⟨Q4, hQ4, h⟩ := bd1_ed h
      refine iq_cpI hS 48 J_MLineRows_isThirteen_d45 rfl (pr_inst (vs := [_, _, _, _]) lc_13_243 lT_515 rfl rfl (by decide) (by decide) rfl (Nat.le_of_ble_eq_true rfl) (Nat.le_of_ble_eq_true rfl) (fun _ => Or.inl (pr_b (ka_96 hM) (by decide) rfl))) (f_MLineRows_counts_ok (dep := dep + 0) hM h) rfl ?_
      intro x4 h
      replace h := hQ4 _ h
      refine iq_bipush hS 50 J_MLineRows_isThirteen_d48 (v := 111) (by decide +kernel) rfl ?_
      refine iq_icmp_eq hS 53 J_MLineRows_isThirteen_d50 (t := 55) rfl (fun q50 => ?_) rfl (fun q50 => ?_)
      · replace h := ed_pos q50 h
        refine iq_iconst hS 56 J_MLineRows_isThirteen_d55 (v := 0) (by decide +kernel) rfl ?_
        refine iq_istore_n hS 57 J_MLineRows_isThirteen_d56 (by decide) rfl ?_
        refine iq_iconst hS 58 J_MLineRows_isThirteen_d57 (v := 2) (by decide +kernel) rfl ?_
        refine iq_istore_n hS 59 J_MLineRows_isThirteen_d58 (by decide) rfl ?_
        obtain ⟨Q5, hQ5, hR5, h⟩ := bs2_ed h
        have K5 : ∀ (y6 : Int32) (M7 : im_M) (L' : List (Nat × Value)), lw_S w M7 → im_lk L' 0 = some (.ref 96) → im_lk L' 2 = some (.int y6) → Q5 (.inl (y6, M7)) → ia (tb_G L xs) (dep + 1) J_MLineRows_isThirteen (rwI w Q) (216, L', [], M7) := by
          intro y6 M7 L' hM7 l8 l9 h
          replace h := hQ5 _ _ h
          refine iq_aload_n hS 217 J_MLineRows_isThirteen_d216 l8 rfl ?_
          refine iq_getR hS 220 J_MLineRows_isThirteen_d217 lf_13_140 (Or.inr ⟨_, rfl⟩) (ka_96 hM7) (ra_96_12 hM7) rfl ?_
          refine iq_iconst hS 221 J_MLineRows_isThirteen_d220 (v := 1) (by decide +kernel) rfl ?_
          refine iq_aload_n hS 222 J_MLineRows_isThirteen_d221 l8 rfl ?_
          refine iq_getR hS 225 J_MLineRows_isThirteen_d222 lf_13_122 (Or.inr ⟨_, rfl⟩) (ka_96 hM7) (ra_96_2 hM7) rfl ?_
          refine iq_iload_n hS 226 J_MLineRows_isThirteen_d225 l9 rfl ?_
          obtain ⟨Q10, hQ10, h⟩ := bd1_ed h
          refine iq_cpI hS 229 J_MLineRows_isThirteen_d226 rfl (pr_stat (vs := [_, _]) lc_13_247 lT_516 rfl rfl (by decide) rfl (Nat.le_of_ble_eq_true rfl) (Nat.le_of_ble_eq_true rfl)) (f_MLineRows_place_2_ok (dep := dep + 0) hM7 h) rfl ?_
          intro x10 h
          replace h := hQ10 _ h
          obtain ⟨g229, h⟩ := ed_gd h
          refine iq_iastore hS 230 J_MLineRows_isThirteen_d229 ⟨(ka_105 hM7).1, (ka_105 hM7).2, g229.1, ix_lt (kl_105 hM7) g229.2⟩ rfl ?_
          refine iq_aload_n hS 231 J_MLineRows_isThirteen_d230 l8 rfl ?_
          refine iq_getR hS 234 J_MLineRows_isThirteen_d231 lf_13_140 (Or.inr ⟨_, rfl⟩) (ka_96 (lw_sI hM7)) (ra_96_12 (lw_sI hM7)) rfl ?_
          refine iq_iconst hS 235 J_MLineRows_isThirteen_d234 (v := 1) (by decide +kernel) rfl ?_
          obtain ⟨g235, h⟩ := ed_gd h
          refine iq_iaload hS 236 J_MLineRows_isThirteen_d235 ⟨(ka_105 (lw_sI hM7)).1, (ka_105 (lw_sI hM7)).2, g235.1, ix_lt (kl_105 (lw_sI hM7)) g235.2⟩ rfl ?_
          refine iq_istore_n hS 237 J_MLineRows_isThirteen_d236 (by decide) rfl ?_
          refine iq_iconst hS 238 J_MLineRows_isThirteen_d237 (v := 2) (by decide +kernel) rfl ?_
          refine iq_istore hS 240 J_MLineRows_isThirteen_d238 (by decide) rfl ?_
          obtain ⟨Q11, hQ11, h⟩ := bd1_ed h
          have K11 : ∀ (y12 : Int32) (L' : List (Nat × Value)), im_lk L' 0 = some (.ref 96) → im_lk L' 3 = some (.int y12) → Q11 y12 → ia (tb_G L xs) (dep + 1) J_MLineRows_isThirteen (rwI w Q) (277, L', [], (im_setI M7 105 (Int32.toNatClampNeg 1) x10)) := by
            intro y12 L' l13 l14 h
            replace h := hQ11 _ h
            refine iq_aload_n hS 278 J_MLineRows_isThirteen_d277 l13 rfl ?_
            refine iq_getR hS 281 J_MLineRows_isThirteen_d278 lf_13_140 (Or.inr ⟨_, rfl⟩) (ka_96 (lw_sI hM7)) (ra_96_12 (lw_sI hM7)) rfl ?_
            refine iq_iconst hS 282 J_MLineRows_isThirteen_d281 (v := 1) (by decide +kernel) rfl ?_
            obtain ⟨g282, h⟩ := ed_gd h
            refine iq_iaload hS 283 J_MLineRows_isThirteen_d282 ⟨(ka_105 (lw_sI hM7)).1, (ka_105 (lw_sI hM7)).2, g282.1, ix_lt (kl_105 (lw_sI hM7)) g282.2⟩ rfl ?_
            refine iq_if_lt hS 286 J_MLineRows_isThirteen_d283 (t := 293) rfl (fun q283 => ?_) rfl (fun q283 => ?_)
            · replace h := ed_pos q283 h
              refine iq_iconst hS 294 J_MLineRows_isThirteen_d293 (v := 0) (by decide +kernel) rfl ?_
              exact iq_iret J_MLineRows_isThirteen_d294 rfl rfl ⟨_, rfl, (lw_sI hM7), ed_some h⟩
            · replace h := ed_neg q283 h
              refine iq_iload_n hS 287 J_MLineRows_isThirteen_d286 l14 rfl ?_
              refine iq_bipush hS 289 J_MLineRows_isThirteen_d287 (v := 10) (by decide +kernel) rfl ?_
              refine iq_irem hS 290 J_MLineRows_isThirteen_d289 (by decide) rfl ?_
              refine iq_if_eq hS 293 J_MLineRows_isThirteen_d290 (t := 295) rfl (fun q290 => ?_) rfl (fun q290 => ?_)
              · replace h := ed_pos q290 h
                refine iq_aload_n hS 296 J_MLineRows_isThirteen_d295 l13 rfl ?_
                refine iq_iconst hS 297 J_MLineRows_isThirteen_d296 (v := 0) (by decide +kernel) rfl ?_
                refine iq_putI hS 300 J_MLineRows_isThirteen_d297 lf_13_250 (Or.inl rfl) rfl (ka_96 (lw_sI hM7)) rfl ?_
                refine iq_iconst hS 301 J_MLineRows_isThirteen_d300 (v := 1) (by decide +kernel) rfl ?_
                refine iq_istore hS 303 J_MLineRows_isThirteen_d301 (by decide) rfl ?_
                obtain ⟨Q15, hQ15, h⟩ := bd1_ed h
                have K15 : ∀ (M16 : im_M) (L' : List (Nat × Value)), lw_S w M16 → Q15 M16 → ia (tb_G L xs) (dep + 1) J_MLineRows_isThirteen (rwI w Q) (330, L', [], M16) := by
                  intro M16 L' hM16  h
                  replace h := hQ15 _ h
                  refine iq_iconst hS 331 J_MLineRows_isThirteen_d330 (v := 1) (by decide +kernel) rfl ?_
                  exact iq_iret J_MLineRows_isThirteen_d331 rfl rfl ⟨_, rfl, hM16, ed_some h⟩
                obtain ⟨r15, hr15, hq15⟩ := h
                obtain ⟨n15, hn15⟩ := lp_n hr15
                have I15 : ∀ (n : Nat) (x17 : Int32) (M18 : im_M) (L' : List (Nat × Value)), lw_S w M18 → im_lk L' 0 = some (.ref 96) → im_lk L' 4 = some (.int x17) → lpn (uc2 (f_MLineRows_isThirteen_L303)) n (x17, M18) = some r15 → ia (tb_G L xs) (dep + 1) J_MLineRows_isThirteen (rwI w Q) (303, L', [], M18) := by
                  intro n
                  induction n with
                  | zero => intro x17 M18 L' hM18 l19 l20 hn; exact (lpn_0 hn).elim
                  | succ n ih =>
                    intro x17 M18 L' hM18 l19 l20 hn
                    have h := lpn_ed2 hn
                    unfold f_MLineRows_isThirteen_L303 at h
                    refine iq_iload hS 305 J_MLineRows_isThirteen_d303 l20 rfl ?_
                    refine iq_bipush hS 307 J_MLineRows_isThirteen_d305 (v := 13) (by decide +kernel) rfl ?_
                    refine iq_icmp_gt hS 310 J_MLineRows_isThirteen_d307 (t := 330) rfl (fun q307 => ?_) rfl (fun q307 => ?_)
                    · replace h := ed_pos q307 h
                      exact K15 _ _ hM18  (lq_r h hq15)
                    · replace h := ed_neg q307 h
                      refine iq_aload_n hS 311 J_MLineRows_isThirteen_d310 l19 rfl ?_
                      refine iq_bipush hS 313 J_MLineRows_isThirteen_d311 (v := 48) (by decide +kernel) rfl ?_
                      refine iq_aload_n hS 314 J_MLineRows_isThirteen_d313 l19 rfl ?_
                      refine iq_getR hS 317 J_MLineRows_isThirteen_d314 lf_13_140 (Or.inr ⟨_, rfl⟩) (ka_96 hM18) (ra_96_12 hM18) rfl ?_
                      refine iq_iload hS 319 J_MLineRows_isThirteen_d317 l20 rfl ?_
                      obtain ⟨g319, h⟩ := ed_gd h
                      refine iq_iaload hS 320 J_MLineRows_isThirteen_d319 ⟨(ka_105 hM18).1, (ka_105 hM18).2, g319.1, ix_lt (kl_105 hM18) g319.2⟩ rfl ?_
                      refine iq_iadd hS 321 J_MLineRows_isThirteen_d320 rfl ?_
                      obtain ⟨Q21, hQ21, h⟩ := bd1_ed h
                      refine iq_cwV hS 324 J_MLineRows_isThirteen_d321 rfl (pr_inst (vs := [_]) lc_13_253 lT_517 rfl rfl (by decide) (by decide) rfl (Nat.le_of_ble_eq_true rfl) (Nat.le_of_ble_eq_true rfl) (fun _ => Or.inl (pr_b (ka_96 hM18) (by decide) rfl))) (f_MLineRows_tell_ok (dep := dep + 0) hM18 h) rfl ?_
                      intro M21 hM21 h
                      replace h := hQ21 _ h
                      refine iq_iincv hS 327 J_MLineRows_isThirteen_d324 (c := 1) (by decide +kernel) l20 (by decide) rfl ?_
                      refine iq_goto hS J_MLineRows_isThirteen_d327 (t := 303) rfl ?_
                      exact ih _ _ _ hM21 (lk_1r l19 (by decide)) lk_1s (lq_l h)
                exact I15 n15 _ _ _ (lw_sI (lw_sI hM7)) (lk_1r l13 (by decide)) lk_1s hn15
              · replace h := ed_neg q290 h
                refine iq_iconst hS 294 J_MLineRows_isThirteen_d293 (v := 0) (by decide +kernel) rfl ?_
                exact iq_iret J_MLineRows_isThirteen_d294 rfl rfl ⟨_, rfl, (lw_sI hM7), ed_some h⟩
          obtain ⟨r11, hr11, hq11⟩ := h
          obtain ⟨n11, hn11⟩ := lp_n hr11
          have I11 : ∀ (n : Nat) (x22 : Int32) (x23 : Int32) (L' : List (Nat × Value)), im_lk L' 0 = some (.ref 96) → im_lk L' 3 = some (.int x22) → im_lk L' 4 = some (.int x23) → lpn (uc2 (f_MLineRows_isThirteen_L240 (im_setI M7 105 (Int32.toNatClampNeg 1) x10))) n (x22, x23) = some r11 → ia (tb_G L xs) (dep + 1) J_MLineRows_isThirteen (rwI w Q) (240, L', [], (im_setI M7 105 (Int32.toNatClampNeg 1) x10)) := by
            intro n
            induction n with
            | zero => intro x22 x23 L' l24 l25 l26 hn; exact (lpn_0 hn).elim
            | succ n ih =>
              intro x22 x23 L' l24 l25 l26 hn
              have h := lpn_ed2 hn
              unfold f_MLineRows_isThirteen_L240 at h
              refine iq_iload hS 242 J_MLineRows_isThirteen_d240 l26 rfl ?_
              refine iq_bipush hS 244 J_MLineRows_isThirteen_d242 (v := 13) (by decide +kernel) rfl ?_
              refine iq_icmp_gt hS 247 J_MLineRows_isThirteen_d244 (t := 277) rfl (fun q244 => ?_) rfl (fun q244 => ?_)
              · replace h := ed_pos q244 h
                exact K11 _ _ l24 l25 (lq_r h hq11)
              · replace h := ed_neg q244 h
                refine iq_iload_n hS 248 J_MLineRows_isThirteen_d247 l25 rfl ?_
                refine iq_iload hS 250 J_MLineRows_isThirteen_d248 l26 rfl ?_
                refine iq_iconst hS 251 J_MLineRows_isThirteen_d250 (v := 2) (by decide +kernel) rfl ?_
                refine iq_irem hS 252 J_MLineRows_isThirteen_d251 (by decide) rfl ?_
                refine iq_iconst hS 253 J_MLineRows_isThirteen_d252 (v := 1) (by decide +kernel) rfl ?_
                have J27 : ∀ (z28 : Int32) (L' : List (Nat × Value)), z28 = ((if ¬ (x23 - x23 / 2 * 2) = 1 then 3 else 1) : Int32) → im_lk L' 0 = some (.ref 96) → im_lk L' 4 = some (.int x23) → ia (tb_G L xs) (dep + 1) J_MLineRows_isThirteen (rwI w Q) (261, L', [.int z28, .int x22], (im_setI M7 105 (Int32.toNatClampNeg 1) x10)) := by
                  intro z28 L' e29 l30 l31
                  subst e29
                  refine iq_aload_n hS 262 J_MLineRows_isThirteen_d261 l30 rfl ?_
                  refine iq_getR hS 265 J_MLineRows_isThirteen_d262 lf_13_140 (Or.inr ⟨_, rfl⟩) (ka_96 (lw_sI hM7)) (ra_96_12 (lw_sI hM7)) rfl ?_
                  refine iq_iload hS 267 J_MLineRows_isThirteen_d265 l31 rfl ?_
                  obtain ⟨g267, h⟩ := ed_gd h
                  refine iq_iaload hS 268 J_MLineRows_isThirteen_d267 ⟨(ka_105 (lw_sI hM7)).1, (ka_105 (lw_sI hM7)).2, g267.1, ix_lt (kl_105 (lw_sI hM7)) g267.2⟩ rfl ?_
                  refine iq_imul hS 269 J_MLineRows_isThirteen_d268 rfl ?_
                  refine iq_iadd hS 270 J_MLineRows_isThirteen_d269 rfl ?_
                  refine iq_istore_n hS 271 J_MLineRows_isThirteen_d270 (by decide) rfl ?_
                  refine iq_iincv hS 274 J_MLineRows_isThirteen_d271 (c := 1) (by decide +kernel) (lk_1i l31 (by decide)) (by decide) rfl ?_
                  refine iq_goto hS J_MLineRows_isThirteen_d274 (t := 240) rfl ?_
                  exact ih _ _ _ (lk_1r (lk_1r l30 (by decide)) (by decide)) (lk_1i lk_1s (by decide)) lk_1s (lq_l h)
                refine iq_icmp_ne hS 256 J_MLineRows_isThirteen_d253 (t := 260) rfl (fun q253 => ?_) rfl (fun q253 => ?_)
                · refine iq_iconst hS 261 J_MLineRows_isThirteen_d260 (v := 3) (by decide +kernel) rfl ?_
                  exact J27 _ _ (by simp only [if_pos q253]) l24 l26
                · refine iq_iconst hS 257 J_MLineRows_isThirteen_d256 (v := 1) (by decide +kernel) rfl ?_
                  refine iq_goto hS J_MLineRows_isThirteen_d257 (t := 261) rfl ?_
                  exact J27 _ _ (by simp only [if_neg q253]) l24 l26
          exact I11 n11 _ _ _ (lk_1r (lk_1r l8 (by decide)) (by decide)) (lk_1i lk_1s (by decide)) lk_1s hn11
        obtain ⟨r5, hr5, hq5⟩ := h
        obtain ⟨n5, hn5⟩ := lp_n hr5
        have I5 : ∀ (n : Nat) (x32 : Int32) (x33 : Int32) (M34 : im_M) (L' : List (Nat × Value)), lw_S w M34 → im_lk L' 0 = some (.ref 96) → im_lk L' 2 = some (.int x32) → im_lk L' 3 = some (.int x33) → lpn (uc3 (f_MLineRows_isThirteen_L59)) n (x32, x33, M34) = some r5 → ia (tb_G L xs) (dep + 1) J_MLineRows_isThirteen (rwI w Q) (59, L', [], M34) := by
          intro n
          induction n with
          | zero => intro x32 x33 M34 L' hM34 l35 l36 l37 hn; exact (lpn_0 hn).elim
          | succ n ih =>
            intro x32 x33 M34 L' hM34 l35 l36 l37 hn
            have h := lpn_ed3 hn
            unfold f_MLineRows_isThirteen_L59 at h
            refine iq_iload_n hS 60 J_MLineRows_isThirteen_d59 l37 rfl ?_
            refine iq_bipush hS 62 J_MLineRows_isThirteen_d60 (v := 13) (by decide +kernel) rfl ?_
            refine iq_icmp_gt hS 65 J_MLineRows_isThirteen_d62 (t := 216) rfl (fun q62 => ?_) rfl (fun q62 => ?_)
            · replace h := ed_pos q62 h
              exact K5 _ _ _ hM34 l35 l36 (lq_r h hq5)
            · replace h := ed_neg q62 h
              refine iq_iload_n hS 66 J_MLineRows_isThirteen_d65 l37 rfl ?_
              refine iq_bipush hS 68 J_MLineRows_isThirteen_d66 (v := 8) (by decide +kernel) rfl ?_
              have J38 : ∀ (z39 : Int32) (L' : List (Nat × Value)), z39 = ((if 8 ≤ x33 then ((32 : Int32) + ((4 : Int32) * (x33 - 8))) else ((3 : Int32) + ((4 : Int32) * (x33 - 2)))) : Int32) → im_lk L' 0 = some (.ref 96) → im_lk L' 2 = some (.int x32) → im_lk L' 3 = some (.int x33) → ia (tb_G L xs) (dep + 1) J_MLineRows_isThirteen (rwI w Q) (90, L', [.int z39], M34) := by
                intro z39 L' e40 l41 l42 l43
                subst e40
                refine iq_istore hS 92 J_MLineRows_isThirteen_d90 (by decide) rfl ?_
                refine iq_aload_n hS 93 J_MLineRows_isThirteen_d92 (lk_1r l41 (by decide)) rfl ?_
                refine iq_iload hS 95 J_MLineRows_isThirteen_d93 lk_1s rfl ?_
                refine iq_iconst hS 96 J_MLineRows_isThirteen_d95 (v := 4) (by decide +kernel) rfl ?_
                refine iq_aload_n hS 97 J_MLineRows_isThirteen_d96 (lk_1r l41 (by decide)) rfl ?_
                refine iq_iload hS 99 J_MLineRows_isThirteen_d97 lk_1s rfl ?_
                refine iq_iconst hS 100 J_MLineRows_isThirteen_d99 (v := 4) (by decide +kernel) rfl ?_
                obtain ⟨Q44, hQ44, h⟩ := bd1_ed h
                refine iq_cpI hS 103 J_MLineRows_isThirteen_d100 rfl (pr_inst (vs := [_, _]) lc_13_240 lT_514 rfl rfl (by decide) (by decide) rfl (Nat.le_of_ble_eq_true rfl) (Nat.le_of_ble_eq_true rfl) (fun _ => Or.inl (pr_b (ka_96 hM34) (by decide) rfl))) (f_MLineRows_sumOf_ok (dep := dep + 0) hM34 h) rfl ?_
                intro x44 h
                replace h := hQ44 _ h
                refine iq_bipush hS 105 J_MLineRows_isThirteen_d103 (v := 7) (by decide +kernel) rfl ?_
                obtain ⟨Q45, hQ45, h⟩ := bd1_ed h
                refine iq_cpI hS 108 J_MLineRows_isThirteen_d105 rfl (pr_inst (vs := [_, _, _, _]) lc_13_243 lT_515 rfl rfl (by decide) (by decide) rfl (Nat.le_of_ble_eq_true rfl) (Nat.le_of_ble_eq_true rfl) (fun _ => Or.inl (pr_b (ka_96 hM34) (by decide) rfl))) (f_MLineRows_counts_ok (dep := dep + 0) hM34 h) rfl ?_
                intro x45 h
                replace h := hQ45 _ h
                refine iq_istore hS 110 J_MLineRows_isThirteen_d108 (by decide) rfl ?_
                refine iq_aload_n hS 111 J_MLineRows_isThirteen_d110 (lk_1r (lk_1r l41 (by decide)) (by decide)) rfl ?_
                refine iq_getR hS 114 J_MLineRows_isThirteen_d111 lf_13_119 (Or.inr ⟨_, rfl⟩) (ka_96 hM34) (ra_96_1 hM34) rfl ?_
                refine iq_iload hS 116 J_MLineRows_isThirteen_d114 lk_1s rfl ?_
                obtain ⟨Q46, hQ46, h⟩ := bd1_ed h
                refine iq_cpI hS 119 J_MLineRows_isThirteen_d116 rfl (pr_stat (vs := [_, _]) lc_13_247 lT_516 rfl rfl (by decide) rfl (Nat.le_of_ble_eq_true rfl) (Nat.le_of_ble_eq_true rfl)) (f_MLineRows_place_1_ok (dep := dep + 0) hM34 h) rfl ?_
                intro x46 h
                replace h := hQ46 _ h
                have J47 : ∀ (z48 : Int32) (L' : List (Nat × Value)), z48 = ((if 0 ≤ x46 then 0 else 1) : Int32) → im_lk L' 0 = some (.ref 96) → im_lk L' 2 = some (.int x32) → im_lk L' 3 = some (.int x33) → im_lk L' 5 = some (.int x45) → ia (tb_G L xs) (dep + 1) J_MLineRows_isThirteen (rwI w Q) (127, L', [.int z48], M34) := by
                  intro z48 L' e49 l50 l51 l52 l53
                  subst e49
                  refine iq_istore hS 129 J_MLineRows_isThirteen_d127 (by decide) rfl ?_
                  refine iq_iload hS 131 J_MLineRows_isThirteen_d129 lk_1s rfl ?_
                  obtain ⟨k54, Q54, hQ54, hk54, h⟩ := jn0_ed h
                  have J54 : ∀  (L' : List (Nat × Value)), im_lk L' 0 = some (.ref 96) → im_lk L' 2 = some (.int x32) → im_lk L' 3 = some (.int x33) → im_lk L' 5 = some (.int x45) → im_lk L' 6 = some (.int ((if 0 ≤ x46 then 0 else 1) : Int32)) → Q54 () → ia (tb_G L xs) (dep + 1) J_MLineRows_isThirteen (rwI w Q) (157, L', [], M34) := by
                    intro  L' l57 l58 l59 l60 l61 h
                    replace h := hQ54  h
                    refine iq_aload_n hS 158 J_MLineRows_isThirteen_d157 l57 rfl ?_
                    refine iq_getR hS 161 J_MLineRows_isThirteen_d158 lf_13_140 (Or.inr ⟨_, rfl⟩) (ka_96 hM34) (ra_96_12 hM34) rfl ?_
                    refine iq_iload_n hS 162 J_MLineRows_isThirteen_d161 l59 rfl ?_
                    refine iq_aload_n hS 163 J_MLineRows_isThirteen_d162 l57 rfl ?_
                    refine iq_getR hS 166 J_MLineRows_isThirteen_d163 lf_13_119 (Or.inr ⟨_, rfl⟩) (ka_96 hM34) (ra_96_1 hM34) rfl ?_
                    refine iq_iload hS 168 J_MLineRows_isThirteen_d166 l61 rfl ?_
                    obtain ⟨Q62, hQ62, h⟩ := bd1_ed h
                    have J62 : ∀ (y64 : Int32) (L' : List (Nat × Value)), im_lk L' 0 = some (.ref 96) → im_lk L' 2 = some (.int x32) → im_lk L' 3 = some (.int x33) → im_lk L' 6 = some (.int ((if 0 ≤ x46 then 0 else 1) : Int32)) → Q62 y64 → ia (tb_G L xs) (dep + 1) J_MLineRows_isThirteen (rwI w Q) (181, L', [.int y64, .ref 98, .int x33, .ref 105], M34) := by
                      intro y64 L' l65 l66 l67 l68 h
                      replace h := hQ62 _ h
                      obtain ⟨Q69, hQ69, h⟩ := bd1_ed h
                      refine iq_cpI hS 184 J_MLineRows_isThirteen_d181 rfl (pr_stat (vs := [_, _]) lc_13_247 lT_516 rfl rfl (by decide) rfl (Nat.le_of_ble_eq_true rfl) (Nat.le_of_ble_eq_true rfl)) (f_MLineRows_place_1_ok (dep := dep + 0) hM34 h) rfl ?_
                      intro x69 h
                      replace h := hQ69 _ h
                      obtain ⟨g184, h⟩ := ed_gd h
                      refine iq_iastore hS 185 J_MLineRows_isThirteen_d184 ⟨(ka_105 hM34).1, (ka_105 hM34).2, g184.1, ix_lt (kl_105 hM34) g184.2⟩ rfl ?_
                      refine iq_iload_n hS 186 J_MLineRows_isThirteen_d185 l67 rfl ?_
                      refine iq_bipush hS 188 J_MLineRows_isThirteen_d186 (v := 8) (by decide +kernel) rfl ?_
                      have J70 : ∀ (z71 : Int32) (L' : List (Nat × Value)), z71 = ((if 8 ≤ x33 then x32 else (if ((if 0 ≤ x46 then 0 else 1) : Int32) = 0 then (((2 : Int32) * x32) + 0) else (((2 : Int32) * x32) + 1))) : Int32) → im_lk L' 0 = some (.ref 96) → im_lk L' 3 = some (.int x33) → ia (tb_G L xs) (dep + 1) J_MLineRows_isThirteen (rwI w Q) (209, L', [.int z71], (im_setI M34 105 (Int32.toNatClampNeg x33) x69)) := by
                        intro z71 L' e72 l73 l74
                        subst e72
                        refine iq_istore_n hS 210 J_MLineRows_isThirteen_d209 (by decide) rfl ?_
                        refine iq_iincv hS 213 J_MLineRows_isThirteen_d210 (c := 1) (by decide +kernel) (lk_1i l74 (by decide)) (by decide) rfl ?_
                        refine iq_goto hS J_MLineRows_isThirteen_d213 (t := 59) rfl ?_
                        exact ih _ _ _ _ (lw_sI hM34) (lk_1r (lk_1r l73 (by decide)) (by decide)) (lk_1i lk_1s (by decide)) lk_1s (lq_l h)
                      refine iq_icmp_ge hS 191 J_MLineRows_isThirteen_d188 (t := 208) rfl (fun q188 => ?_) rfl (fun q188 => ?_)
                      · refine iq_iload_n hS 209 J_MLineRows_isThirteen_d208 l66 rfl ?_
                        exact J70 _ _ (by simp only [if_pos q188]) l65 l67
                      · refine iq_iconst hS 192 J_MLineRows_isThirteen_d191 (v := 2) (by decide +kernel) rfl ?_
                        refine iq_iload_n hS 193 J_MLineRows_isThirteen_d192 l66 rfl ?_
                        refine iq_imul hS 194 J_MLineRows_isThirteen_d193 rfl ?_
                        refine iq_iload hS 196 J_MLineRows_isThirteen_d194 l68 rfl ?_
                        refine iq_if_eq hS 199 J_MLineRows_isThirteen_d196 (t := 203) rfl (fun q196 => ?_) rfl (fun q196 => ?_)
                        · refine iq_iconst hS 204 J_MLineRows_isThirteen_d203 (v := 0) (by decide +kernel) rfl ?_
                          refine iq_iadd hS 205 J_MLineRows_isThirteen_d204 rfl ?_
                          refine iq_goto hS J_MLineRows_isThirteen_d205 (t := 209) rfl ?_
                          exact J70 _ _ (by simp only [if_neg q188, if_pos q196]) l65 l67
                        · refine iq_iconst hS 200 J_MLineRows_isThirteen_d199 (v := 1) (by decide +kernel) rfl ?_
                          refine iq_goto hS J_MLineRows_isThirteen_d200 (t := 204) rfl ?_
                          refine iq_iadd hS 205 J_MLineRows_isThirteen_d204 rfl ?_
                          refine iq_goto hS J_MLineRows_isThirteen_d205 (t := 209) rfl ?_
                          exact J70 _ _ (by simp only [if_neg q188, if_neg q196]) l65 l67
                    refine iq_if_eq hS 171 J_MLineRows_isThirteen_d168 (t := 179) rfl (fun q168 => ?_) rfl (fun q168 => ?_)
                    · replace h := ed_pos q168 h
                      refine iq_iload hS 181 J_MLineRows_isThirteen_d179 l60 rfl ?_
                      exact J62 _ _ l57 l58 l59 l61 (ed_some h)
                    · replace h := ed_neg q168 h
                      refine iq_iload hS 173 J_MLineRows_isThirteen_d171 l60 rfl ?_
                      obtain ⟨Q63, hQ63, h⟩ := bd1_ed h
                      refine iq_cpI hS 176 J_MLineRows_isThirteen_d173 rfl (pr_stat (vs := [_]) lc_13_233 lT_384 rfl rfl (by decide) rfl (Nat.le_of_ble_eq_true rfl) (Nat.le_of_ble_eq_true rfl)) (f_MLineRows_reversed_ok (dep := dep + 0) hM34 h) rfl ?_
                      intro x63 h
                      replace h := hQ63 _ h
                      refine iq_goto hS J_MLineRows_isThirteen_d176 (t := 181) rfl ?_
                      exact J62 _ _ l57 l58 l59 l61 (ed_some h)
                  refine iq_if_eq hS 134 J_MLineRows_isThirteen_d131 (t := 157) rfl (fun q131 => ?_) rfl (fun q131 => ?_)
                  · replace h := ed_pos q131 h
                    exact J54  _ (lk_1r l50 (by decide)) (lk_1i l51 (by decide)) (lk_1i l52 (by decide)) (lk_1i l53 (by decide)) lk_1s (hk54  h)
                  · replace h := ed_neg q131 h
                    refine iq_iload_n hS 135 J_MLineRows_isThirteen_d134 (lk_1i l52 (by decide)) rfl ?_
                    refine iq_bipush hS 137 J_MLineRows_isThirteen_d135 (v := 7) (by decide +kernel) rfl ?_
                    refine iq_icmp_gt hS 140 J_MLineRows_isThirteen_d137 (t := 155) rfl (fun q137 => ?_) rfl (fun q137 => ?_)
                    · replace h := ed_pos q137 h
                      refine iq_iconst hS 156 J_MLineRows_isThirteen_d155 (v := 0) (by decide +kernel) rfl ?_
                      exact iq_iret J_MLineRows_isThirteen_d156 rfl rfl ⟨_, rfl, hM34, ed_some (hR5 _ (lq_r h hq5))⟩
                    · replace h := ed_neg q137 h
                      refine iq_aload_n hS 141 J_MLineRows_isThirteen_d140 (lk_1r l50 (by decide)) rfl ?_
                      refine iq_getR hS 144 J_MLineRows_isThirteen_d141 lf_13_119 (Or.inr ⟨_, rfl⟩) (ka_96 hM34) (ra_96_1 hM34) rfl ?_
                      refine iq_iload hS 146 J_MLineRows_isThirteen_d144 (lk_1i l53 (by decide)) rfl ?_
                      obtain ⟨Q55, hQ55, h⟩ := bd1_ed h
                      refine iq_cpI hS 149 J_MLineRows_isThirteen_d146 rfl (pr_stat (vs := [_]) lc_13_233 lT_384 rfl rfl (by decide) rfl (Nat.le_of_ble_eq_true rfl) (Nat.le_of_ble_eq_true rfl)) (f_MLineRows_reversed_ok (dep := dep + 0) hM34 h) rfl ?_
                      intro x55 h
                      replace h := hQ55 _ h
                      obtain ⟨Q56, hQ56, h⟩ := bd1_ed h
                      refine iq_cpI hS 152 J_MLineRows_isThirteen_d149 rfl (pr_stat (vs := [_, _]) lc_13_247 lT_516 rfl rfl (by decide) rfl (Nat.le_of_ble_eq_true rfl) (Nat.le_of_ble_eq_true rfl)) (f_MLineRows_place_1_ok (dep := dep + 0) hM34 h) rfl ?_
                      intro x56 h
                      replace h := hQ56 _ h
                      refine iq_if_ge hS 155 J_MLineRows_isThirteen_d152 (t := 157) rfl (fun q152 => ?_) rfl (fun q152 => ?_)
                      · replace h := ed_pos q152 h
                        exact J54  _ (lk_1r l50 (by decide)) (lk_1i l51 (by decide)) (lk_1i l52 (by decide)) (lk_1i l53 (by decide)) lk_1s (hk54  h)
                      · replace h := ed_neg q152 h
                        refine iq_iconst hS 156 J_MLineRows_isThirteen_d155 (v := 0) (by decide +kernel) rfl ?_
                        exact iq_iret J_MLineRows_isThirteen_d156 rfl rfl ⟨_, rfl, hM34, ed_some (hR5 _ (lq_r h hq5))⟩
                refine iq_if_ge hS 122 J_MLineRows_isThirteen_d119 (t := 126) rfl (fun q119 => ?_) rfl (fun q119 => ?_)
                · refine iq_iconst hS 127 J_MLineRows_isThirteen_d126 (v := 0) (by decide +kernel) rfl ?_
                  exact J47 _ _ (by simp only [if_pos q119]) (lk_1r (lk_1r l41 (by decide)) (by decide)) (lk_1i (lk_1i l42 (by decide)) (by decide)) (lk_1i (lk_1i l43 (by decide)) (by decide)) lk_1s
                · refine iq_iconst hS 123 J_MLineRows_isThirteen_d122 (v := 1) (by decide +kernel) rfl ?_
                  refine iq_goto hS J_MLineRows_isThirteen_d123 (t := 127) rfl ?_
                  exact J47 _ _ (by simp only [if_neg q119]) (lk_1r (lk_1r l41 (by decide)) (by decide)) (lk_1i (lk_1i l42 (by decide)) (by decide)) (lk_1i (lk_1i l43 (by decide)) (by decide)) lk_1s
              refine iq_icmp_ge hS 71 J_MLineRows_isThirteen_d68 (t := 81) rfl (fun q68 => ?_) rfl (fun q68 => ?_)
              · refine iq_bipush hS 83 J_MLineRows_isThirteen_d81 (v := 32) (by decide +kernel) rfl ?_
                refine iq_iconst hS 84 J_MLineRows_isThirteen_d83 (v := 4) (by decide +kernel) rfl ?_
                refine iq_iload_n hS 85 J_MLineRows_isThirteen_d84 l37 rfl ?_
                refine iq_bipush hS 87 J_MLineRows_isThirteen_d85 (v := 8) (by decide +kernel) rfl ?_
                refine iq_isub hS 88 J_MLineRows_isThirteen_d87 rfl ?_
                refine iq_imul hS 89 J_MLineRows_isThirteen_d88 rfl ?_
                refine iq_iadd hS 90 J_MLineRows_isThirteen_d89 rfl ?_
                exact J38 _ _ (by simp only [if_pos q68]) l35 l36 l37
              · refine iq_iconst hS 72 J_MLineRows_isThirteen_d71 (v := 3) (by decide +kernel) rfl ?_
                refine iq_iconst hS 73 J_MLineRows_isThirteen_d72 (v := 4) (by decide +kernel) rfl ?_
                refine iq_iload_n hS 74 J_MLineRows_isThirteen_d73 l37 rfl ?_
                refine iq_iconst hS 75 J_MLineRows_isThirteen_d74 (v := 2) (by decide +kernel) rfl ?_
                refine iq_isub hS 76 J_MLineRows_isThirteen_d75 rfl ?_
                refine iq_imul hS 77 J_MLineRows_isThirteen_d76 rfl ?_
                refine iq_iadd hS 78 J_MLineRows_isThirteen_d77 rfl ?_
                refine iq_goto hS J_MLineRows_isThirteen_d78 (t := 90) rfl ?_
                exact J38 _ _ (by simp only [if_neg q68]) l35 l36 l37
        exact I5 n5 _ _ _ _ hM (lk_1r (lk_1r (lk_1r l0 (by decide)) (by decide)) (by decide)) (lk_1i lk_1s (by decide)) lk_1s hn5
      · replace h := ed_neg q50 h
        refine iq_iconst hS 54 J_MLineRows_isThirteen_d53 (v := 0) (by decide +kernel) rfl ?_
        exact iq_iret J_MLineRows_isThirteen_d54 rfl rfl ⟨_, rfl, hM, ed_some h⟩
theorem f_MLineRows_isThirteen_fr {M : im_M} {r : Int32 × im_M} (h : f_MLineRows_isThirteen M = some r) : fr 202824096036516704239472512860160 [(96, 17)] M r.2 := by
  replace h : ed (f_MLineRows_isThirteen M) (fun x => x = r) := ⟨r, h, rfl⟩
  unfold f_MLineRows_isThirteen at h
  obtain ⟨Q1, hQ1, h⟩ := bd1_ed h
  obtain ⟨x1, e1, h⟩ := h
  replace h := hQ1 _ h
  obtain ⟨Q2, hQ2, h⟩ := bd1_ed h
  obtain ⟨x2, e2, h⟩ := h
  replace h := hQ2 _ h
  by_cases q19 : ¬ x2 = 111
  · replace h := ed_pos q19 h
    exact fr_ret h fr_refl
  · replace h := ed_neg q19 h
    obtain ⟨Q3, hQ3, h⟩ := bd1_ed h
    obtain ⟨x3, e3, h⟩ := h
    replace h := hQ3 _ h
    by_cases q35 : ¬ x3 = 11111
    · replace h := ed_pos q35 h
      exact fr_ret h fr_refl
    · replace h := ed_neg q35 h
      obtain ⟨Q4, hQ4, h⟩ := bd1_ed h
      obtain ⟨x4, e4, h⟩ := h
      replace h := hQ4 _ h
      by_cases q50 : x4 = 111
      · replace h := ed_pos q50 h
        obtain ⟨Q5, hQ5, hR5, h⟩ := bs2_ed h
        have K5 : ∀ (y6 : Int32) (M7 : im_M), fr 202824096036516704239472512860160 [(96, 17)] M M7 → Q5 (.inl (y6, M7)) → fr 202824096036516704239472512860160 [(96, 17)] M r.2 := by
          intro y6 M7 hM7 h
          replace h := hQ5 _ _ h
          obtain ⟨Q8, hQ8, h⟩ := bd1_ed h
          obtain ⟨x8, e8, h⟩ := h
          replace h := hQ8 _ h
          obtain ⟨g229, h⟩ := ed_gd h
          obtain ⟨g235, h⟩ := ed_gd h
          obtain ⟨Q9, hQ9, h⟩ := bd1_ed h
          have K9 : ∀ (y10 : Int32), Q9 y10 → fr 202824096036516704239472512860160 [(96, 17)] M r.2 := by
            intro y10 h
            replace h := hQ9 _ h
            obtain ⟨g282, h⟩ := ed_gd h
            by_cases q283 : (im_i (im_setI M7 105 (Int32.toNatClampNeg 1) x8) 105 (Int32.toNatClampNeg 1)) < 0
            · replace h := ed_pos q283 h
              exact fr_ret h (fr_I (by decide) hM7)
            · replace h := ed_neg q283 h
              by_cases q290 : (y10 - y10 / 10 * 10) = 0
              · replace h := ed_pos q290 h
                obtain ⟨Q11, hQ11, h⟩ := bd1_ed h
                have K11 : ∀ (M12 : im_M), fr 202824096036516704239472512860160 [(96, 17)] M M12 → Q11 M12 → fr 202824096036516704239472512860160 [(96, 17)] M r.2 := by
                  intro M12 hM12 h
                  replace h := hQ11 _ h
                  exact fr_ret h hM12
                obtain ⟨r11, hr11, hq11⟩ := h
                obtain ⟨n11, hn11⟩ := lp_n hr11
                have I11 : ∀ (n : Nat) (x13 : Int32) (M14 : im_M), fr 202824096036516704239472512860160 [(96, 17)] M M14 → lpn (uc2 (f_MLineRows_isThirteen_L303)) n (x13, M14) = some r11 → fr 202824096036516704239472512860160 [(96, 17)] M r.2 := by
                  intro n
                  induction n with
                  | zero => intro x13 M14 hM14 hn; exact (lpn_0 hn).elim
                  | succ n ih =>
                    intro x13 M14 hM14 hn
                    have h := lpn_ed2 hn
                    unfold f_MLineRows_isThirteen_L303 at h
                    by_cases q307 : 13 < x13
                    · replace h := ed_pos q307 h
                      exact K11 _ hM14 (lq_r h hq11)
                    · replace h := ed_neg q307 h
                      obtain ⟨g319, h⟩ := ed_gd h
                      obtain ⟨Q15, hQ15, h⟩ := bd1_ed h
                      obtain ⟨M15, e15, h⟩ := h
                      replace h := hQ15 _ h
                      exact ih _ _ (fr_tr (fr_mono (by decide) (by decide +kernel) (f_MLineRows_tell_fr e15)) hM14) (lq_l h)
                exact I11 n11 _ _ (fr_F (by decide) (fr_I (by decide) hM7)) hn11
              · replace h := ed_neg q290 h
                exact fr_ret h (fr_I (by decide) hM7)
          obtain ⟨r9, hr9, hq9⟩ := h
          obtain ⟨n9, hn9⟩ := lp_n hr9
          have I9 : ∀ (n : Nat) (x16 : Int32) (x17 : Int32), lpn (uc2 (f_MLineRows_isThirteen_L240 (im_setI M7 105 (Int32.toNatClampNeg 1) x8))) n (x16, x17) = some r9 → fr 202824096036516704239472512860160 [(96, 17)] M r.2 := by
            intro n
            induction n with
            | zero => intro x16 x17 hn; exact (lpn_0 hn).elim
            | succ n ih =>
              intro x16 x17 hn
              have h := lpn_ed2 hn
              unfold f_MLineRows_isThirteen_L240 at h
              by_cases q244 : 13 < x17
              · replace h := ed_pos q244 h
                exact K9 _ (lq_r h hq9)
              · replace h := ed_neg q244 h
                obtain ⟨g267, h⟩ := ed_gd h
                exact ih _ _ (lq_l h)
          exact I9 n9 _ _ hn9
        obtain ⟨r5, hr5, hq5⟩ := h
        obtain ⟨n5, hn5⟩ := lp_n hr5
        have I5 : ∀ (n : Nat) (x19 : Int32) (x20 : Int32) (M21 : im_M), fr 202824096036516704239472512860160 [(96, 17)] M M21 → lpn (uc3 (f_MLineRows_isThirteen_L59)) n (x19, x20, M21) = some r5 → fr 202824096036516704239472512860160 [(96, 17)] M r.2 := by
          intro n
          induction n with
          | zero => intro x19 x20 M21 hM21 hn; exact (lpn_0 hn).elim
          | succ n ih =>
            intro x19 x20 M21 hM21 hn
            have h := lpn_ed3 hn
            unfold f_MLineRows_isThirteen_L59 at h
            by_cases q62 : 13 < x20
            · replace h := ed_pos q62 h
              exact K5 _ _ hM21 (lq_r h hq5)
            · replace h := ed_neg q62 h
              obtain ⟨Q23, hQ23, h⟩ := bd1_ed h
              obtain ⟨x23, e23, h⟩ := h
              replace h := hQ23 _ h
              obtain ⟨Q24, hQ24, h⟩ := bd1_ed h
              obtain ⟨x24, e24, h⟩ := h
              replace h := hQ24 _ h
              obtain ⟨Q25, hQ25, h⟩ := bd1_ed h
              obtain ⟨x25, e25, h⟩ := h
              replace h := hQ25 _ h
              obtain ⟨k27, Q27, hQ27, hk27, h⟩ := jn0_ed h
              have J27 : Q27 () → fr 202824096036516704239472512860160 [(96, 17)] M r.2 := by
                intro  h
                replace h := hQ27  h
                obtain ⟨Q35, hQ35, h⟩ := bd1_ed h
                have J35 : ∀ (y37 : Int32), Q35 y37 → fr 202824096036516704239472512860160 [(96, 17)] M r.2 := by
                  intro y37 h
                  replace h := hQ35 _ h
                  obtain ⟨Q42, hQ42, h⟩ := bd1_ed h
                  obtain ⟨x42, e42, h⟩ := h
                  replace h := hQ42 _ h
                  obtain ⟨g184, h⟩ := ed_gd h
                  exact ih _ _ _ (fr_I (by decide) hM21) (lq_l h)
                by_cases q168 : ((if 0 ≤ x25 then 0 else 1) : Int32) = 0
                · replace h := ed_pos q168 h
                  exact J35 _ (ed_some h)
                · replace h := ed_neg q168 h
                  obtain ⟨Q36, hQ36, h⟩ := bd1_ed h
                  obtain ⟨x36, e36, h⟩ := h
                  replace h := hQ36 _ h
                  exact J35 _ (ed_some h)
              by_cases q131 : ((if 0 ≤ x25 then 0 else 1) : Int32) = 0
              · replace h := ed_pos q131 h
                exact J27  (hk27  h)
              · replace h := ed_neg q131 h
                by_cases q137 : 7 < x20
                · replace h := ed_pos q137 h
                  exact fr_ret (hR5 _ (lq_r h hq5)) hM21
                · replace h := ed_neg q137 h
                  obtain ⟨Q28, hQ28, h⟩ := bd1_ed h
                  obtain ⟨x28, e28, h⟩ := h
                  replace h := hQ28 _ h
                  obtain ⟨Q29, hQ29, h⟩ := bd1_ed h
                  obtain ⟨x29, e29, h⟩ := h
                  replace h := hQ29 _ h
                  by_cases q152 : 0 ≤ x29
                  · replace h := ed_pos q152 h
                    exact J27  (hk27  h)
                  · replace h := ed_neg q152 h
                    exact fr_ret (hR5 _ (lq_r h hq5)) hM21
        exact I5 n5 _ _ _ fr_refl hn5
      · replace h := ed_neg q50 h
        exact fr_ret h fr_refl
noncomputable def f_MLineRows_isSome (M : im_M) : Option (Int32 × im_M) := if ¬ (im_i M 96 10) = 59 then if (im_i M 96 10) < 19 then some (0, M) else if ¬ (((im_i M 96 10) - 7) - ((im_i M 96 10) - 7) / 6 * 6) = 0 then some (0, M) else bd2 (f_MLineRows_isRow (((im_i M 96 10) - 7) / 6) M) fun (x1 : Int32) (M1 : im_M) => if x1 = 0 then some (0, M1) else some (1, M1) else bd2 (f_MLineRows_isThirteen M) fun (x2 : Int32) (M2 : im_M) => gd (x2 = 0 ∨ x2 = 1) <| some (x2, M2)
theorem J_MLineRows_isSome_d0 : decode J_MLineRows_isSome.2.1 0 = .ok (.aload_n 0, 1) := by decide +kernel
theorem J_MLineRows_isSome_d1 : decode J_MLineRows_isSome.2.1 1 = .ok (.getfield 202, 3) := by decide +kernel
theorem J_MLineRows_isSome_d4 : decode J_MLineRows_isSome.2.1 4 = .ok (.bipush 59, 2) := by decide +kernel
theorem J_MLineRows_isSome_d6 : decode J_MLineRows_isSome.2.1 6 = .ok (.if_icmp .ne 8, 3) := by decide +kernel
theorem J_MLineRows_isSome_d9 : decode J_MLineRows_isSome.2.1 9 = .ok (.aload_n 0, 1) := by decide +kernel
theorem J_MLineRows_isSome_d10 : decode J_MLineRows_isSome.2.1 10 = .ok (.invokevirtual 256, 3) := by decide +kernel
theorem J_MLineRows_isSome_d13 : decode J_MLineRows_isSome.2.1 13 = .ok (.ireturn, 1) := by decide +kernel
theorem J_MLineRows_isSome_d14 : decode J_MLineRows_isSome.2.1 14 = .ok (.aload_n 0, 1) := by decide +kernel
theorem J_MLineRows_isSome_d15 : decode J_MLineRows_isSome.2.1 15 = .ok (.getfield 202, 3) := by decide +kernel
theorem J_MLineRows_isSome_d18 : decode J_MLineRows_isSome.2.1 18 = .ok (.bipush 19, 2) := by decide +kernel
theorem J_MLineRows_isSome_d20 : decode J_MLineRows_isSome.2.1 20 = .ok (.if_icmp .lt 37, 3) := by decide +kernel
theorem J_MLineRows_isSome_d23 : decode J_MLineRows_isSome.2.1 23 = .ok (.aload_n 0, 1) := by decide +kernel
theorem J_MLineRows_isSome_d24 : decode J_MLineRows_isSome.2.1 24 = .ok (.getfield 202, 3) := by decide +kernel
theorem J_MLineRows_isSome_d27 : decode J_MLineRows_isSome.2.1 27 = .ok (.bipush 7, 2) := by decide +kernel
theorem J_MLineRows_isSome_d29 : decode J_MLineRows_isSome.2.1 29 = .ok (.isub, 1) := by decide +kernel
theorem J_MLineRows_isSome_d30 : decode J_MLineRows_isSome.2.1 30 = .ok (.bipush 6, 2) := by decide +kernel
theorem J_MLineRows_isSome_d32 : decode J_MLineRows_isSome.2.1 32 = .ok (.irem, 1) := by decide +kernel
theorem J_MLineRows_isSome_d33 : decode J_MLineRows_isSome.2.1 33 = .ok (.ifCond .ne 24, 3) := by decide +kernel
theorem J_MLineRows_isSome_d36 : decode J_MLineRows_isSome.2.1 36 = .ok (.aload_n 0, 1) := by decide +kernel
theorem J_MLineRows_isSome_d37 : decode J_MLineRows_isSome.2.1 37 = .ok (.aload_n 0, 1) := by decide +kernel
theorem J_MLineRows_isSome_d38 : decode J_MLineRows_isSome.2.1 38 = .ok (.getfield 202, 3) := by decide +kernel
theorem J_MLineRows_isSome_d41 : decode J_MLineRows_isSome.2.1 41 = .ok (.bipush 7, 2) := by decide +kernel
theorem J_MLineRows_isSome_d43 : decode J_MLineRows_isSome.2.1 43 = .ok (.isub, 1) := by decide +kernel
theorem J_MLineRows_isSome_d44 : decode J_MLineRows_isSome.2.1 44 = .ok (.bipush 6, 2) := by decide +kernel
theorem J_MLineRows_isSome_d46 : decode J_MLineRows_isSome.2.1 46 = .ok (.idiv, 1) := by decide +kernel
theorem J_MLineRows_isSome_d47 : decode J_MLineRows_isSome.2.1 47 = .ok (.invokevirtual 260, 3) := by decide +kernel
theorem J_MLineRows_isSome_d50 : decode J_MLineRows_isSome.2.1 50 = .ok (.ifCond .eq 7, 3) := by decide +kernel
theorem J_MLineRows_isSome_d53 : decode J_MLineRows_isSome.2.1 53 = .ok (.iconst 1, 1) := by decide +kernel
theorem J_MLineRows_isSome_d54 : decode J_MLineRows_isSome.2.1 54 = .ok (.goto 4, 3) := by decide +kernel
theorem J_MLineRows_isSome_d57 : decode J_MLineRows_isSome.2.1 57 = .ok (.iconst 0, 1) := by decide +kernel
theorem J_MLineRows_isSome_d58 : decode J_MLineRows_isSome.2.1 58 = .ok (.ireturn, 1) := by decide +kernel
theorem f_MLineRows_isSome_ok {L : Nat} {xs : Nat → Int32} {dep : Nat} {w : Bool} {M : im_M} {Q : Int32 × im_M → Prop} (hM : lw_S w M) (h : ed (f_MLineRows_isSome M) Q) : ia (tb_G L xs) (dep + 2) J_MLineRows_isSome (rwI w Q) (0, lv_args 0 [.ref 96], [], M) := by
  have hS : im_St (tb_G L xs) (dep + 2) J_MLineRows_isSome (ia (tb_G L xs) (dep + 2) J_MLineRows_isSome (rwI w Q)) := ia_St
  unfold f_MLineRows_isSome at h
  have l0 : im_lk (lv_args 0 [.ref 96]) 0 = some (.ref 96) := rfl
  refine iq_aload_n hS 1 J_MLineRows_isSome_d0 l0 rfl ?_
  refine iq_getI hS 4 J_MLineRows_isSome_d1 lf_13_202 (Or.inl rfl) (ka_96 hM) rfl ?_
  refine iq_bipush hS 6 J_MLineRows_isSome_d4 (v := 59) (by decide +kernel) rfl ?_
  refine iq_icmp_ne hS 9 J_MLineRows_isSome_d6 (t := 14) rfl (fun q6 => ?_) rfl (fun q6 => ?_)
  · replace h := ed_pos q6 h
    refine iq_aload_n hS 15 J_MLineRows_isSome_d14 l0 rfl ?_
    refine iq_getI hS 18 J_MLineRows_isSome_d15 lf_13_202 (Or.inl rfl) (ka_96 hM) rfl ?_
    refine iq_bipush hS 20 J_MLineRows_isSome_d18 (v := 19) (by decide +kernel) rfl ?_
    refine iq_icmp_lt hS 23 J_MLineRows_isSome_d20 (t := 57) rfl (fun q20 => ?_) rfl (fun q20 => ?_)
    · replace h := ed_pos q20 h
      refine iq_iconst hS 58 J_MLineRows_isSome_d57 (v := 0) (by decide +kernel) rfl ?_
      exact iq_iret J_MLineRows_isSome_d58 rfl rfl ⟨_, rfl, hM, ed_some h⟩
    · replace h := ed_neg q20 h
      refine iq_aload_n hS 24 J_MLineRows_isSome_d23 l0 rfl ?_
      refine iq_getI hS 27 J_MLineRows_isSome_d24 lf_13_202 (Or.inl rfl) (ka_96 hM) rfl ?_
      refine iq_bipush hS 29 J_MLineRows_isSome_d27 (v := 7) (by decide +kernel) rfl ?_
      refine iq_isub hS 30 J_MLineRows_isSome_d29 rfl ?_
      refine iq_bipush hS 32 J_MLineRows_isSome_d30 (v := 6) (by decide +kernel) rfl ?_
      refine iq_irem hS 33 J_MLineRows_isSome_d32 (by decide) rfl ?_
      refine iq_if_ne hS 36 J_MLineRows_isSome_d33 (t := 57) rfl (fun q33 => ?_) rfl (fun q33 => ?_)
      · replace h := ed_pos q33 h
        refine iq_iconst hS 58 J_MLineRows_isSome_d57 (v := 0) (by decide +kernel) rfl ?_
        exact iq_iret J_MLineRows_isSome_d58 rfl rfl ⟨_, rfl, hM, ed_some h⟩
      · replace h := ed_neg q33 h
        refine iq_aload_n hS 37 J_MLineRows_isSome_d36 l0 rfl ?_
        refine iq_aload_n hS 38 J_MLineRows_isSome_d37 l0 rfl ?_
        refine iq_getI hS 41 J_MLineRows_isSome_d38 lf_13_202 (Or.inl rfl) (ka_96 hM) rfl ?_
        refine iq_bipush hS 43 J_MLineRows_isSome_d41 (v := 7) (by decide +kernel) rfl ?_
        refine iq_isub hS 44 J_MLineRows_isSome_d43 rfl ?_
        refine iq_bipush hS 46 J_MLineRows_isSome_d44 (v := 6) (by decide +kernel) rfl ?_
        refine iq_idiv hS 47 J_MLineRows_isSome_d46 (by decide) rfl ?_
        obtain ⟨Q1, hQ1, h⟩ := bd2_ed h
        refine iq_cwI hS 50 J_MLineRows_isSome_d47 rfl (pr_inst (vs := [_]) lc_13_260 lT_518 rfl rfl (by decide) (by decide) rfl (Nat.le_of_ble_eq_true rfl) (Nat.le_of_ble_eq_true rfl) (fun _ => Or.inl (pr_b (ka_96 hM) (by decide) rfl))) (f_MLineRows_isRow_ok (dep := dep + 0) hM h) rfl ?_
        intro x1 M1 hM1 h
        replace h := hQ1 _ _ h
        refine iq_if_eq hS 53 J_MLineRows_isSome_d50 (t := 57) rfl (fun q50 => ?_) rfl (fun q50 => ?_)
        · replace h := ed_pos q50 h
          refine iq_iconst hS 58 J_MLineRows_isSome_d57 (v := 0) (by decide +kernel) rfl ?_
          exact iq_iret J_MLineRows_isSome_d58 rfl rfl ⟨_, rfl, hM1, ed_some h⟩
        · replace h := ed_neg q50 h
          refine iq_iconst hS 54 J_MLineRows_isSome_d53 (v := 1) (by decide +kernel) rfl ?_
          refine iq_goto hS J_MLineRows_isSome_d54 (t := 58) rfl ?_
          exact iq_iret J_MLineRows_isSome_d58 rfl rfl ⟨_, rfl, hM1, ed_some h⟩
  · replace h := ed_neg q6 h
    refine iq_aload_n hS 10 J_MLineRows_isSome_d9 l0 rfl ?_
    obtain ⟨Q2, hQ2, h⟩ := bd2_ed h
    refine iq_cwI hS 13 J_MLineRows_isSome_d10 rfl (pr_inst (vs := []) lc_13_256 lT_513 rfl rfl (by decide) (by decide) rfl (Nat.le_of_ble_eq_true rfl) (Nat.le_of_ble_eq_true rfl) (fun _ => Or.inl (pr_b (ka_96 hM) (by decide) rfl))) (f_MLineRows_isThirteen_ok (dep := dep + 0) hM h) rfl ?_
    intro x2 M2 hM2 h
    replace h := hQ2 _ _ h
    obtain ⟨g13, h⟩ := ed_gd h
    exact iq_iret J_MLineRows_isSome_d13 rfl (nar_z g13) ⟨_, rfl, hM2, ed_some h⟩
theorem f_MLineRows_isSome_fr {M : im_M} {r : Int32 × im_M} (h : f_MLineRows_isSome M = some r) : fr 202824096036516704239472512860160 [(96, 17)] M r.2 := by
  replace h : ed (f_MLineRows_isSome M) (fun x => x = r) := ⟨r, h, rfl⟩
  unfold f_MLineRows_isSome at h
  by_cases q6 : ¬ (im_i M 96 10) = 59
  · replace h := ed_pos q6 h
    by_cases q20 : (im_i M 96 10) < 19
    · replace h := ed_pos q20 h
      exact fr_ret h fr_refl
    · replace h := ed_neg q20 h
      by_cases q33 : ¬ (((im_i M 96 10) - 7) - ((im_i M 96 10) - 7) / 6 * 6) = 0
      · replace h := ed_pos q33 h
        exact fr_ret h fr_refl
      · replace h := ed_neg q33 h
        obtain ⟨Q1, hQ1, h⟩ := bd2_ed h
        obtain ⟨⟨x1, M1⟩, e1, h⟩ := h
        replace h := hQ1 _ _ h
        by_cases q50 : x1 = 0
        · replace h := ed_pos q50 h
          exact fr_ret h (fr_tr (fr_mono (by decide) (by decide +kernel) (f_MLineRows_isRow_fr e1)) fr_refl)
        · replace h := ed_neg q50 h
          exact fr_ret h (fr_tr (fr_mono (by decide) (by decide +kernel) (f_MLineRows_isRow_fr e1)) fr_refl)
  · replace h := ed_neg q6 h
    obtain ⟨Q2, hQ2, h⟩ := bd2_ed h
    obtain ⟨⟨x2, M2⟩, e2, h⟩ := h
    replace h := hQ2 _ _ h
    obtain ⟨g13, h⟩ := ed_gd h
    exact fr_ret h (fr_tr (fr_mono (by decide) (by decide +kernel) (f_MLineRows_isThirteen_fr e2)) fr_refl)
noncomputable def f_MLineRows_reverse_L2 (x2 : Int32) (M3 : im_M) : Option ((Int32 × im_M) ⊕ (im_M)) := if (im_i M3 96 10) ≤ x2 then some (.inr M3) else gd (inb (((im_i M3 96 10) - 1) - x2) 800) <| gd (inb x2 800) <| some (.inl ((x2 + 1), (im_setI M3 104 (Int32.toNatClampNeg x2) (im_i M3 103 (Int32.toNatClampNeg (((im_i M3 96 10) - 1) - x2))))))
noncomputable def f_MLineRows_reverse_L34 (x6 : Int32) (M7 : im_M) : Option ((Int32 × im_M) ⊕ (im_M)) := if (im_i M7 96 10) ≤ x6 then some (.inr M7) else gd (inb x6 800) <| gd (inb x6 800) <| some (.inl ((x6 + 1), (im_setI M7 103 (Int32.toNatClampNeg x6) (im_i M7 104 (Int32.toNatClampNeg x6)))))
noncomputable def f_MLineRows_reverse (M : im_M) : Option (im_M) := bd1 (lp (uc2 (f_MLineRows_reverse_L2)) (0, M)) fun (M4 : im_M) => bd1 (lp (uc2 (f_MLineRows_reverse_L34)) (0, M4)) fun (M8 : im_M) => some M8
theorem J_MLineRows_reverse_d0 : decode J_MLineRows_reverse.2.1 0 = .ok (.iconst 0, 1) := by decide +kernel
theorem J_MLineRows_reverse_d1 : decode J_MLineRows_reverse.2.1 1 = .ok (.istore_n 3, 1) := by decide +kernel
theorem J_MLineRows_reverse_d2 : decode J_MLineRows_reverse.2.1 2 = .ok (.iload_n 3, 1) := by decide +kernel
theorem J_MLineRows_reverse_d3 : decode J_MLineRows_reverse.2.1 3 = .ok (.aload_n 0, 1) := by decide +kernel
theorem J_MLineRows_reverse_d4 : decode J_MLineRows_reverse.2.1 4 = .ok (.getfield 202, 3) := by decide +kernel
theorem J_MLineRows_reverse_d7 : decode J_MLineRows_reverse.2.1 7 = .ok (.if_icmp .ge 25, 3) := by decide +kernel
theorem J_MLineRows_reverse_d10 : decode J_MLineRows_reverse.2.1 10 = .ok (.aload_n 0, 1) := by decide +kernel
theorem J_MLineRows_reverse_d11 : decode J_MLineRows_reverse.2.1 11 = .ok (.getfield 137, 3) := by decide +kernel
theorem J_MLineRows_reverse_d14 : decode J_MLineRows_reverse.2.1 14 = .ok (.iload_n 3, 1) := by decide +kernel
theorem J_MLineRows_reverse_d15 : decode J_MLineRows_reverse.2.1 15 = .ok (.aload_n 1, 1) := by decide +kernel
theorem J_MLineRows_reverse_d16 : decode J_MLineRows_reverse.2.1 16 = .ok (.aload_n 0, 1) := by decide +kernel
theorem J_MLineRows_reverse_d17 : decode J_MLineRows_reverse.2.1 17 = .ok (.getfield 202, 3) := by decide +kernel
theorem J_MLineRows_reverse_d20 : decode J_MLineRows_reverse.2.1 20 = .ok (.iconst 1, 1) := by decide +kernel
theorem J_MLineRows_reverse_d21 : decode J_MLineRows_reverse.2.1 21 = .ok (.isub, 1) := by decide +kernel
theorem J_MLineRows_reverse_d22 : decode J_MLineRows_reverse.2.1 22 = .ok (.iload_n 3, 1) := by decide +kernel
theorem J_MLineRows_reverse_d23 : decode J_MLineRows_reverse.2.1 23 = .ok (.isub, 1) := by decide +kernel
theorem J_MLineRows_reverse_d24 : decode J_MLineRows_reverse.2.1 24 = .ok (.iaload, 1) := by decide +kernel
theorem J_MLineRows_reverse_d25 : decode J_MLineRows_reverse.2.1 25 = .ok (.iastore, 1) := by decide +kernel
theorem J_MLineRows_reverse_d26 : decode J_MLineRows_reverse.2.1 26 = .ok (.iinc 3 1, 3) := by decide +kernel
theorem J_MLineRows_reverse_d29 : decode J_MLineRows_reverse.2.1 29 = .ok (.goto (-27), 3) := by decide +kernel
theorem J_MLineRows_reverse_d32 : decode J_MLineRows_reverse.2.1 32 = .ok (.iconst 0, 1) := by decide +kernel
theorem J_MLineRows_reverse_d33 : decode J_MLineRows_reverse.2.1 33 = .ok (.istore_n 3, 1) := by decide +kernel
theorem J_MLineRows_reverse_d34 : decode J_MLineRows_reverse.2.1 34 = .ok (.iload_n 3, 1) := by decide +kernel
theorem J_MLineRows_reverse_d35 : decode J_MLineRows_reverse.2.1 35 = .ok (.aload_n 0, 1) := by decide +kernel
theorem J_MLineRows_reverse_d36 : decode J_MLineRows_reverse.2.1 36 = .ok (.getfield 202, 3) := by decide +kernel
theorem J_MLineRows_reverse_d39 : decode J_MLineRows_reverse.2.1 39 = .ok (.if_icmp .ge 18, 3) := by decide +kernel
theorem J_MLineRows_reverse_d42 : decode J_MLineRows_reverse.2.1 42 = .ok (.aload_n 2, 1) := by decide +kernel
theorem J_MLineRows_reverse_d43 : decode J_MLineRows_reverse.2.1 43 = .ok (.iload_n 3, 1) := by decide +kernel
theorem J_MLineRows_reverse_d44 : decode J_MLineRows_reverse.2.1 44 = .ok (.aload_n 0, 1) := by decide +kernel
theorem J_MLineRows_reverse_d45 : decode J_MLineRows_reverse.2.1 45 = .ok (.getfield 137, 3) := by decide +kernel
theorem J_MLineRows_reverse_d48 : decode J_MLineRows_reverse.2.1 48 = .ok (.iload_n 3, 1) := by decide +kernel
theorem J_MLineRows_reverse_d49 : decode J_MLineRows_reverse.2.1 49 = .ok (.iaload, 1) := by decide +kernel
theorem J_MLineRows_reverse_d50 : decode J_MLineRows_reverse.2.1 50 = .ok (.iastore, 1) := by decide +kernel
theorem J_MLineRows_reverse_d51 : decode J_MLineRows_reverse.2.1 51 = .ok (.iinc 3 1, 3) := by decide +kernel
theorem J_MLineRows_reverse_d54 : decode J_MLineRows_reverse.2.1 54 = .ok (.goto (-20), 3) := by decide +kernel
theorem J_MLineRows_reverse_d57 : decode J_MLineRows_reverse.2.1 57 = .ok (.return_, 1) := by decide +kernel
theorem f_MLineRows_reverse_ok {L : Nat} {xs : Nat → Int32} {dep : Nat} {w : Bool} {M : im_M} {Q : im_M → Prop} (hM : lw_S w M) (h : ed (f_MLineRows_reverse M) Q) : ia (tb_G L xs) dep J_MLineRows_reverse (rwV w Q) (0, lv_args 0 [.ref 96, .ref 103, .ref 103], [], M) := by
  have hS : im_St (tb_G L xs) dep J_MLineRows_reverse (ia (tb_G L xs) dep J_MLineRows_reverse (rwV w Q)) := ia_St
  unfold f_MLineRows_reverse at h
  have l0 : im_lk (lv_args 0 [.ref 96, .ref 103, .ref 103]) 0 = some (.ref 96) := rfl
  have l1 : im_lk (lv_args 0 [.ref 96, .ref 103, .ref 103]) 1 = some (.ref 103) := rfl
  have l2 : im_lk (lv_args 0 [.ref 96, .ref 103, .ref 103]) 2 = some (.ref 103) := rfl
  refine iq_iconst hS 1 J_MLineRows_reverse_d0 (v := 0) (by decide +kernel) rfl ?_
  refine iq_istore_n hS 2 J_MLineRows_reverse_d1 (by decide) rfl ?_
  obtain ⟨Q1, hQ1, h⟩ := bd1_ed h
  have K1 : ∀ (M2 : im_M) (L' : List (Nat × Value)), lw_S w M2 → im_lk L' 0 = some (.ref 96) → im_lk L' 2 = some (.ref 103) → Q1 M2 → ia (tb_G L xs) dep J_MLineRows_reverse (rwV w Q) (32, L', [], M2) := by
    intro M2 L' hM2 l3 l4 h
    replace h := hQ1 _ h
    refine iq_iconst hS 33 J_MLineRows_reverse_d32 (v := 0) (by decide +kernel) rfl ?_
    refine iq_istore_n hS 34 J_MLineRows_reverse_d33 (by decide) rfl ?_
    obtain ⟨Q5, hQ5, h⟩ := bd1_ed h
    have K5 : ∀ (M6 : im_M) (L' : List (Nat × Value)), lw_S w M6 → Q5 M6 → ia (tb_G L xs) dep J_MLineRows_reverse (rwV w Q) (57, L', [], M6) := by
      intro M6 L' hM6  h
      replace h := hQ5 _ h
      exact iq_ret J_MLineRows_reverse_d57 rfl ⟨rfl, hM6, ed_some h⟩
    obtain ⟨r5, hr5, hq5⟩ := h
    obtain ⟨n5, hn5⟩ := lp_n hr5
    have I5 : ∀ (n : Nat) (x7 : Int32) (M8 : im_M) (L' : List (Nat × Value)), lw_S w M8 → im_lk L' 0 = some (.ref 96) → im_lk L' 2 = some (.ref 103) → im_lk L' 3 = some (.int x7) → lpn (uc2 (f_MLineRows_reverse_L34)) n (x7, M8) = some r5 → ia (tb_G L xs) dep J_MLineRows_reverse (rwV w Q) (34, L', [], M8) := by
      intro n
      induction n with
      | zero => intro x7 M8 L' hM8 l9 l10 l11 hn; exact (lpn_0 hn).elim
      | succ n ih =>
        intro x7 M8 L' hM8 l9 l10 l11 hn
        have h := lpn_ed2 hn
        unfold f_MLineRows_reverse_L34 at h
        refine iq_iload_n hS 35 J_MLineRows_reverse_d34 l11 rfl ?_
        refine iq_aload_n hS 36 J_MLineRows_reverse_d35 l9 rfl ?_
        refine iq_getI hS 39 J_MLineRows_reverse_d36 lf_13_202 (Or.inl rfl) (ka_96 hM8) rfl ?_
        refine iq_icmp_ge hS 42 J_MLineRows_reverse_d39 (t := 57) rfl (fun q39 => ?_) rfl (fun q39 => ?_)
        · replace h := ed_pos q39 h
          exact K5 _ _ hM8  (lq_r h hq5)
        · replace h := ed_neg q39 h
          refine iq_aload_n hS 43 J_MLineRows_reverse_d42 l10 rfl ?_
          refine iq_iload_n hS 44 J_MLineRows_reverse_d43 l11 rfl ?_
          refine iq_aload_n hS 45 J_MLineRows_reverse_d44 l9 rfl ?_
          refine iq_getR hS 48 J_MLineRows_reverse_d45 lf_13_137 (Or.inr ⟨_, rfl⟩) (ka_96 hM8) (ra_96_11 hM8) rfl ?_
          refine iq_iload_n hS 49 J_MLineRows_reverse_d48 l11 rfl ?_
          obtain ⟨g49, h⟩ := ed_gd h
          refine iq_iaload hS 50 J_MLineRows_reverse_d49 ⟨(ka_104 hM8).1, (ka_104 hM8).2, g49.1, ix_lt (kl_104 hM8) g49.2⟩ rfl ?_
          obtain ⟨g50, h⟩ := ed_gd h
          refine iq_iastore hS 51 J_MLineRows_reverse_d50 ⟨(ka_103 hM8).1, (ka_103 hM8).2, g50.1, ix_lt (kl_103 hM8) g50.2⟩ rfl ?_
          refine iq_iincv hS 54 J_MLineRows_reverse_d51 (c := 1) (by decide +kernel) l11 (by decide) rfl ?_
          refine iq_goto hS J_MLineRows_reverse_d54 (t := 34) rfl ?_
          exact ih _ _ _ (lw_sI hM8) (lk_1r l9 (by decide)) (lk_1r l10 (by decide)) lk_1s (lq_l h)
    exact I5 n5 _ _ _ hM2 (lk_1r l3 (by decide)) (lk_1r l4 (by decide)) lk_1s hn5
  obtain ⟨r1, hr1, hq1⟩ := h
  obtain ⟨n1, hn1⟩ := lp_n hr1
  have I1 : ∀ (n : Nat) (x12 : Int32) (M13 : im_M) (L' : List (Nat × Value)), lw_S w M13 → im_lk L' 0 = some (.ref 96) → im_lk L' 1 = some (.ref 103) → im_lk L' 2 = some (.ref 103) → im_lk L' 3 = some (.int x12) → lpn (uc2 (f_MLineRows_reverse_L2)) n (x12, M13) = some r1 → ia (tb_G L xs) dep J_MLineRows_reverse (rwV w Q) (2, L', [], M13) := by
    intro n
    induction n with
    | zero => intro x12 M13 L' hM13 l14 l15 l16 l17 hn; exact (lpn_0 hn).elim
    | succ n ih =>
      intro x12 M13 L' hM13 l14 l15 l16 l17 hn
      have h := lpn_ed2 hn
      unfold f_MLineRows_reverse_L2 at h
      refine iq_iload_n hS 3 J_MLineRows_reverse_d2 l17 rfl ?_
      refine iq_aload_n hS 4 J_MLineRows_reverse_d3 l14 rfl ?_
      refine iq_getI hS 7 J_MLineRows_reverse_d4 lf_13_202 (Or.inl rfl) (ka_96 hM13) rfl ?_
      refine iq_icmp_ge hS 10 J_MLineRows_reverse_d7 (t := 32) rfl (fun q7 => ?_) rfl (fun q7 => ?_)
      · replace h := ed_pos q7 h
        exact K1 _ _ hM13 l14 l16 (lq_r h hq1)
      · replace h := ed_neg q7 h
        refine iq_aload_n hS 11 J_MLineRows_reverse_d10 l14 rfl ?_
        refine iq_getR hS 14 J_MLineRows_reverse_d11 lf_13_137 (Or.inr ⟨_, rfl⟩) (ka_96 hM13) (ra_96_11 hM13) rfl ?_
        refine iq_iload_n hS 15 J_MLineRows_reverse_d14 l17 rfl ?_
        refine iq_aload_n hS 16 J_MLineRows_reverse_d15 l15 rfl ?_
        refine iq_aload_n hS 17 J_MLineRows_reverse_d16 l14 rfl ?_
        refine iq_getI hS 20 J_MLineRows_reverse_d17 lf_13_202 (Or.inl rfl) (ka_96 hM13) rfl ?_
        refine iq_iconst hS 21 J_MLineRows_reverse_d20 (v := 1) (by decide +kernel) rfl ?_
        refine iq_isub hS 22 J_MLineRows_reverse_d21 rfl ?_
        refine iq_iload_n hS 23 J_MLineRows_reverse_d22 l17 rfl ?_
        refine iq_isub hS 24 J_MLineRows_reverse_d23 rfl ?_
        obtain ⟨g24, h⟩ := ed_gd h
        refine iq_iaload hS 25 J_MLineRows_reverse_d24 ⟨(ka_103 hM13).1, (ka_103 hM13).2, g24.1, ix_lt (kl_103 hM13) g24.2⟩ rfl ?_
        obtain ⟨g25, h⟩ := ed_gd h
        refine iq_iastore hS 26 J_MLineRows_reverse_d25 ⟨(ka_104 hM13).1, (ka_104 hM13).2, g25.1, ix_lt (kl_104 hM13) g25.2⟩ rfl ?_
        refine iq_iincv hS 29 J_MLineRows_reverse_d26 (c := 1) (by decide +kernel) l17 (by decide) rfl ?_
        refine iq_goto hS J_MLineRows_reverse_d29 (t := 2) rfl ?_
        exact ih _ _ _ (lw_sI hM13) (lk_1r l14 (by decide)) (lk_1r l15 (by decide)) (lk_1r l16 (by decide)) lk_1s (lq_l h)
  exact I1 n1 _ _ _ hM (lk_1r l0 (by decide)) (lk_1r l1 (by decide)) (lk_1r l2 (by decide)) lk_1s hn1
theorem f_MLineRows_reverse_fr {M : im_M} {r : im_M} (h : f_MLineRows_reverse M = some r) : fr 30423614405477505635920876929024 [] M r := by
  replace h : ed (f_MLineRows_reverse M) (fun x => x = r) := ⟨r, h, rfl⟩
  unfold f_MLineRows_reverse at h
  obtain ⟨Q1, hQ1, h⟩ := bd1_ed h
  have K1 : ∀ (M2 : im_M), fr 30423614405477505635920876929024 [] M M2 → Q1 M2 → fr 30423614405477505635920876929024 [] M r := by
    intro M2 hM2 h
    replace h := hQ1 _ h
    obtain ⟨Q3, hQ3, h⟩ := bd1_ed h
    have K3 : ∀ (M4 : im_M), fr 30423614405477505635920876929024 [] M M4 → Q3 M4 → fr 30423614405477505635920876929024 [] M r := by
      intro M4 hM4 h
      replace h := hQ3 _ h
      exact fr_retV h hM4
    obtain ⟨r3, hr3, hq3⟩ := h
    obtain ⟨n3, hn3⟩ := lp_n hr3
    have I3 : ∀ (n : Nat) (x5 : Int32) (M6 : im_M), fr 30423614405477505635920876929024 [] M M6 → lpn (uc2 (f_MLineRows_reverse_L34)) n (x5, M6) = some r3 → fr 30423614405477505635920876929024 [] M r := by
      intro n
      induction n with
      | zero => intro x5 M6 hM6 hn; exact (lpn_0 hn).elim
      | succ n ih =>
        intro x5 M6 hM6 hn
        have h := lpn_ed2 hn
        unfold f_MLineRows_reverse_L34 at h
        by_cases q39 : (im_i M6 96 10) ≤ x5
        · replace h := ed_pos q39 h
          exact K3 _ hM6 (lq_r h hq3)
        · replace h := ed_neg q39 h
          obtain ⟨g49, h⟩ := ed_gd h
          obtain ⟨g50, h⟩ := ed_gd h
          exact ih _ _ (fr_I (by decide) hM6) (lq_l h)
    exact I3 n3 _ _ hM2 hn3
  obtain ⟨r1, hr1, hq1⟩ := h
  obtain ⟨n1, hn1⟩ := lp_n hr1
  have I1 : ∀ (n : Nat) (x7 : Int32) (M8 : im_M), fr 30423614405477505635920876929024 [] M M8 → lpn (uc2 (f_MLineRows_reverse_L2)) n (x7, M8) = some r1 → fr 30423614405477505635920876929024 [] M r := by
    intro n
    induction n with
    | zero => intro x7 M8 hM8 hn; exact (lpn_0 hn).elim
    | succ n ih =>
      intro x7 M8 hM8 hn
      have h := lpn_ed2 hn
      unfold f_MLineRows_reverse_L2 at h
      by_cases q7 : (im_i M8 96 10) ≤ x7
      · replace h := ed_pos q7 h
        exact K1 _ hM8 (lq_r h hq1)
      · replace h := ed_neg q7 h
        obtain ⟨g24, h⟩ := ed_gd h
        obtain ⟨g25, h⟩ := ed_gd h
        exact ih _ _ (fr_I (by decide) hM8) (lq_l h)
  exact I1 n1 _ _ fr_refl hn1
noncomputable def f_MLineRows_read_L67 (x14 : Int32) (M15 : im_M) : Option ((Int32 × im_M) ⊕ (im_M)) := if (im_i M15 96 17) ≤ x14 then some (.inr M15) else gd (inb x14 300) <| gd (inb x14 300) <| some (.inl ((x14 + 1), (im_setI M15 106 (Int32.toNatClampNeg x14) (im_i M15 107 (Int32.toNatClampNeg x14)))))
noncomputable def f_MLineRows_read (M : im_M) : Option (Int32 × im_M) := bd2 (f_MLineRows_isSome (im_setI M 96 3 0)) fun (x1 : Int32) (M1 : im_M) => bd2 (if ¬ x1 = 0 then some (0, M1) else bd1 (f_MLineRows_reverse M1) fun (M3 : im_M) => bd2 (f_MLineRows_isSome M3) fun (x4 : Int32) (M4 : im_M) => bd1 (f_MLineRows_reverse M4) fun (M5 : im_M) => some (x4, M5)) fun (y6 : Int32) (M7 : im_M) => gd (y6 = 0 ∨ y6 = 1) <| jn0 (fun (_ : Unit) => bd1 (lp (uc2 (f_MLineRows_read_L67)) (0, (im_setI (im_setI M7 96 15 y6) 96 14 0))) fun (M16 : im_M) => some ((im_i (im_setI M16 96 14 (im_i M16 96 17)) 96 14), (im_setI M16 96 14 (im_i M16 96 17)))) fun k11 => if ¬ x1 = 0 then k11 () else if ¬ y6 = 0 then k11 () else some ((-1), (im_setI (im_setI M7 96 15 y6) 96 14 0))
theorem J_MLineRows_read_d0 : decode J_MLineRows_read.2.1 0 = .ok (.aload_n 0, 1) := by decide +kernel
theorem J_MLineRows_read_d1 : decode J_MLineRows_read.2.1 1 = .ok (.iconst 0, 1) := by decide +kernel
theorem J_MLineRows_read_d2 : decode J_MLineRows_read.2.1 2 = .ok (.putfield 149, 3) := by decide +kernel
theorem J_MLineRows_read_d5 : decode J_MLineRows_read.2.1 5 = .ok (.aload_n 0, 1) := by decide +kernel
theorem J_MLineRows_read_d6 : decode J_MLineRows_read.2.1 6 = .ok (.invokevirtual 263, 3) := by decide +kernel
theorem J_MLineRows_read_d9 : decode J_MLineRows_read.2.1 9 = .ok (.istore_n 1, 1) := by decide +kernel
theorem J_MLineRows_read_d10 : decode J_MLineRows_read.2.1 10 = .ok (.iconst 0, 1) := by decide +kernel
theorem J_MLineRows_read_d11 : decode J_MLineRows_read.2.1 11 = .ok (.istore_n 2, 1) := by decide +kernel
theorem J_MLineRows_read_d12 : decode J_MLineRows_read.2.1 12 = .ok (.iload_n 1, 1) := by decide +kernel
theorem J_MLineRows_read_d13 : decode J_MLineRows_read.2.1 13 = .ok (.ifCond .ne 32, 3) := by decide +kernel
theorem J_MLineRows_read_d16 : decode J_MLineRows_read.2.1 16 = .ok (.aload_n 0, 1) := by decide +kernel
theorem J_MLineRows_read_d17 : decode J_MLineRows_read.2.1 17 = .ok (.aload_n 0, 1) := by decide +kernel
theorem J_MLineRows_read_d18 : decode J_MLineRows_read.2.1 18 = .ok (.getfield 134, 3) := by decide +kernel
theorem J_MLineRows_read_d21 : decode J_MLineRows_read.2.1 21 = .ok (.aload_n 0, 1) := by decide +kernel
theorem J_MLineRows_read_d22 : decode J_MLineRows_read.2.1 22 = .ok (.getfield 134, 3) := by decide +kernel
theorem J_MLineRows_read_d25 : decode J_MLineRows_read.2.1 25 = .ok (.invokevirtual 236, 3) := by decide +kernel
theorem J_MLineRows_read_d28 : decode J_MLineRows_read.2.1 28 = .ok (.aload_n 0, 1) := by decide +kernel
theorem J_MLineRows_read_d29 : decode J_MLineRows_read.2.1 29 = .ok (.invokevirtual 263, 3) := by decide +kernel
theorem J_MLineRows_read_d32 : decode J_MLineRows_read.2.1 32 = .ok (.istore_n 2, 1) := by decide +kernel
theorem J_MLineRows_read_d33 : decode J_MLineRows_read.2.1 33 = .ok (.aload_n 0, 1) := by decide +kernel
theorem J_MLineRows_read_d34 : decode J_MLineRows_read.2.1 34 = .ok (.aload_n 0, 1) := by decide +kernel
theorem J_MLineRows_read_d35 : decode J_MLineRows_read.2.1 35 = .ok (.getfield 134, 3) := by decide +kernel
theorem J_MLineRows_read_d38 : decode J_MLineRows_read.2.1 38 = .ok (.aload_n 0, 1) := by decide +kernel
theorem J_MLineRows_read_d39 : decode J_MLineRows_read.2.1 39 = .ok (.getfield 134, 3) := by decide +kernel
theorem J_MLineRows_read_d42 : decode J_MLineRows_read.2.1 42 = .ok (.invokevirtual 236, 3) := by decide +kernel
theorem J_MLineRows_read_d45 : decode J_MLineRows_read.2.1 45 = .ok (.aload_n 0, 1) := by decide +kernel
theorem J_MLineRows_read_d46 : decode J_MLineRows_read.2.1 46 = .ok (.iload_n 2, 1) := by decide +kernel
theorem J_MLineRows_read_d47 : decode J_MLineRows_read.2.1 47 = .ok (.putfield 266, 3) := by decide +kernel
theorem J_MLineRows_read_d50 : decode J_MLineRows_read.2.1 50 = .ok (.aload_n 0, 1) := by decide +kernel
theorem J_MLineRows_read_d51 : decode J_MLineRows_read.2.1 51 = .ok (.iconst 0, 1) := by decide +kernel
theorem J_MLineRows_read_d52 : decode J_MLineRows_read.2.1 52 = .ok (.putfield 270, 3) := by decide +kernel
theorem J_MLineRows_read_d55 : decode J_MLineRows_read.2.1 55 = .ok (.iload_n 1, 1) := by decide +kernel
theorem J_MLineRows_read_d56 : decode J_MLineRows_read.2.1 56 = .ok (.ifCond .ne 9, 3) := by decide +kernel
theorem J_MLineRows_read_d59 : decode J_MLineRows_read.2.1 59 = .ok (.iload_n 2, 1) := by decide +kernel
theorem J_MLineRows_read_d60 : decode J_MLineRows_read.2.1 60 = .ok (.ifCond .ne 5, 3) := by decide +kernel
theorem J_MLineRows_read_d63 : decode J_MLineRows_read.2.1 63 = .ok (.iconst (-1), 1) := by decide +kernel
theorem J_MLineRows_read_d64 : decode J_MLineRows_read.2.1 64 = .ok (.ireturn, 1) := by decide +kernel
theorem J_MLineRows_read_d65 : decode J_MLineRows_read.2.1 65 = .ok (.iconst 0, 1) := by decide +kernel
theorem J_MLineRows_read_d66 : decode J_MLineRows_read.2.1 66 = .ok (.istore_n 3, 1) := by decide +kernel
theorem J_MLineRows_read_d67 : decode J_MLineRows_read.2.1 67 = .ok (.iload_n 3, 1) := by decide +kernel
theorem J_MLineRows_read_d68 : decode J_MLineRows_read.2.1 68 = .ok (.aload_n 0, 1) := by decide +kernel
theorem J_MLineRows_read_d69 : decode J_MLineRows_read.2.1 69 = .ok (.getfield 250, 3) := by decide +kernel
theorem J_MLineRows_read_d72 : decode J_MLineRows_read.2.1 72 = .ok (.if_icmp .ge 21, 3) := by decide +kernel
theorem J_MLineRows_read_d75 : decode J_MLineRows_read.2.1 75 = .ok (.aload_n 0, 1) := by decide +kernel
theorem J_MLineRows_read_d76 : decode J_MLineRows_read.2.1 76 = .ok (.getfield 143, 3) := by decide +kernel
theorem J_MLineRows_read_d79 : decode J_MLineRows_read.2.1 79 = .ok (.iload_n 3, 1) := by decide +kernel
theorem J_MLineRows_read_d80 : decode J_MLineRows_read.2.1 80 = .ok (.aload_n 0, 1) := by decide +kernel
theorem J_MLineRows_read_d81 : decode J_MLineRows_read.2.1 81 = .ok (.getfield 146, 3) := by decide +kernel
theorem J_MLineRows_read_d84 : decode J_MLineRows_read.2.1 84 = .ok (.iload_n 3, 1) := by decide +kernel
theorem J_MLineRows_read_d85 : decode J_MLineRows_read.2.1 85 = .ok (.iaload, 1) := by decide +kernel
theorem J_MLineRows_read_d86 : decode J_MLineRows_read.2.1 86 = .ok (.iastore, 1) := by decide +kernel
theorem J_MLineRows_read_d87 : decode J_MLineRows_read.2.1 87 = .ok (.iinc 3 1, 3) := by decide +kernel
theorem J_MLineRows_read_d90 : decode J_MLineRows_read.2.1 90 = .ok (.goto (-23), 3) := by decide +kernel
theorem J_MLineRows_read_d93 : decode J_MLineRows_read.2.1 93 = .ok (.aload_n 0, 1) := by decide +kernel
theorem J_MLineRows_read_d94 : decode J_MLineRows_read.2.1 94 = .ok (.aload_n 0, 1) := by decide +kernel
theorem J_MLineRows_read_d95 : decode J_MLineRows_read.2.1 95 = .ok (.getfield 250, 3) := by decide +kernel
theorem J_MLineRows_read_d98 : decode J_MLineRows_read.2.1 98 = .ok (.putfield 270, 3) := by decide +kernel
theorem J_MLineRows_read_d101 : decode J_MLineRows_read.2.1 101 = .ok (.aload_n 0, 1) := by decide +kernel
theorem J_MLineRows_read_d102 : decode J_MLineRows_read.2.1 102 = .ok (.getfield 270, 3) := by decide +kernel
theorem J_MLineRows_read_d105 : decode J_MLineRows_read.2.1 105 = .ok (.ireturn, 1) := by decide +kernel
theorem f_MLineRows_read_ok {L : Nat} {xs : Nat → Int32} {dep : Nat} {w : Bool} {M : im_M} {Q : Int32 × im_M → Prop} (hM : lw_S w M) (h : ed (f_MLineRows_read M) Q) : ia (tb_G L xs) (dep + 3) J_MLineRows_read (rwI w Q) (0, lv_args 0 [.ref 96], [], M) := by
  have hS : im_St (tb_G L xs) (dep + 3) J_MLineRows_read (ia (tb_G L xs) (dep + 3) J_MLineRows_read (rwI w Q)) := ia_St
  unfold f_MLineRows_read at h
  have l0 : im_lk (lv_args 0 [.ref 96]) 0 = some (.ref 96) := rfl
  refine iq_aload_n hS 1 J_MLineRows_read_d0 l0 rfl ?_
  refine iq_iconst hS 2 J_MLineRows_read_d1 (v := 0) (by decide +kernel) rfl ?_
  refine iq_putI hS 5 J_MLineRows_read_d2 lf_13_149 (Or.inl rfl) rfl (ka_96 hM) rfl ?_
  refine iq_aload_n hS 6 J_MLineRows_read_d5 l0 rfl ?_
  obtain ⟨Q1, hQ1, h⟩ := bd2_ed h
  refine iq_cwI hS 9 J_MLineRows_read_d6 rfl (pr_inst (vs := []) lc_13_263 lT_512 rfl rfl (by decide) (by decide) rfl (Nat.le_of_ble_eq_true rfl) (Nat.le_of_ble_eq_true rfl) (fun _ => Or.inl (pr_b (ka_96 (lw_sI hM)) (by decide) rfl))) (f_MLineRows_isSome_ok (dep := dep + 0) (lw_sI hM) h) rfl ?_
  intro x1 M1 hM1 h
  replace h := hQ1 _ _ h
  refine iq_istore_n hS 10 J_MLineRows_read_d9 (by decide) rfl ?_
  refine iq_iconst hS 11 J_MLineRows_read_d10 (v := 0) (by decide +kernel) rfl ?_
  refine iq_istore_n hS 12 J_MLineRows_read_d11 (by decide) rfl ?_
  refine iq_iload_n hS 13 J_MLineRows_read_d12 (lk_1i lk_1s (by decide)) rfl ?_
  obtain ⟨Q2, hQ2, h⟩ := bd2_ed h
  have J2 : ∀ (y6 : Int32) (M7 : im_M) (L' : List (Nat × Value)), lw_S w M7 → im_lk L' 0 = some (.ref 96) → im_lk L' 1 = some (.int x1) → im_lk L' 2 = some (.int y6) → Q2 (y6, M7) → ia (tb_G L xs) (dep + 3) J_MLineRows_read (rwI w Q) (45, L', [], M7) := by
    intro y6 M7 L' hM7 l8 l9 l10 h
    replace h := hQ2 _ _ h
    refine iq_aload_n hS 46 J_MLineRows_read_d45 l8 rfl ?_
    refine iq_iload_n hS 47 J_MLineRows_read_d46 l10 rfl ?_
    obtain ⟨g47, h⟩ := ed_gd h
    refine iq_putZ hS 50 J_MLineRows_read_d47 lf_13_266 (Or.inl rfl) rfl (ka_96 hM7) g47 rfl ?_
    refine iq_aload_n hS 51 J_MLineRows_read_d50 l8 rfl ?_
    refine iq_iconst hS 52 J_MLineRows_read_d51 (v := 0) (by decide +kernel) rfl ?_
    refine iq_putI hS 55 J_MLineRows_read_d52 lf_13_270 (Or.inl rfl) rfl (ka_96 (lw_sI hM7)) rfl ?_
    refine iq_iload_n hS 56 J_MLineRows_read_d55 l9 rfl ?_
    obtain ⟨k11, Q11, hQ11, hk11, h⟩ := jn0_ed h
    have J11 : ∀  (L' : List (Nat × Value)), im_lk L' 0 = some (.ref 96) → Q11 () → ia (tb_G L xs) (dep + 3) J_MLineRows_read (rwI w Q) (65, L', [], (im_setI (im_setI M7 96 15 y6) 96 14 0)) := by
      intro  L' l12 h
      replace h := hQ11  h
      refine iq_iconst hS 66 J_MLineRows_read_d65 (v := 0) (by decide +kernel) rfl ?_
      refine iq_istore_n hS 67 J_MLineRows_read_d66 (by decide) rfl ?_
      obtain ⟨Q13, hQ13, h⟩ := bd1_ed h
      have K13 : ∀ (M14 : im_M) (L' : List (Nat × Value)), lw_S w M14 → im_lk L' 0 = some (.ref 96) → Q13 M14 → ia (tb_G L xs) (dep + 3) J_MLineRows_read (rwI w Q) (93, L', [], M14) := by
        intro M14 L' hM14 l15 h
        replace h := hQ13 _ h
        refine iq_aload_n hS 94 J_MLineRows_read_d93 l15 rfl ?_
        refine iq_aload_n hS 95 J_MLineRows_read_d94 l15 rfl ?_
        refine iq_getI hS 98 J_MLineRows_read_d95 lf_13_250 (Or.inl rfl) (ka_96 hM14) rfl ?_
        refine iq_putI hS 101 J_MLineRows_read_d98 lf_13_270 (Or.inl rfl) rfl (ka_96 hM14) rfl ?_
        refine iq_aload_n hS 102 J_MLineRows_read_d101 l15 rfl ?_
        refine iq_getI hS 105 J_MLineRows_read_d102 lf_13_270 (Or.inl rfl) (ka_96 (lw_sI hM14)) rfl ?_
        exact iq_iret J_MLineRows_read_d105 rfl rfl ⟨_, rfl, (lw_sI hM14), ed_some h⟩
      obtain ⟨r13, hr13, hq13⟩ := h
      obtain ⟨n13, hn13⟩ := lp_n hr13
      have I13 : ∀ (n : Nat) (x16 : Int32) (M17 : im_M) (L' : List (Nat × Value)), lw_S w M17 → im_lk L' 0 = some (.ref 96) → im_lk L' 3 = some (.int x16) → lpn (uc2 (f_MLineRows_read_L67)) n (x16, M17) = some r13 → ia (tb_G L xs) (dep + 3) J_MLineRows_read (rwI w Q) (67, L', [], M17) := by
        intro n
        induction n with
        | zero => intro x16 M17 L' hM17 l18 l19 hn; exact (lpn_0 hn).elim
        | succ n ih =>
          intro x16 M17 L' hM17 l18 l19 hn
          have h := lpn_ed2 hn
          unfold f_MLineRows_read_L67 at h
          refine iq_iload_n hS 68 J_MLineRows_read_d67 l19 rfl ?_
          refine iq_aload_n hS 69 J_MLineRows_read_d68 l18 rfl ?_
          refine iq_getI hS 72 J_MLineRows_read_d69 lf_13_250 (Or.inl rfl) (ka_96 hM17) rfl ?_
          refine iq_icmp_ge hS 75 J_MLineRows_read_d72 (t := 93) rfl (fun q72 => ?_) rfl (fun q72 => ?_)
          · replace h := ed_pos q72 h
            exact K13 _ _ hM17 l18 (lq_r h hq13)
          · replace h := ed_neg q72 h
            refine iq_aload_n hS 76 J_MLineRows_read_d75 l18 rfl ?_
            refine iq_getR hS 79 J_MLineRows_read_d76 lf_13_143 (Or.inr ⟨_, rfl⟩) (ka_96 hM17) (ra_96_13 hM17) rfl ?_
            refine iq_iload_n hS 80 J_MLineRows_read_d79 l19 rfl ?_
            refine iq_aload_n hS 81 J_MLineRows_read_d80 l18 rfl ?_
            refine iq_getR hS 84 J_MLineRows_read_d81 lf_13_146 (Or.inr ⟨_, rfl⟩) (ka_96 hM17) (ra_96_16 hM17) rfl ?_
            refine iq_iload_n hS 85 J_MLineRows_read_d84 l19 rfl ?_
            obtain ⟨g85, h⟩ := ed_gd h
            refine iq_iaload hS 86 J_MLineRows_read_d85 ⟨(ka_107 hM17).1, (ka_107 hM17).2, g85.1, ix_lt (kl_107 hM17) g85.2⟩ rfl ?_
            obtain ⟨g86, h⟩ := ed_gd h
            refine iq_iastore hS 87 J_MLineRows_read_d86 ⟨(ka_106 hM17).1, (ka_106 hM17).2, g86.1, ix_lt (kl_106 hM17) g86.2⟩ rfl ?_
            refine iq_iincv hS 90 J_MLineRows_read_d87 (c := 1) (by decide +kernel) l19 (by decide) rfl ?_
            refine iq_goto hS J_MLineRows_read_d90 (t := 67) rfl ?_
            exact ih _ _ _ (lw_sI hM17) (lk_1r l18 (by decide)) lk_1s (lq_l h)
      exact I13 n13 _ _ _ (lw_sI (lw_sI hM7)) (lk_1r l12 (by decide)) lk_1s hn13
    refine iq_if_ne hS 59 J_MLineRows_read_d56 (t := 65) rfl (fun q56 => ?_) rfl (fun q56 => ?_)
    · replace h := ed_pos q56 h
      exact J11  _ l8 (hk11  h)
    · replace h := ed_neg q56 h
      refine iq_iload_n hS 60 J_MLineRows_read_d59 l10 rfl ?_
      refine iq_if_ne hS 63 J_MLineRows_read_d60 (t := 65) rfl (fun q60 => ?_) rfl (fun q60 => ?_)
      · replace h := ed_pos q60 h
        exact J11  _ l8 (hk11  h)
      · replace h := ed_neg q60 h
        refine iq_iconst hS 64 J_MLineRows_read_d63 (v := (-1)) (by decide +kernel) rfl ?_
        exact iq_iret J_MLineRows_read_d64 rfl rfl ⟨_, rfl, (lw_sI (lw_sI hM7)), ed_some h⟩
  refine iq_if_ne hS 16 J_MLineRows_read_d13 (t := 45) rfl (fun q13 => ?_) rfl (fun q13 => ?_)
  · replace h := ed_pos q13 h
    exact J2 _ _ _ hM1 (lk_1r (lk_1r l0 (by decide)) (by decide)) (lk_1i lk_1s (by decide)) lk_1s (ed_some h)
  · replace h := ed_neg q13 h
    refine iq_aload_n hS 17 J_MLineRows_read_d16 (lk_1r (lk_1r l0 (by decide)) (by decide)) rfl ?_
    refine iq_aload_n hS 18 J_MLineRows_read_d17 (lk_1r (lk_1r l0 (by decide)) (by decide)) rfl ?_
    refine iq_getR hS 21 J_MLineRows_read_d18 lf_13_134 (Or.inr ⟨_, rfl⟩) (ka_96 hM1) (ra_96_9 hM1) rfl ?_
    refine iq_aload_n hS 22 J_MLineRows_read_d21 (lk_1r (lk_1r l0 (by decide)) (by decide)) rfl ?_
    refine iq_getR hS 25 J_MLineRows_read_d22 lf_13_134 (Or.inr ⟨_, rfl⟩) (ka_96 hM1) (ra_96_9 hM1) rfl ?_
    obtain ⟨Q3, hQ3, h⟩ := bd1_ed h
    refine iq_cwV hS 28 J_MLineRows_read_d25 rfl (pr_inst (vs := [_, _]) lc_13_236 lT_519 rfl rfl (by decide) (by decide) rfl (Nat.le_of_ble_eq_true rfl) (Nat.le_of_ble_eq_true rfl) (fun _ => Or.inl (pr_b (ka_96 hM1) (by decide) rfl))) (f_MLineRows_reverse_ok (dep := dep + 2) hM1 h) rfl ?_
    intro M3 hM3 h
    replace h := hQ3 _ h
    refine iq_aload_n hS 29 J_MLineRows_read_d28 (lk_1r (lk_1r l0 (by decide)) (by decide)) rfl ?_
    obtain ⟨Q4, hQ4, h⟩ := bd2_ed h
    refine iq_cwI hS 32 J_MLineRows_read_d29 rfl (pr_inst (vs := []) lc_13_263 lT_512 rfl rfl (by decide) (by decide) rfl (Nat.le_of_ble_eq_true rfl) (Nat.le_of_ble_eq_true rfl) (fun _ => Or.inl (pr_b (ka_96 hM3) (by decide) rfl))) (f_MLineRows_isSome_ok (dep := dep + 0) hM3 h) rfl ?_
    intro x4 M4 hM4 h
    replace h := hQ4 _ _ h
    refine iq_istore_n hS 33 J_MLineRows_read_d32 (by decide) rfl ?_
    refine iq_aload_n hS 34 J_MLineRows_read_d33 (lk_1r (lk_1r (lk_1r l0 (by decide)) (by decide)) (by decide)) rfl ?_
    refine iq_aload_n hS 35 J_MLineRows_read_d34 (lk_1r (lk_1r (lk_1r l0 (by decide)) (by decide)) (by decide)) rfl ?_
    refine iq_getR hS 38 J_MLineRows_read_d35 lf_13_134 (Or.inr ⟨_, rfl⟩) (ka_96 hM4) (ra_96_9 hM4) rfl ?_
    refine iq_aload_n hS 39 J_MLineRows_read_d38 (lk_1r (lk_1r (lk_1r l0 (by decide)) (by decide)) (by decide)) rfl ?_
    refine iq_getR hS 42 J_MLineRows_read_d39 lf_13_134 (Or.inr ⟨_, rfl⟩) (ka_96 hM4) (ra_96_9 hM4) rfl ?_
    obtain ⟨Q5, hQ5, h⟩ := bd1_ed h
    refine iq_cwV hS 45 J_MLineRows_read_d42 rfl (pr_inst (vs := [_, _]) lc_13_236 lT_519 rfl rfl (by decide) (by decide) rfl (Nat.le_of_ble_eq_true rfl) (Nat.le_of_ble_eq_true rfl) (fun _ => Or.inl (pr_b (ka_96 hM4) (by decide) rfl))) (f_MLineRows_reverse_ok (dep := dep + 2) hM4 h) rfl ?_
    intro M5 hM5 h
    replace h := hQ5 _ h
    exact J2 _ _ _ hM5 (lk_1r (lk_1r (lk_1r l0 (by decide)) (by decide)) (by decide)) (lk_1i (lk_1i lk_1s (by decide)) (by decide)) lk_1s (ed_some h)
theorem f_MLineRows_read_fr {M : im_M} {r : Int32 × im_M} (h : f_MLineRows_read M = some r) : fr 314377348856600891571182394933248 [(96, 3), (96, 14), (96, 15), (96, 17)] M r.2 := by
  replace h : ed (f_MLineRows_read M) (fun x => x = r) := ⟨r, h, rfl⟩
  unfold f_MLineRows_read at h
  obtain ⟨Q1, hQ1, h⟩ := bd2_ed h
  obtain ⟨⟨x1, M1⟩, e1, h⟩ := h
  replace h := hQ1 _ _ h
  obtain ⟨Q2, hQ2, h⟩ := bd2_ed h
  have J2 : ∀ (y6 : Int32) (M7 : im_M), fr 314377348856600891571182394933248 [(96, 3), (96, 14), (96, 15), (96, 17)] M M7 → Q2 (y6, M7) → fr 314377348856600891571182394933248 [(96, 3), (96, 14), (96, 15), (96, 17)] M r.2 := by
    intro y6 M7 hM7 h
    replace h := hQ2 _ _ h
    obtain ⟨g47, h⟩ := ed_gd h
    obtain ⟨k11, Q11, hQ11, hk11, h⟩ := jn0_ed h
    have J11 : Q11 () → fr 314377348856600891571182394933248 [(96, 3), (96, 14), (96, 15), (96, 17)] M r.2 := by
      intro  h
      replace h := hQ11  h
      obtain ⟨Q13, hQ13, h⟩ := bd1_ed h
      have K13 : ∀ (M14 : im_M), fr 314377348856600891571182394933248 [(96, 3), (96, 14), (96, 15), (96, 17)] M M14 → Q13 M14 → fr 314377348856600891571182394933248 [(96, 3), (96, 14), (96, 15), (96, 17)] M r.2 := by
        intro M14 hM14 h
        replace h := hQ13 _ h
        exact fr_ret h (fr_F (by decide) hM14)
      obtain ⟨r13, hr13, hq13⟩ := h
      obtain ⟨n13, hn13⟩ := lp_n hr13
      have I13 : ∀ (n : Nat) (x15 : Int32) (M16 : im_M), fr 314377348856600891571182394933248 [(96, 3), (96, 14), (96, 15), (96, 17)] M M16 → lpn (uc2 (f_MLineRows_read_L67)) n (x15, M16) = some r13 → fr 314377348856600891571182394933248 [(96, 3), (96, 14), (96, 15), (96, 17)] M r.2 := by
        intro n
        induction n with
        | zero => intro x15 M16 hM16 hn; exact (lpn_0 hn).elim
        | succ n ih =>
          intro x15 M16 hM16 hn
          have h := lpn_ed2 hn
          unfold f_MLineRows_read_L67 at h
          by_cases q72 : (im_i M16 96 17) ≤ x15
          · replace h := ed_pos q72 h
            exact K13 _ hM16 (lq_r h hq13)
          · replace h := ed_neg q72 h
            obtain ⟨g85, h⟩ := ed_gd h
            obtain ⟨g86, h⟩ := ed_gd h
            exact ih _ _ (fr_I (by decide) hM16) (lq_l h)
      exact I13 n13 _ _ (fr_F (by decide) (fr_F (by decide) hM7)) hn13
    by_cases q56 : ¬ x1 = 0
    · replace h := ed_pos q56 h
      exact J11  (hk11  h)
    · replace h := ed_neg q56 h
      by_cases q60 : ¬ y6 = 0
      · replace h := ed_pos q60 h
        exact J11  (hk11  h)
      · replace h := ed_neg q60 h
        exact fr_ret h (fr_F (by decide) (fr_F (by decide) hM7))
  by_cases q13 : ¬ x1 = 0
  · replace h := ed_pos q13 h
    exact J2 _ _ (fr_tr (fr_mono (by decide) (by decide +kernel) (f_MLineRows_isSome_fr e1)) (fr_F (by decide) fr_refl)) (ed_some h)
  · replace h := ed_neg q13 h
    obtain ⟨Q3, hQ3, h⟩ := bd1_ed h
    obtain ⟨M3, e3, h⟩ := h
    replace h := hQ3 _ h
    obtain ⟨Q4, hQ4, h⟩ := bd2_ed h
    obtain ⟨⟨x4, M4⟩, e4, h⟩ := h
    replace h := hQ4 _ _ h
    obtain ⟨Q5, hQ5, h⟩ := bd1_ed h
    obtain ⟨M5, e5, h⟩ := h
    replace h := hQ5 _ h
    exact J2 _ _ (fr_tr (fr_mono (by decide) (by decide +kernel) (f_MLineRows_reverse_fr e5)) (fr_tr (fr_mono (by decide) (by decide +kernel) (f_MLineRows_isSome_fr e4)) (fr_tr (fr_mono (by decide) (by decide +kernel) (f_MLineRows_reverse_fr e3)) (fr_tr (fr_mono (by decide) (by decide +kernel) (f_MLineRows_isSome_fr e1)) (fr_F (by decide) fr_refl))))) (ed_some h)
noncomputable def f_MLineRows_sign (p0 : Int32) (M : im_M) : Option (Int32 × im_M) := jn0 (fun (_ : Unit) => some ((-1), (im_setI M 96 3 0))) fun k1 => if p0 < 0 then k1 () else if p0 < (im_i (im_setI M 96 3 0) 96 14) then gd (inb p0 300) <| some ((im_i (im_setI M 96 3 0) 106 (Int32.toNatClampNeg p0)), (im_setI M 96 3 0)) else k1 ()
theorem J_MLineRows_sign_d0 : decode J_MLineRows_sign.2.1 0 = .ok (.aload_n 0, 1) := by decide +kernel
theorem J_MLineRows_sign_d1 : decode J_MLineRows_sign.2.1 1 = .ok (.iconst 0, 1) := by decide +kernel
theorem J_MLineRows_sign_d2 : decode J_MLineRows_sign.2.1 2 = .ok (.putfield 149, 3) := by decide +kernel
theorem J_MLineRows_sign_d5 : decode J_MLineRows_sign.2.1 5 = .ok (.iload_n 1, 1) := by decide +kernel
theorem J_MLineRows_sign_d6 : decode J_MLineRows_sign.2.1 6 = .ok (.ifCond .lt 11, 3) := by decide +kernel
theorem J_MLineRows_sign_d9 : decode J_MLineRows_sign.2.1 9 = .ok (.iload_n 1, 1) := by decide +kernel
theorem J_MLineRows_sign_d10 : decode J_MLineRows_sign.2.1 10 = .ok (.aload_n 0, 1) := by decide +kernel
theorem J_MLineRows_sign_d11 : decode J_MLineRows_sign.2.1 11 = .ok (.getfield 270, 3) := by decide +kernel
theorem J_MLineRows_sign_d14 : decode J_MLineRows_sign.2.1 14 = .ok (.if_icmp .lt 7, 3) := by decide +kernel
theorem J_MLineRows_sign_d17 : decode J_MLineRows_sign.2.1 17 = .ok (.iconst (-1), 1) := by decide +kernel
theorem J_MLineRows_sign_d18 : decode J_MLineRows_sign.2.1 18 = .ok (.goto 9, 3) := by decide +kernel
theorem J_MLineRows_sign_d21 : decode J_MLineRows_sign.2.1 21 = .ok (.aload_n 0, 1) := by decide +kernel
theorem J_MLineRows_sign_d22 : decode J_MLineRows_sign.2.1 22 = .ok (.getfield 143, 3) := by decide +kernel
theorem J_MLineRows_sign_d25 : decode J_MLineRows_sign.2.1 25 = .ok (.iload_n 1, 1) := by decide +kernel
theorem J_MLineRows_sign_d26 : decode J_MLineRows_sign.2.1 26 = .ok (.iaload, 1) := by decide +kernel
theorem J_MLineRows_sign_d27 : decode J_MLineRows_sign.2.1 27 = .ok (.ireturn, 1) := by decide +kernel
theorem f_MLineRows_sign_ok {L : Nat} {xs : Nat → Int32} {dep : Nat} {w : Bool} {p0 : Int32} {M : im_M} {Q : Int32 × im_M → Prop} (hM : lw_S w M) (h : ed (f_MLineRows_sign p0 M) Q) : ia (tb_G L xs) dep J_MLineRows_sign (rwI w Q) (0, lv_args 0 [.ref 96, .int p0], [], M) := by
  have hS : im_St (tb_G L xs) dep J_MLineRows_sign (ia (tb_G L xs) dep J_MLineRows_sign (rwI w Q)) := ia_St
  unfold f_MLineRows_sign at h
  have l0 : im_lk (lv_args 0 [.ref 96, .int p0]) 0 = some (.ref 96) := rfl
  have l1 : im_lk (lv_args 0 [.ref 96, .int p0]) 1 = some (.int p0) := rfl
  refine iq_aload_n hS 1 J_MLineRows_sign_d0 l0 rfl ?_
  refine iq_iconst hS 2 J_MLineRows_sign_d1 (v := 0) (by decide +kernel) rfl ?_
  refine iq_putI hS 5 J_MLineRows_sign_d2 lf_13_149 (Or.inl rfl) rfl (ka_96 hM) rfl ?_
  refine iq_iload_n hS 6 J_MLineRows_sign_d5 l1 rfl ?_
  obtain ⟨k1, Q1, hQ1, hk1, h⟩ := jn0_ed h
  have J1 : ∀  (L' : List (Nat × Value)), Q1 () → ia (tb_G L xs) dep J_MLineRows_sign (rwI w Q) (17, L', [], (im_setI M 96 3 0)) := by
    intro  L'  h
    replace h := hQ1  h
    refine iq_iconst hS 18 J_MLineRows_sign_d17 (v := (-1)) (by decide +kernel) rfl ?_
    refine iq_goto hS J_MLineRows_sign_d18 (t := 27) rfl ?_
    exact iq_iret J_MLineRows_sign_d27 rfl rfl ⟨_, rfl, (lw_sI hM), ed_some h⟩
  refine iq_if_lt hS 9 J_MLineRows_sign_d6 (t := 17) rfl (fun q6 => ?_) rfl (fun q6 => ?_)
  · replace h := ed_pos q6 h
    exact J1  _  (hk1  h)
  · replace h := ed_neg q6 h
    refine iq_iload_n hS 10 J_MLineRows_sign_d9 l1 rfl ?_
    refine iq_aload_n hS 11 J_MLineRows_sign_d10 l0 rfl ?_
    refine iq_getI hS 14 J_MLineRows_sign_d11 lf_13_270 (Or.inl rfl) (ka_96 (lw_sI hM)) rfl ?_
    refine iq_icmp_lt hS 17 J_MLineRows_sign_d14 (t := 21) rfl (fun q14 => ?_) rfl (fun q14 => ?_)
    · replace h := ed_pos q14 h
      refine iq_aload_n hS 22 J_MLineRows_sign_d21 l0 rfl ?_
      refine iq_getR hS 25 J_MLineRows_sign_d22 lf_13_143 (Or.inr ⟨_, rfl⟩) (ka_96 (lw_sI hM)) (ra_96_13 (lw_sI hM)) rfl ?_
      refine iq_iload_n hS 26 J_MLineRows_sign_d25 l1 rfl ?_
      obtain ⟨g26, h⟩ := ed_gd h
      refine iq_iaload hS 27 J_MLineRows_sign_d26 ⟨(ka_106 (lw_sI hM)).1, (ka_106 (lw_sI hM)).2, g26.1, ix_lt (kl_106 (lw_sI hM)) g26.2⟩ rfl ?_
      exact iq_iret J_MLineRows_sign_d27 rfl rfl ⟨_, rfl, (lw_sI hM), ed_some h⟩
    · replace h := ed_neg q14 h
      exact J1  _  (hk1  h)
theorem f_MLineRows_sign_fr {p0 : Int32} {M : im_M} {r : Int32 × im_M} (h : f_MLineRows_sign p0 M = some r) : fr 0 [(96, 3)] M r.2 := by
  replace h : ed (f_MLineRows_sign p0 M) (fun x => x = r) := ⟨r, h, rfl⟩
  unfold f_MLineRows_sign at h
  obtain ⟨k1, Q1, hQ1, hk1, h⟩ := jn0_ed h
  have J1 : Q1 () → fr 0 [(96, 3)] M r.2 := by
    intro  h
    replace h := hQ1  h
    exact fr_ret h (fr_F (by decide) fr_refl)
  by_cases q6 : p0 < 0
  · replace h := ed_pos q6 h
    exact J1  (hk1  h)
  · replace h := ed_neg q6 h
    by_cases q14 : p0 < (im_i (im_setI M 96 3 0) 96 14)
    · replace h := ed_pos q14 h
      obtain ⟨g26, h⟩ := ed_gd h
      exact fr_ret h (fr_F (by decide) fr_refl)
    · replace h := ed_neg q14 h
      exact J1  (hk1  h)
