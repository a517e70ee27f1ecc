/-! METHODS AS FUNCTIONS -/
noncomputable def f_HSegments_pack_L6 (v2 : Int32) (v3 : Int32) (v4 : Int32) (x5 : Int32) (x6 : Int32) (M7 : im_M) : Option ((Int32 × Int32 × im_M) ⊕ ((im_M) ⊕ (Int32 × im_M))) := if 40 < x6 then some (.inr (.inl M7)) else bd2 (jn0 (fun (_ : Unit) => bd1 (f_HSegments_groupOf x6 M7) fun (x18 : Int32) => bd2 (f_HSegments_plan v2 v3 x18 M7) fun (x19 : Int32) (M19 : im_M) => some (x19, M19)) fun k9 => if x6 = 1 then k9 () else bd1 (f_HSegments_groupOf x6 M7) fun (x10 : Int32) => bd1 (f_HSegments_groupOf (x6 - 1) M7) fun (x11 : Int32) => if x10 = x11 then some (x5, M7) else k9 ()) fun (y20 : Int32) (M21 : im_M) => bd1 (f_HBlocks_holds x6 v4 M21) fun (x29 : Int32) => if ((8 : Int32) * x29) < y20 then some (.inl (y20, (x6 + 1), M21)) else bd1 (f_HBlocks_holds x6 v4 M21) fun (x30 : Int32) => bd1 (f_HSegments_write v2 v3 x6 x30 M21) fun (M31 : im_M) => some (.inr (.inr (x6, M31)))
noncomputable def f_HSegments_pack (p1 : Int32) (p2 : Int32) (p3 : Int32) (M : im_M) : Option (Int32 × im_M) := bs1 (lp (uc3 (f_HSegments_pack_L6 p1 p2 p3)) (0, 1, M)) (fun (M32 : im_M) => some (0, M32)) (fun t => some t)
theorem J_HSegments_pack_d0 : decode J_HSegments_pack.2.1 0 = .ok (.iconst 0, 1) := by decide +kernel
theorem J_HSegments_pack_d1 : decode J_HSegments_pack.2.1 1 = .ok (.istore 5, 2) := by decide +kernel
theorem J_HSegments_pack_d3 : decode J_HSegments_pack.2.1 3 = .ok (.iconst 1, 1) := by decide +kernel
theorem J_HSegments_pack_d4 : decode J_HSegments_pack.2.1 4 = .ok (.istore 6, 2) := by decide +kernel
theorem J_HSegments_pack_d6 : decode J_HSegments_pack.2.1 6 = .ok (.iload 6, 2) := by decide +kernel
theorem J_HSegments_pack_d8 : decode J_HSegments_pack.2.1 8 = .ok (.bipush 40, 2) := by decide +kernel
theorem J_HSegments_pack_d10 : decode J_HSegments_pack.2.1 10 = .ok (.if_icmp .gt 78, 3) := by decide +kernel
theorem J_HSegments_pack_d13 : decode J_HSegments_pack.2.1 13 = .ok (.iload 6, 2) := by decide +kernel
theorem J_HSegments_pack_d15 : decode J_HSegments_pack.2.1 15 = .ok (.iconst 1, 1) := by decide +kernel
theorem J_HSegments_pack_d16 : decode J_HSegments_pack.2.1 16 = .ok (.if_icmp .eq 18, 3) := by decide +kernel
theorem J_HSegments_pack_d19 : decode J_HSegments_pack.2.1 19 = .ok (.iload 6, 2) := by decide +kernel
theorem J_HSegments_pack_d21 : decode J_HSegments_pack.2.1 21 = .ok (.invokestatic 24, 3) := by decide +kernel
theorem J_HSegments_pack_d24 : decode J_HSegments_pack.2.1 24 = .ok (.iload 6, 2) := by decide +kernel
theorem J_HSegments_pack_d26 : decode J_HSegments_pack.2.1 26 = .ok (.iconst 1, 1) := by decide +kernel
theorem J_HSegments_pack_d27 : decode J_HSegments_pack.2.1 27 = .ok (.isub, 1) := by decide +kernel
theorem J_HSegments_pack_d28 : decode J_HSegments_pack.2.1 28 = .ok (.invokestatic 24, 3) := by decide +kernel
theorem J_HSegments_pack_d31 : decode J_HSegments_pack.2.1 31 = .ok (.if_icmp .eq 17, 3) := by decide +kernel
theorem J_HSegments_pack_d34 : decode J_HSegments_pack.2.1 34 = .ok (.aload_n 0, 1) := by decide +kernel
theorem J_HSegments_pack_d35 : decode J_HSegments_pack.2.1 35 = .ok (.aload_n 1, 1) := by decide +kernel
theorem J_HSegments_pack_d36 : decode J_HSegments_pack.2.1 36 = .ok (.iload_n 2, 1) := by decide +kernel
theorem J_HSegments_pack_d37 : decode J_HSegments_pack.2.1 37 = .ok (.iload_n 3, 1) := by decide +kernel
theorem J_HSegments_pack_d38 : decode J_HSegments_pack.2.1 38 = .ok (.iload 6, 2) := by decide +kernel
theorem J_HSegments_pack_d40 : decode J_HSegments_pack.2.1 40 = .ok (.invokestatic 24, 3) := by decide +kernel
theorem J_HSegments_pack_d43 : decode J_HSegments_pack.2.1 43 = .ok (.invokevirtual 28, 3) := by decide +kernel
theorem J_HSegments_pack_d46 : decode J_HSegments_pack.2.1 46 = .ok (.istore 5, 2) := by decide +kernel
theorem J_HSegments_pack_d48 : decode J_HSegments_pack.2.1 48 = .ok (.iload 5, 2) := by decide +kernel
theorem J_HSegments_pack_d50 : decode J_HSegments_pack.2.1 50 = .ok (.bipush 8, 2) := by decide +kernel
theorem J_HSegments_pack_d52 : decode J_HSegments_pack.2.1 52 = .ok (.iload 6, 2) := by decide +kernel
theorem J_HSegments_pack_d54 : decode J_HSegments_pack.2.1 54 = .ok (.iload 4, 2) := by decide +kernel
theorem J_HSegments_pack_d56 : decode J_HSegments_pack.2.1 56 = .ok (.invokestatic 32, 3) := by decide +kernel
theorem J_HSegments_pack_d59 : decode J_HSegments_pack.2.1 59 = .ok (.imul, 1) := by decide +kernel
theorem J_HSegments_pack_d60 : decode J_HSegments_pack.2.1 60 = .ok (.if_icmp .gt 22, 3) := by decide +kernel
theorem J_HSegments_pack_d63 : decode J_HSegments_pack.2.1 63 = .ok (.aload_n 0, 1) := by decide +kernel
theorem J_HSegments_pack_d64 : decode J_HSegments_pack.2.1 64 = .ok (.aload_n 1, 1) := by decide +kernel
theorem J_HSegments_pack_d65 : decode J_HSegments_pack.2.1 65 = .ok (.iload_n 2, 1) := by decide +kernel
theorem J_HSegments_pack_d66 : decode J_HSegments_pack.2.1 66 = .ok (.iload_n 3, 1) := by decide +kernel
theorem J_HSegments_pack_d67 : decode J_HSegments_pack.2.1 67 = .ok (.iload 6, 2) := by decide +kernel
theorem J_HSegments_pack_d69 : decode J_HSegments_pack.2.1 69 = .ok (.iload 6, 2) := by decide +kernel
theorem J_HSegments_pack_d71 : decode J_HSegments_pack.2.1 71 = .ok (.iload 4, 2) := by decide +kernel
theorem J_HSegments_pack_d73 : decode J_HSegments_pack.2.1 73 = .ok (.invokestatic 32, 3) := by decide +kernel
theorem J_HSegments_pack_d76 : decode J_HSegments_pack.2.1 76 = .ok (.invokevirtual 38, 3) := by decide +kernel
theorem J_HSegments_pack_d79 : decode J_HSegments_pack.2.1 79 = .ok (.iload 6, 2) := by decide +kernel
theorem J_HSegments_pack_d81 : decode J_HSegments_pack.2.1 81 = .ok (.ireturn, 1) := by decide +kernel
theorem J_HSegments_pack_d82 : decode J_HSegments_pack.2.1 82 = .ok (.iinc 6 1, 3) := by decide +kernel
theorem J_HSegments_pack_d85 : decode J_HSegments_pack.2.1 85 = .ok (.goto (-79), 3) := by decide +kernel
theorem J_HSegments_pack_d88 : decode J_HSegments_pack.2.1 88 = .ok (.iconst 0, 1) := by decide +kernel
theorem J_HSegments_pack_d89 : decode J_HSegments_pack.2.1 89 = .ok (.ireturn, 1) := by decide +kernel
theorem f_HSegments_pack_ok {L : Nat} {xs : Nat → Int32} {dep : Nat} {w : Bool} {p1 : Int32} {p2 : Int32} {p3 : Int32} {M : im_M} {Q : Int32 × im_M → Prop} (hM : lw_S w M) (h : ed (f_HSegments_pack p1 p2 p3 M) Q) : ia (tb_G L xs) (dep + 7) J_HSegments_pack (rwI w Q) (0, lv_args 0 [.ref 39, .ref 14, .int p1, .int p2, .int p3], [], M) := by
  have hS : im_St (tb_G L xs) (dep + 7) J_HSegments_pack (ia (tb_G L xs) (dep + 7) J_HSegments_pack (rwI w Q)) := ia_St
  unfold f_HSegments_pack at h
  have l0 : im_lk (lv_args 0 [.ref 39, .ref 14, .int p1, .int p2, .int p3]) 0 = some (.ref 39) := rfl
  have l1 : im_lk (lv_args 0 [.ref 39, .ref 14, .int p1, .int p2, .int p3]) 1 = some (.ref 14) := rfl
  have l2 : im_lk (lv_args 0 [.ref 39, .ref 14, .int p1, .int p2, .int p3]) 2 = some (.int p1) := rfl
  have l3 : im_lk (lv_args 0 [.ref 39, .ref 14, .int p1, .int p2, .int p3]) 3 = some (.int p2) := rfl
  have l4 : im_lk (lv_args 0 [.ref 39, .ref 14, .int p1, .int p2, .int p3]) 4 = some (.int p3) := rfl
  refine iq_iconst hS 1 J_HSegments_pack_d0 (v := 0) (by decide +kernel) rfl ?_
  refine iq_istore hS 3 J_HSegments_pack_d1 (by decide) rfl ?_
  refine iq_iconst hS 4 J_HSegments_pack_d3 (v := 1) (by decide +kernel) rfl ?_
  refine iq_istore hS 6 J_HSegments_pack_d4 (by decide) rfl ?_
  obtain ⟨Q1, hQ1, hR1, h⟩ := bs1_ed h
  have K1 : ∀ (M2 : im_M) (L' : List (Nat × Value)), lw_S w M2 → Q1 (.inl M2) → ia (tb_G L xs) (dep + 7) J_HSegments_pack (rwI w Q) (88, L', [], M2) := by
    intro M2 L' hM2  h
    replace h := hQ1 _ h
    refine iq_iconst hS 89 J_HSegments_pack_d88 (v := 0) (by decide +kernel) rfl ?_
    exact iq_iret J_HSegments_pack_d89 rfl rfl ⟨_, rfl, hM2, ed_some h⟩
  obtain ⟨r1, hr1, hq1⟩ := h
  obtain ⟨n1, hn1⟩ := lp_n hr1
  have I1 : ∀ (n : Nat) (x3 : Int32) (x4 : Int32) (M5 : im_M) (L' : List (Nat × Value)), lw_S w M5 → im_lk L' 0 = some (.ref 39) → im_lk L' 1 = some (.ref 14) → im_lk L' 2 = some (.int p1) → im_lk L' 3 = some (.int p2) → im_lk L' 4 = some (.int p3) → im_lk L' 5 = some (.int x3) → im_lk L' 6 = some (.int x4) → lpn (uc3 (f_HSegments_pack_L6 p1 p2 p3)) n (x3, x4, M5) = some r1 → ia (tb_G L xs) (dep + 7) J_HSegments_pack (rwI w Q) (6, L', [], M5) := by
    intro n
    induction n with
    | zero => intro x3 x4 M5 L' hM5 l6 l7 l8 l9 l10 l11 l12 hn; exact (lpn_0 hn).elim
    | succ n ih =>
      intro x3 x4 M5 L' hM5 l6 l7 l8 l9 l10 l11 l12 hn
      have h := lpn_ed3 hn
      unfold f_HSegments_pack_L6 at h
      refine iq_iload hS 8 J_HSegments_pack_d6 l12 rfl ?_
      refine iq_bipush hS 10 J_HSegments_pack_d8 (v := 40) (by decide +kernel) rfl ?_
      refine iq_icmp_gt hS 13 J_HSegments_pack_d10 (t := 88) rfl (fun q10 => ?_) rfl (fun q10 => ?_)
      · replace h := ed_pos q10 h
        exact K1 _ _ hM5  (lq_r h hq1)
      · replace h := ed_neg q10 h
        refine iq_iload hS 15 J_HSegments_pack_d13 l12 rfl ?_
        refine iq_iconst hS 16 J_HSegments_pack_d15 (v := 1) (by decide +kernel) rfl ?_
        obtain ⟨Q13, hQ13, h⟩ := bd2_ed h
        have J13 : ∀ (y25 : Int32) (M26 : im_M) (L' : List (Nat × Value)), lw_S w M26 → im_lk L' 0 = some (.ref 39) → im_lk L' 1 = some (.ref 14) → im_lk L' 2 = some (.int p1) → im_lk L' 3 = some (.int p2) → im_lk L' 4 = some (.int p3) → im_lk L' 5 = some (.int y25) → im_lk L' 6 = some (.int x4) → Q13 (y25, M26) → ia (tb_G L xs) (dep + 7) J_HSegments_pack (rwI w Q) (48, L', [], M26) := by
          intro y25 M26 L' hM26 l27 l28 l29 l30 l31 l32 l33 h
          replace h := hQ13 _ _ h
          refine iq_iload hS 50 J_HSegments_pack_d48 l32 rfl ?_
          refine iq_bipush hS 52 J_HSegments_pack_d50 (v := 8) (by decide +kernel) rfl ?_
          refine iq_iload hS 54 J_HSegments_pack_d52 l33 rfl ?_
          refine iq_iload hS 56 J_HSegments_pack_d54 l31 rfl ?_
          obtain ⟨Q34, hQ34, h⟩ := bd1_ed h
          refine iq_cpI hS 59 J_HSegments_pack_d56 rfl (pr_stat (vs := [_, _]) lc_7_32 lT_139 rfl rfl (by decide) rfl (Nat.le_of_ble_eq_true rfl) (Nat.le_of_ble_eq_true rfl)) (f_HBlocks_holds_ok (dep := dep + 5) hM26 h) rfl ?_
          intro x34 h
          replace h := hQ34 _ h
          refine iq_imul hS 60 J_HSegments_pack_d59 rfl ?_
          refine iq_icmp_gt hS 63 J_HSegments_pack_d60 (t := 82) rfl (fun q60 => ?_) rfl (fun q60 => ?_)
          · replace h := ed_pos q60 h
            refine iq_iincv hS 85 J_HSegments_pack_d82 (c := 1) (by decide +kernel) l33 (by decide) rfl ?_
            refine iq_goto hS J_HSegments_pack_d85 (t := 6) rfl ?_
            exact ih _ _ _ _ hM26 (lk_1r l27 (by decide)) (lk_1r l28 (by decide)) (lk_1i l29 (by decide)) (lk_1i l30 (by decide)) (lk_1i l31 (by decide)) (lk_1i l32 (by decide)) lk_1s (lq_l h)
          · replace h := ed_neg q60 h
            refine iq_aload_n hS 64 J_HSegments_pack_d63 l27 rfl ?_
            refine iq_aload_n hS 65 J_HSegments_pack_d64 l28 rfl ?_
            refine iq_iload_n hS 66 J_HSegments_pack_d65 l29 rfl ?_
            refine iq_iload_n hS 67 J_HSegments_pack_d66 l30 rfl ?_
            refine iq_iload hS 69 J_HSegments_pack_d67 l33 rfl ?_
            refine iq_iload hS 71 J_HSegments_pack_d69 l33 rfl ?_
            refine iq_iload hS 73 J_HSegments_pack_d71 l31 rfl ?_
            obtain ⟨Q35, hQ35, h⟩ := bd1_ed h
            refine iq_cpI hS 76 J_HSegments_pack_d73 rfl (pr_stat (vs := [_, _]) lc_7_32 lT_139 rfl rfl (by decide) rfl (Nat.le_of_ble_eq_true rfl) (Nat.le_of_ble_eq_true rfl)) (f_HBlocks_holds_ok (dep := dep + 5) hM26 h) rfl ?_
            intro x35 h
            replace h := hQ35 _ h
            obtain ⟨Q36, hQ36, h⟩ := bd1_ed h
            refine iq_cwV hS 79 J_HSegments_pack_d76 rfl (pr_inst (vs := [_, _, _, _, _]) lc_7_38 lT_141 rfl rfl (by decide) (by decide) rfl (Nat.le_of_ble_eq_true rfl) (Nat.le_of_ble_eq_true rfl) (fun _ => Or.inl (pr_b (ka_39 hM26) (by decide) rfl))) (f_HSegments_write_ok (dep := dep + 1) hM26 h) rfl ?_
            intro M36 hM36 h
            replace h := hQ36 _ h
            refine iq_iload hS 81 J_HSegments_pack_d79 l33 rfl ?_
            exact iq_iret J_HSegments_pack_d81 rfl rfl ⟨_, rfl, hM36, ed_some (hR1 _ (lq_r h hq1))⟩
        obtain ⟨k14, Q14, hQ14, hk14, h⟩ := jn0_ed h
        have J14 : ∀  (L' : List (Nat × Value)), im_lk L' 0 = some (.ref 39) → im_lk L' 1 = some (.ref 14) → im_lk L' 2 = some (.int p1) → im_lk L' 3 = some (.int p2) → im_lk L' 4 = some (.int p3) → im_lk L' 6 = some (.int x4) → Q14 () → ia (tb_G L xs) (dep + 7) J_HSegments_pack (rwI w Q) (34, L', [], M5) := by
          intro  L' l17 l18 l19 l20 l21 l22 h
          replace h := hQ14  h
          refine iq_aload_n hS 35 J_HSegments_pack_d34 l17 rfl ?_
          refine iq_aload_n hS 36 J_HSegments_pack_d35 l18 rfl ?_
          refine iq_iload_n hS 37 J_HSegments_pack_d36 l19 rfl ?_
          refine iq_iload_n hS 38 J_HSegments_pack_d37 l20 rfl ?_
          refine iq_iload hS 40 J_HSegments_pack_d38 l22 rfl ?_
          obtain ⟨Q23, hQ23, h⟩ := bd1_ed h
          refine iq_cpI hS 43 J_HSegments_pack_d40 rfl (pr_stat (vs := [_]) lc_7_24 lT_134 rfl rfl (by decide) rfl (Nat.le_of_ble_eq_true rfl) (Nat.le_of_ble_eq_true rfl)) (f_HSegments_groupOf_ok (dep := dep + 6) hM5 h) rfl ?_
          intro x23 h
          replace h := hQ23 _ h
          obtain ⟨Q24, hQ24, h⟩ := bd2_ed h
          refine iq_cwI hS 46 J_HSegments_pack_d43 rfl (pr_inst (vs := [_, _, _, _]) lc_7_28 lT_135 rfl rfl (by decide) (by decide) rfl (Nat.le_of_ble_eq_true rfl) (Nat.le_of_ble_eq_true rfl) (fun _ => Or.inl (pr_b (ka_39 hM5) (by decide) rfl))) (f_HSegments_plan_ok (dep := dep + 0) hM5 h) rfl ?_
          intro x24 M24 hM24 h
          replace h := hQ24 _ _ h
          refine iq_istore hS 48 J_HSegments_pack_d46 (by decide) rfl ?_
          exact J13 _ _ _ hM24 (lk_1r l17 (by decide)) (lk_1r l18 (by decide)) (lk_1i l19 (by decide)) (lk_1i l20 (by decide)) (lk_1i l21 (by decide)) lk_1s (lk_1i l22 (by decide)) (ed_some h)
        refine iq_icmp_eq hS 19 J_HSegments_pack_d16 (t := 34) rfl (fun q16 => ?_) rfl (fun q16 => ?_)
        · replace h := ed_pos q16 h
          exact J14  _ l6 l7 l8 l9 l10 l12 (hk14  h)
        · replace h := ed_neg q16 h
          refine iq_iload hS 21 J_HSegments_pack_d19 l12 rfl ?_
          obtain ⟨Q15, hQ15, h⟩ := bd1_ed h
          refine iq_cpI hS 24 J_HSegments_pack_d21 rfl (pr_stat (vs := [_]) lc_7_24 lT_134 rfl rfl (by decide) rfl (Nat.le_of_ble_eq_true rfl) (Nat.le_of_ble_eq_true rfl)) (f_HSegments_groupOf_ok (dep := dep + 6) hM5 h) rfl ?_
          intro x15 h
          replace h := hQ15 _ h
          refine iq_iload hS 26 J_HSegments_pack_d24 l12 rfl ?_
          refine iq_iconst hS 27 J_HSegments_pack_d26 (v := 1) (by decide +kernel) rfl ?_
          refine iq_isub hS 28 J_HSegments_pack_d27 rfl ?_
          obtain ⟨Q16, hQ16, h⟩ := bd1_ed h
          refine iq_cpI hS 31 J_HSegments_pack_d28 rfl (pr_stat (vs := [_]) lc_7_24 lT_134 rfl rfl (by decide) rfl (Nat.le_of_ble_eq_true rfl) (Nat.le_of_ble_eq_true rfl)) (f_HSegments_groupOf_ok (dep := dep + 6) hM5 h) rfl ?_
          intro x16 h
          replace h := hQ16 _ h
          refine iq_icmp_eq hS 34 J_HSegments_pack_d31 (t := 48) rfl (fun q31 => ?_) rfl (fun q31 => ?_)
          · replace h := ed_pos q31 h
            exact J13 _ _ _ hM5 l6 l7 l8 l9 l10 l11 l12 (ed_some h)
          · replace h := ed_neg q31 h
            exact J14  _ l6 l7 l8 l9 l10 l12 (hk14  h)
  exact I1 n1 _ _ _ _ hM (lk_1r (lk_1r l0 (by decide)) (by decide)) (lk_1r (lk_1r l1 (by decide)) (by decide)) (lk_1i (lk_1i l2 (by decide)) (by decide)) (lk_1i (lk_1i l3 (by decide)) (by decide)) (lk_1i (lk_1i l4 (by decide)) (by decide)) (lk_1i lk_1s (by decide)) lk_1s hn1
noncomputable def f_HBlocks_begin (p0 : Int32) (p1 : Int32) (M : im_M) : Option (im_M) := gd (inb ((((40 : Int32) * p1) + p0) - 1) 160) <| gd (inb ((((40 : Int32) * p1) + p0) - 1) 160) <| bd1 (f_HBlocks_holds p0 p1 (im_setI (im_setI M 43 11 (xa_11 ((((40 : Int32) * p1) + p0) - 1))) 43 12 (xa_12 ((((40 : Int32) * p1) + p0) - 1)))) fun (x1 : Int32) => bd1 (f_HBlocks_codewordsOf p0 (im_setI (im_setI (im_setI M 43 11 (xa_11 ((((40 : Int32) * p1) + p0) - 1))) 43 12 (xa_12 ((((40 : Int32) * p1) + p0) - 1))) 43 10 x1)) fun (x2 : Int32) => some (im_setI (im_setI (im_setI (im_setI M 43 11 (xa_11 ((((40 : Int32) * p1) + p0) - 1))) 43 12 (xa_12 ((((40 : Int32) * p1) + p0) - 1))) 43 10 x1) 43 13 x2)
theorem J_HBlocks_begin_d0 : decode J_HBlocks_begin.2.1 0 = .ok (.bipush 40, 2) := by decide +kernel
theorem J_HBlocks_begin_d2 : decode J_HBlocks_begin.2.1 2 = .ok (.iload_n 2, 1) := by decide +kernel
theorem J_HBlocks_begin_d3 : decode J_HBlocks_begin.2.1 3 = .ok (.imul, 1) := by decide +kernel
theorem J_HBlocks_begin_d4 : decode J_HBlocks_begin.2.1 4 = .ok (.iload_n 1, 1) := by decide +kernel
theorem J_HBlocks_begin_d5 : decode J_HBlocks_begin.2.1 5 = .ok (.iadd, 1) := by decide +kernel
theorem J_HBlocks_begin_d6 : decode J_HBlocks_begin.2.1 6 = .ok (.iconst 1, 1) := by decide +kernel
theorem J_HBlocks_begin_d7 : decode J_HBlocks_begin.2.1 7 = .ok (.isub, 1) := by decide +kernel
theorem J_HBlocks_begin_d8 : decode J_HBlocks_begin.2.1 8 = .ok (.istore_n 3, 1) := by decide +kernel
theorem J_HBlocks_begin_d9 : decode J_HBlocks_begin.2.1 9 = .ok (.aload_n 0, 1) := by decide +kernel
theorem J_HBlocks_begin_d10 : decode J_HBlocks_begin.2.1 10 = .ok (.getstatic 47, 3) := by decide +kernel
theorem J_HBlocks_begin_d13 : decode J_HBlocks_begin.2.1 13 = .ok (.iload_n 3, 1) := by decide +kernel
theorem J_HBlocks_begin_d14 : decode J_HBlocks_begin.2.1 14 = .ok (.iaload, 1) := by decide +kernel
theorem J_HBlocks_begin_d15 : decode J_HBlocks_begin.2.1 15 = .ok (.putfield 53, 3) := by decide +kernel
theorem J_HBlocks_begin_d18 : decode J_HBlocks_begin.2.1 18 = .ok (.aload_n 0, 1) := by decide +kernel
theorem J_HBlocks_begin_d19 : decode J_HBlocks_begin.2.1 19 = .ok (.getstatic 50, 3) := by decide +kernel
theorem J_HBlocks_begin_d22 : decode J_HBlocks_begin.2.1 22 = .ok (.iload_n 3, 1) := by decide +kernel
theorem J_HBlocks_begin_d23 : decode J_HBlocks_begin.2.1 23 = .ok (.iaload, 1) := by decide +kernel
theorem J_HBlocks_begin_d24 : decode J_HBlocks_begin.2.1 24 = .ok (.putfield 57, 3) := by decide +kernel
theorem J_HBlocks_begin_d27 : decode J_HBlocks_begin.2.1 27 = .ok (.aload_n 0, 1) := by decide +kernel
theorem J_HBlocks_begin_d28 : decode J_HBlocks_begin.2.1 28 = .ok (.iload_n 1, 1) := by decide +kernel
theorem J_HBlocks_begin_d29 : decode J_HBlocks_begin.2.1 29 = .ok (.iload_n 2, 1) := by decide +kernel
theorem J_HBlocks_begin_d30 : decode J_HBlocks_begin.2.1 30 = .ok (.invokestatic 60, 3) := by decide +kernel
theorem J_HBlocks_begin_d33 : decode J_HBlocks_begin.2.1 33 = .ok (.putfield 64, 3) := by decide +kernel
theorem J_HBlocks_begin_d36 : decode J_HBlocks_begin.2.1 36 = .ok (.aload_n 0, 1) := by decide +kernel
theorem J_HBlocks_begin_d37 : decode J_HBlocks_begin.2.1 37 = .ok (.iload_n 1, 1) := by decide +kernel
theorem J_HBlocks_begin_d38 : decode J_HBlocks_begin.2.1 38 = .ok (.invokestatic 43, 3) := by decide +kernel
theorem J_HBlocks_begin_d41 : decode J_HBlocks_begin.2.1 41 = .ok (.putfield 67, 3) := by decide +kernel
theorem J_HBlocks_begin_d44 : decode J_HBlocks_begin.2.1 44 = .ok (.return_, 1) := by decide +kernel
theorem f_HBlocks_begin_ok {L : Nat} {xs : Nat → Int32} {dep : Nat} {w : Bool} {p0 : Int32} {p1 : Int32} {M : im_M} {Q : im_M → Prop} (hM : lw_S w M) (h : ed (f_HBlocks_begin p0 p1 M) Q) : ia (tb_G L xs) (dep + 2) J_HBlocks_begin (rwV w Q) (0, lv_args 0 [.ref 43, .int p0, .int p1], [], M) := by
  have hS : im_St (tb_G L xs) (dep + 2) J_HBlocks_begin (ia (tb_G L xs) (dep + 2) J_HBlocks_begin (rwV w Q)) := ia_St
  unfold f_HBlocks_begin at h
  have l0 : im_lk (lv_args 0 [.ref 43, .int p0, .int p1]) 0 = some (.ref 43) := rfl
  have l1 : im_lk (lv_args 0 [.ref 43, .int p0, .int p1]) 1 = some (.int p0) := rfl
  have l2 : im_lk (lv_args 0 [.ref 43, .int p0, .int p1]) 2 = some (.int p1) := rfl
  refine iq_bipush hS 2 J_HBlocks_begin_d0 (v := 40) (by decide +kernel) rfl ?_
  refine iq_iload_n hS 3 J_HBlocks_begin_d2 l2 rfl ?_
  refine iq_imul hS 4 J_HBlocks_begin_d3 rfl ?_
  refine iq_iload_n hS 5 J_HBlocks_begin_d4 l1 rfl ?_
  refine iq_iadd hS 6 J_HBlocks_begin_d5 rfl ?_
  refine iq_iconst hS 7 J_HBlocks_begin_d6 (v := 1) (by decide +kernel) rfl ?_
  refine iq_isub hS 8 J_HBlocks_begin_d7 rfl ?_
  refine iq_istore_n hS 9 J_HBlocks_begin_d8 (by decide) rfl ?_
  refine iq_aload_n hS 10 J_HBlocks_begin_d9 (lk_1r l0 (by decide)) rfl ?_
  refine iq_getstatic hS 13 J_HBlocks_begin_d10 gs_1_47 rfl ?_
  refine iq_iload_n hS 14 J_HBlocks_begin_d13 lk_1s rfl ?_
  obtain ⟨g14, h⟩ := ed_gd h
  refine iq_xl_11 hS 15 J_HBlocks_begin_d14 hM g14 rfl ?_
  refine iq_putI hS 18 J_HBlocks_begin_d15 lf_1_53 (Or.inl rfl) rfl (ka_43 hM) rfl ?_
  refine iq_aload_n hS 19 J_HBlocks_begin_d18 (lk_1r l0 (by decide)) rfl ?_
  refine iq_getstatic hS 22 J_HBlocks_begin_d19 gs_1_50 rfl ?_
  refine iq_iload_n hS 23 J_HBlocks_begin_d22 lk_1s rfl ?_
  obtain ⟨g23, h⟩ := ed_gd h
  refine iq_xl_12 hS 24 J_HBlocks_begin_d23 hM g23 rfl ?_
  refine iq_putI hS 27 J_HBlocks_begin_d24 lf_1_57 (Or.inl rfl) rfl (ka_43 hM) rfl ?_
  refine iq_aload_n hS 28 J_HBlocks_begin_d27 (lk_1r l0 (by decide)) rfl ?_
  refine iq_iload_n hS 29 J_HBlocks_begin_d28 (lk_1i l1 (by decide)) rfl ?_
  refine iq_iload_n hS 30 J_HBlocks_begin_d29 (lk_1i l2 (by decide)) rfl ?_
  obtain ⟨Q1, hQ1, h⟩ := bd1_ed h
  refine iq_cpI hS 33 J_HBlocks_begin_d30 rfl (pr_stat (vs := [_, _]) lc_1_60 lT_139 rfl rfl (by decide) rfl (Nat.le_of_ble_eq_true rfl) (Nat.le_of_ble_eq_true rfl)) (f_HBlocks_holds_ok (dep := dep + 0) hM h) rfl ?_
  intro x1 h
  replace h := hQ1 _ h
  refine iq_putI hS 36 J_HBlocks_begin_d33 lf_1_64 (Or.inl rfl) rfl (ka_43 hM) rfl ?_
  refine iq_aload_n hS 37 J_HBlocks_begin_d36 (lk_1r l0 (by decide)) rfl ?_
  refine iq_iload_n hS 38 J_HBlocks_begin_d37 (lk_1i l1 (by decide)) rfl ?_
  obtain ⟨Q2, hQ2, h⟩ := bd1_ed h
  refine iq_cpI hS 41 J_HBlocks_begin_d38 rfl (pr_stat (vs := [_]) lc_1_43 lT_140 rfl rfl (by decide) rfl (Nat.le_of_ble_eq_true rfl) (Nat.le_of_ble_eq_true rfl)) (f_HBlocks_codewordsOf_ok (dep := dep + 1) hM h) rfl ?_
  intro x2 h
  replace h := hQ2 _ h
  refine iq_putI hS 44 J_HBlocks_begin_d41 lf_1_67 (Or.inl rfl) rfl (ka_43 hM) rfl ?_
  exact iq_ret J_HBlocks_begin_d44 rfl ⟨rfl, hM, ed_some h⟩
noncomputable def f_Arrays_fill4_L5 (v2 : Int32) (v3 : Int32) (x4 : Int32) (M5 : im_M) : Option ((Int32 × im_M) ⊕ (im_M)) := if v3 ≤ x4 then some (.inr M5) else gd (inb x4 31) <| some (.inl ((x4 + 1), (im_setI M5 47 (Int32.toNatClampNeg x4) v2)))
noncomputable def f_Arrays_fill4 (p1 : Int32) (M : im_M) : Option (im_M) := bd1 (lp (uc2 (f_Arrays_fill4_L5 p1 31)) (0, M)) fun (M6 : im_M) => some M6
theorem J_Arrays_fill4_d0 : decode J_Arrays_fill4.2.1 0 = .ok (.iconst 0, 1) := by decide +kernel
theorem J_Arrays_fill4_d1 : decode J_Arrays_fill4.2.1 1 = .ok (.istore_n 2, 1) := by decide +kernel
theorem J_Arrays_fill4_d2 : decode J_Arrays_fill4.2.1 2 = .ok (.aload_n 0, 1) := by decide +kernel
theorem J_Arrays_fill4_d3 : decode J_Arrays_fill4.2.1 3 = .ok (.arraylength, 1) := by decide +kernel
theorem J_Arrays_fill4_d4 : decode J_Arrays_fill4.2.1 4 = .ok (.istore_n 3, 1) := by decide +kernel
theorem J_Arrays_fill4_d5 : decode J_Arrays_fill4.2.1 5 = .ok (.iload_n 2, 1) := by decide +kernel
theorem J_Arrays_fill4_d6 : decode J_Arrays_fill4.2.1 6 = .ok (.iload_n 3, 1) := by decide +kernel
theorem J_Arrays_fill4_d7 : decode J_Arrays_fill4.2.1 7 = .ok (.if_icmp .ge 13, 3) := by decide +kernel
theorem J_Arrays_fill4_d10 : decode J_Arrays_fill4.2.1 10 = .ok (.aload_n 0, 1) := by decide +kernel
theorem J_Arrays_fill4_d11 : decode J_Arrays_fill4.2.1 11 = .ok (.iload_n 2, 1) := by decide +kernel
theorem J_Arrays_fill4_d12 : decode J_Arrays_fill4.2.1 12 = .ok (.iload_n 1, 1) := by decide +kernel
theorem J_Arrays_fill4_d13 : decode J_Arrays_fill4.2.1 13 = .ok (.iastore, 1) := by decide +kernel
theorem J_Arrays_fill4_d14 : decode J_Arrays_fill4.2.1 14 = .ok (.iinc 2 1, 3) := by decide +kernel
theorem J_Arrays_fill4_d17 : decode J_Arrays_fill4.2.1 17 = .ok (.goto (-12), 3) := by decide +kernel
theorem J_Arrays_fill4_d20 : decode J_Arrays_fill4.2.1 20 = .ok (.return_, 1) := by decide +kernel
theorem f_Arrays_fill4_ok {L : Nat} {xs : Nat → Int32} {dep : Nat} {w : Bool} {p1 : Int32} {M : im_M} {Q : im_M → Prop} (hM : lw_S w M) (h : ed (f_Arrays_fill4 p1 M) Q) : ia (tb_G L xs) dep J_Arrays_fill4 (rwV w Q) (0, lv_args 0 [.ref 47, .int p1], [], M) := by
  have hS : im_St (tb_G L xs) dep J_Arrays_fill4 (ia (tb_G L xs) dep J_Arrays_fill4 (rwV w Q)) := ia_St
  unfold f_Arrays_fill4 at h
  have l0 : im_lk (lv_args 0 [.ref 47, .int p1]) 0 = some (.ref 47) := rfl
  have l1 : im_lk (lv_args 0 [.ref 47, .int p1]) 1 = some (.int p1) := rfl
  refine iq_iconst hS 1 J_Arrays_fill4_d0 (v := 0) (by decide +kernel) rfl ?_
  refine iq_istore_n hS 2 J_Arrays_fill4_d1 (by decide) rfl ?_
  refine iq_aload_n hS 3 J_Arrays_fill4_d2 (lk_1r l0 (by decide)) rfl ?_
  refine iq_alenv hS 4 J_Arrays_fill4_d3 (v := 31) (ka_47 hM) (by decide) (by decide) (kl_47 hM) (by decide +kernel) rfl ?_
  refine iq_istore_n hS 5 J_Arrays_fill4_d4 (by decide) rfl ?_
  obtain ⟨Q1, hQ1, h⟩ := bd1_ed h
  have K1 : ∀ (M2 : im_M) (L' : List (Nat × Value)), lw_S w M2 → Q1 M2 → ia (tb_G L xs) dep J_Arrays_fill4 (rwV w Q) (20, L', [], M2) := by
    intro M2 L' hM2  h
    replace h := hQ1 _ h
    exact iq_ret J_Arrays_fill4_d20 rfl ⟨rfl, hM2, ed_some h⟩
  obtain ⟨r1, hr1, hq1⟩ := h
  obtain ⟨n1, hn1⟩ := lp_n hr1
  have I1 : ∀ (n : Nat) (x3 : Int32) (M4 : im_M) (L' : List (Nat × Value)), lw_S w M4 → im_lk L' 0 = some (.ref 47) → im_lk L' 1 = some (.int p1) → im_lk L' 2 = some (.int x3) → im_lk L' 3 = some (.int 31) → lpn (uc2 (f_Arrays_fill4_L5 p1 31)) n (x3, M4) = some r1 → ia (tb_G L xs) dep J_Arrays_fill4 (rwV w Q) (5, L', [], M4) := by
    intro n
    induction n with
    | zero => intro x3 M4 L' hM4 l5 l6 l7 l8 hn; exact (lpn_0 hn).elim
    | succ n ih =>
      intro x3 M4 L' hM4 l5 l6 l7 l8 hn
      have h := lpn_ed2 hn
      unfold f_Arrays_fill4_L5 at h
      refine iq_iload_n hS 6 J_Arrays_fill4_d5 l7 rfl ?_
      refine iq_iload_n hS 7 J_Arrays_fill4_d6 l8 rfl ?_
      refine iq_icmp_ge hS 10 J_Arrays_fill4_d7 (t := 20) rfl (fun q7 => ?_) rfl (fun q7 => ?_)
      · replace h := ed_pos q7 h
        exact K1 _ _ hM4  (lq_r h hq1)
      · replace h := ed_neg q7 h
        refine iq_aload_n hS 11 J_Arrays_fill4_d10 l5 rfl ?_
        refine iq_iload_n hS 12 J_Arrays_fill4_d11 l7 rfl ?_
        refine iq_iload_n hS 13 J_Arrays_fill4_d12 l6 rfl ?_
        obtain ⟨g13, h⟩ := ed_gd h
        refine iq_iastore hS 14 J_Arrays_fill4_d13 ⟨(ka_47 hM4).1, (ka_47 hM4).2, g13.1, ix_lt (kl_47 hM4) g13.2⟩ rfl ?_
        refine iq_iincv hS 17 J_Arrays_fill4_d14 (c := 1) (by decide +kernel) l7 (by decide) rfl ?_
        refine iq_goto hS J_Arrays_fill4_d17 (t := 5) rfl ?_
        exact ih _ _ _ hM4 (lk_1r l5 (by decide)) (lk_1i l6 (by decide)) lk_1s (lk_1i l8 (by decide)) (lq_l h)
  exact I1 n1 _ _ _ hM (lk_1r (lk_1r l0 (by decide)) (by decide)) (lk_1i (lk_1i l1 (by decide)) (by decide)) (lk_1i lk_1s (by decide)) lk_1s hn1
noncomputable def f_HBlocks_times (p0 : Int32) (p1 : Int32) (M : im_M) : Option (Int32) := jn0 (fun (_ : Unit) => some 0) fun k1 => if p0 = 0 then k1 () else if ¬ p1 = 0 then gd (inb p0 256) <| gd (inb p1 256) <| gd (inb ((im_i M 46 (Int32.toNatClampNeg p0)) + (im_i M 46 (Int32.toNatClampNeg p1))) 510) <| some (im_i M 45 (Int32.toNatClampNeg ((im_i M 46 (Int32.toNatClampNeg p0)) + (im_i M 46 (Int32.toNatClampNeg p1))))) else k1 ()
theorem J_HBlocks_times_d0 : decode J_HBlocks_times.2.1 0 = .ok (.iload_n 1, 1) := by decide +kernel
theorem J_HBlocks_times_d1 : decode J_HBlocks_times.2.1 1 = .ok (.ifCond .eq 7, 3) := by decide +kernel
theorem J_HBlocks_times_d4 : decode J_HBlocks_times.2.1 4 = .ok (.iload_n 2, 1) := by decide +kernel
theorem J_HBlocks_times_d5 : decode J_HBlocks_times.2.1 5 = .ok (.ifCond .ne 7, 3) := by decide +kernel
theorem J_HBlocks_times_d8 : decode J_HBlocks_times.2.1 8 = .ok (.iconst 0, 1) := by decide +kernel
theorem J_HBlocks_times_d9 : decode J_HBlocks_times.2.1 9 = .ok (.goto 21, 3) := by decide +kernel
theorem J_HBlocks_times_d12 : decode J_HBlocks_times.2.1 12 = .ok (.aload_n 0, 1) := by decide +kernel
theorem J_HBlocks_times_d13 : decode J_HBlocks_times.2.1 13 = .ok (.getfield 15, 3) := by decide +kernel
theorem J_HBlocks_times_d16 : decode J_HBlocks_times.2.1 16 = .ok (.aload_n 0, 1) := by decide +kernel
theorem J_HBlocks_times_d17 : decode J_HBlocks_times.2.1 17 = .ok (.getfield 19, 3) := by decide +kernel
theorem J_HBlocks_times_d20 : decode J_HBlocks_times.2.1 20 = .ok (.iload_n 1, 1) := by decide +kernel
theorem J_HBlocks_times_d21 : decode J_HBlocks_times.2.1 21 = .ok (.iaload, 1) := by decide +kernel
theorem J_HBlocks_times_d22 : decode J_HBlocks_times.2.1 22 = .ok (.aload_n 0, 1) := by decide +kernel
theorem J_HBlocks_times_d23 : decode J_HBlocks_times.2.1 23 = .ok (.getfield 19, 3) := by decide +kernel
theorem J_HBlocks_times_d26 : decode J_HBlocks_times.2.1 26 = .ok (.iload_n 2, 1) := by decide +kernel
theorem J_HBlocks_times_d27 : decode J_HBlocks_times.2.1 27 = .ok (.iaload, 1) := by decide +kernel
theorem J_HBlocks_times_d28 : decode J_HBlocks_times.2.1 28 = .ok (.iadd, 1) := by decide +kernel
theorem J_HBlocks_times_d29 : decode J_HBlocks_times.2.1 29 = .ok (.iaload, 1) := by decide +kernel
theorem J_HBlocks_times_d30 : decode J_HBlocks_times.2.1 30 = .ok (.ireturn, 1) := by decide +kernel
theorem f_HBlocks_times_ok {L : Nat} {xs : Nat → Int32} {dep : Nat} {w : Bool} {p0 : Int32} {p1 : Int32} {M : im_M} {Q : Int32 → Prop} (hM : lw_S w M) (h : ed (f_HBlocks_times p0 p1 M) Q) : ia (tb_G L xs) dep J_HBlocks_times (rpI M Q) (0, lv_args 0 [.ref 43, .int p0, .int p1], [], M) := by
  have hS : im_St (tb_G L xs) dep J_HBlocks_times (ia (tb_G L xs) dep J_HBlocks_times (rpI M Q)) := ia_St
  unfold f_HBlocks_times at h
  have l0 : im_lk (lv_args 0 [.ref 43, .int p0, .int p1]) 0 = some (.ref 43) := rfl
  have l1 : im_lk (lv_args 0 [.ref 43, .int p0, .int p1]) 1 = some (.int p0) := rfl
  have l2 : im_lk (lv_args 0 [.ref 43, .int p0, .int p1]) 2 = some (.int p1) := rfl
  refine iq_iload_n hS 1 J_HBlocks_times_d0 l1 rfl ?_
  obtain ⟨k1, Q1, hQ1, hk1, h⟩ := jn0_ed h
  have J1 : ∀  (L' : List (Nat × Value)), Q1 () → ia (tb_G L xs) dep J_HBlocks_times (rpI M Q) (8, L', [], M) := by
    intro  L'  h
    replace h := hQ1  h
    refine iq_iconst hS 9 J_HBlocks_times_d8 (v := 0) (by decide +kernel) rfl ?_
    refine iq_goto hS J_HBlocks_times_d9 (t := 30) rfl ?_
    exact iq_iret J_HBlocks_times_d30 rfl rfl ⟨_, rfl, rfl, ed_some h⟩
  refine iq_if_eq hS 4 J_HBlocks_times_d1 (t := 8) rfl (fun q1 => ?_) rfl (fun q1 => ?_)
  · replace h := ed_pos q1 h
    exact J1  _  (hk1  h)
  · replace h := ed_neg q1 h
    refine iq_iload_n hS 5 J_HBlocks_times_d4 l2 rfl ?_
    refine iq_if_ne hS 8 J_HBlocks_times_d5 (t := 12) rfl (fun q5 => ?_) rfl (fun q5 => ?_)
    · replace h := ed_pos q5 h
      refine iq_aload_n hS 13 J_HBlocks_times_d12 l0 rfl ?_
      refine iq_getR hS 16 J_HBlocks_times_d13 lf_1_15 (Or.inr ⟨_, rfl⟩) (ka_43 hM) (ra_43_1 hM) rfl ?_
      refine iq_aload_n hS 17 J_HBlocks_times_d16 l0 rfl ?_
      refine iq_getR hS 20 J_HBlocks_times_d17 lf_1_19 (Or.inr ⟨_, rfl⟩) (ka_43 hM) (ra_43_2 hM) rfl ?_
      refine iq_iload_n hS 21 J_HBlocks_times_d20 l1 rfl ?_
      obtain ⟨g21, h⟩ := ed_gd h
      refine iq_iaload hS 22 J_HBlocks_times_d21 ⟨(ka_46 hM).1, (ka_46 hM).2, g21.1, ix_lt (kl_46 hM) g21.2⟩ rfl ?_
      refine iq_aload_n hS 23 J_HBlocks_times_d22 l0 rfl ?_
      refine iq_getR hS 26 J_HBlocks_times_d23 lf_1_19 (Or.inr ⟨_, rfl⟩) (ka_43 hM) (ra_43_2 hM) rfl ?_
      refine iq_iload_n hS 27 J_HBlocks_times_d26 l2 rfl ?_
      obtain ⟨g27, h⟩ := ed_gd h
      refine iq_iaload hS 28 J_HBlocks_times_d27 ⟨(ka_46 hM).1, (ka_46 hM).2, g27.1, ix_lt (kl_46 hM) g27.2⟩ rfl ?_
      refine iq_iadd hS 29 J_HBlocks_times_d28 rfl ?_
      obtain ⟨g29, h⟩ := ed_gd h
      refine iq_iaload hS 30 J_HBlocks_times_d29 ⟨(ka_45 hM).1, (ka_45 hM).2, g29.1, ix_lt (kl_45 hM) g29.2⟩ rfl ?_
      exact iq_iret J_HBlocks_times_d30 rfl rfl ⟨_, rfl, rfl, ed_some h⟩
    · replace h := ed_neg q5 h
      exact J1  _  (hk1  h)
noncomputable def f_HBlocks_makeGenerator_L29 (v6 : Int32) (x7 : Int32) (M8 : im_M) : Option ((Int32 × im_M) ⊕ (im_M)) := if x7 ≤ 0 then some (.inr M8) else gd (inb x7 31) <| gd (inb (x7 - 1) 31) <| gd (inb v6 510) <| bd1 (f_HBlocks_times (im_i M8 47 (Int32.toNatClampNeg (x7 - 1))) (im_i M8 45 (Int32.toNatClampNeg v6)) M8) fun (x9 : Int32) => gd (inb x7 31) <| some (.inl ((x7 + (-1)), (im_setI M8 47 (Int32.toNatClampNeg x7) ((im_i M8 47 (Int32.toNatClampNeg x7)) ^^^ x9))))
noncomputable def f_HBlocks_makeGenerator_L17 (x3 : Int32) (M4 : im_M) : Option ((Int32 × im_M) ⊕ (im_M)) := if (im_i M4 43 12) ≤ x3 then some (.inr M4) else bd1 (lp (uc2 (f_HBlocks_makeGenerator_L29 x3)) ((x3 + 1), M4)) fun (M10 : im_M) => some (.inl ((x3 + 1), M10))
noncomputable def f_HBlocks_makeGenerator (M : im_M) : Option (im_M) := bd1 (f_Arrays_fill4 0 M) fun (M1 : im_M) => gd (inb 0 31) <| bd1 (lp (uc2 (f_HBlocks_makeGenerator_L17)) (0, (im_setI M1 47 (Int32.toNatClampNeg 0) 1))) fun (M11 : im_M) => some M11
theorem J_HBlocks_makeGenerator_d0 : decode J_HBlocks_makeGenerator.2.1 0 = .ok (.aload_n 0, 1) := by decide +kernel
theorem J_HBlocks_makeGenerator_d1 : decode J_HBlocks_makeGenerator.2.1 1 = .ok (.getfield 22, 3) := by decide +kernel
theorem J_HBlocks_makeGenerator_d4 : decode J_HBlocks_makeGenerator.2.1 4 = .ok (.iconst 0, 1) := by decide +kernel
theorem J_HBlocks_makeGenerator_d5 : decode J_HBlocks_makeGenerator.2.1 5 = .ok (.invokestatic 87, 3) := by decide +kernel
theorem J_HBlocks_makeGenerator_d8 : decode J_HBlocks_makeGenerator.2.1 8 = .ok (.aload_n 0, 1) := by decide +kernel
theorem J_HBlocks_makeGenerator_d9 : decode J_HBlocks_makeGenerator.2.1 9 = .ok (.getfield 22, 3) := by decide +kernel
theorem J_HBlocks_makeGenerator_d12 : decode J_HBlocks_makeGenerator.2.1 12 = .ok (.iconst 0, 1) := by decide +kernel
theorem J_HBlocks_makeGenerator_d13 : decode J_HBlocks_makeGenerator.2.1 13 = .ok (.iconst 1, 1) := by decide +kernel
theorem J_HBlocks_makeGenerator_d14 : decode J_HBlocks_makeGenerator.2.1 14 = .ok (.iastore, 1) := by decide +kernel
theorem J_HBlocks_makeGenerator_d15 : decode J_HBlocks_makeGenerator.2.1 15 = .ok (.iconst 0, 1) := by decide +kernel
theorem J_HBlocks_makeGenerator_d16 : decode J_HBlocks_makeGenerator.2.1 16 = .ok (.istore_n 1, 1) := by decide +kernel
theorem J_HBlocks_makeGenerator_d17 : decode J_HBlocks_makeGenerator.2.1 17 = .ok (.iload_n 1, 1) := by decide +kernel
theorem J_HBlocks_makeGenerator_d18 : decode J_HBlocks_makeGenerator.2.1 18 = .ok (.aload_n 0, 1) := by decide +kernel
theorem J_HBlocks_makeGenerator_d19 : decode J_HBlocks_makeGenerator.2.1 19 = .ok (.getfield 57, 3) := by decide +kernel
theorem J_HBlocks_makeGenerator_d22 : decode J_HBlocks_makeGenerator.2.1 22 = .ok (.if_icmp .ge 50, 3) := by decide +kernel
theorem J_HBlocks_makeGenerator_d25 : decode J_HBlocks_makeGenerator.2.1 25 = .ok (.iload_n 1, 1) := by decide +kernel
theorem J_HBlocks_makeGenerator_d26 : decode J_HBlocks_makeGenerator.2.1 26 = .ok (.iconst 1, 1) := by decide +kernel
theorem J_HBlocks_makeGenerator_d27 : decode J_HBlocks_makeGenerator.2.1 27 = .ok (.iadd, 1) := by decide +kernel
theorem J_HBlocks_makeGenerator_d28 : decode J_HBlocks_makeGenerator.2.1 28 = .ok (.istore_n 2, 1) := by decide +kernel
theorem J_HBlocks_makeGenerator_d29 : decode J_HBlocks_makeGenerator.2.1 29 = .ok (.iload_n 2, 1) := by decide +kernel
theorem J_HBlocks_makeGenerator_d30 : decode J_HBlocks_makeGenerator.2.1 30 = .ok (.ifCond .le 36, 3) := by decide +kernel
theorem J_HBlocks_makeGenerator_d33 : decode J_HBlocks_makeGenerator.2.1 33 = .ok (.aload_n 0, 1) := by decide +kernel
theorem J_HBlocks_makeGenerator_d34 : decode J_HBlocks_makeGenerator.2.1 34 = .ok (.getfield 22, 3) := by decide +kernel
theorem J_HBlocks_makeGenerator_d37 : decode J_HBlocks_makeGenerator.2.1 37 = .ok (.iload_n 2, 1) := by decide +kernel
theorem J_HBlocks_makeGenerator_d38 : decode J_HBlocks_makeGenerator.2.1 38 = .ok (.dup2, 1) := by decide +kernel
theorem J_HBlocks_makeGenerator_d39 : decode J_HBlocks_makeGenerator.2.1 39 = .ok (.iaload, 1) := by decide +kernel
theorem J_HBlocks_makeGenerator_d40 : decode J_HBlocks_makeGenerator.2.1 40 = .ok (.aload_n 0, 1) := by decide +kernel
theorem J_HBlocks_makeGenerator_d41 : decode J_HBlocks_makeGenerator.2.1 41 = .ok (.aload_n 0, 1) := by decide +kernel
theorem J_HBlocks_makeGenerator_d42 : decode J_HBlocks_makeGenerator.2.1 42 = .ok (.getfield 22, 3) := by decide +kernel
theorem J_HBlocks_makeGenerator_d45 : decode J_HBlocks_makeGenerator.2.1 45 = .ok (.iload_n 2, 1) := by decide +kernel
theorem J_HBlocks_makeGenerator_d46 : decode J_HBlocks_makeGenerator.2.1 46 = .ok (.iconst 1, 1) := by decide +kernel
theorem J_HBlocks_makeGenerator_d47 : decode J_HBlocks_makeGenerator.2.1 47 = .ok (.isub, 1) := by decide +kernel
theorem J_HBlocks_makeGenerator_d48 : decode J_HBlocks_makeGenerator.2.1 48 = .ok (.iaload, 1) := by decide +kernel
theorem J_HBlocks_makeGenerator_d49 : decode J_HBlocks_makeGenerator.2.1 49 = .ok (.aload_n 0, 1) := by decide +kernel
theorem J_HBlocks_makeGenerator_d50 : decode J_HBlocks_makeGenerator.2.1 50 = .ok (.getfield 15, 3) := by decide +kernel
theorem J_HBlocks_makeGenerator_d53 : decode J_HBlocks_makeGenerator.2.1 53 = .ok (.iload_n 1, 1) := by decide +kernel
theorem J_HBlocks_makeGenerator_d54 : decode J_HBlocks_makeGenerator.2.1 54 = .ok (.iaload, 1) := by decide +kernel
theorem J_HBlocks_makeGenerator_d55 : decode J_HBlocks_makeGenerator.2.1 55 = .ok (.invokevirtual 93, 3) := by decide +kernel
theorem J_HBlocks_makeGenerator_d58 : decode J_HBlocks_makeGenerator.2.1 58 = .ok (.ixor, 1) := by decide +kernel
theorem J_HBlocks_makeGenerator_d59 : decode J_HBlocks_makeGenerator.2.1 59 = .ok (.iastore, 1) := by decide +kernel
theorem J_HBlocks_makeGenerator_d60 : decode J_HBlocks_makeGenerator.2.1 60 = .ok (.iinc 2 (-1), 3) := by decide +kernel
theorem J_HBlocks_makeGenerator_d63 : decode J_HBlocks_makeGenerator.2.1 63 = .ok (.goto (-34), 3) := by decide +kernel
theorem J_HBlocks_makeGenerator_d66 : decode J_HBlocks_makeGenerator.2.1 66 = .ok (.iinc 1 1, 3) := by decide +kernel
theorem J_HBlocks_makeGenerator_d69 : decode J_HBlocks_makeGenerator.2.1 69 = .ok (.goto (-52), 3) := by decide +kernel
theorem J_HBlocks_makeGenerator_d72 : decode J_HBlocks_makeGenerator.2.1 72 = .ok (.return_, 1) := by decide +kernel
theorem f_HBlocks_makeGenerator_ok {L : Nat} {xs : Nat → Int32} {dep : Nat} {w : Bool} {M : im_M} {Q : im_M → Prop} (hM : lw_S w M) (h : ed (f_HBlocks_makeGenerator M) Q) : ia (tb_G L xs) (dep + 1) J_HBlocks_makeGenerator (rwV w Q) (0, lv_args 0 [.ref 43], [], M) := by
  have hS : im_St (tb_G L xs) (dep + 1) J_HBlocks_makeGenerator (ia (tb_G L xs) (dep + 1) J_HBlocks_makeGenerator (rwV w Q)) := ia_St
  unfold f_HBlocks_makeGenerator at h
  have l0 : im_lk (lv_args 0 [.ref 43]) 0 = some (.ref 43) := rfl
  refine iq_aload_n hS 1 J_HBlocks_makeGenerator_d0 l0 rfl ?_
  refine iq_getR hS 4 J_HBlocks_makeGenerator_d1 lf_1_22 (Or.inr ⟨_, rfl⟩) (ka_43 hM) (ra_43_3 hM) rfl ?_
  refine iq_iconst hS 5 J_HBlocks_makeGenerator_d4 (v := 0) (by decide +kernel) rfl ?_
  obtain ⟨Q1, hQ1, h⟩ := bd1_ed h
  refine iq_cwV hS 8 J_HBlocks_makeGenerator_d5 rfl (pr_stat (vs := [_, _]) lc_1_87 lT_150 rfl rfl (by decide) rfl (Nat.le_of_ble_eq_true rfl) (Nat.le_of_ble_eq_true rfl)) (f_Arrays_fill4_ok (dep := dep + 0) hM h) rfl ?_
  intro M1 hM1 h
  replace h := hQ1 _ h
  refine iq_aload_n hS 9 J_HBlocks_makeGenerator_d8 l0 rfl ?_
  refine iq_getR hS 12 J_HBlocks_makeGenerator_d9 lf_1_22 (Or.inr ⟨_, rfl⟩) (ka_43 hM1) (ra_43_3 hM1) rfl ?_
  refine iq_iconst hS 13 J_HBlocks_makeGenerator_d12 (v := 0) (by decide +kernel) rfl ?_
  refine iq_iconst hS 14 J_HBlocks_makeGenerator_d13 (v := 1) (by decide +kernel) rfl ?_
  obtain ⟨g14, h⟩ := ed_gd h
  refine iq_iastore hS 15 J_HBlocks_makeGenerator_d14 ⟨(ka_47 hM1).1, (ka_47 hM1).2, g14.1, ix_lt (kl_47 hM1) g14.2⟩ rfl ?_
  refine iq_iconst hS 16 J_HBlocks_makeGenerator_d15 (v := 0) (by decide +kernel) rfl ?_
  refine iq_istore_n hS 17 J_HBlocks_makeGenerator_d16 (by decide) rfl ?_
  obtain ⟨Q2, hQ2, h⟩ := bd1_ed h
  have K2 : ∀ (M3 : im_M) (L' : List (Nat × Value)), lw_S w M3 → Q2 M3 → ia (tb_G L xs) (dep + 1) J_HBlocks_makeGenerator (rwV w Q) (72, L', [], M3) := by
    intro M3 L' hM3  h
    replace h := hQ2 _ h
    exact iq_ret J_HBlocks_makeGenerator_d72 rfl ⟨rfl, hM3, ed_some h⟩
  obtain ⟨r2, hr2, hq2⟩ := h
  obtain ⟨n2, hn2⟩ := lp_n hr2
  have I2 : ∀ (n : Nat) (x4 : Int32) (M5 : im_M) (L' : List (Nat × Value)), lw_S w M5 → im_lk L' 0 = some (.ref 43) → im_lk L' 1 = some (.int x4) → lpn (uc2 (f_HBlocks_makeGenerator_L17)) n (x4, M5) = some r2 → ia (tb_G L xs) (dep + 1) J_HBlocks_makeGenerator (rwV w Q) (17, L', [], M5) := by
    intro n
    induction n with
    | zero => intro x4 M5 L' hM5 l6 l7 hn; exact (lpn_0 hn).elim
    | succ n ih =>
      intro x4 M5 L' hM5 l6 l7 hn
      have h := lpn_ed2 hn
      unfold f_HBlocks_makeGenerator_L17 at h
      refine iq_iload_n hS 18 J_HBlocks_makeGenerator_d17 l7 rfl ?_
      refine iq_aload_n hS 19 J_HBlocks_makeGenerator_d18 l6 rfl ?_
      refine iq_getI hS 22 J_HBlocks_makeGenerator_d19 lf_1_57 (Or.inl rfl) (ka_43 hM5) rfl ?_
      refine iq_icmp_ge hS 25 J_HBlocks_makeGenerator_d22 (t := 72) rfl (fun q22 => ?_) rfl (fun q22 => ?_)
      · replace h := ed_pos q22 h
        exact K2 _ _ hM5  (lq_r h hq2)
      · replace h := ed_neg q22 h
        refine iq_iload_n hS 26 J_HBlocks_makeGenerator_d25 l7 rfl ?_
        refine iq_iconst hS 27 J_HBlocks_makeGenerator_d26 (v := 1) (by decide +kernel) rfl ?_
        refine iq_iadd hS 28 J_HBlocks_makeGenerator_d27 rfl ?_
        refine iq_istore_n hS 29 J_HBlocks_makeGenerator_d28 (by decide) rfl ?_
        obtain ⟨Q8, hQ8, h⟩ := bd1_ed h
        have K8 : ∀ (M9 : im_M) (L' : List (Nat × Value)), lw_S w M9 → im_lk L' 0 = some (.ref 43) → im_lk L' 1 = some (.int x4) → Q8 M9 → ia (tb_G L xs) (dep + 1) J_HBlocks_makeGenerator (rwV w Q) (66, L', [], M9) := by
          intro M9 L' hM9 l10 l11 h
          replace h := hQ8 _ h
          refine iq_iincv hS 69 J_HBlocks_makeGenerator_d66 (c := 1) (by decide +kernel) l11 (by decide) rfl ?_
          refine iq_goto hS J_HBlocks_makeGenerator_d69 (t := 17) rfl ?_
          exact ih _ _ _ hM9 (lk_1r l10 (by decide)) lk_1s (lq_l h)
        obtain ⟨r8, hr8, hq8⟩ := h
        obtain ⟨n8, hn8⟩ := lp_n hr8
        have I8 : ∀ (n : Nat) (x12 : Int32) (M13 : im_M) (L' : List (Nat × Value)), lw_S w M13 → im_lk L' 0 = some (.ref 43) → im_lk L' 1 = some (.int x4) → im_lk L' 2 = some (.int x12) → lpn (uc2 (f_HBlocks_makeGenerator_L29 x4)) n (x12, M13) = some r8 → ia (tb_G L xs) (dep + 1) J_HBlocks_makeGenerator (rwV w Q) (29, L', [], M13) := by
          intro n
          induction n with
          | zero => intro x12 M13 L' hM13 l14 l15 l16 hn; exact (lpn_0 hn).elim
          | succ n ih =>
            intro x12 M13 L' hM13 l14 l15 l16 hn
            have h := lpn_ed2 hn
            unfold f_HBlocks_makeGenerator_L29 at h
            refine iq_iload_n hS 30 J_HBlocks_makeGenerator_d29 l16 rfl ?_
            refine iq_if_le hS 33 J_HBlocks_makeGenerator_d30 (t := 66) rfl (fun q30 => ?_) rfl (fun q30 => ?_)
            · replace h := ed_pos q30 h
              exact K8 _ _ hM13 l14 l15 (lq_r h hq8)
            · replace h := ed_neg q30 h
              refine iq_aload_n hS 34 J_HBlocks_makeGenerator_d33 l14 rfl ?_
              refine iq_getR hS 37 J_HBlocks_makeGenerator_d34 lf_1_22 (Or.inr ⟨_, rfl⟩) (ka_43 hM13) (ra_43_3 hM13) rfl ?_
              refine iq_iload_n hS 38 J_HBlocks_makeGenerator_d37 l16 rfl ?_
              refine iq_dup2 hS 39 J_HBlocks_makeGenerator_d38 rfl rfl rfl ?_
              obtain ⟨g39, h⟩ := ed_gd h
              refine iq_iaload hS 40 J_HBlocks_makeGenerator_d39 ⟨(ka_47 hM13).1, (ka_47 hM13).2, g39.1, ix_lt (kl_47 hM13) g39.2⟩ rfl ?_
              refine iq_aload_n hS 41 J_HBlocks_makeGenerator_d40 l14 rfl ?_
              refine iq_aload_n hS 42 J_HBlocks_makeGenerator_d41 l14 rfl ?_
              refine iq_getR hS 45 J_HBlocks_makeGenerator_d42 lf_1_22 (Or.inr ⟨_, rfl⟩) (ka_43 hM13) (ra_43_3 hM13) rfl ?_
              refine iq_iload_n hS 46 J_HBlocks_makeGenerator_d45 l16 rfl ?_
              refine iq_iconst hS 47 J_HBlocks_makeGenerator_d46 (v := 1) (by decide +kernel) rfl ?_
              refine iq_isub hS 48 J_HBlocks_makeGenerator_d47 rfl ?_
              obtain ⟨g48, h⟩ := ed_gd h
              refine iq_iaload hS 49 J_HBlocks_makeGenerator_d48 ⟨(ka_47 hM13).1, (ka_47 hM13).2, g48.1, ix_lt (kl_47 hM13) g48.2⟩ rfl ?_
              refine iq_aload_n hS 50 J_HBlocks_makeGenerator_d49 l14 rfl ?_
              refine iq_getR hS 53 J_HBlocks_makeGenerator_d50 lf_1_15 (Or.inr ⟨_, rfl⟩) (ka_43 hM13) (ra_43_1 hM13) rfl ?_
              refine iq_iload_n hS 54 J_HBlocks_makeGenerator_d53 l15 rfl ?_
              obtain ⟨g54, h⟩ := ed_gd h
              refine iq_iaload hS 55 J_HBlocks_makeGenerator_d54 ⟨(ka_45 hM13).1, (ka_45 hM13).2, g54.1, ix_lt (kl_45 hM13) g54.2⟩ rfl ?_
              obtain ⟨Q17, hQ17, h⟩ := bd1_ed h
              refine iq_cpI hS 58 J_HBlocks_makeGenerator_d55 rfl (pr_inst (vs := [_, _]) lc_1_93 lT_151 rfl rfl (by decide) (by decide) rfl (Nat.le_of_ble_eq_true rfl) (Nat.le_of_ble_eq_true rfl) (fun _ => Or.inl (pr_b (ka_43 hM13) (by decide) rfl))) (f_HBlocks_times_ok (dep := dep + 0) hM13 h) rfl ?_
              intro x17 h
              replace h := hQ17 _ h
              refine iq_ixor hS 59 J_HBlocks_makeGenerator_d58 rfl ?_
              obtain ⟨g59, h⟩ := ed_gd h
              refine iq_iastore hS 60 J_HBlocks_makeGenerator_d59 ⟨(ka_47 hM13).1, (ka_47 hM13).2, g59.1, ix_lt (kl_47 hM13) g59.2⟩ rfl ?_
              refine iq_iincv hS 63 J_HBlocks_makeGenerator_d60 (c := (-1)) (by decide +kernel) l16 (by decide) rfl ?_
              refine iq_goto hS J_HBlocks_makeGenerator_d63 (t := 29) rfl ?_
              exact ih _ _ _ hM13 (lk_1r l14 (by decide)) (lk_1i l15 (by decide)) lk_1s (lq_l h)
        exact I8 n8 _ _ _ hM5 (lk_1r l6 (by decide)) (lk_1i l7 (by decide)) lk_1s hn8
  exact I2 n2 _ _ _ hM1 (lk_1r l0 (by decide)) lk_1s hn2
noncomputable def f_HBlocks_sizeOf (p0 : Int32) (M : im_M) : Option (Int32) := gd (¬ (im_i M 43 11) = (0 : Int32)) <| gd (¬ (im_i M 43 11) = (0 : Int32)) <| some (((im_i M 43 10) / (im_i M 43 11)) + ((if p0 < ((im_i M 43 11) - ((im_i M 43 10) - (im_i M 43 10) / (im_i M 43 11) * (im_i M 43 11))) then 0 else 1) : Int32))
theorem J_HBlocks_sizeOf_d0 : decode J_HBlocks_sizeOf.2.1 0 = .ok (.aload_n 0, 1) := by decide +kernel
theorem J_HBlocks_sizeOf_d1 : decode J_HBlocks_sizeOf.2.1 1 = .ok (.getfield 64, 3) := by decide +kernel
theorem J_HBlocks_sizeOf_d4 : decode J_HBlocks_sizeOf.2.1 4 = .ok (.aload_n 0, 1) := by decide +kernel
theorem J_HBlocks_sizeOf_d5 : decode J_HBlocks_sizeOf.2.1 5 = .ok (.getfield 53, 3) := by decide +kernel
theorem J_HBlocks_sizeOf_d8 : decode J_HBlocks_sizeOf.2.1 8 = .ok (.idiv, 1) := by decide +kernel
theorem J_HBlocks_sizeOf_d9 : decode J_HBlocks_sizeOf.2.1 9 = .ok (.iload_n 1, 1) := by decide +kernel
theorem J_HBlocks_sizeOf_d10 : decode J_HBlocks_sizeOf.2.1 10 = .ok (.aload_n 0, 1) := by decide +kernel
theorem J_HBlocks_sizeOf_d11 : decode J_HBlocks_sizeOf.2.1 11 = .ok (.getfield 53, 3) := by decide +kernel
theorem J_HBlocks_sizeOf_d14 : decode J_HBlocks_sizeOf.2.1 14 = .ok (.aload_n 0, 1) := by decide +kernel
theorem J_HBlocks_sizeOf_d15 : decode J_HBlocks_sizeOf.2.1 15 = .ok (.getfield 64, 3) := by decide +kernel
theorem J_HBlocks_sizeOf_d18 : decode J_HBlocks_sizeOf.2.1 18 = .ok (.aload_n 0, 1) := by decide +kernel
theorem J_HBlocks_sizeOf_d19 : decode J_HBlocks_sizeOf.2.1 19 = .ok (.getfield 53, 3) := by decide +kernel
theorem J_HBlocks_sizeOf_d22 : decode J_HBlocks_sizeOf.2.1 22 = .ok (.irem, 1) := by decide +kernel
theorem J_HBlocks_sizeOf_d23 : decode J_HBlocks_sizeOf.2.1 23 = .ok (.isub, 1) := by decide +kernel
theorem J_HBlocks_sizeOf_d24 : decode J_HBlocks_sizeOf.2.1 24 = .ok (.if_icmp .lt 7, 3) := by decide +kernel
theorem J_HBlocks_sizeOf_d27 : decode J_HBlocks_sizeOf.2.1 27 = .ok (.iconst 1, 1) := by decide +kernel
theorem J_HBlocks_sizeOf_d28 : decode J_HBlocks_sizeOf.2.1 28 = .ok (.goto 4, 3) := by decide +kernel
theorem J_HBlocks_sizeOf_d31 : decode J_HBlocks_sizeOf.2.1 31 = .ok (.iconst 0, 1) := by decide +kernel
theorem J_HBlocks_sizeOf_d32 : decode J_HBlocks_sizeOf.2.1 32 = .ok (.iadd, 1) := by decide +kernel
theorem J_HBlocks_sizeOf_d33 : decode J_HBlocks_sizeOf.2.1 33 = .ok (.ireturn, 1) := by decide +kernel
theorem f_HBlocks_sizeOf_ok {L : Nat} {xs : Nat → Int32} {dep : Nat} {w : Bool} {p0 : Int32} {M : im_M} {Q : Int32 → Prop} (hM : lw_S w M) (h : ed (f_HBlocks_sizeOf p0 M) Q) : ia (tb_G L xs) dep J_HBlocks_sizeOf (rpI M Q) (0, lv_args 0 [.ref 43, .int p0], [], M) := by
  have hS : im_St (tb_G L xs) dep J_HBlocks_sizeOf (ia (tb_G L xs) dep J_HBlocks_sizeOf (rpI M Q)) := ia_St
  unfold f_HBlocks_sizeOf at h
  have l0 : im_lk (lv_args 0 [.ref 43, .int p0]) 0 = some (.ref 43) := rfl
  have l1 : im_lk (lv_args 0 [.ref 43, .int p0]) 1 = some (.int p0) := rfl
  refine iq_aload_n hS 1 J_HBlocks_sizeOf_d0 l0 rfl ?_
  refine iq_getI hS 4 J_HBlocks_sizeOf_d1 lf_1_64 (Or.inl rfl) (ka_43 hM) rfl ?_
  refine iq_aload_n hS 5 J_HBlocks_sizeOf_d4 l0 rfl ?_
  refine iq_getI hS 8 J_HBlocks_sizeOf_d5 lf_1_53 (Or.inl rfl) (ka_43 hM) rfl ?_
  obtain ⟨g8, h⟩ := ed_gd h
  refine iq_idiv hS 9 J_HBlocks_sizeOf_d8 g8 rfl ?_
  refine iq_iload_n hS 10 J_HBlocks_sizeOf_d9 l1 rfl ?_
  refine iq_aload_n hS 11 J_HBlocks_sizeOf_d10 l0 rfl ?_
  refine iq_getI hS 14 J_HBlocks_sizeOf_d11 lf_1_53 (Or.inl rfl) (ka_43 hM) rfl ?_
  refine iq_aload_n hS 15 J_HBlocks_sizeOf_d14 l0 rfl ?_
  refine iq_getI hS 18 J_HBlocks_sizeOf_d15 lf_1_64 (Or.inl rfl) (ka_43 hM) rfl ?_
  refine iq_aload_n hS 19 J_HBlocks_sizeOf_d18 l0 rfl ?_
  refine iq_getI hS 22 J_HBlocks_sizeOf_d19 lf_1_53 (Or.inl rfl) (ka_43 hM) rfl ?_
  obtain ⟨g22, h⟩ := ed_gd h
  refine iq_irem hS 23 J_HBlocks_sizeOf_d22 g22 rfl ?_
  refine iq_isub hS 24 J_HBlocks_sizeOf_d23 rfl ?_
  have J1 : ∀ (z2 : Int32) (L' : List (Nat × Value)), z2 = ((if p0 < ((im_i M 43 11) - ((im_i M 43 10) - (im_i M 43 10) / (im_i M 43 11) * (im_i M 43 11))) then 0 else 1) : Int32) → ia (tb_G L xs) dep J_HBlocks_sizeOf (rpI M Q) (32, L', [.int z2, .int ((im_i M 43 10) / (im_i M 43 11))], M) := by
    intro z2 L' e3 
    subst e3
    refine iq_iadd hS 33 J_HBlocks_sizeOf_d32 rfl ?_
    exact iq_iret J_HBlocks_sizeOf_d33 rfl rfl ⟨_, rfl, rfl, ed_some h⟩
  refine iq_icmp_lt hS 27 J_HBlocks_sizeOf_d24 (t := 31) rfl (fun q24 => ?_) rfl (fun q24 => ?_)
  · refine iq_iconst hS 32 J_HBlocks_sizeOf_d31 (v := 0) (by decide +kernel) rfl ?_
    exact J1 _ _ (by rw [if_pos q24]) 
  · refine iq_iconst hS 28 J_HBlocks_sizeOf_d27 (v := 1) (by decide +kernel) rfl ?_
    refine iq_goto hS J_HBlocks_sizeOf_d28 (t := 32) rfl ?_
    exact J1 _ _ (by rw [if_neg q24]) 
noncomputable def f_HBlocks_placeOf (p0 : Int32) (p1 : Int32) (M : im_M) : Option (Int32) := bd1 (f_HBlocks_sizeOf p0 M) fun (x1 : Int32) => gd (¬ (im_i M 43 11) = (0 : Int32)) <| if p1 < x1 then if ((im_i M 43 10) / (im_i M 43 11)) ≤ p1 then gd (¬ (im_i M 43 11) = (0 : Int32)) <| some (((((im_i M 43 10) / (im_i M 43 11)) * (im_i M 43 11)) + p0) - ((im_i M 43 11) - ((im_i M 43 10) - (im_i M 43 10) / (im_i M 43 11) * (im_i M 43 11)))) else some ((p1 * (im_i M 43 11)) + p0) else some (((im_i M 43 10) + ((p1 - x1) * (im_i M 43 11))) + p0)
theorem J_HBlocks_placeOf_d0 : decode J_HBlocks_placeOf.2.1 0 = .ok (.aload_n 0, 1) := by decide +kernel
theorem J_HBlocks_placeOf_d1 : decode J_HBlocks_placeOf.2.1 1 = .ok (.iload_n 1, 1) := by decide +kernel
theorem J_HBlocks_placeOf_d2 : decode J_HBlocks_placeOf.2.1 2 = .ok (.invokevirtual 70, 3) := by decide +kernel
theorem J_HBlocks_placeOf_d5 : decode J_HBlocks_placeOf.2.1 5 = .ok (.istore_n 3, 1) := by decide +kernel
theorem J_HBlocks_placeOf_d6 : decode J_HBlocks_placeOf.2.1 6 = .ok (.aload_n 0, 1) := by decide +kernel
theorem J_HBlocks_placeOf_d7 : decode J_HBlocks_placeOf.2.1 7 = .ok (.getfield 64, 3) := by decide +kernel
theorem J_HBlocks_placeOf_d10 : decode J_HBlocks_placeOf.2.1 10 = .ok (.aload_n 0, 1) := by decide +kernel
theorem J_HBlocks_placeOf_d11 : decode J_HBlocks_placeOf.2.1 11 = .ok (.getfield 53, 3) := by decide +kernel
theorem J_HBlocks_placeOf_d14 : decode J_HBlocks_placeOf.2.1 14 = .ok (.idiv, 1) := by decide +kernel
theorem J_HBlocks_placeOf_d15 : decode J_HBlocks_placeOf.2.1 15 = .ok (.istore 4, 2) := by decide +kernel
theorem J_HBlocks_placeOf_d17 : decode J_HBlocks_placeOf.2.1 17 = .ok (.iload_n 2, 1) := by decide +kernel
theorem J_HBlocks_placeOf_d18 : decode J_HBlocks_placeOf.2.1 18 = .ok (.iload_n 3, 1) := by decide +kernel
theorem J_HBlocks_placeOf_d19 : decode J_HBlocks_placeOf.2.1 19 = .ok (.if_icmp .lt 19, 3) := by decide +kernel
theorem J_HBlocks_placeOf_d22 : decode J_HBlocks_placeOf.2.1 22 = .ok (.aload_n 0, 1) := by decide +kernel
theorem J_HBlocks_placeOf_d23 : decode J_HBlocks_placeOf.2.1 23 = .ok (.getfield 64, 3) := by decide +kernel
theorem J_HBlocks_placeOf_d26 : decode J_HBlocks_placeOf.2.1 26 = .ok (.iload_n 2, 1) := by decide +kernel
theorem J_HBlocks_placeOf_d27 : decode J_HBlocks_placeOf.2.1 27 = .ok (.iload_n 3, 1) := by decide +kernel
theorem J_HBlocks_placeOf_d28 : decode J_HBlocks_placeOf.2.1 28 = .ok (.isub, 1) := by decide +kernel
theorem J_HBlocks_placeOf_d29 : decode J_HBlocks_placeOf.2.1 29 = .ok (.aload_n 0, 1) := by decide +kernel
theorem J_HBlocks_placeOf_d30 : decode J_HBlocks_placeOf.2.1 30 = .ok (.getfield 53, 3) := by decide +kernel
theorem J_HBlocks_placeOf_d33 : decode J_HBlocks_placeOf.2.1 33 = .ok (.imul, 1) := by decide +kernel
theorem J_HBlocks_placeOf_d34 : decode J_HBlocks_placeOf.2.1 34 = .ok (.iadd, 1) := by decide +kernel
theorem J_HBlocks_placeOf_d35 : decode J_HBlocks_placeOf.2.1 35 = .ok (.iload_n 1, 1) := by decide +kernel
theorem J_HBlocks_placeOf_d36 : decode J_HBlocks_placeOf.2.1 36 = .ok (.iadd, 1) := by decide +kernel
theorem J_HBlocks_placeOf_d37 : decode J_HBlocks_placeOf.2.1 37 = .ok (.ireturn, 1) := by decide +kernel
theorem J_HBlocks_placeOf_d38 : decode J_HBlocks_placeOf.2.1 38 = .ok (.iload_n 2, 1) := by decide +kernel
theorem J_HBlocks_placeOf_d39 : decode J_HBlocks_placeOf.2.1 39 = .ok (.iload 4, 2) := by decide +kernel
theorem J_HBlocks_placeOf_d41 : decode J_HBlocks_placeOf.2.1 41 = .ok (.if_icmp .ge 14, 3) := by decide +kernel
theorem J_HBlocks_placeOf_d44 : decode J_HBlocks_placeOf.2.1 44 = .ok (.iload_n 2, 1) := by decide +kernel
theorem J_HBlocks_placeOf_d45 : decode J_HBlocks_placeOf.2.1 45 = .ok (.aload_n 0, 1) := by decide +kernel
theorem J_HBlocks_placeOf_d46 : decode J_HBlocks_placeOf.2.1 46 = .ok (.getfield 53, 3) := by decide +kernel
theorem J_HBlocks_placeOf_d49 : decode J_HBlocks_placeOf.2.1 49 = .ok (.imul, 1) := by decide +kernel
theorem J_HBlocks_placeOf_d50 : decode J_HBlocks_placeOf.2.1 50 = .ok (.iload_n 1, 1) := by decide +kernel
theorem J_HBlocks_placeOf_d51 : decode J_HBlocks_placeOf.2.1 51 = .ok (.iadd, 1) := by decide +kernel
theorem J_HBlocks_placeOf_d52 : decode J_HBlocks_placeOf.2.1 52 = .ok (.goto 27, 3) := by decide +kernel
theorem J_HBlocks_placeOf_d55 : decode J_HBlocks_placeOf.2.1 55 = .ok (.iload 4, 2) := by decide +kernel
theorem J_HBlocks_placeOf_d57 : decode J_HBlocks_placeOf.2.1 57 = .ok (.aload_n 0, 1) := by decide +kernel
theorem J_HBlocks_placeOf_d58 : decode J_HBlocks_placeOf.2.1 58 = .ok (.getfield 53, 3) := by decide +kernel
theorem J_HBlocks_placeOf_d61 : decode J_HBlocks_placeOf.2.1 61 = .ok (.imul, 1) := by decide +kernel
theorem J_HBlocks_placeOf_d62 : decode J_HBlocks_placeOf.2.1 62 = .ok (.iload_n 1, 1) := by decide +kernel
theorem J_HBlocks_placeOf_d63 : decode J_HBlocks_placeOf.2.1 63 = .ok (.iadd, 1) := by decide +kernel
theorem J_HBlocks_placeOf_d64 : decode J_HBlocks_placeOf.2.1 64 = .ok (.aload_n 0, 1) := by decide +kernel
theorem J_HBlocks_placeOf_d65 : decode J_HBlocks_placeOf.2.1 65 = .ok (.getfield 53, 3) := by decide +kernel
theorem J_HBlocks_placeOf_d68 : decode J_HBlocks_placeOf.2.1 68 = .ok (.aload_n 0, 1) := by decide +kernel
theorem J_HBlocks_placeOf_d69 : decode J_HBlocks_placeOf.2.1 69 = .ok (.getfield 64, 3) := by decide +kernel
theorem J_HBlocks_placeOf_d72 : decode J_HBlocks_placeOf.2.1 72 = .ok (.aload_n 0, 1) := by decide +kernel
theorem J_HBlocks_placeOf_d73 : decode J_HBlocks_placeOf.2.1 73 = .ok (.getfield 53, 3) := by decide +kernel
theorem J_HBlocks_placeOf_d76 : decode J_HBlocks_placeOf.2.1 76 = .ok (.irem, 1) := by decide +kernel
theorem J_HBlocks_placeOf_d77 : decode J_HBlocks_placeOf.2.1 77 = .ok (.isub, 1) := by decide +kernel
theorem J_HBlocks_placeOf_d78 : decode J_HBlocks_placeOf.2.1 78 = .ok (.isub, 1) := by decide +kernel
theorem J_HBlocks_placeOf_d79 : decode J_HBlocks_placeOf.2.1 79 = .ok (.ireturn, 1) := by decide +kernel
theorem f_HBlocks_placeOf_ok {L : Nat} {xs : Nat → Int32} {dep : Nat} {w : Bool} {p0 : Int32} {p1 : Int32} {M : im_M} {Q : Int32 → Prop} (hM : lw_S w M) (h : ed (f_HBlocks_placeOf p0 p1 M) Q) : ia (tb_G L xs) (dep + 1) J_HBlocks_placeOf (rpI M Q) (0, lv_args 0 [.ref 43, .int p0, .int p1], [], M) := by
  have hS : im_St (tb_G L xs) (dep + 1) J_HBlocks_placeOf (ia (tb_G L xs) (dep + 1) J_HBlocks_placeOf (rpI M Q)) := ia_St
  unfold f_HBlocks_placeOf at h
  have l0 : im_lk (lv_args 0 [.ref 43, .int p0, .int p1]) 0 = some (.ref 43) := rfl
  have l1 : im_lk (lv_args 0 [.ref 43, .int p0, .int p1]) 1 = some (.int p0) := rfl
  have l2 : im_lk (lv_args 0 [.ref 43, .int p0, .int p1]) 2 = some (.int p1) := rfl
  refine iq_aload_n hS 1 J_HBlocks_placeOf_d0 l0 rfl ?_
  refine iq_iload_n hS 2 J_HBlocks_placeOf_d1 l1 rfl ?_
  obtain ⟨Q1, hQ1, h⟩ := bd1_ed h
  refine iq_cpI hS 5 J_HBlocks_placeOf_d2 rfl (pr_inst (vs := [_]) lc_1_70 lT_152 rfl rfl (by decide) (by decide) rfl (Nat.le_of_ble_eq_true rfl) (Nat.le_of_ble_eq_true rfl) (fun _ => Or.inl (pr_b (ka_43 hM) (by decide) rfl))) (f_HBlocks_sizeOf_ok (dep := dep + 0) hM h) rfl ?_
  intro x1 h
  replace h := hQ1 _ h
  refine iq_istore_n hS 6 J_HBlocks_placeOf_d5 (by decide) rfl ?_
  refine iq_aload_n hS 7 J_HBlocks_placeOf_d6 (lk_1r l0 (by decide)) rfl ?_
  refine iq_getI hS 10 J_HBlocks_placeOf_d7 lf_1_64 (Or.inl rfl) (ka_43 hM) rfl ?_
  refine iq_aload_n hS 11 J_HBlocks_placeOf_d10 (lk_1r l0 (by decide)) rfl ?_
  refine iq_getI hS 14 J_HBlocks_placeOf_d11 lf_1_53 (Or.inl rfl) (ka_43 hM) rfl ?_
  obtain ⟨g14, h⟩ := ed_gd h
  refine iq_idiv hS 15 J_HBlocks_placeOf_d14 g14 rfl ?_
  refine iq_istore hS 17 J_HBlocks_placeOf_d15 (by decide) rfl ?_
  refine iq_iload_n hS 18 J_HBlocks_placeOf_d17 (lk_1i (lk_1i l2 (by decide)) (by decide)) rfl ?_
  refine iq_iload_n hS 19 J_HBlocks_placeOf_d18 (lk_1i lk_1s (by decide)) rfl ?_
  refine iq_icmp_lt hS 22 J_HBlocks_placeOf_d19 (t := 38) rfl (fun q19 => ?_) rfl (fun q19 => ?_)
  · replace h := ed_pos q19 h
    refine iq_iload_n hS 39 J_HBlocks_placeOf_d38 (lk_1i (lk_1i l2 (by decide)) (by decide)) rfl ?_
    refine iq_iload hS 41 J_HBlocks_placeOf_d39 lk_1s rfl ?_
    refine iq_icmp_ge hS 44 J_HBlocks_placeOf_d41 (t := 55) rfl (fun q41 => ?_) rfl (fun q41 => ?_)
    · replace h := ed_pos q41 h
      refine iq_iload hS 57 J_HBlocks_placeOf_d55 lk_1s rfl ?_
      refine iq_aload_n hS 58 J_HBlocks_placeOf_d57 (lk_1r (lk_1r l0 (by decide)) (by decide)) rfl ?_
      refine iq_getI hS 61 J_HBlocks_placeOf_d58 lf_1_53 (Or.inl rfl) (ka_43 hM) rfl ?_
      refine iq_imul hS 62 J_HBlocks_placeOf_d61 rfl ?_
      refine iq_iload_n hS 63 J_HBlocks_placeOf_d62 (lk_1i (lk_1i l1 (by decide)) (by decide)) rfl ?_
      refine iq_iadd hS 64 J_HBlocks_placeOf_d63 rfl ?_
      refine iq_aload_n hS 65 J_HBlocks_placeOf_d64 (lk_1r (lk_1r l0 (by decide)) (by decide)) rfl ?_
      refine iq_getI hS 68 J_HBlocks_placeOf_d65 lf_1_53 (Or.inl rfl) (ka_43 hM) rfl ?_
      refine iq_aload_n hS 69 J_HBlocks_placeOf_d68 (lk_1r (lk_1r l0 (by decide)) (by decide)) rfl ?_
      refine iq_getI hS 72 J_HBlocks_placeOf_d69 lf_1_64 (Or.inl rfl) (ka_43 hM) rfl ?_
      refine iq_aload_n hS 73 J_HBlocks_placeOf_d72 (lk_1r (lk_1r l0 (by decide)) (by decide)) rfl ?_
      refine iq_getI hS 76 J_HBlocks_placeOf_d73 lf_1_53 (Or.inl rfl) (ka_43 hM) rfl ?_
      obtain ⟨g76, h⟩ := ed_gd h
      refine iq_irem hS 77 J_HBlocks_placeOf_d76 g76 rfl ?_
      refine iq_isub hS 78 J_HBlocks_placeOf_d77 rfl ?_
      refine iq_isub hS 79 J_HBlocks_placeOf_d78 rfl ?_
      exact iq_iret J_HBlocks_placeOf_d79 rfl rfl ⟨_, rfl, rfl, ed_some h⟩
    · replace h := ed_neg q41 h
      refine iq_iload_n hS 45 J_HBlocks_placeOf_d44 (lk_1i (lk_1i l2 (by decide)) (by decide)) rfl ?_
      refine iq_aload_n hS 46 J_HBlocks_placeOf_d45 (lk_1r (lk_1r l0 (by decide)) (by decide)) rfl ?_
      refine iq_getI hS 49 J_HBlocks_placeOf_d46 lf_1_53 (Or.inl rfl) (ka_43 hM) rfl ?_
      refine iq_imul hS 50 J_HBlocks_placeOf_d49 rfl ?_
      refine iq_iload_n hS 51 J_HBlocks_placeOf_d50 (lk_1i (lk_1i l1 (by decide)) (by decide)) rfl ?_
      refine iq_iadd hS 52 J_HBlocks_placeOf_d51 rfl ?_
      refine iq_goto hS J_HBlocks_placeOf_d52 (t := 79) rfl ?_
      exact iq_iret J_HBlocks_placeOf_d79 rfl rfl ⟨_, rfl, rfl, ed_some h⟩
  · replace h := ed_neg q19 h
    refine iq_aload_n hS 23 J_HBlocks_placeOf_d22 (lk_1r (lk_1r l0 (by decide)) (by decide)) rfl ?_
    refine iq_getI hS 26 J_HBlocks_placeOf_d23 lf_1_64 (Or.inl rfl) (ka_43 hM) rfl ?_
    refine iq_iload_n hS 27 J_HBlocks_placeOf_d26 (lk_1i (lk_1i l2 (by decide)) (by decide)) rfl ?_
    refine iq_iload_n hS 28 J_HBlocks_placeOf_d27 (lk_1i lk_1s (by decide)) rfl ?_
    refine iq_isub hS 29 J_HBlocks_placeOf_d28 rfl ?_
    refine iq_aload_n hS 30 J_HBlocks_placeOf_d29 (lk_1r (lk_1r l0 (by decide)) (by decide)) rfl ?_
    refine iq_getI hS 33 J_HBlocks_placeOf_d30 lf_1_53 (Or.inl rfl) (ka_43 hM) rfl ?_
    refine iq_imul hS 34 J_HBlocks_placeOf_d33 rfl ?_
    refine iq_iadd hS 35 J_HBlocks_placeOf_d34 rfl ?_
    refine iq_iload_n hS 36 J_HBlocks_placeOf_d35 (lk_1i (lk_1i l1 (by decide)) (by decide)) rfl ?_
    refine iq_iadd hS 37 J_HBlocks_placeOf_d36 rfl ?_
    exact iq_iret J_HBlocks_placeOf_d37 rfl rfl ⟨_, rfl, rfl, ed_some h⟩
noncomputable def f_Arrays_fill_4_L10 (v3 : Int32) (v4 : Int32) (x5 : Int32) (M6 : im_M) : Option ((Int32 × im_M) ⊕ (im_M)) := if v3 ≤ x5 then some (.inr M6) else gd (inb x5 255) <| some (.inl ((x5 + 1), (im_setI M6 48 (Int32.toNatClampNeg x5) v4)))
noncomputable def f_Arrays_fill_4 (p1 : Int32) (p2 : Int32) (p3 : Int32) (M : im_M) : Option (im_M) := bd0 (f_Arrays_rangeCheck 255 p1 p2 M) fun (_ : Unit) => bd1 (lp (uc2 (f_Arrays_fill_4_L10 p2 p3)) (p1, M)) fun (M7 : im_M) => some M7
theorem f_Arrays_fill_4_ok {L : Nat} {xs : Nat → Int32} {dep : Nat} {w : Bool} {p1 : Int32} {p2 : Int32} {p3 : Int32} {M : im_M} {Q : im_M → Prop} (hM : lw_S w M) (h : ed (f_Arrays_fill_4 p1 p2 p3 M) Q) : ia (tb_G L xs) (dep + 1) J_Arrays_fill (rwV w Q) (0, lv_args 0 [.ref 48, .int p1, .int p2, .int p3], [], M) := by
  have hS : im_St (tb_G L xs) (dep + 1) J_Arrays_fill (ia (tb_G L xs) (dep + 1) J_Arrays_fill (rwV w Q)) := ia_St
  unfold f_Arrays_fill_4 at h
  have l0 : im_lk (lv_args 0 [.ref 48, .int p1, .int p2, .int p3]) 0 = some (.ref 48) := rfl
  have l1 : im_lk (lv_args 0 [.ref 48, .int p1, .int p2, .int p3]) 1 = some (.int p1) := rfl
  have l2 : im_lk (lv_args 0 [.ref 48, .int p1, .int p2, .int p3]) 2 = some (.int p2) := rfl
  have l3 : im_lk (lv_args 0 [.ref 48, .int p1, .int p2, .int p3]) 3 = some (.int p3) := rfl
  refine iq_aload_n hS 1 J_Arrays_fill_d0 l0 rfl ?_
  refine iq_alenv hS 2 J_Arrays_fill_d1 (v := 255) (ka_48 hM) (by decide) (by decide) (kl_48 hM) (by decide +kernel) rfl ?_
  refine iq_iload_n hS 3 J_Arrays_fill_d2 l1 rfl ?_
  refine iq_iload_n hS 4 J_Arrays_fill_d3 l2 rfl ?_
  obtain ⟨Q1, hQ1, h⟩ := bd0_ed h
  refine iq_cpV hS 7 J_Arrays_fill_d4 rfl (pr_stat (vs := [_, _, _]) lc_22_13 lT_54 rfl rfl (by decide) rfl (Nat.le_of_ble_eq_true rfl) (Nat.le_of_ble_eq_true rfl)) (f_Arrays_rangeCheck_ok (dep := dep + 0) hM h) rfl ?_
  intro h
  replace h := hQ1  h
  refine iq_iload_n hS 8 J_Arrays_fill_d7 l1 rfl ?_
  refine iq_istore hS 10 J_Arrays_fill_d8 (by decide) rfl ?_
  obtain ⟨Q2, hQ2, h⟩ := bd1_ed h
  have K2 : ∀ (M3 : im_M) (L' : List (Nat × Value)), lw_S w M3 → Q2 M3 → ia (tb_G L xs) (dep + 1) J_Arrays_fill (rwV w Q) (27, L', [], M3) := by
    intro M3 L' hM3  h
    replace h := hQ2 _ h
    exact iq_ret J_Arrays_fill_d27 rfl ⟨rfl, hM3, ed_some h⟩
  obtain ⟨r2, hr2, hq2⟩ := h
  obtain ⟨n2, hn2⟩ := lp_n hr2
  have I2 : ∀ (n : Nat) (x4 : Int32) (M5 : im_M) (L' : List (Nat × Value)), lw_S w M5 → im_lk L' 0 = some (.ref 48) → im_lk L' 2 = some (.int p2) → im_lk L' 3 = some (.int p3) → im_lk L' 4 = some (.int x4) → lpn (uc2 (f_Arrays_fill_4_L10 p2 p3)) n (x4, M5) = some r2 → ia (tb_G L xs) (dep + 1) J_Arrays_fill (rwV w Q) (10, L', [], M5) := by
    intro n
    induction n with
    | zero => intro x4 M5 L' hM5 l6 l7 l8 l9 hn; exact (lpn_0 hn).elim
    | succ n ih =>
      intro x4 M5 L' hM5 l6 l7 l8 l9 hn
      have h := lpn_ed2 hn
      unfold f_Arrays_fill_4_L10 at h
      refine iq_iload hS 12 J_Arrays_fill_d10 l9 rfl ?_
      refine iq_iload_n hS 13 J_Arrays_fill_d12 l7 rfl ?_
      refine iq_icmp_ge hS 16 J_Arrays_fill_d13 (t := 27) rfl (fun q13 => ?_) rfl (fun q13 => ?_)
      · replace h := ed_pos q13 h
        exact K2 _ _ hM5  (lq_r h hq2)
      · replace h := ed_neg q13 h
        refine iq_aload_n hS 17 J_Arrays_fill_d16 l6 rfl ?_
        refine iq_iload hS 19 J_Arrays_fill_d17 l9 rfl ?_
        refine iq_iload_n hS 20 J_Arrays_fill_d19 l8 rfl ?_
        obtain ⟨g20, h⟩ := ed_gd h
        refine iq_iastore hS 21 J_Arrays_fill_d20 ⟨(ka_48 hM5).1, (ka_48 hM5).2, g20.1, ix_lt (kl_48 hM5) g20.2⟩ rfl ?_
        refine iq_iincv hS 24 J_Arrays_fill_d21 (c := 1) (by decide +kernel) l9 (by decide) rfl ?_
        refine iq_goto hS J_Arrays_fill_d24 (t := 10) rfl ?_
        exact ih _ _ _ hM5 (lk_1r l6 (by decide)) (lk_1i l7 (by decide)) (lk_1i l8 (by decide)) lk_1s (lq_l h)
  exact I2 n2 _ _ _ hM (lk_1r l0 (by decide)) (lk_1i l2 (by decide)) (lk_1i l3 (by decide)) lk_1s hn2
noncomputable def f_HBlocks_divide_L39 (v7 : Int32) (v8 : Int32) (v9 : Int32) (x10 : Int32) (M11 : im_M) : Option ((Int32 × im_M) ⊕ (im_M)) := if (im_i M11 43 12) ≤ x10 then some (.inr M11) else bd1 (if (im_i M11 43 12) ≤ (x10 + 1) then some 0 else gd (inb ((v7 + x10) + 1) 255) <| some (im_i M11 48 (Int32.toNatClampNeg ((v7 + x10) + 1)))) fun (y13 : Int32) => gd (inb (x10 + 1) 31) <| bd1 (f_HBlocks_times v9 (im_i M11 47 (Int32.toNatClampNeg (x10 + 1))) M11) fun (x19 : Int32) => gd (inb (v7 + x10) 255) <| some (.inl ((x10 + 1), (im_setI M11 48 (Int32.toNatClampNeg (v7 + x10)) (y13 ^^^ x19))))
noncomputable def f_HBlocks_divide_L17 (v3 : Int32) (x4 : Int32) (M5 : im_M) : Option ((Int32 × im_M) ⊕ (im_M)) := if v3 ≤ x4 then some (.inr M5) else gd (inb x4 255) <| gd (inb v3 255) <| bd1 (lp (uc2 (f_HBlocks_divide_L39 v3 x4 ((im_i M5 48 (Int32.toNatClampNeg x4)) ^^^ (im_i M5 48 (Int32.toNatClampNeg v3))))) (0, M5)) fun (M20 : im_M) => some (.inl ((x4 + 1), M20))
noncomputable def f_HBlocks_divide (p0 : Int32) (M : im_M) : Option (im_M) := bd1 (f_Arrays_fill_4 p0 (p0 + (im_i M 43 12)) 0 M) fun (M1 : im_M) => bd1 (lp (uc2 (f_HBlocks_divide_L17 p0)) (0, M1)) fun (M21 : im_M) => some M21
theorem J_HBlocks_divide_d0 : decode J_HBlocks_divide.2.1 0 = .ok (.aload_n 0, 1) := by decide +kernel
theorem J_HBlocks_divide_d1 : decode J_HBlocks_divide.2.1 1 = .ok (.getfield 25, 3) := by decide +kernel
theorem J_HBlocks_divide_d4 : decode J_HBlocks_divide.2.1 4 = .ok (.iload_n 1, 1) := by decide +kernel
theorem J_HBlocks_divide_d5 : decode J_HBlocks_divide.2.1 5 = .ok (.iload_n 1, 1) := by decide +kernel
theorem J_HBlocks_divide_d6 : decode J_HBlocks_divide.2.1 6 = .ok (.aload_n 0, 1) := by decide +kernel
theorem J_HBlocks_divide_d7 : decode J_HBlocks_divide.2.1 7 = .ok (.getfield 57, 3) := by decide +kernel
theorem J_HBlocks_divide_d10 : decode J_HBlocks_divide.2.1 10 = .ok (.iadd, 1) := by decide +kernel
theorem J_HBlocks_divide_d11 : decode J_HBlocks_divide.2.1 11 = .ok (.iconst 0, 1) := by decide +kernel
theorem J_HBlocks_divide_d12 : decode J_HBlocks_divide.2.1 12 = .ok (.invokestatic 96, 3) := by decide +kernel
theorem J_HBlocks_divide_d15 : decode J_HBlocks_divide.2.1 15 = .ok (.iconst 0, 1) := by decide +kernel
theorem J_HBlocks_divide_d16 : decode J_HBlocks_divide.2.1 16 = .ok (.istore_n 2, 1) := by decide +kernel
theorem J_HBlocks_divide_d17 : decode J_HBlocks_divide.2.1 17 = .ok (.iload_n 2, 1) := by decide +kernel
theorem J_HBlocks_divide_d18 : decode J_HBlocks_divide.2.1 18 = .ok (.iload_n 1, 1) := by decide +kernel
theorem J_HBlocks_divide_d19 : decode J_HBlocks_divide.2.1 19 = .ok (.if_icmp .ge 95, 3) := by decide +kernel
theorem J_HBlocks_divide_d22 : decode J_HBlocks_divide.2.1 22 = .ok (.aload_n 0, 1) := by decide +kernel
theorem J_HBlocks_divide_d23 : decode J_HBlocks_divide.2.1 23 = .ok (.getfield 25, 3) := by decide +kernel
theorem J_HBlocks_divide_d26 : decode J_HBlocks_divide.2.1 26 = .ok (.iload_n 2, 1) := by decide +kernel
theorem J_HBlocks_divide_d27 : decode J_HBlocks_divide.2.1 27 = .ok (.iaload, 1) := by decide +kernel
theorem J_HBlocks_divide_d28 : decode J_HBlocks_divide.2.1 28 = .ok (.aload_n 0, 1) := by decide +kernel
theorem J_HBlocks_divide_d29 : decode J_HBlocks_divide.2.1 29 = .ok (.getfield 25, 3) := by decide +kernel
theorem J_HBlocks_divide_d32 : decode J_HBlocks_divide.2.1 32 = .ok (.iload_n 1, 1) := by decide +kernel
theorem J_HBlocks_divide_d33 : decode J_HBlocks_divide.2.1 33 = .ok (.iaload, 1) := by decide +kernel
theorem J_HBlocks_divide_d34 : decode J_HBlocks_divide.2.1 34 = .ok (.ixor, 1) := by decide +kernel
theorem J_HBlocks_divide_d35 : decode J_HBlocks_divide.2.1 35 = .ok (.istore_n 3, 1) := by decide +kernel
theorem J_HBlocks_divide_d36 : decode J_HBlocks_divide.2.1 36 = .ok (.iconst 0, 1) := by decide +kernel
theorem J_HBlocks_divide_d37 : decode J_HBlocks_divide.2.1 37 = .ok (.istore 4, 2) := by decide +kernel
theorem J_HBlocks_divide_d39 : decode J_HBlocks_divide.2.1 39 = .ok (.iload 4, 2) := by decide +kernel
theorem J_HBlocks_divide_d41 : decode J_HBlocks_divide.2.1 41 = .ok (.aload_n 0, 1) := by decide +kernel
theorem J_HBlocks_divide_d42 : decode J_HBlocks_divide.2.1 42 = .ok (.getfield 57, 3) := by decide +kernel
theorem J_HBlocks_divide_d45 : decode J_HBlocks_divide.2.1 45 = .ok (.if_icmp .ge 63, 3) := by decide +kernel
theorem J_HBlocks_divide_d48 : decode J_HBlocks_divide.2.1 48 = .ok (.iload 4, 2) := by decide +kernel
theorem J_HBlocks_divide_d50 : decode J_HBlocks_divide.2.1 50 = .ok (.iconst 1, 1) := by decide +kernel
theorem J_HBlocks_divide_d51 : decode J_HBlocks_divide.2.1 51 = .ok (.iadd, 1) := by decide +kernel
theorem J_HBlocks_divide_d52 : decode J_HBlocks_divide.2.1 52 = .ok (.aload_n 0, 1) := by decide +kernel
theorem J_HBlocks_divide_d53 : decode J_HBlocks_divide.2.1 53 = .ok (.getfield 57, 3) := by decide +kernel
theorem J_HBlocks_divide_d56 : decode J_HBlocks_divide.2.1 56 = .ok (.if_icmp .ge 17, 3) := by decide +kernel
theorem J_HBlocks_divide_d59 : decode J_HBlocks_divide.2.1 59 = .ok (.aload_n 0, 1) := by decide +kernel
theorem J_HBlocks_divide_d60 : decode J_HBlocks_divide.2.1 60 = .ok (.getfield 25, 3) := by decide +kernel
theorem J_HBlocks_divide_d63 : decode J_HBlocks_divide.2.1 63 = .ok (.iload_n 1, 1) := by decide +kernel
theorem J_HBlocks_divide_d64 : decode J_HBlocks_divide.2.1 64 = .ok (.iload 4, 2) := by decide +kernel
theorem J_HBlocks_divide_d66 : decode J_HBlocks_divide.2.1 66 = .ok (.iadd, 1) := by decide +kernel
theorem J_HBlocks_divide_d67 : decode J_HBlocks_divide.2.1 67 = .ok (.iconst 1, 1) := by decide +kernel
theorem J_HBlocks_divide_d68 : decode J_HBlocks_divide.2.1 68 = .ok (.iadd, 1) := by decide +kernel
theorem J_HBlocks_divide_d69 : decode J_HBlocks_divide.2.1 69 = .ok (.iaload, 1) := by decide +kernel
theorem J_HBlocks_divide_d70 : decode J_HBlocks_divide.2.1 70 = .ok (.goto 4, 3) := by decide +kernel
theorem J_HBlocks_divide_d73 : decode J_HBlocks_divide.2.1 73 = .ok (.iconst 0, 1) := by decide +kernel
theorem J_HBlocks_divide_d74 : decode J_HBlocks_divide.2.1 74 = .ok (.istore 5, 2) := by decide +kernel
theorem J_HBlocks_divide_d76 : decode J_HBlocks_divide.2.1 76 = .ok (.aload_n 0, 1) := by decide +kernel
theorem J_HBlocks_divide_d77 : decode J_HBlocks_divide.2.1 77 = .ok (.getfield 25, 3) := by decide +kernel
theorem J_HBlocks_divide_d80 : decode J_HBlocks_divide.2.1 80 = .ok (.iload_n 1, 1) := by decide +kernel
theorem J_HBlocks_divide_d81 : decode J_HBlocks_divide.2.1 81 = .ok (.iload 4, 2) := by decide +kernel
theorem J_HBlocks_divide_d83 : decode J_HBlocks_divide.2.1 83 = .ok (.iadd, 1) := by decide +kernel
theorem J_HBlocks_divide_d84 : decode J_HBlocks_divide.2.1 84 = .ok (.iload 5, 2) := by decide +kernel
theorem J_HBlocks_divide_d86 : decode J_HBlocks_divide.2.1 86 = .ok (.aload_n 0, 1) := by decide +kernel
theorem J_HBlocks_divide_d87 : decode J_HBlocks_divide.2.1 87 = .ok (.iload_n 3, 1) := by decide +kernel
theorem J_HBlocks_divide_d88 : decode J_HBlocks_divide.2.1 88 = .ok (.aload_n 0, 1) := by decide +kernel
theorem J_HBlocks_divide_d89 : decode J_HBlocks_divide.2.1 89 = .ok (.getfield 22, 3) := by decide +kernel
theorem J_HBlocks_divide_d92 : decode J_HBlocks_divide.2.1 92 = .ok (.iload 4, 2) := by decide +kernel
theorem J_HBlocks_divide_d94 : decode J_HBlocks_divide.2.1 94 = .ok (.iconst 1, 1) := by decide +kernel
theorem J_HBlocks_divide_d95 : decode J_HBlocks_divide.2.1 95 = .ok (.iadd, 1) := by decide +kernel
theorem J_HBlocks_divide_d96 : decode J_HBlocks_divide.2.1 96 = .ok (.iaload, 1) := by decide +kernel
theorem J_HBlocks_divide_d97 : decode J_HBlocks_divide.2.1 97 = .ok (.invokevirtual 93, 3) := by decide +kernel
theorem J_HBlocks_divide_d100 : decode J_HBlocks_divide.2.1 100 = .ok (.ixor, 1) := by decide +kernel
theorem J_HBlocks_divide_d101 : decode J_HBlocks_divide.2.1 101 = .ok (.iastore, 1) := by decide +kernel
theorem J_HBlocks_divide_d102 : decode J_HBlocks_divide.2.1 102 = .ok (.iinc 4 1, 3) := by decide +kernel
theorem J_HBlocks_divide_d105 : decode J_HBlocks_divide.2.1 105 = .ok (.goto (-66), 3) := by decide +kernel
theorem J_HBlocks_divide_d108 : decode J_HBlocks_divide.2.1 108 = .ok (.iinc 2 1, 3) := by decide +kernel
theorem J_HBlocks_divide_d111 : decode J_HBlocks_divide.2.1 111 = .ok (.goto (-94), 3) := by decide +kernel
theorem J_HBlocks_divide_d114 : decode J_HBlocks_divide.2.1 114 = .ok (.return_, 1) := by decide +kernel
theorem f_HBlocks_divide_ok {L : Nat} {xs : Nat → Int32} {dep : Nat} {w : Bool} {p0 : Int32} {M : im_M} {Q : im_M → Prop} (hM : lw_S w M) (h : ed (f_HBlocks_divide p0 M) Q) : ia (tb_G L xs) (dep + 2) J_HBlocks_divide (rwV w Q) (0, lv_args 0 [.ref 43, .int p0], [], M) := by
  have hS : im_St (tb_G L xs) (dep + 2) J_HBlocks_divide (ia (tb_G L xs) (dep + 2) J_HBlocks_divide (rwV w Q)) := ia_St
  unfold f_HBlocks_divide at h
  have l0 : im_lk (lv_args 0 [.ref 43, .int p0]) 0 = some (.ref 43) := rfl
  have l1 : im_lk (lv_args 0 [.ref 43, .int p0]) 1 = some (.int p0) := rfl
  refine iq_aload_n hS 1 J_HBlocks_divide_d0 l0 rfl ?_
  refine iq_getR hS 4 J_HBlocks_divide_d1 lf_1_25 (Or.inr ⟨_, rfl⟩) (ka_43 hM) (ra_43_4 hM) rfl ?_
  refine iq_iload_n hS 5 J_HBlocks_divide_d4 l1 rfl ?_
  refine iq_iload_n hS 6 J_HBlocks_divide_d5 l1 rfl ?_
  refine iq_aload_n hS 7 J_HBlocks_divide_d6 l0 rfl ?_
  refine iq_getI hS 10 J_HBlocks_divide_d7 lf_1_57 (Or.inl rfl) (ka_43 hM) rfl ?_
  refine iq_iadd hS 11 J_HBlocks_divide_d10 rfl ?_
  refine iq_iconst hS 12 J_HBlocks_divide_d11 (v := 0) (by decide +kernel) rfl ?_
  obtain ⟨Q1, hQ1, h⟩ := bd1_ed h
  refine iq_cwV hS 15 J_HBlocks_divide_d12 rfl (pr_stat (vs := [_, _, _, _]) lc_1_96 lT_53 rfl rfl (by decide) rfl (Nat.le_of_ble_eq_true rfl) (Nat.le_of_ble_eq_true rfl)) (f_Arrays_fill_4_ok (dep := dep + 0) hM h) rfl ?_
  intro M1 hM1 h
  replace h := hQ1 _ h
  refine iq_iconst hS 16 J_HBlocks_divide_d15 (v := 0) (by decide +kernel) rfl ?_
  refine iq_istore_n hS 17 J_HBlocks_divide_d16 (by decide) rfl ?_
  obtain ⟨Q2, hQ2, h⟩ := bd1_ed h
  have K2 : ∀ (M3 : im_M) (L' : List (Nat × Value)), lw_S w M3 → Q2 M3 → ia (tb_G L xs) (dep + 2) J_HBlocks_divide (rwV w Q) (114, L', [], M3) := by
    intro M3 L' hM3  h
    replace h := hQ2 _ h
    exact iq_ret J_HBlocks_divide_d114 rfl ⟨rfl, hM3, ed_some h⟩
  obtain ⟨r2, hr2, hq2⟩ := h
  obtain ⟨n2, hn2⟩ := lp_n hr2
  have I2 : ∀ (n : Nat) (x4 : Int32) (M5 : im_M) (L' : List (Nat × Value)), lw_S w M5 → im_lk L' 0 = some (.ref 43) → im_lk L' 1 = some (.int p0) → im_lk L' 2 = some (.int x4) → lpn (uc2 (f_HBlocks_divide_L17 p0)) n (x4, M5) = some r2 → ia (tb_G L xs) (dep + 2) J_HBlocks_divide (rwV w Q) (17, L', [], M5) := by
    intro n
    induction n with
    | zero => intro x4 M5 L' hM5 l6 l7 l8 hn; exact (lpn_0 hn).elim
    | succ n ih =>
      intro x4 M5 L' hM5 l6 l7 l8 hn
      have h := lpn_ed2 hn
      unfold f_HBlocks_divide_L17 at h
      refine iq_iload_n hS 18 J_HBlocks_divide_d17 l8 rfl ?_
      refine iq_iload_n hS 19 J_HBlocks_divide_d18 l7 rfl ?_
      refine iq_icmp_ge hS 22 J_HBlocks_divide_d19 (t := 114) rfl (fun q19 => ?_) rfl (fun q19 => ?_)
      · replace h := ed_pos q19 h
        exact K2 _ _ hM5  (lq_r h hq2)
      · replace h := ed_neg q19 h
        refine iq_aload_n hS 23 J_HBlocks_divide_d22 l6 rfl ?_
        refine iq_getR hS 26 J_HBlocks_divide_d23 lf_1_25 (Or.inr ⟨_, rfl⟩) (ka_43 hM5) (ra_43_4 hM5) rfl ?_
        refine iq_iload_n hS 27 J_HBlocks_divide_d26 l8 rfl ?_
        obtain ⟨g27, h⟩ := ed_gd h
        refine iq_iaload hS 28 J_HBlocks_divide_d27 ⟨(ka_48 hM5).1, (ka_48 hM5).2, g27.1, ix_lt (kl_48 hM5) g27.2⟩ rfl ?_
        refine iq_aload_n hS 29 J_HBlocks_divide_d28 l6 rfl ?_
        refine iq_getR hS 32 J_HBlocks_divide_d29 lf_1_25 (Or.inr ⟨_, rfl⟩) (ka_43 hM5) (ra_43_4 hM5) rfl ?_
        refine iq_iload_n hS 33 J_HBlocks_divide_d32 l7 rfl ?_
        obtain ⟨g33, h⟩ := ed_gd h
        refine iq_iaload hS 34 J_HBlocks_divide_d33 ⟨(ka_48 hM5).1, (ka_48 hM5).2, g33.1, ix_lt (kl_48 hM5) g33.2⟩ rfl ?_
        refine iq_ixor hS 35 J_HBlocks_divide_d34 rfl ?_
        refine iq_istore_n hS 36 J_HBlocks_divide_d35 (by decide) rfl ?_
        refine iq_iconst hS 37 J_HBlocks_divide_d36 (v := 0) (by decide +kernel) rfl ?_
        refine iq_istore hS 39 J_HBlocks_divide_d37 (by decide) rfl ?_
        obtain ⟨Q9, hQ9, h⟩ := bd1_ed h
        have K9 : ∀ (M10 : im_M) (L' : List (Nat × Value)), lw_S w M10 → im_lk L' 0 = some (.ref 43) → im_lk L' 1 = some (.int p0) → im_lk L' 2 = some (.int x4) → Q9 M10 → ia (tb_G L xs) (dep + 2) J_HBlocks_divide (rwV w Q) (108, L', [], M10) := by
          intro M10 L' hM10 l11 l12 l13 h
          replace h := hQ9 _ h
          refine iq_iincv hS 111 J_HBlocks_divide_d108 (c := 1) (by decide +kernel) l13 (by decide) rfl ?_
          refine iq_goto hS J_HBlocks_divide_d111 (t := 17) rfl ?_
          exact ih _ _ _ hM10 (lk_1r l11 (by decide)) (lk_1i l12 (by decide)) lk_1s (lq_l h)
        obtain ⟨r9, hr9, hq9⟩ := h
        obtain ⟨n9, hn9⟩ := lp_n hr9
        have I9 : ∀ (n : Nat) (x14 : Int32) (M15 : im_M) (L' : List (Nat × Value)), lw_S w M15 → im_lk L' 0 = some (.ref 43) → im_lk L' 1 = some (.int p0) → im_lk L' 2 = some (.int x4) → im_lk L' 3 = some (.int ((im_i M5 48 (Int32.toNatClampNeg x4)) ^^^ (im_i M5 48 (Int32.toNatClampNeg p0)))) → im_lk L' 4 = some (.int x14) → lpn (uc2 (f_HBlocks_divide_L39 p0 x4 ((im_i M5 48 (Int32.toNatClampNeg x4)) ^^^ (im_i M5 48 (Int32.toNatClampNeg p0))))) n (x14, M15) = some r9 → ia (tb_G L xs) (dep + 2) J_HBlocks_divide (rwV w Q) (39, L', [], M15) := by
          intro n
          induction n with
          | zero => intro x14 M15 L' hM15 l16 l17 l18 l19 l20 hn; exact (lpn_0 hn).elim
          | succ n ih =>
            intro x14 M15 L' hM15 l16 l17 l18 l19 l20 hn
            have h := lpn_ed2 hn
            unfold f_HBlocks_divide_L39 at h
            refine iq_iload hS 41 J_HBlocks_divide_d39 l20 rfl ?_
            refine iq_aload_n hS 42 J_HBlocks_divide_d41 l16 rfl ?_
            refine iq_getI hS 45 J_HBlocks_divide_d42 lf_1_57 (Or.inl rfl) (ka_43 hM15) rfl ?_
            refine iq_icmp_ge hS 48 J_HBlocks_divide_d45 (t := 108) rfl (fun q45 => ?_) rfl (fun q45 => ?_)
            · replace h := ed_pos q45 h
              exact K9 _ _ hM15 l16 l17 l18 (lq_r h hq9)
            · replace h := ed_neg q45 h
              refine iq_iload hS 50 J_HBlocks_divide_d48 l20 rfl ?_
              refine iq_iconst hS 51 J_HBlocks_divide_d50 (v := 1) (by decide +kernel) rfl ?_
              refine iq_iadd hS 52 J_HBlocks_divide_d51 rfl ?_
              refine iq_aload_n hS 53 J_HBlocks_divide_d52 l16 rfl ?_
              refine iq_getI hS 56 J_HBlocks_divide_d53 lf_1_57 (Or.inl rfl) (ka_43 hM15) rfl ?_
              obtain ⟨Q21, hQ21, h⟩ := bd1_ed h
              have J21 : ∀ (y22 : Int32) (L' : List (Nat × Value)), im_lk L' 0 = some (.ref 43) → im_lk L' 1 = some (.int p0) → im_lk L' 2 = some (.int x4) → im_lk L' 3 = some (.int ((im_i M5 48 (Int32.toNatClampNeg x4)) ^^^ (im_i M5 48 (Int32.toNatClampNeg p0)))) → im_lk L' 4 = some (.int x14) → Q21 y22 → ia (tb_G L xs) (dep + 2) J_HBlocks_divide (rwV w Q) (74, L', [.int y22], M15) := by
                intro y22 L' l23 l24 l25 l26 l27 h
                replace h := hQ21 _ h
                refine iq_istore hS 76 J_HBlocks_divide_d74 (by decide) rfl ?_
                refine iq_aload_n hS 77 J_HBlocks_divide_d76 (lk_1r l23 (by decide)) rfl ?_
                refine iq_getR hS 80 J_HBlocks_divide_d77 lf_1_25 (Or.inr ⟨_, rfl⟩) (ka_43 hM15) (ra_43_4 hM15) rfl ?_
                refine iq_iload_n hS 81 J_HBlocks_divide_d80 (lk_1i l24 (by decide)) rfl ?_
                refine iq_iload hS 83 J_HBlocks_divide_d81 (lk_1i l27 (by decide)) rfl ?_
                refine iq_iadd hS 84 J_HBlocks_divide_d83 rfl ?_
                refine iq_iload hS 86 J_HBlocks_divide_d84 lk_1s rfl ?_
                refine iq_aload_n hS 87 J_HBlocks_divide_d86 (lk_1r l23 (by decide)) rfl ?_
                refine iq_iload_n hS 88 J_HBlocks_divide_d87 (lk_1i l26 (by decide)) rfl ?_
                refine iq_aload_n hS 89 J_HBlocks_divide_d88 (lk_1r l23 (by decide)) rfl ?_
                refine iq_getR hS 92 J_HBlocks_divide_d89 lf_1_22 (Or.inr ⟨_, rfl⟩) (ka_43 hM15) (ra_43_3 hM15) rfl ?_
                refine iq_iload hS 94 J_HBlocks_divide_d92 (lk_1i l27 (by decide)) rfl ?_
                refine iq_iconst hS 95 J_HBlocks_divide_d94 (v := 1) (by decide +kernel) rfl ?_
                refine iq_iadd hS 96 J_HBlocks_divide_d95 rfl ?_
                obtain ⟨g96, h⟩ := ed_gd h
                refine iq_iaload hS 97 J_HBlocks_divide_d96 ⟨(ka_47 hM15).1, (ka_47 hM15).2, g96.1, ix_lt (kl_47 hM15) g96.2⟩ rfl ?_
                obtain ⟨Q28, hQ28, h⟩ := bd1_ed h
                refine iq_cpI hS 100 J_HBlocks_divide_d97 rfl (pr_inst (vs := [_, _]) lc_1_93 lT_151 rfl rfl (by decide) (by decide) rfl (Nat.le_of_ble_eq_true rfl) (Nat.le_of_ble_eq_true rfl) (fun _ => Or.inl (pr_b (ka_43 hM15) (by decide) rfl))) (f_HBlocks_times_ok (dep := dep + 1) hM15 h) rfl ?_
                intro x28 h
                replace h := hQ28 _ h
                refine iq_ixor hS 101 J_HBlocks_divide_d100 rfl ?_
                obtain ⟨g101, h⟩ := ed_gd h
                refine iq_iastore hS 102 J_HBlocks_divide_d101 ⟨(ka_48 hM15).1, (ka_48 hM15).2, g101.1, ix_lt (kl_48 hM15) g101.2⟩ rfl ?_
                refine iq_iincv hS 105 J_HBlocks_divide_d102 (c := 1) (by decide +kernel) (lk_1i l27 (by decide)) (by decide) rfl ?_
                refine iq_goto hS J_HBlocks_divide_d105 (t := 39) rfl ?_
                exact ih _ _ _ hM15 (lk_1r (lk_1r l23 (by decide)) (by decide)) (lk_1i (lk_1i l24 (by decide)) (by decide)) (lk_1i (lk_1i l25 (by decide)) (by decide)) (lk_1i (lk_1i l26 (by decide)) (by decide)) lk_1s (lq_l h)
              refine iq_icmp_ge hS 59 J_HBlocks_divide_d56 (t := 73) rfl (fun q56 => ?_) rfl (fun q56 => ?_)
              · replace h := ed_pos q56 h
                refine iq_iconst hS 74 J_HBlocks_divide_d73 (v := 0) (by decide +kernel) rfl ?_
                exact J21 _ _ l16 l17 l18 l19 l20 (ed_some h)
              · replace h := ed_neg q56 h
                refine iq_aload_n hS 60 J_HBlocks_divide_d59 l16 rfl ?_
                refine iq_getR hS 63 J_HBlocks_divide_d60 lf_1_25 (Or.inr ⟨_, rfl⟩) (ka_43 hM15) (ra_43_4 hM15) rfl ?_
                refine iq_iload_n hS 64 J_HBlocks_divide_d63 l17 rfl ?_
                refine iq_iload hS 66 J_HBlocks_divide_d64 l20 rfl ?_
                refine iq_iadd hS 67 J_HBlocks_divide_d66 rfl ?_
                refine iq_iconst hS 68 J_HBlocks_divide_d67 (v := 1) (by decide +kernel) rfl ?_
                refine iq_iadd hS 69 J_HBlocks_divide_d68 rfl ?_
                obtain ⟨g69, h⟩ := ed_gd h
                refine iq_iaload hS 70 J_HBlocks_divide_d69 ⟨(ka_48 hM15).1, (ka_48 hM15).2, g69.1, ix_lt (kl_48 hM15) g69.2⟩ rfl ?_
                refine iq_goto hS J_HBlocks_divide_d70 (t := 74) rfl ?_
                exact J21 _ _ l16 l17 l18 l19 l20 (ed_some h)
        exact I9 n9 _ _ _ hM5 (lk_1r (lk_1r l6 (by decide)) (by decide)) (lk_1i (lk_1i l7 (by decide)) (by decide)) (lk_1i (lk_1i l8 (by decide)) (by decide)) (lk_1i lk_1s (by decide)) lk_1s hn9
  exact I2 n2 _ _ _ hM1 (lk_1r l0 (by decide)) (lk_1i l1 (by decide)) lk_1s hn2
noncomputable def f_HBlocks_spread_L36 (v9 : Int32) (v10 : Int32) (v11 : Int32) (x12 : Int32) (M13 : im_M) : Option ((Int32 × im_M) ⊕ (im_M)) := if v11 ≤ x12 then some (.inr M13) else gd (inb (v9 + x12) 2956) <| gd (inb x12 255) <| bd1 (f_HBlocks_placeOf v10 x12 (im_setI M13 48 (Int32.toNatClampNeg x12) ((im_i M13 40 (Int32.toNatClampNeg (v9 + x12))) &&& 255))) fun (x14 : Int32) => gd (inb (v9 + x12) 2956) <| gd (inb x14 3706) <| some (.inl ((x12 + 1), (im_setI (im_setI M13 48 (Int32.toNatClampNeg x12) ((im_i M13 40 (Int32.toNatClampNeg (v9 + x12))) &&& 255)) 44 (Int32.toNatClampNeg x14) (vp_nar .byte (im_i (im_setI M13 48 (Int32.toNatClampNeg x12) ((im_i M13 40 (Int32.toNatClampNeg (v9 + x12))) &&& 255)) 40 (Int32.toNatClampNeg (v9 + x12)))))))
noncomputable def f_HBlocks_spread_L97 (v18 : Int32) (v19 : Int32) (v20 : Int32) (x21 : Int32) (M22 : im_M) : Option ((Int32 × im_M) ⊕ (im_M)) := if (v20 + (im_i M22 43 12)) ≤ x21 then some (.inr M22) else bd1 (f_HBlocks_placeOf v19 x21 M22) fun (x23 : Int32) => gd (inb x21 255) <| gd (inb x23 3706) <| some (.inl ((x21 + 1), (im_setI M22 44 (Int32.toNatClampNeg x23) (vp_nar .byte ((Int32.toInt8 (im_i M22 48 (Int32.toNatClampNeg x21))).toInt32)))))
noncomputable def f_HBlocks_spread_L16 (x4 : Int32) (x5 : Int32) (M6 : im_M) : Option ((Int32 × Int32 × im_M) ⊕ (im_M)) := if (im_i M6 43 11) ≤ x5 then some (.inr M6) else bd1 (f_HBlocks_sizeOf x5 M6) fun (x7 : Int32) => bd1 (lp (uc2 (f_HBlocks_spread_L36 x4 x5 x7)) (0, M6)) fun (M15 : im_M) => bd1 (f_HBlocks_divide x7 M15) fun (M16 : im_M) => bd1 (lp (uc2 (f_HBlocks_spread_L97 x4 x5 x7)) (x7, M16)) fun (M24 : im_M) => some (.inl ((x4 + x7), (x5 + 1), M24))
noncomputable def f_HBlocks_spread (p0 : Int32) (p1 : Int32) (M : im_M) : Option (im_M) := bd1 (f_HBlocks_begin p0 p1 M) fun (M1 : im_M) => bd1 (f_HBlocks_makeGenerator M1) fun (M2 : im_M) => bd1 (lp (uc3 (f_HBlocks_spread_L16)) (0, 0, M2)) fun (M25 : im_M) => some M25
theorem J_HBlocks_spread_d0 : decode J_HBlocks_spread.2.1 0 = .ok (.aload_n 0, 1) := by decide +kernel
theorem J_HBlocks_spread_d1 : decode J_HBlocks_spread.2.1 1 = .ok (.iload_n 1, 1) := by decide +kernel
theorem J_HBlocks_spread_d2 : decode J_HBlocks_spread.2.1 2 = .ok (.iload_n 2, 1) := by decide +kernel
theorem J_HBlocks_spread_d3 : decode J_HBlocks_spread.2.1 3 = .ok (.invokevirtual 73, 3) := by decide +kernel
theorem J_HBlocks_spread_d6 : decode J_HBlocks_spread.2.1 6 = .ok (.aload_n 0, 1) := by decide +kernel
theorem J_HBlocks_spread_d7 : decode J_HBlocks_spread.2.1 7 = .ok (.invokevirtual 77, 3) := by decide +kernel
theorem J_HBlocks_spread_d10 : decode J_HBlocks_spread.2.1 10 = .ok (.iconst 0, 1) := by decide +kernel
theorem J_HBlocks_spread_d11 : decode J_HBlocks_spread.2.1 11 = .ok (.istore 4, 2) := by decide +kernel
theorem J_HBlocks_spread_d13 : decode J_HBlocks_spread.2.1 13 = .ok (.iconst 0, 1) := by decide +kernel
theorem J_HBlocks_spread_d14 : decode J_HBlocks_spread.2.1 14 = .ok (.istore 5, 2) := by decide +kernel
theorem J_HBlocks_spread_d16 : decode J_HBlocks_spread.2.1 16 = .ok (.iload 5, 2) := by decide +kernel
theorem J_HBlocks_spread_d18 : decode J_HBlocks_spread.2.1 18 = .ok (.aload_n 0, 1) := by decide +kernel
theorem J_HBlocks_spread_d19 : decode J_HBlocks_spread.2.1 19 = .ok (.getfield 53, 3) := by decide +kernel
theorem J_HBlocks_spread_d22 : decode J_HBlocks_spread.2.1 22 = .ok (.if_icmp .ge 127, 3) := by decide +kernel
theorem J_HBlocks_spread_d25 : decode J_HBlocks_spread.2.1 25 = .ok (.aload_n 0, 1) := by decide +kernel
theorem J_HBlocks_spread_d26 : decode J_HBlocks_spread.2.1 26 = .ok (.iload 5, 2) := by decide +kernel
theorem J_HBlocks_spread_d28 : decode J_HBlocks_spread.2.1 28 = .ok (.invokevirtual 70, 3) := by decide +kernel
theorem J_HBlocks_spread_d31 : decode J_HBlocks_spread.2.1 31 = .ok (.istore 6, 2) := by decide +kernel
theorem J_HBlocks_spread_d33 : decode J_HBlocks_spread.2.1 33 = .ok (.iconst 0, 1) := by decide +kernel
theorem J_HBlocks_spread_d34 : decode J_HBlocks_spread.2.1 34 = .ok (.istore 7, 2) := by decide +kernel
theorem J_HBlocks_spread_d36 : decode J_HBlocks_spread.2.1 36 = .ok (.iload 7, 2) := by decide +kernel
theorem J_HBlocks_spread_d38 : decode J_HBlocks_spread.2.1 38 = .ok (.iload 6, 2) := by decide +kernel
theorem J_HBlocks_spread_d40 : decode J_HBlocks_spread.2.1 40 = .ok (.if_icmp .ge 47, 3) := by decide +kernel
theorem J_HBlocks_spread_d43 : decode J_HBlocks_spread.2.1 43 = .ok (.aload_n 0, 1) := by decide +kernel
theorem J_HBlocks_spread_d44 : decode J_HBlocks_spread.2.1 44 = .ok (.getfield 25, 3) := by decide +kernel
theorem J_HBlocks_spread_d47 : decode J_HBlocks_spread.2.1 47 = .ok (.iload 7, 2) := by decide +kernel
theorem J_HBlocks_spread_d49 : decode J_HBlocks_spread.2.1 49 = .ok (.aload_n 3, 1) := by decide +kernel
theorem J_HBlocks_spread_d50 : decode J_HBlocks_spread.2.1 50 = .ok (.iload 4, 2) := by decide +kernel
theorem J_HBlocks_spread_d52 : decode J_HBlocks_spread.2.1 52 = .ok (.iload 7, 2) := by decide +kernel
theorem J_HBlocks_spread_d54 : decode J_HBlocks_spread.2.1 54 = .ok (.iadd, 1) := by decide +kernel
theorem J_HBlocks_spread_d55 : decode J_HBlocks_spread.2.1 55 = .ok (.baload, 1) := by decide +kernel
theorem J_HBlocks_spread_d56 : decode J_HBlocks_spread.2.1 56 = .ok (.sipush 255, 3) := by decide +kernel
theorem J_HBlocks_spread_d59 : decode J_HBlocks_spread.2.1 59 = .ok (.iand, 1) := by decide +kernel
theorem J_HBlocks_spread_d60 : decode J_HBlocks_spread.2.1 60 = .ok (.iastore, 1) := by decide +kernel
theorem J_HBlocks_spread_d61 : decode J_HBlocks_spread.2.1 61 = .ok (.aload_n 0, 1) := by decide +kernel
theorem J_HBlocks_spread_d62 : decode J_HBlocks_spread.2.1 62 = .ok (.getfield 11, 3) := by decide +kernel
theorem J_HBlocks_spread_d65 : decode J_HBlocks_spread.2.1 65 = .ok (.aload_n 0, 1) := by decide +kernel
theorem J_HBlocks_spread_d66 : decode J_HBlocks_spread.2.1 66 = .ok (.iload 5, 2) := by decide +kernel
theorem J_HBlocks_spread_d68 : decode J_HBlocks_spread.2.1 68 = .ok (.iload 7, 2) := by decide +kernel
theorem J_HBlocks_spread_d70 : decode J_HBlocks_spread.2.1 70 = .ok (.invokevirtual 80, 3) := by decide +kernel
theorem J_HBlocks_spread_d73 : decode J_HBlocks_spread.2.1 73 = .ok (.aload_n 3, 1) := by decide +kernel
theorem J_HBlocks_spread_d74 : decode J_HBlocks_spread.2.1 74 = .ok (.iload 4, 2) := by decide +kernel
theorem J_HBlocks_spread_d76 : decode J_HBlocks_spread.2.1 76 = .ok (.iload 7, 2) := by decide +kernel
theorem J_HBlocks_spread_d78 : decode J_HBlocks_spread.2.1 78 = .ok (.iadd, 1) := by decide +kernel
theorem J_HBlocks_spread_d79 : decode J_HBlocks_spread.2.1 79 = .ok (.baload, 1) := by decide +kernel
theorem J_HBlocks_spread_d80 : decode J_HBlocks_spread.2.1 80 = .ok (.bastore, 1) := by decide +kernel
theorem J_HBlocks_spread_d81 : decode J_HBlocks_spread.2.1 81 = .ok (.iinc 7 1, 3) := by decide +kernel
theorem J_HBlocks_spread_d84 : decode J_HBlocks_spread.2.1 84 = .ok (.goto (-48), 3) := by decide +kernel
theorem J_HBlocks_spread_d87 : decode J_HBlocks_spread.2.1 87 = .ok (.aload_n 0, 1) := by decide +kernel
theorem J_HBlocks_spread_d88 : decode J_HBlocks_spread.2.1 88 = .ok (.iload 6, 2) := by decide +kernel
theorem J_HBlocks_spread_d90 : decode J_HBlocks_spread.2.1 90 = .ok (.invokevirtual 83, 3) := by decide +kernel
theorem J_HBlocks_spread_d93 : decode J_HBlocks_spread.2.1 93 = .ok (.iload 6, 2) := by decide +kernel
theorem J_HBlocks_spread_d95 : decode J_HBlocks_spread.2.1 95 = .ok (.istore 7, 2) := by decide +kernel
theorem J_HBlocks_spread_d97 : decode J_HBlocks_spread.2.1 97 = .ok (.iload 7, 2) := by decide +kernel
theorem J_HBlocks_spread_d99 : decode J_HBlocks_spread.2.1 99 = .ok (.iload 6, 2) := by decide +kernel
theorem J_HBlocks_spread_d101 : decode J_HBlocks_spread.2.1 101 = .ok (.aload_n 0, 1) := by decide +kernel
theorem J_HBlocks_spread_d102 : decode J_HBlocks_spread.2.1 102 = .ok (.getfield 57, 3) := by decide +kernel
theorem J_HBlocks_spread_d105 : decode J_HBlocks_spread.2.1 105 = .ok (.iadd, 1) := by decide +kernel
theorem J_HBlocks_spread_d106 : decode J_HBlocks_spread.2.1 106 = .ok (.if_icmp .ge 30, 3) := by decide +kernel
theorem J_HBlocks_spread_d109 : decode J_HBlocks_spread.2.1 109 = .ok (.aload_n 0, 1) := by decide +kernel
theorem J_HBlocks_spread_d110 : decode J_HBlocks_spread.2.1 110 = .ok (.getfield 11, 3) := by decide +kernel
theorem J_HBlocks_spread_d113 : decode J_HBlocks_spread.2.1 113 = .ok (.aload_n 0, 1) := by decide +kernel
theorem J_HBlocks_spread_d114 : decode J_HBlocks_spread.2.1 114 = .ok (.iload 5, 2) := by decide +kernel
theorem J_HBlocks_spread_d116 : decode J_HBlocks_spread.2.1 116 = .ok (.iload 7, 2) := by decide +kernel
theorem J_HBlocks_spread_d118 : decode J_HBlocks_spread.2.1 118 = .ok (.invokevirtual 80, 3) := by decide +kernel
theorem J_HBlocks_spread_d121 : decode J_HBlocks_spread.2.1 121 = .ok (.aload_n 0, 1) := by decide +kernel
theorem J_HBlocks_spread_d122 : decode J_HBlocks_spread.2.1 122 = .ok (.getfield 25, 3) := by decide +kernel
theorem J_HBlocks_spread_d125 : decode J_HBlocks_spread.2.1 125 = .ok (.iload 7, 2) := by decide +kernel
theorem J_HBlocks_spread_d127 : decode J_HBlocks_spread.2.1 127 = .ok (.iaload, 1) := by decide +kernel
theorem J_HBlocks_spread_d128 : decode J_HBlocks_spread.2.1 128 = .ok (.i2b, 1) := by decide +kernel
theorem J_HBlocks_spread_d129 : decode J_HBlocks_spread.2.1 129 = .ok (.bastore, 1) := by decide +kernel
theorem J_HBlocks_spread_d130 : decode J_HBlocks_spread.2.1 130 = .ok (.iinc 7 1, 3) := by decide +kernel
theorem J_HBlocks_spread_d133 : decode J_HBlocks_spread.2.1 133 = .ok (.goto (-36), 3) := by decide +kernel
theorem J_HBlocks_spread_d136 : decode J_HBlocks_spread.2.1 136 = .ok (.iload 4, 2) := by decide +kernel
theorem J_HBlocks_spread_d138 : decode J_HBlocks_spread.2.1 138 = .ok (.iload 6, 2) := by decide +kernel
theorem J_HBlocks_spread_d140 : decode J_HBlocks_spread.2.1 140 = .ok (.iadd, 1) := by decide +kernel
theorem J_HBlocks_spread_d141 : decode J_HBlocks_spread.2.1 141 = .ok (.istore 4, 2) := by decide +kernel
theorem J_HBlocks_spread_d143 : decode J_HBlocks_spread.2.1 143 = .ok (.iinc 5 1, 3) := by decide +kernel
theorem J_HBlocks_spread_d146 : decode J_HBlocks_spread.2.1 146 = .ok (.goto (-130), 3) := by decide +kernel
theorem J_HBlocks_spread_d149 : decode J_HBlocks_spread.2.1 149 = .ok (.return_, 1) := by decide +kernel
theorem f_HBlocks_spread_ok {L : Nat} {xs : Nat → Int32} {dep : Nat} {w : Bool} {p0 : Int32} {p1 : Int32} {M : im_M} {Q : im_M → Prop} (hM : lw_S w M) (h : ed (f_HBlocks_spread p0 p1 M) Q) : ia (tb_G L xs) (dep + 3) J_HBlocks_spread (rwV w Q) (0, lv_args 0 [.ref 43, .int p0, .int p1, .ref 40], [], M) := by
  have hS : im_St (tb_G L xs) (dep + 3) J_HBlocks_spread (ia (tb_G L xs) (dep + 3) J_HBlocks_spread (rwV w Q)) := ia_St
  unfold f_HBlocks_spread at h
  have l0 : im_lk (lv_args 0 [.ref 43, .int p0, .int p1, .ref 40]) 0 = some (.ref 43) := rfl
  have l1 : im_lk (lv_args 0 [.ref 43, .int p0, .int p1, .ref 40]) 1 = some (.int p0) := rfl
  have l2 : im_lk (lv_args 0 [.ref 43, .int p0, .int p1, .ref 40]) 2 = some (.int p1) := rfl
  have l3 : im_lk (lv_args 0 [.ref 43, .int p0, .int p1, .ref 40]) 3 = some (.ref 40) := rfl
  refine iq_aload_n hS 1 J_HBlocks_spread_d0 l0 rfl ?_
  refine iq_iload_n hS 2 J_HBlocks_spread_d1 l1 rfl ?_
  refine iq_iload_n hS 3 J_HBlocks_spread_d2 l2 rfl ?_
  obtain ⟨Q1, hQ1, h⟩ := bd1_ed h
  refine iq_cwV hS 6 J_HBlocks_spread_d3 rfl (pr_inst (vs := [_, _]) lc_1_73 lT_148 rfl rfl (by decide) (by decide) rfl (Nat.le_of_ble_eq_true rfl) (Nat.le_of_ble_eq_true rfl) (fun _ => Or.inl (pr_b (ka_43 hM) (by decide) rfl))) (f_HBlocks_begin_ok (dep := dep + 0) hM h) rfl ?_
  intro M1 hM1 h
  replace h := hQ1 _ h
  refine iq_aload_n hS 7 J_HBlocks_spread_d6 l0 rfl ?_
  obtain ⟨Q2, hQ2, h⟩ := bd1_ed h
  refine iq_cwV hS 10 J_HBlocks_spread_d7 rfl (pr_inst (vs := []) lc_1_77 lT_149 rfl rfl (by decide) (by decide) rfl (Nat.le_of_ble_eq_true rfl) (Nat.le_of_ble_eq_true rfl) (fun _ => Or.inl (pr_b (ka_43 hM1) (by decide) rfl))) (f_HBlocks_makeGenerator_ok (dep := dep + 1) hM1 h) rfl ?_
  intro M2 hM2 h
  replace h := hQ2 _ h
  refine iq_iconst hS 11 J_HBlocks_spread_d10 (v := 0) (by decide +kernel) rfl ?_
  refine iq_istore hS 13 J_HBlocks_spread_d11 (by decide) rfl ?_
  refine iq_iconst hS 14 J_HBlocks_spread_d13 (v := 0) (by decide +kernel) rfl ?_
  refine iq_istore hS 16 J_HBlocks_spread_d14 (by decide) rfl ?_
  obtain ⟨Q3, hQ3, h⟩ := bd1_ed h
  have K3 : ∀ (M4 : im_M) (L' : List (Nat × Value)), lw_S w M4 → Q3 M4 → ia (tb_G L xs) (dep + 3) J_HBlocks_spread (rwV w Q) (149, L', [], M4) := by
    intro M4 L' hM4  h
    replace h := hQ3 _ h
    exact iq_ret J_HBlocks_spread_d149 rfl ⟨rfl, hM4, ed_some h⟩
  obtain ⟨r3, hr3, hq3⟩ := h
  obtain ⟨n3, hn3⟩ := lp_n hr3
  have I3 : ∀ (n : Nat) (x5 : Int32) (x6 : Int32) (M7 : im_M) (L' : List (Nat × Value)), lw_S w M7 → im_lk L' 0 = some (.ref 43) → im_lk L' 3 = some (.ref 40) → im_lk L' 4 = some (.int x5) → im_lk L' 5 = some (.int x6) → lpn (uc3 (f_HBlocks_spread_L16)) n (x5, x6, M7) = some r3 → ia (tb_G L xs) (dep + 3) J_HBlocks_spread (rwV w Q) (16, L', [], M7) := by
    intro n
    induction n with
    | zero => intro x5 x6 M7 L' hM7 l8 l9 l10 l11 hn; exact (lpn_0 hn).elim
    | succ n ih =>
      intro x5 x6 M7 L' hM7 l8 l9 l10 l11 hn
      have h := lpn_ed3 hn
      unfold f_HBlocks_spread_L16 at h
      refine iq_iload hS 18 J_HBlocks_spread_d16 l11 rfl ?_
      refine iq_aload_n hS 19 J_HBlocks_spread_d18 l8 rfl ?_
      refine iq_getI hS 22 J_HBlocks_spread_d19 lf_1_53 (Or.inl rfl) (ka_43 hM7) rfl ?_
      refine iq_icmp_ge hS 25 J_HBlocks_spread_d22 (t := 149) rfl (fun q22 => ?_) rfl (fun q22 => ?_)
      · replace h := ed_pos q22 h
        exact K3 _ _ hM7  (lq_r h hq3)
      · replace h := ed_neg q22 h
        refine iq_aload_n hS 26 J_HBlocks_spread_d25 l8 rfl ?_
        refine iq_iload hS 28 J_HBlocks_spread_d26 l11 rfl ?_
        obtain ⟨Q12, hQ12, h⟩ := bd1_ed h
        refine iq_cpI hS 31 J_HBlocks_spread_d28 rfl (pr_inst (vs := [_]) lc_1_70 lT_152 rfl rfl (by decide) (by decide) rfl (Nat.le_of_ble_eq_true rfl) (Nat.le_of_ble_eq_true rfl) (fun _ => Or.inl (pr_b (ka_43 hM7) (by decide) rfl))) (f_HBlocks_sizeOf_ok (dep := dep + 2) hM7 h) rfl ?_
        intro x12 h
        replace h := hQ12 _ h
        refine iq_istore hS 33 J_HBlocks_spread_d31 (by decide) rfl ?_
        refine iq_iconst hS 34 J_HBlocks_spread_d33 (v := 0) (by decide +kernel) rfl ?_
        refine iq_istore hS 36 J_HBlocks_spread_d34 (by decide) rfl ?_
        obtain ⟨Q13, hQ13, h⟩ := bd1_ed h
        have K13 : ∀ (M14 : im_M) (L' : List (Nat × Value)), lw_S w M14 → im_lk L' 0 = some (.ref 43) → im_lk L' 3 = some (.ref 40) → im_lk L' 4 = some (.int x5) → im_lk L' 5 = some (.int x6) → im_lk L' 6 = some (.int x12) → Q13 M14 → ia (tb_G L xs) (dep + 3) J_HBlocks_spread (rwV w Q) (87, L', [], M14) := by
          intro M14 L' hM14 l15 l16 l17 l18 l19 h
          replace h := hQ13 _ h
          refine iq_aload_n hS 88 J_HBlocks_spread_d87 l15 rfl ?_
          refine iq_iload hS 90 J_HBlocks_spread_d88 l19 rfl ?_
          obtain ⟨Q20, hQ20, h⟩ := bd1_ed h
          refine iq_cwV hS 93 J_HBlocks_spread_d90 rfl (pr_inst (vs := [_]) lc_1_83 lT_154 rfl rfl (by decide) (by decide) rfl (Nat.le_of_ble_eq_true rfl) (Nat.le_of_ble_eq_true rfl) (fun _ => Or.inl (pr_b (ka_43 hM14) (by decide) rfl))) (f_HBlocks_divide_ok (dep := dep + 0) hM14 h) rfl ?_
          intro M20 hM20 h
          replace h := hQ20 _ h
          refine iq_iload hS 95 J_HBlocks_spread_d93 l19 rfl ?_
          refine iq_istore hS 97 J_HBlocks_spread_d95 (by decide) rfl ?_
          obtain ⟨Q21, hQ21, h⟩ := bd1_ed h
          have K21 : ∀ (M22 : im_M) (L' : List (Nat × Value)), lw_S w M22 → im_lk L' 0 = some (.ref 43) → im_lk L' 3 = some (.ref 40) → im_lk L' 4 = some (.int x5) → im_lk L' 5 = some (.int x6) → im_lk L' 6 = some (.int x12) → Q21 M22 → ia (tb_G L xs) (dep + 3) J_HBlocks_spread (rwV w Q) (136, L', [], M22) := by
            intro M22 L' hM22 l23 l24 l25 l26 l27 h
            replace h := hQ21 _ h
            refine iq_iload hS 138 J_HBlocks_spread_d136 l25 rfl ?_
            refine iq_iload hS 140 J_HBlocks_spread_d138 l27 rfl ?_
            refine iq_iadd hS 141 J_HBlocks_spread_d140 rfl ?_
            refine iq_istore hS 143 J_HBlocks_spread_d141 (by decide) rfl ?_
            refine iq_iincv hS 146 J_HBlocks_spread_d143 (c := 1) (by decide +kernel) (lk_1i l26 (by decide)) (by decide) rfl ?_
            refine iq_goto hS J_HBlocks_spread_d146 (t := 16) rfl ?_
            exact ih _ _ _ _ hM22 (lk_1r (lk_1r l23 (by decide)) (by decide)) (lk_1r (lk_1r l24 (by decide)) (by decide)) (lk_1i lk_1s (by decide)) lk_1s (lq_l h)
          obtain ⟨r21, hr21, hq21⟩ := h
          obtain ⟨n21, hn21⟩ := lp_n hr21
          have I21 : ∀ (n : Nat) (x28 : Int32) (M29 : im_M) (L' : List (Nat × Value)), lw_S w M29 → im_lk L' 0 = some (.ref 43) → im_lk L' 3 = some (.ref 40) → im_lk L' 4 = some (.int x5) → im_lk L' 5 = some (.int x6) → im_lk L' 6 = some (.int x12) → im_lk L' 7 = some (.int x28) → lpn (uc2 (f_HBlocks_spread_L97 x5 x6 x12)) n (x28, M29) = some r21 → ia (tb_G L xs) (dep + 3) J_HBlocks_spread (rwV w Q) (97, L', [], M29) := by
            intro n
            induction n with
            | zero => intro x28 M29 L' hM29 l30 l31 l32 l33 l34 l35 hn; exact (lpn_0 hn).elim
            | succ n ih =>
              intro x28 M29 L' hM29 l30 l31 l32 l33 l34 l35 hn
              have h := lpn_ed2 hn
              unfold f_HBlocks_spread_L97 at h
              refine iq_iload hS 99 J_HBlocks_spread_d97 l35 rfl ?_
              refine iq_iload hS 101 J_HBlocks_spread_d99 l34 rfl ?_
              refine iq_aload_n hS 102 J_HBlocks_spread_d101 l30 rfl ?_
              refine iq_getI hS 105 J_HBlocks_spread_d102 lf_1_57 (Or.inl rfl) (ka_43 hM29) rfl ?_
              refine iq_iadd hS 106 J_HBlocks_spread_d105 rfl ?_
              refine iq_icmp_ge hS 109 J_HBlocks_spread_d106 (t := 136) rfl (fun q106 => ?_) rfl (fun q106 => ?_)
              · replace h := ed_pos q106 h
                exact K21 _ _ hM29 l30 l31 l32 l33 l34 (lq_r h hq21)
              · replace h := ed_neg q106 h
                refine iq_aload_n hS 110 J_HBlocks_spread_d109 l30 rfl ?_
                refine iq_getR hS 113 J_HBlocks_spread_d110 lf_1_11 (Or.inr ⟨_, rfl⟩) (ka_43 hM29) (ra_43_0 hM29) rfl ?_
                refine iq_aload_n hS 114 J_HBlocks_spread_d113 l30 rfl ?_
                refine iq_iload hS 116 J_HBlocks_spread_d114 l33 rfl ?_
                refine iq_iload hS 118 J_HBlocks_spread_d116 l35 rfl ?_
                obtain ⟨Q36, hQ36, h⟩ := bd1_ed h
                refine iq_cpI hS 121 J_HBlocks_spread_d118 rfl (pr_inst (vs := [_, _]) lc_1_80 lT_153 rfl rfl (by decide) (by decide) rfl (Nat.le_of_ble_eq_true rfl) (Nat.le_of_ble_eq_true rfl) (fun _ => Or.inl (pr_b (ka_43 hM29) (by decide) rfl))) (f_HBlocks_placeOf_ok (dep := dep + 1) hM29 h) rfl ?_
                intro x36 h
                replace h := hQ36 _ h
                refine iq_aload_n hS 122 J_HBlocks_spread_d121 l30 rfl ?_
                refine iq_getR hS 125 J_HBlocks_spread_d122 lf_1_25 (Or.inr ⟨_, rfl⟩) (ka_43 hM29) (ra_43_4 hM29) rfl ?_
                refine iq_iload hS 127 J_HBlocks_spread_d125 l35 rfl ?_
                obtain ⟨g127, h⟩ := ed_gd h
                refine iq_iaload hS 128 J_HBlocks_spread_d127 ⟨(ka_48 hM29).1, (ka_48 hM29).2, g127.1, ix_lt (kl_48 hM29) g127.2⟩ rfl ?_
                refine iq_i2b hS 129 J_HBlocks_spread_d128 rfl ?_
                obtain ⟨g129, h⟩ := ed_gd h
                refine iq_bastore hS 130 J_HBlocks_spread_d129 ⟨(ka_44 hM29).1, (ka_44 hM29).2, g129.1, ix_lt (kl_44 hM29) g129.2⟩ rfl ?_
                refine iq_iincv hS 133 J_HBlocks_spread_d130 (c := 1) (by decide +kernel) l35 (by decide) rfl ?_
                refine iq_goto hS J_HBlocks_spread_d133 (t := 97) rfl ?_
                exact ih _ _ _ hM29 (lk_1r l30 (by decide)) (lk_1r l31 (by decide)) (lk_1i l32 (by decide)) (lk_1i l33 (by decide)) (lk_1i l34 (by decide)) lk_1s (lq_l h)
          exact I21 n21 _ _ _ hM20 (lk_1r l15 (by decide)) (lk_1r l16 (by decide)) (lk_1i l17 (by decide)) (lk_1i l18 (by decide)) (lk_1i l19 (by decide)) lk_1s hn21
        obtain ⟨r13, hr13, hq13⟩ := h
        obtain ⟨n13, hn13⟩ := lp_n hr13
        have I13 : ∀ (n : Nat) (x37 : Int32) (M38 : im_M) (L' : List (Nat × Value)), lw_S w M38 → im_lk L' 0 = some (.ref 43) → im_lk L' 3 = some (.ref 40) → im_lk L' 4 = some (.int x5) → im_lk L' 5 = some (.int x6) → im_lk L' 6 = some (.int x12) → im_lk L' 7 = some (.int x37) → lpn (uc2 (f_HBlocks_spread_L36 x5 x6 x12)) n (x37, M38) = some r13 → ia (tb_G L xs) (dep + 3) J_HBlocks_spread (rwV w Q) (36, L', [], M38) := by
          intro n
          induction n with
          | zero => intro x37 M38 L' hM38 l39 l40 l41 l42 l43 l44 hn; exact (lpn_0 hn).elim
          | succ n ih =>
            intro x37 M38 L' hM38 l39 l40 l41 l42 l43 l44 hn
            have h := lpn_ed2 hn
            unfold f_HBlocks_spread_L36 at h
            refine iq_iload hS 38 J_HBlocks_spread_d36 l44 rfl ?_
            refine iq_iload hS 40 J_HBlocks_spread_d38 l43 rfl ?_
            refine iq_icmp_ge hS 43 J_HBlocks_spread_d40 (t := 87) rfl (fun q40 => ?_) rfl (fun q40 => ?_)
            · replace h := ed_pos q40 h
              exact K13 _ _ hM38 l39 l40 l41 l42 l43 (lq_r h hq13)
            · replace h := ed_neg q40 h
              refine iq_aload_n hS 44 J_HBlocks_spread_d43 l39 rfl ?_
              refine iq_getR hS 47 J_HBlocks_spread_d44 lf_1_25 (Or.inr ⟨_, rfl⟩) (ka_43 hM38) (ra_43_4 hM38) rfl ?_
              refine iq_iload hS 49 J_HBlocks_spread_d47 l44 rfl ?_
              refine iq_aload_n hS 50 J_HBlocks_spread_d49 l40 rfl ?_
              refine iq_iload hS 52 J_HBlocks_spread_d50 l41 rfl ?_
              refine iq_iload hS 54 J_HBlocks_spread_d52 l44 rfl ?_
              refine iq_iadd hS 55 J_HBlocks_spread_d54 rfl ?_
              obtain ⟨g55, h⟩ := ed_gd h
              refine iq_baload hS 56 J_HBlocks_spread_d55 ⟨(ka_40 hM38).1, (ka_40 hM38).2, g55.1, ix_lt (kl_40 hM38) g55.2⟩ rfl ?_
              refine iq_sipush hS 59 J_HBlocks_spread_d56 (v := 255) (by decide +kernel) rfl ?_
              refine iq_iand hS 60 J_HBlocks_spread_d59 rfl ?_
              obtain ⟨g60, h⟩ := ed_gd h
              refine iq_iastore hS 61 J_HBlocks_spread_d60 ⟨(ka_48 hM38).1, (ka_48 hM38).2, g60.1, ix_lt (kl_48 hM38) g60.2⟩ rfl ?_
              refine iq_aload_n hS 62 J_HBlocks_spread_d61 l39 rfl ?_
              refine iq_getR hS 65 J_HBlocks_spread_d62 lf_1_11 (Or.inr ⟨_, rfl⟩) (ka_43 hM38) (ra_43_0 hM38) rfl ?_
              refine iq_aload_n hS 66 J_HBlocks_spread_d65 l39 rfl ?_
              refine iq_iload hS 68 J_HBlocks_spread_d66 l42 rfl ?_
              refine iq_iload hS 70 J_HBlocks_spread_d68 l44 rfl ?_
              obtain ⟨Q45, hQ45, h⟩ := bd1_ed h
              refine iq_cpI hS 73 J_HBlocks_spread_d70 rfl (pr_inst (vs := [_, _]) lc_1_80 lT_153 rfl rfl (by decide) (by decide) rfl (Nat.le_of_ble_eq_true rfl) (Nat.le_of_ble_eq_true rfl) (fun _ => Or.inl (pr_b (ka_43 hM38) (by decide) rfl))) (f_HBlocks_placeOf_ok (dep := dep + 1) hM38 h) rfl ?_
              intro x45 h
              replace h := hQ45 _ h
              refine iq_aload_n hS 74 J_HBlocks_spread_d73 l40 rfl ?_
              refine iq_iload hS 76 J_HBlocks_spread_d74 l41 rfl ?_
              refine iq_iload hS 78 J_HBlocks_spread_d76 l44 rfl ?_
              refine iq_iadd hS 79 J_HBlocks_spread_d78 rfl ?_
              obtain ⟨g79, h⟩ := ed_gd h
              refine iq_baload hS 80 J_HBlocks_spread_d79 ⟨(ka_40 hM38).1, (ka_40 hM38).2, g79.1, ix_lt (kl_40 hM38) g79.2⟩ rfl ?_
              obtain ⟨g80, h⟩ := ed_gd h
              refine iq_bastore hS 81 J_HBlocks_spread_d80 ⟨(ka_44 hM38).1, (ka_44 hM38).2, g80.1, ix_lt (kl_44 hM38) g80.2⟩ rfl ?_
              refine iq_iincv hS 84 J_HBlocks_spread_d81 (c := 1) (by decide +kernel) l44 (by decide) rfl ?_
              refine iq_goto hS J_HBlocks_spread_d84 (t := 36) rfl ?_
              exact ih _ _ _ hM38 (lk_1r l39 (by decide)) (lk_1r l40 (by decide)) (lk_1i l41 (by decide)) (lk_1i l42 (by decide)) (lk_1i l43 (by decide)) lk_1s (lq_l h)
        exact I13 n13 _ _ _ hM7 (lk_1r (lk_1r l8 (by decide)) (by decide)) (lk_1r (lk_1r l9 (by decide)) (by decide)) (lk_1i (lk_1i l10 (by decide)) (by decide)) (lk_1i (lk_1i l11 (by decide)) (by decide)) (lk_1i lk_1s (by decide)) lk_1s hn13
  exact I3 n3 _ _ _ _ hM2 (lk_1r (lk_1r l0 (by decide)) (by decide)) (lk_1r (lk_1r l3 (by decide)) (by decide)) (lk_1i lk_1s (by decide)) lk_1s hn3
noncomputable def f_Arrays_fill3_1_L10 (v3 : Int32) (v4 : Int32) (x5 : Int32) (M6 : im_M) : Option ((Int32 × im_M) ⊕ (im_M)) := if v3 ≤ x5 then some (.inr M6) else gd (inb x5 31329) <| some (.inl ((x5 + 1), (im_setI M6 55 (Int32.toNatClampNeg x5) (vp_nar .byte v4))))
noncomputable def f_Arrays_fill3_1 (p1 : Int32) (p2 : Int32) (p3 : Int32) (M : im_M) : Option (im_M) := bd0 (f_Arrays_rangeCheck 31329 p1 p2 M) fun (_ : Unit) => bd1 (lp (uc2 (f_Arrays_fill3_1_L10 p2 p3)) (p1, M)) fun (M7 : im_M) => some M7
theorem f_Arrays_fill3_1_ok {L : Nat} {xs : Nat → Int32} {dep : Nat} {w : Bool} {p1 : Int32} {p2 : Int32} {p3 : Int32} {M : im_M} {Q : im_M → Prop} (hM : lw_S w M) (h : ed (f_Arrays_fill3_1 p1 p2 p3 M) Q) : ia (tb_G L xs) (dep + 1) J_Arrays_fill3 (rwV w Q) (0, lv_args 0 [.ref 55, .int p1, .int p2, .int p3], [], M) := by
  have hS : im_St (tb_G L xs) (dep + 1) J_Arrays_fill3 (ia (tb_G L xs) (dep + 1) J_Arrays_fill3 (rwV w Q)) := ia_St
  unfold f_Arrays_fill3_1 at h
  have l0 : im_lk (lv_args 0 [.ref 55, .int p1, .int p2, .int p3]) 0 = some (.ref 55) := rfl
  have l1 : im_lk (lv_args 0 [.ref 55, .int p1, .int p2, .int p3]) 1 = some (.int p1) := rfl
  have l2 : im_lk (lv_args 0 [.ref 55, .int p1, .int p2, .int p3]) 2 = some (.int p2) := rfl
  have l3 : im_lk (lv_args 0 [.ref 55, .int p1, .int p2, .int p3]) 3 = some (.int p3) := rfl
  refine iq_aload_n hS 1 J_Arrays_fill3_d0 l0 rfl ?_
  refine iq_alenv hS 2 J_Arrays_fill3_d1 (v := 31329) (ka_55 hM) (by decide) (by decide) (kl_55 hM) (by decide +kernel) rfl ?_
  refine iq_iload_n hS 3 J_Arrays_fill3_d2 l1 rfl ?_
  refine iq_iload_n hS 4 J_Arrays_fill3_d3 l2 rfl ?_
  obtain ⟨Q1, hQ1, h⟩ := bd0_ed h
  refine iq_cpV hS 7 J_Arrays_fill3_d4 rfl (pr_stat (vs := [_, _, _]) lc_22_13 lT_54 rfl rfl (by decide) rfl (Nat.le_of_ble_eq_true rfl) (Nat.le_of_ble_eq_true rfl)) (f_Arrays_rangeCheck_ok (dep := dep + 0) hM h) rfl ?_
  intro h
  replace h := hQ1  h
  refine iq_iload_n hS 8 J_Arrays_fill3_d7 l1 rfl ?_
  refine iq_istore hS 10 J_Arrays_fill3_d8 (by decide) rfl ?_
  obtain ⟨Q2, hQ2, h⟩ := bd1_ed h
  have K2 : ∀ (M3 : im_M) (L' : List (Nat × Value)), lw_S w M3 → Q2 M3 → ia (tb_G L xs) (dep + 1) J_Arrays_fill3 (rwV w Q) (27, L', [], M3) := by
    intro M3 L' hM3  h
    replace h := hQ2 _ h
    exact iq_ret J_Arrays_fill3_d27 rfl ⟨rfl, hM3, ed_some h⟩
  obtain ⟨r2, hr2, hq2⟩ := h
  obtain ⟨n2, hn2⟩ := lp_n hr2
  have I2 : ∀ (n : Nat) (x4 : Int32) (M5 : im_M) (L' : List (Nat × Value)), lw_S w M5 → im_lk L' 0 = some (.ref 55) → im_lk L' 2 = some (.int p2) → im_lk L' 3 = some (.int p3) → im_lk L' 4 = some (.int x4) → lpn (uc2 (f_Arrays_fill3_1_L10 p2 p3)) n (x4, M5) = some r2 → ia (tb_G L xs) (dep + 1) J_Arrays_fill3 (rwV w Q) (10, L', [], M5) := by
    intro n
    induction n with
    | zero => intro x4 M5 L' hM5 l6 l7 l8 l9 hn; exact (lpn_0 hn).elim
    | succ n ih =>
      intro x4 M5 L' hM5 l6 l7 l8 l9 hn
      have h := lpn_ed2 hn
      unfold f_Arrays_fill3_1_L10 at h
      refine iq_iload hS 12 J_Arrays_fill3_d10 l9 rfl ?_
      refine iq_iload_n hS 13 J_Arrays_fill3_d12 l7 rfl ?_
      refine iq_icmp_ge hS 16 J_Arrays_fill3_d13 (t := 27) rfl (fun q13 => ?_) rfl (fun q13 => ?_)
      · replace h := ed_pos q13 h
        exact K2 _ _ hM5  (lq_r h hq2)
      · replace h := ed_neg q13 h
        refine iq_aload_n hS 17 J_Arrays_fill3_d16 l6 rfl ?_
        refine iq_iload hS 19 J_Arrays_fill3_d17 l9 rfl ?_
        refine iq_iload_n hS 20 J_Arrays_fill3_d19 l8 rfl ?_
        obtain ⟨g20, h⟩ := ed_gd h
        refine iq_bastore hS 21 J_Arrays_fill3_d20 ⟨(ka_55 hM5).1, (ka_55 hM5).2, g20.1, ix_lt (kl_55 hM5) g20.2⟩ rfl ?_
        refine iq_iincv hS 24 J_Arrays_fill3_d21 (c := 1) (by decide +kernel) l9 (by decide) rfl ?_
        refine iq_goto hS J_Arrays_fill3_d24 (t := 10) rfl ?_
        exact ih _ _ _ hM5 (lk_1r l6 (by decide)) (lk_1i l7 (by decide)) (lk_1i l8 (by decide)) lk_1s (lq_l h)
  exact I2 n2 _ _ _ hM (lk_1r l0 (by decide)) (lk_1i l2 (by decide)) (lk_1i l3 (by decide)) lk_1s hn2
noncomputable def f_Arrays_fill3_2_L10 (v3 : Int32) (v4 : Int32) (x5 : Int32) (M6 : im_M) : Option ((Int32 × im_M) ⊕ (im_M)) := if v3 ≤ x5 then some (.inr M6) else gd (inb x5 31329) <| some (.inl ((x5 + 1), (im_setI M6 54 (Int32.toNatClampNeg x5) (vp_nar .byte v4))))
noncomputable def f_Arrays_fill3_2 (p1 : Int32) (p2 : Int32) (p3 : Int32) (M : im_M) : Option (im_M) := bd0 (f_Arrays_rangeCheck 31329 p1 p2 M) fun (_ : Unit) => bd1 (lp (uc2 (f_Arrays_fill3_2_L10 p2 p3)) (p1, M)) fun (M7 : im_M) => some M7
theorem f_Arrays_fill3_2_ok {L : Nat} {xs : Nat → Int32} {dep : Nat} {w : Bool} {p1 : Int32} {p2 : Int32} {p3 : Int32} {M : im_M} {Q : im_M → Prop} (hM : lw_S w M) (h : ed (f_Arrays_fill3_2 p1 p2 p3 M) Q) : ia (tb_G L xs) (dep + 1) J_Arrays_fill3 (rwV w Q) (0, lv_args 0 [.ref 54, .int p1, .int p2, .int p3], [], M) := by
  have hS : im_St (tb_G L xs) (dep + 1) J_Arrays_fill3 (ia (tb_G L xs) (dep + 1) J_Arrays_fill3 (rwV w Q)) := ia_St
  unfold f_Arrays_fill3_2 at h
  have l0 : im_lk (lv_args 0 [.ref 54, .int p1, .int p2, .int p3]) 0 = some (.ref 54) := rfl
  have l1 : im_lk (lv_args 0 [.ref 54, .int p1, .int p2, .int p3]) 1 = some (.int p1) := rfl
  have l2 : im_lk (lv_args 0 [.ref 54, .int p1, .int p2, .int p3]) 2 = some (.int p2) := rfl
  have l3 : im_lk (lv_args 0 [.ref 54, .int p1, .int p2, .int p3]) 3 = some (.int p3) := rfl
  refine iq_aload_n hS 1 J_Arrays_fill3_d0 l0 rfl ?_
  refine iq_alenv hS 2 J_Arrays_fill3_d1 (v := 31329) (ka_54 hM) (by decide) (by decide) (kl_54 hM) (by decide +kernel) rfl ?_
  refine iq_iload_n hS 3 J_Arrays_fill3_d2 l1 rfl ?_
  refine iq_iload_n hS 4 J_Arrays_fill3_d3 l2 rfl ?_
  obtain ⟨Q1, hQ1, h⟩ := bd0_ed h
  refine iq_cpV hS 7 J_Arrays_fill3_d4 rfl (pr_stat (vs := [_, _, _]) lc_22_13 lT_54 rfl rfl (by decide) rfl (Nat.le_of_ble_eq_true rfl) (Nat.le_of_ble_eq_true rfl)) (f_Arrays_rangeCheck_ok (dep := dep + 0) hM h) rfl ?_
  intro h
  replace h := hQ1  h
  refine iq_iload_n hS 8 J_Arrays_fill3_d7 l1 rfl ?_
  refine iq_istore hS 10 J_Arrays_fill3_d8 (by decide) rfl ?_
  obtain ⟨Q2, hQ2, h⟩ := bd1_ed h
  have K2 : ∀ (M3 : im_M) (L' : List (Nat × Value)), lw_S w M3 → Q2 M3 → ia (tb_G L xs) (dep + 1) J_Arrays_fill3 (rwV w Q) (27, L', [], M3) := by
    intro M3 L' hM3  h
    replace h := hQ2 _ h
    exact iq_ret J_Arrays_fill3_d27 rfl ⟨rfl, hM3, ed_some h⟩
  obtain ⟨r2, hr2, hq2⟩ := h
  obtain ⟨n2, hn2⟩ := lp_n hr2
  have I2 : ∀ (n : Nat) (x4 : Int32) (M5 : im_M) (L' : List (Nat × Value)), lw_S w M5 → im_lk L' 0 = some (.ref 54) → im_lk L' 2 = some (.int p2) → im_lk L' 3 = some (.int p3) → im_lk L' 4 = some (.int x4) → lpn (uc2 (f_Arrays_fill3_2_L10 p2 p3)) n (x4, M5) = some r2 → ia (tb_G L xs) (dep + 1) J_Arrays_fill3 (rwV w Q) (10, L', [], M5) := by
    intro n
    induction n with
    | zero => intro x4 M5 L' hM5 l6 l7 l8 l9 hn; exact (lpn_0 hn).elim
    | succ n ih =>
      intro x4 M5 L' hM5 l6 l7 l8 l9 hn
      have h := lpn_ed2 hn
      unfold f_Arrays_fill3_2_L10 at h
      refine iq_iload hS 12 J_Arrays_fill3_d10 l9 rfl ?_
      refine iq_iload_n hS 13 J_Arrays_fill3_d12 l7 rfl ?_
      refine iq_icmp_ge hS 16 J_Arrays_fill3_d13 (t := 27) rfl (fun q13 => ?_) rfl (fun q13 => ?_)
      · replace h := ed_pos q13 h
        exact K2 _ _ hM5  (lq_r h hq2)
      · replace h := ed_neg q13 h
        refine iq_aload_n hS 17 J_Arrays_fill3_d16 l6 rfl ?_
        refine iq_iload hS 19 J_Arrays_fill3_d17 l9 rfl ?_
        refine iq_iload_n hS 20 J_Arrays_fill3_d19 l8 rfl ?_
        obtain ⟨g20, h⟩ := ed_gd h
        refine iq_bastore hS 21 J_Arrays_fill3_d20 ⟨(ka_54 hM5).1, (ka_54 hM5).2, g20.1, ix_lt (kl_54 hM5) g20.2⟩ rfl ?_
        refine iq_iincv hS 24 J_Arrays_fill3_d21 (c := 1) (by decide +kernel) l9 (by decide) rfl ?_
        refine iq_goto hS J_Arrays_fill3_d24 (t := 10) rfl ?_
        exact ih _ _ _ hM5 (lk_1r l6 (by decide)) (lk_1i l7 (by decide)) (lk_1i l8 (by decide)) lk_1s (lq_l h)
  exact I2 n2 _ _ _ hM (lk_1r l0 (by decide)) (lk_1i l2 (by decide)) (lk_1i l3 (by decide)) lk_1s hn2
noncomputable def f_HGrid_fix (p0 : Int32) (p1 : Int32) (p2 : Int32) (M : im_M) : Option (im_M) := gd (inb ((p1 * 177) + p0) 31329) <| gd (inb ((p1 * 177) + p0) 31329) <| some (im_setI (im_setI M 54 (Int32.toNatClampNeg ((p1 * 177) + p0)) (vp_nar .byte ((Int32.toInt8 ((if p2 = 0 then 0 else 1) : Int32)).toInt32))) 55 (Int32.toNatClampNeg ((p1 * 177) + p0)) (vp_nar .byte 1))
theorem J_HGrid_fix_d0 : decode J_HGrid_fix.2.1 0 = .ok (.aload_n 0, 1) := by decide +kernel
theorem J_HGrid_fix_d1 : decode J_HGrid_fix.2.1 1 = .ok (.getfield 25, 3) := by decide +kernel
theorem J_HGrid_fix_d4 : decode J_HGrid_fix.2.1 4 = .ok (.iload_n 2, 1) := by decide +kernel
theorem J_HGrid_fix_d5 : decode J_HGrid_fix.2.1 5 = .ok (.sipush 177, 3) := by decide +kernel
theorem J_HGrid_fix_d8 : decode J_HGrid_fix.2.1 8 = .ok (.imul, 1) := by decide +kernel
theorem J_HGrid_fix_d9 : decode J_HGrid_fix.2.1 9 = .ok (.iload_n 1, 1) := by decide +kernel
theorem J_HGrid_fix_d10 : decode J_HGrid_fix.2.1 10 = .ok (.iadd, 1) := by decide +kernel
theorem J_HGrid_fix_d11 : decode J_HGrid_fix.2.1 11 = .ok (.iload_n 3, 1) := by decide +kernel
theorem J_HGrid_fix_d12 : decode J_HGrid_fix.2.1 12 = .ok (.ifCond .eq 7, 3) := by decide +kernel
theorem J_HGrid_fix_d15 : decode J_HGrid_fix.2.1 15 = .ok (.iconst 1, 1) := by decide +kernel
theorem J_HGrid_fix_d16 : decode J_HGrid_fix.2.1 16 = .ok (.goto 4, 3) := by decide +kernel
theorem J_HGrid_fix_d19 : decode J_HGrid_fix.2.1 19 = .ok (.iconst 0, 1) := by decide +kernel
theorem J_HGrid_fix_d20 : decode J_HGrid_fix.2.1 20 = .ok (.i2b, 1) := by decide +kernel
theorem J_HGrid_fix_d21 : decode J_HGrid_fix.2.1 21 = .ok (.bastore, 1) := by decide +kernel
theorem J_HGrid_fix_d22 : decode J_HGrid_fix.2.1 22 = .ok (.aload_n 0, 1) := by decide +kernel
theorem J_HGrid_fix_d23 : decode J_HGrid_fix.2.1 23 = .ok (.getfield 29, 3) := by decide +kernel
theorem J_HGrid_fix_d26 : decode J_HGrid_fix.2.1 26 = .ok (.iload_n 2, 1) := by decide +kernel
theorem J_HGrid_fix_d27 : decode J_HGrid_fix.2.1 27 = .ok (.sipush 177, 3) := by decide +kernel
theorem J_HGrid_fix_d30 : decode J_HGrid_fix.2.1 30 = .ok (.imul, 1) := by decide +kernel
theorem J_HGrid_fix_d31 : decode J_HGrid_fix.2.1 31 = .ok (.iload_n 1, 1) := by decide +kernel
theorem J_HGrid_fix_d32 : decode J_HGrid_fix.2.1 32 = .ok (.iadd, 1) := by decide +kernel
theorem J_HGrid_fix_d33 : decode J_HGrid_fix.2.1 33 = .ok (.iconst 1, 1) := by decide +kernel
theorem J_HGrid_fix_d34 : decode J_HGrid_fix.2.1 34 = .ok (.bastore, 1) := by decide +kernel
theorem J_HGrid_fix_d35 : decode J_HGrid_fix.2.1 35 = .ok (.return_, 1) := by decide +kernel
theorem f_HGrid_fix_ok {L : Nat} {xs : Nat → Int32} {dep : Nat} {w : Bool} {p0 : Int32} {p1 : Int32} {p2 : Int32} {M : im_M} {Q : im_M → Prop} (hM : lw_S w M) (h : ed (f_HGrid_fix p0 p1 p2 M) Q) : ia (tb_G L xs) dep J_HGrid_fix (rwV w Q) (0, lv_args 0 [.ref 38, .int p0, .int p1, .int p2], [], M) := by
  have hS : im_St (tb_G L xs) dep J_HGrid_fix (ia (tb_G L xs) dep J_HGrid_fix (rwV w Q)) := ia_St
  unfold f_HGrid_fix at h
  have l0 : im_lk (lv_args 0 [.ref 38, .int p0, .int p1, .int p2]) 0 = some (.ref 38) := rfl
  have l1 : im_lk (lv_args 0 [.ref 38, .int p0, .int p1, .int p2]) 1 = some (.int p0) := rfl
  have l2 : im_lk (lv_args 0 [.ref 38, .int p0, .int p1, .int p2]) 2 = some (.int p1) := rfl
  have l3 : im_lk (lv_args 0 [.ref 38, .int p0, .int p1, .int p2]) 3 = some (.int p2) := rfl
  refine iq_aload_n hS 1 J_HGrid_fix_d0 l0 rfl ?_
  refine iq_getR hS 4 J_HGrid_fix_d1 lf_4_25 (Or.inr ⟨_, rfl⟩) (ka_38 hM) (ra_38_7 hM) rfl ?_
  refine iq_iload_n hS 5 J_HGrid_fix_d4 l2 rfl ?_
  refine iq_sipush hS 8 J_HGrid_fix_d5 (v := 177) (by decide +kernel) rfl ?_
  refine iq_imul hS 9 J_HGrid_fix_d8 rfl ?_
  refine iq_iload_n hS 10 J_HGrid_fix_d9 l1 rfl ?_
  refine iq_iadd hS 11 J_HGrid_fix_d10 rfl ?_
  refine iq_iload_n hS 12 J_HGrid_fix_d11 l3 rfl ?_
  have J1 : ∀ (z2 : Int32) (L' : List (Nat × Value)), z2 = ((if p2 = 0 then 0 else 1) : Int32) → im_lk L' 0 = some (.ref 38) → im_lk L' 1 = some (.int p0) → im_lk L' 2 = some (.int p1) → ia (tb_G L xs) dep J_HGrid_fix (rwV w Q) (20, L', [.int z2, .int ((p1 * 177) + p0), .ref 54], M) := by
    intro z2 L' e3 l4 l5 l6
    subst e3
    refine iq_i2b hS 21 J_HGrid_fix_d20 rfl ?_
    obtain ⟨g21, h⟩ := ed_gd h
    refine iq_bastore hS 22 J_HGrid_fix_d21 ⟨(ka_54 hM).1, (ka_54 hM).2, g21.1, ix_lt (kl_54 hM) g21.2⟩ rfl ?_
    refine iq_aload_n hS 23 J_HGrid_fix_d22 l4 rfl ?_
    refine iq_getR hS 26 J_HGrid_fix_d23 lf_4_29 (Or.inr ⟨_, rfl⟩) (ka_38 hM) (ra_38_8 hM) rfl ?_
    refine iq_iload_n hS 27 J_HGrid_fix_d26 l6 rfl ?_
    refine iq_sipush hS 30 J_HGrid_fix_d27 (v := 177) (by decide +kernel) rfl ?_
    refine iq_imul hS 31 J_HGrid_fix_d30 rfl ?_
    refine iq_iload_n hS 32 J_HGrid_fix_d31 l5 rfl ?_
    refine iq_iadd hS 33 J_HGrid_fix_d32 rfl ?_
    refine iq_iconst hS 34 J_HGrid_fix_d33 (v := 1) (by decide +kernel) rfl ?_
    obtain ⟨g34, h⟩ := ed_gd h
    refine iq_bastore hS 35 J_HGrid_fix_d34 ⟨(ka_55 hM).1, (ka_55 hM).2, g34.1, ix_lt (kl_55 hM) g34.2⟩ rfl ?_
    exact iq_ret J_HGrid_fix_d35 rfl ⟨rfl, hM, ed_some h⟩
  refine iq_if_eq hS 15 J_HGrid_fix_d12 (t := 19) rfl (fun q12 => ?_) rfl (fun q12 => ?_)
  · refine iq_iconst hS 20 J_HGrid_fix_d19 (v := 0) (by decide +kernel) rfl ?_
    exact J1 _ _ (by rw [if_pos q12]) l0 l1 l2
  · refine iq_iconst hS 16 J_HGrid_fix_d15 (v := 1) (by decide +kernel) rfl ?_
    refine iq_goto hS J_HGrid_fix_d16 (t := 20) rfl ?_
    exact J1 _ _ (by rw [if_neg q12]) l0 l1 l2
noncomputable def f_Math_abs (p0 : Int32) (M : im_M) : Option (Int32) := if 0 ≤ p0 then some p0 else some (-p0)
theorem J_Math_abs_d0 : decode J_Math_abs.2.1 0 = .ok (.iload_n 0, 1) := by decide +kernel
theorem J_Math_abs_d1 : decode J_Math_abs.2.1 1 = .ok (.ifCond .ge 8, 3) := by decide +kernel
theorem J_Math_abs_d4 : decode J_Math_abs.2.1 4 = .ok (.iload_n 0, 1) := by decide +kernel
theorem J_Math_abs_d5 : decode J_Math_abs.2.1 5 = .ok (.ineg, 1) := by decide +kernel
theorem J_Math_abs_d6 : decode J_Math_abs.2.1 6 = .ok (.goto 4, 3) := by decide +kernel
theorem J_Math_abs_d9 : decode J_Math_abs.2.1 9 = .ok (.iload_n 0, 1) := by decide +kernel
theorem J_Math_abs_d10 : decode J_Math_abs.2.1 10 = .ok (.ireturn, 1) := by decide +kernel
theorem f_Math_abs_ok {L : Nat} {xs : Nat → Int32} {dep : Nat} {w : Bool} {p0 : Int32} {M : im_M} {Q : Int32 → Prop} (hM : lw_S w M) (h : ed (f_Math_abs p0 M) Q) : ia (tb_G L xs) dep J_Math_abs (rpI M Q) (0, lv_args 0 [.int p0], [], M) := by
  have hS : im_St (tb_G L xs) dep J_Math_abs (ia (tb_G L xs) dep J_Math_abs (rpI M Q)) := ia_St
  unfold f_Math_abs at h
  have l0 : im_lk (lv_args 0 [.int p0]) 0 = some (.int p0) := rfl
  refine iq_iload_n hS 1 J_Math_abs_d0 l0 rfl ?_
  refine iq_if_ge hS 4 J_Math_abs_d1 (t := 9) rfl (fun q1 => ?_) rfl (fun q1 => ?_)
  · replace h := ed_pos q1 h
    refine iq_iload_n hS 10 J_Math_abs_d9 l0 rfl ?_
    exact iq_iret J_Math_abs_d10 rfl rfl ⟨_, rfl, rfl, ed_some h⟩
  · replace h := ed_neg q1 h
    refine iq_iload_n hS 5 J_Math_abs_d4 l0 rfl ?_
    refine iq_ineg hS 6 J_Math_abs_d5 rfl ?_
    refine iq_goto hS J_Math_abs_d6 (t := 10) rfl ?_
    exact iq_iret J_Math_abs_d10 rfl rfl ⟨_, rfl, rfl, ed_some h⟩
noncomputable def f_HGrid_fixSquares_L14 (v9 : Int32) (v10 : Int32) (v11 : Int32) (v12 : Int32) (v13 : Int32) (x14 : Int32) (M15 : im_M) : Option ((Int32 × im_M) ⊕ (im_M)) := if v11 < x14 then some (.inr M15) else bd1 (f_Math_abs x14 M15) fun (x16 : Int32) => bd1 (f_Math_abs v13 M15) fun (x17 : Int32) => bd1 (f_Math_max x16 x17 M15) fun (x18 : Int32) => bd1 (if ((if (v9 + x14) < 0 then 0 else (if (im_i M15 38 1) ≤ (v9 + x14) then 0 else (if (v10 + v13) < 0 then 0 else (if (im_i M15 38 1) ≤ (v10 + v13) then 0 else 1)))) : Int32) = 0 then some M15 else bd1 (f_HGrid_fix (v9 + x14) (v10 + v13) ((if x18 = v12 then 0 else (if x18 = 4 then 0 else 1)) : Int32) M15) fun (M22 : im_M) => some M22) fun (M23 : im_M) => some (.inl ((x14 + 1), M23))
noncomputable def f_HGrid_fixSquares_L4 (v2 : Int32) (v3 : Int32) (v4 : Int32) (v5 : Int32) (x6 : Int32) (M7 : im_M) : Option ((Int32 × im_M) ⊕ (im_M)) := if v4 < x6 then some (.inr M7) else bd1 (lp (uc2 (f_HGrid_fixSquares_L14 v2 v3 v4 v5 x6)) ((-v4), M7)) fun (M31 : im_M) => some (.inl ((x6 + 1), M31))
noncomputable def f_HGrid_fixSquares (p0 : Int32) (p1 : Int32) (p2 : Int32) (p3 : Int32) (M : im_M) : Option (im_M) := bd1 (lp (uc2 (f_HGrid_fixSquares_L4 p0 p1 p2 p3)) ((-p2), M)) fun (M32 : im_M) => some M32
theorem J_HGrid_fixSquares_d0 : decode J_HGrid_fixSquares.2.1 0 = .ok (.iload_n 3, 1) := by decide +kernel
theorem J_HGrid_fixSquares_d1 : decode J_HGrid_fixSquares.2.1 1 = .ok (.ineg, 1) := by decide +kernel
theorem J_HGrid_fixSquares_d2 : decode J_HGrid_fixSquares.2.1 2 = .ok (.istore 5, 2) := by decide +kernel
theorem J_HGrid_fixSquares_d4 : decode J_HGrid_fixSquares.2.1 4 = .ok (.iload 5, 2) := by decide +kernel
theorem J_HGrid_fixSquares_d6 : decode J_HGrid_fixSquares.2.1 6 = .ok (.iload_n 3, 1) := by decide +kernel
theorem J_HGrid_fixSquares_d7 : decode J_HGrid_fixSquares.2.1 7 = .ok (.if_icmp .gt 118, 3) := by decide +kernel
theorem J_HGrid_fixSquares_d10 : decode J_HGrid_fixSquares.2.1 10 = .ok (.iload_n 3, 1) := by decide +kernel
theorem J_HGrid_fixSquares_d11 : decode J_HGrid_fixSquares.2.1 11 = .ok (.ineg, 1) := by decide +kernel
theorem J_HGrid_fixSquares_d12 : decode J_HGrid_fixSquares.2.1 12 = .ok (.istore 6, 2) := by decide +kernel
theorem J_HGrid_fixSquares_d14 : decode J_HGrid_fixSquares.2.1 14 = .ok (.iload 6, 2) := by decide +kernel
theorem J_HGrid_fixSquares_d16 : decode J_HGrid_fixSquares.2.1 16 = .ok (.iload_n 3, 1) := by decide +kernel
theorem J_HGrid_fixSquares_d17 : decode J_HGrid_fixSquares.2.1 17 = .ok (.if_icmp .gt 102, 3) := by decide +kernel
theorem J_HGrid_fixSquares_d20 : decode J_HGrid_fixSquares.2.1 20 = .ok (.iload 6, 2) := by decide +kernel
theorem J_HGrid_fixSquares_d22 : decode J_HGrid_fixSquares.2.1 22 = .ok (.invokestatic 97, 3) := by decide +kernel
theorem J_HGrid_fixSquares_d25 : decode J_HGrid_fixSquares.2.1 25 = .ok (.iload 5, 2) := by decide +kernel
theorem J_HGrid_fixSquares_d27 : decode J_HGrid_fixSquares.2.1 27 = .ok (.invokestatic 97, 3) := by decide +kernel
theorem J_HGrid_fixSquares_d30 : decode J_HGrid_fixSquares.2.1 30 = .ok (.invokestatic 102, 3) := by decide +kernel
theorem J_HGrid_fixSquares_d33 : decode J_HGrid_fixSquares.2.1 33 = .ok (.istore 7, 2) := by decide +kernel
theorem J_HGrid_fixSquares_d35 : decode J_HGrid_fixSquares.2.1 35 = .ok (.iload_n 1, 1) := by decide +kernel
theorem J_HGrid_fixSquares_d36 : decode J_HGrid_fixSquares.2.1 36 = .ok (.iload 6, 2) := by decide +kernel
theorem J_HGrid_fixSquares_d38 : decode J_HGrid_fixSquares.2.1 38 = .ok (.iadd, 1) := by decide +kernel
theorem J_HGrid_fixSquares_d39 : decode J_HGrid_fixSquares.2.1 39 = .ok (.ifCond .lt 36, 3) := by decide +kernel
theorem J_HGrid_fixSquares_d42 : decode J_HGrid_fixSquares.2.1 42 = .ok (.iload_n 1, 1) := by decide +kernel
theorem J_HGrid_fixSquares_d43 : decode J_HGrid_fixSquares.2.1 43 = .ok (.iload 6, 2) := by decide +kernel
theorem J_HGrid_fixSquares_d45 : decode J_HGrid_fixSquares.2.1 45 = .ok (.iadd, 1) := by decide +kernel
theorem J_HGrid_fixSquares_d46 : decode J_HGrid_fixSquares.2.1 46 = .ok (.aload_n 0, 1) := by decide +kernel
theorem J_HGrid_fixSquares_d47 : decode J_HGrid_fixSquares.2.1 47 = .ok (.getfield 74, 3) := by decide +kernel
theorem J_HGrid_fixSquares_d50 : decode J_HGrid_fixSquares.2.1 50 = .ok (.if_icmp .ge 25, 3) := by decide +kernel
theorem J_HGrid_fixSquares_d53 : decode J_HGrid_fixSquares.2.1 53 = .ok (.iload_n 2, 1) := by decide +kernel
theorem J_HGrid_fixSquares_d54 : decode J_HGrid_fixSquares.2.1 54 = .ok (.iload 5, 2) := by decide +kernel
theorem J_HGrid_fixSquares_d56 : decode J_HGrid_fixSquares.2.1 56 = .ok (.iadd, 1) := by decide +kernel
theorem J_HGrid_fixSquares_d57 : decode J_HGrid_fixSquares.2.1 57 = .ok (.ifCond .lt 18, 3) := by decide +kernel
theorem J_HGrid_fixSquares_d60 : decode J_HGrid_fixSquares.2.1 60 = .ok (.iload_n 2, 1) := by decide +kernel
theorem J_HGrid_fixSquares_d61 : decode J_HGrid_fixSquares.2.1 61 = .ok (.iload 5, 2) := by decide +kernel
theorem J_HGrid_fixSquares_d63 : decode J_HGrid_fixSquares.2.1 63 = .ok (.iadd, 1) := by decide +kernel
theorem J_HGrid_fixSquares_d64 : decode J_HGrid_fixSquares.2.1 64 = .ok (.aload_n 0, 1) := by decide +kernel
theorem J_HGrid_fixSquares_d65 : decode J_HGrid_fixSquares.2.1 65 = .ok (.getfield 74, 3) := by decide +kernel
theorem J_HGrid_fixSquares_d68 : decode J_HGrid_fixSquares.2.1 68 = .ok (.if_icmp .ge 7, 3) := by decide +kernel
theorem J_HGrid_fixSquares_d71 : decode J_HGrid_fixSquares.2.1 71 = .ok (.iconst 1, 1) := by decide +kernel
theorem J_HGrid_fixSquares_d72 : decode J_HGrid_fixSquares.2.1 72 = .ok (.goto 4, 3) := by decide +kernel
theorem J_HGrid_fixSquares_d75 : decode J_HGrid_fixSquares.2.1 75 = .ok (.iconst 0, 1) := by decide +kernel
theorem J_HGrid_fixSquares_d76 : decode J_HGrid_fixSquares.2.1 76 = .ok (.istore 8, 2) := by decide +kernel
theorem J_HGrid_fixSquares_d78 : decode J_HGrid_fixSquares.2.1 78 = .ok (.iload 8, 2) := by decide +kernel
theorem J_HGrid_fixSquares_d80 : decode J_HGrid_fixSquares.2.1 80 = .ok (.ifCond .eq 33, 3) := by decide +kernel
theorem J_HGrid_fixSquares_d83 : decode J_HGrid_fixSquares.2.1 83 = .ok (.aload_n 0, 1) := by decide +kernel
theorem J_HGrid_fixSquares_d84 : decode J_HGrid_fixSquares.2.1 84 = .ok (.iload_n 1, 1) := by decide +kernel
theorem J_HGrid_fixSquares_d85 : decode J_HGrid_fixSquares.2.1 85 = .ok (.iload 6, 2) := by decide +kernel
theorem J_HGrid_fixSquares_d87 : decode J_HGrid_fixSquares.2.1 87 = .ok (.iadd, 1) := by decide +kernel
theorem J_HGrid_fixSquares_d88 : decode J_HGrid_fixSquares.2.1 88 = .ok (.iload_n 2, 1) := by decide +kernel
theorem J_HGrid_fixSquares_d89 : decode J_HGrid_fixSquares.2.1 89 = .ok (.iload 5, 2) := by decide +kernel
theorem J_HGrid_fixSquares_d91 : decode J_HGrid_fixSquares.2.1 91 = .ok (.iadd, 1) := by decide +kernel
theorem J_HGrid_fixSquares_d92 : decode J_HGrid_fixSquares.2.1 92 = .ok (.iload 7, 2) := by decide +kernel
theorem J_HGrid_fixSquares_d94 : decode J_HGrid_fixSquares.2.1 94 = .ok (.iload 4, 2) := by decide +kernel
theorem J_HGrid_fixSquares_d96 : decode J_HGrid_fixSquares.2.1 96 = .ok (.if_icmp .eq 13, 3) := by decide +kernel
theorem J_HGrid_fixSquares_d99 : decode J_HGrid_fixSquares.2.1 99 = .ok (.iload 7, 2) := by decide +kernel
theorem J_HGrid_fixSquares_d101 : decode J_HGrid_fixSquares.2.1 101 = .ok (.iconst 4, 1) := by decide +kernel
theorem J_HGrid_fixSquares_d102 : decode J_HGrid_fixSquares.2.1 102 = .ok (.if_icmp .eq 7, 3) := by decide +kernel
theorem J_HGrid_fixSquares_d105 : decode J_HGrid_fixSquares.2.1 105 = .ok (.iconst 1, 1) := by decide +kernel
theorem J_HGrid_fixSquares_d106 : decode J_HGrid_fixSquares.2.1 106 = .ok (.goto 4, 3) := by decide +kernel
theorem J_HGrid_fixSquares_d109 : decode J_HGrid_fixSquares.2.1 109 = .ok (.iconst 0, 1) := by decide +kernel
theorem J_HGrid_fixSquares_d110 : decode J_HGrid_fixSquares.2.1 110 = .ok (.invokevirtual 83, 3) := by decide +kernel
theorem J_HGrid_fixSquares_d113 : decode J_HGrid_fixSquares.2.1 113 = .ok (.iinc 6 1, 3) := by decide +kernel
theorem J_HGrid_fixSquares_d116 : decode J_HGrid_fixSquares.2.1 116 = .ok (.goto (-102), 3) := by decide +kernel
theorem J_HGrid_fixSquares_d119 : decode J_HGrid_fixSquares.2.1 119 = .ok (.iinc 5 1, 3) := by decide +kernel
theorem J_HGrid_fixSquares_d122 : decode J_HGrid_fixSquares.2.1 122 = .ok (.goto (-118), 3) := by decide +kernel
theorem J_HGrid_fixSquares_d125 : decode J_HGrid_fixSquares.2.1 125 = .ok (.return_, 1) := by decide +kernel
theorem f_HGrid_fixSquares_ok {L : Nat} {xs : Nat → Int32} {dep : Nat} {w : Bool} {p0 : Int32} {p1 : Int32} {p2 : Int32} {p3 : Int32} {M : im_M} {Q : im_M → Prop} (hM : lw_S w M) (h : ed (f_HGrid_fixSquares p0 p1 p2 p3 M) Q) : ia (tb_G L xs) (dep + 1) J_HGrid_fixSquares (rwV w Q) (0, lv_args 0 [.ref 38, .int p0, .int p1, .int p2, .int p3], [], M) := by
  have hS : im_St (tb_G L xs) (dep + 1) J_HGrid_fixSquares (ia (tb_G L xs) (dep + 1) J_HGrid_fixSquares (rwV w Q)) := ia_St
  unfold f_HGrid_fixSquares at h
  have l0 : im_lk (lv_args 0 [.ref 38, .int p0, .int p1, .int p2, .int p3]) 0 = some (.ref 38) := rfl
  have l1 : im_lk (lv_args 0 [.ref 38, .int p0, .int p1, .int p2, .int p3]) 1 = some (.int p0) := rfl
  have l2 : im_lk (lv_args 0 [.ref 38, .int p0, .int p1, .int p2, .int p3]) 2 = some (.int p1) := rfl
  have l3 : im_lk (lv_args 0 [.ref 38, .int p0, .int p1, .int p2, .int p3]) 3 = some (.int p2) := rfl
  have l4 : im_lk (lv_args 0 [.ref 38, .int p0, .int p1, .int p2, .int p3]) 4 = some (.int p3) := rfl
  refine iq_iload_n hS 1 J_HGrid_fixSquares_d0 l3 rfl ?_
  refine iq_ineg hS 2 J_HGrid_fixSquares_d1 rfl ?_
  refine iq_istore hS 4 J_HGrid_fixSquares_d2 (by decide) rfl ?_
  obtain ⟨Q1, hQ1, h⟩ := bd1_ed h
  have K1 : ∀ (M2 : im_M) (L' : List (Nat × Value)), lw_S w M2 → Q1 M2 → ia (tb_G L xs) (dep + 1) J_HGrid_fixSquares (rwV w Q) (125, L', [], M2) := by
    intro M2 L' hM2  h
    replace h := hQ1 _ h
    exact iq_ret J_HGrid_fixSquares_d125 rfl ⟨rfl, hM2, ed_some h⟩
  obtain ⟨r1, hr1, hq1⟩ := h
  obtain ⟨n1, hn1⟩ := lp_n hr1
  have I1 : ∀ (n : Nat) (x3 : Int32) (M4 : im_M) (L' : List (Nat × Value)), lw_S w M4 → im_lk L' 0 = some (.ref 38) → im_lk L' 1 = some (.int p0) → im_lk L' 2 = some (.int p1) → im_lk L' 3 = some (.int p2) → im_lk L' 4 = some (.int p3) → im_lk L' 5 = some (.int x3) → lpn (uc2 (f_HGrid_fixSquares_L4 p0 p1 p2 p3)) n (x3, M4) = some r1 → ia (tb_G L xs) (dep + 1) J_HGrid_fixSquares (rwV w Q) (4, L', [], M4) := by
    intro n
    induction n with
    | zero => intro x3 M4 L' hM4 l5 l6 l7 l8 l9 l10 hn; exact (lpn_0 hn).elim
    | succ n ih =>
      intro x3 M4 L' hM4 l5 l6 l7 l8 l9 l10 hn
      have h := lpn_ed2 hn
      unfold f_HGrid_fixSquares_L4 at h
      refine iq_iload hS 6 J_HGrid_fixSquares_d4 l10 rfl ?_
      refine iq_iload_n hS 7 J_HGrid_fixSquares_d6 l8 rfl ?_
      refine iq_icmp_gt hS 10 J_HGrid_fixSquares_d7 (t := 125) rfl (fun q7 => ?_) rfl (fun q7 => ?_)
      · replace h := ed_pos q7 h
        exact K1 _ _ hM4  (lq_r h hq1)
      · replace h := ed_neg q7 h
        refine iq_iload_n hS 11 J_HGrid_fixSquares_d10 l8 rfl ?_
        refine iq_ineg hS 12 J_HGrid_fixSquares_d11 rfl ?_
        refine iq_istore hS 14 J_HGrid_fixSquares_d12 (by decide) rfl ?_
        obtain ⟨Q11, hQ11, h⟩ := bd1_ed h
        have K11 : ∀ (M12 : im_M) (L' : List (Nat × Value)), lw_S w M12 → im_lk L' 0 = some (.ref 38) → im_lk L' 1 = some (.int p0) → im_lk L' 2 = some (.int p1) → im_lk L' 3 = some (.int p2) → im_lk L' 4 = some (.int p3) → im_lk L' 5 = some (.int x3) → Q11 M12 → ia (tb_G L xs) (dep + 1) J_HGrid_fixSquares (rwV w Q) (119, L', [], M12) := by
          intro M12 L' hM12 l13 l14 l15 l16 l17 l18 h
          replace h := hQ11 _ h
          refine iq_iincv hS 122 J_HGrid_fixSquares_d119 (c := 1) (by decide +kernel) l18 (by decide) rfl ?_
          refine iq_goto hS J_HGrid_fixSquares_d122 (t := 4) rfl ?_
          exact ih _ _ _ hM12 (lk_1r l13 (by decide)) (lk_1i l14 (by decide)) (lk_1i l15 (by decide)) (lk_1i l16 (by decide)) (lk_1i l17 (by decide)) lk_1s (lq_l h)
        obtain ⟨r11, hr11, hq11⟩ := h
        obtain ⟨n11, hn11⟩ := lp_n hr11
        have I11 : ∀ (n : Nat) (x19 : Int32) (M20 : im_M) (L' : List (Nat × Value)), lw_S w M20 → im_lk L' 0 = some (.ref 38) → im_lk L' 1 = some (.int p0) → im_lk L' 2 = some (.int p1) → im_lk L' 3 = some (.int p2) → im_lk L' 4 = some (.int p3) → im_lk L' 5 = some (.int x3) → im_lk L' 6 = some (.int x19) → lpn (uc2 (f_HGrid_fixSquares_L14 p0 p1 p2 p3 x3)) n (x19, M20) = some r11 → ia (tb_G L xs) (dep + 1) J_HGrid_fixSquares (rwV w Q) (14, L', [], M20) := by
          intro n
          induction n with
          | zero => intro x19 M20 L' hM20 l21 l22 l23 l24 l25 l26 l27 hn; exact (lpn_0 hn).elim
          | succ n ih =>
            intro x19 M20 L' hM20 l21 l22 l23 l24 l25 l26 l27 hn
            have h := lpn_ed2 hn
            unfold f_HGrid_fixSquares_L14 at h
            refine iq_iload hS 16 J_HGrid_fixSquares_d14 l27 rfl ?_
            refine iq_iload_n hS 17 J_HGrid_fixSquares_d16 l24 rfl ?_
            refine iq_icmp_gt hS 20 J_HGrid_fixSquares_d17 (t := 119) rfl (fun q17 => ?_) rfl (fun q17 => ?_)
            · replace h := ed_pos q17 h
              exact K11 _ _ hM20 l21 l22 l23 l24 l25 l26 (lq_r h hq11)
            · replace h := ed_neg q17 h
              refine iq_iload hS 22 J_HGrid_fixSquares_d20 l27 rfl ?_
              obtain ⟨Q28, hQ28, h⟩ := bd1_ed h
              refine iq_cpI hS 25 J_HGrid_fixSquares_d22 rfl (pr_stat (vs := [_]) lc_4_97 lT_158 rfl rfl (by decide) rfl (Nat.le_of_ble_eq_true rfl) (Nat.le_of_ble_eq_true rfl)) (f_Math_abs_ok (dep := dep + 0) hM20 h) rfl ?_
              intro x28 h
              replace h := hQ28 _ h
              refine iq_iload hS 27 J_HGrid_fixSquares_d25 l26 rfl ?_
              obtain ⟨Q29, hQ29, h⟩ := bd1_ed h
              refine iq_cpI hS 30 J_HGrid_fixSquares_d27 rfl (pr_stat (vs := [_]) lc_4_97 lT_158 rfl rfl (by decide) rfl (Nat.le_of_ble_eq_true rfl) (Nat.le_of_ble_eq_true rfl)) (f_Math_abs_ok (dep := dep + 0) hM20 h) rfl ?_
              intro x29 h
              replace h := hQ29 _ h
              obtain ⟨Q30, hQ30, h⟩ := bd1_ed h
              refine iq_cpI hS 33 J_HGrid_fixSquares_d30 rfl (pr_stat (vs := [_, _]) lc_4_102 lT_27 rfl rfl (by decide) rfl (Nat.le_of_ble_eq_true rfl) (Nat.le_of_ble_eq_true rfl)) (f_Math_max_ok (dep := dep + 0) hM20 h) rfl ?_
              intro x30 h
              replace h := hQ30 _ h
              refine iq_istore hS 35 J_HGrid_fixSquares_d33 (by decide) rfl ?_
              refine iq_iload_n hS 36 J_HGrid_fixSquares_d35 (lk_1i l22 (by decide)) rfl ?_
              refine iq_iload hS 38 J_HGrid_fixSquares_d36 (lk_1i l27 (by decide)) rfl ?_
              refine iq_iadd hS 39 J_HGrid_fixSquares_d38 rfl ?_
              have J31 : ∀ (z32 : Int32) (L' : List (Nat × Value)), z32 = ((if (p0 + x19) < 0 then 0 else (if (im_i M20 38 1) ≤ (p0 + x19) then 0 else (if (p1 + x3) < 0 then 0 else (if (im_i M20 38 1) ≤ (p1 + x3) then 0 else 1)))) : Int32) → im_lk L' 0 = some (.ref 38) → im_lk L' 1 = some (.int p0) → im_lk L' 2 = some (.int p1) → im_lk L' 3 = some (.int p2) → im_lk L' 4 = some (.int p3) → im_lk L' 5 = some (.int x3) → im_lk L' 6 = some (.int x19) → im_lk L' 7 = some (.int x30) → ia (tb_G L xs) (dep + 1) J_HGrid_fixSquares (rwV w Q) (76, L', [.int z32], M20) := by
                intro z32 L' e33 l34 l35 l36 l37 l38 l39 l40 l41
                subst e33
                refine iq_istore hS 78 J_HGrid_fixSquares_d76 (by decide) rfl ?_
                refine iq_iload hS 80 J_HGrid_fixSquares_d78 lk_1s rfl ?_
                obtain ⟨Q42, hQ42, h⟩ := bd1_ed h
                have J42 : ∀ (M54 : im_M) (L' : List (Nat × Value)), lw_S w M54 → im_lk L' 0 = some (.ref 38) → im_lk L' 1 = some (.int p0) → im_lk L' 2 = some (.int p1) → im_lk L' 3 = some (.int p2) → im_lk L' 4 = some (.int p3) → im_lk L' 5 = some (.int x3) → im_lk L' 6 = some (.int x19) → Q42 M54 → ia (tb_G L xs) (dep + 1) J_HGrid_fixSquares (rwV w Q) (113, L', [], M54) := by
                  intro M54 L' hM54 l55 l56 l57 l58 l59 l60 l61 h
                  replace h := hQ42 _ h
                  refine iq_iincv hS 116 J_HGrid_fixSquares_d113 (c := 1) (by decide +kernel) l61 (by decide) rfl ?_
                  refine iq_goto hS J_HGrid_fixSquares_d116 (t := 14) rfl ?_
                  exact ih _ _ _ hM54 (lk_1r l55 (by decide)) (lk_1i l56 (by decide)) (lk_1i l57 (by decide)) (lk_1i l58 (by decide)) (lk_1i l59 (by decide)) (lk_1i l60 (by decide)) lk_1s (lq_l h)
                refine iq_if_eq hS 83 J_HGrid_fixSquares_d80 (t := 113) rfl (fun q80 => ?_) rfl (fun q80 => ?_)
                · replace h := ed_pos q80 h
                  exact J42 _ _ hM20 (lk_1r l34 (by decide)) (lk_1i l35 (by decide)) (lk_1i l36 (by decide)) (lk_1i l37 (by decide)) (lk_1i l38 (by decide)) (lk_1i l39 (by decide)) (lk_1i l40 (by decide)) (ed_some h)
                · replace h := ed_neg q80 h
                  refine iq_aload_n hS 84 J_HGrid_fixSquares_d83 (lk_1r l34 (by decide)) rfl ?_
                  refine iq_iload_n hS 85 J_HGrid_fixSquares_d84 (lk_1i l35 (by decide)) rfl ?_
                  refine iq_iload hS 87 J_HGrid_fixSquares_d85 (lk_1i l40 (by decide)) rfl ?_
                  refine iq_iadd hS 88 J_HGrid_fixSquares_d87 rfl ?_
                  refine iq_iload_n hS 89 J_HGrid_fixSquares_d88 (lk_1i l36 (by decide)) rfl ?_
                  refine iq_iload hS 91 J_HGrid_fixSquares_d89 (lk_1i l39 (by decide)) rfl ?_
                  refine iq_iadd hS 92 J_HGrid_fixSquares_d91 rfl ?_
                  refine iq_iload hS 94 J_HGrid_fixSquares_d92 (lk_1i l41 (by decide)) rfl ?_
                  refine iq_iload hS 96 J_HGrid_fixSquares_d94 (lk_1i l38 (by decide)) rfl ?_
                  have J43 : ∀ (z44 : Int32) (L' : List (Nat × Value)), z44 = ((if x30 = p3 then 0 else (if x30 = 4 then 0 else 1)) : Int32) → im_lk L' 0 = some (.ref 38) → im_lk L' 1 = some (.int p0) → im_lk L' 2 = some (.int p1) → im_lk L' 3 = some (.int p2) → im_lk L' 4 = some (.int p3) → im_lk L' 5 = some (.int x3) → im_lk L' 6 = some (.int x19) → ia (tb_G L xs) (dep + 1) J_HGrid_fixSquares (rwV w Q) (110, L', [.int z44, .int (p1 + x3), .int (p0 + x19), .ref 38], M20) := by
                    intro z44 L' e45 l46 l47 l48 l49 l50 l51 l52
                    subst e45
                    obtain ⟨Q53, hQ53, h⟩ := bd1_ed h
                    refine iq_cwV hS 113 J_HGrid_fixSquares_d110 rfl (pr_inst (vs := [_, _, _]) lc_4_83 lT_156 rfl rfl (by decide) (by decide) rfl (Nat.le_of_ble_eq_true rfl) (Nat.le_of_ble_eq_true rfl) (fun _ => Or.inl (pr_b (ka_38 hM20) (by decide) rfl))) (f_HGrid_fix_ok (dep := dep + 0) hM20 h) rfl ?_
                    intro M53 hM53 h
                    replace h := hQ53 _ h
                    exact J42 _ _ hM53 l46 l47 l48 l49 l50 l51 l52 (ed_some h)
                  refine iq_icmp_eq hS 99 J_HGrid_fixSquares_d96 (t := 109) rfl (fun q96 => ?_) rfl (fun q96 => ?_)
                  · refine iq_iconst hS 110 J_HGrid_fixSquares_d109 (v := 0) (by decide +kernel) rfl ?_
                    exact J43 _ _ (by rw [if_pos q96]) (lk_1r l34 (by decide)) (lk_1i l35 (by decide)) (lk_1i l36 (by decide)) (lk_1i l37 (by decide)) (lk_1i l38 (by decide)) (lk_1i l39 (by decide)) (lk_1i l40 (by decide))
                  · refine iq_iload hS 101 J_HGrid_fixSquares_d99 (lk_1i l41 (by decide)) rfl ?_
                    refine iq_iconst hS 102 J_HGrid_fixSquares_d101 (v := 4) (by decide +kernel) rfl ?_
                    refine iq_icmp_eq hS 105 J_HGrid_fixSquares_d102 (t := 109) rfl (fun q102 => ?_) rfl (fun q102 => ?_)
                    · refine iq_iconst hS 110 J_HGrid_fixSquares_d109 (v := 0) (by decide +kernel) rfl ?_
                      exact J43 _ _ (by rw [if_neg q96, if_pos q102]) (lk_1r l34 (by decide)) (lk_1i l35 (by decide)) (lk_1i l36 (by decide)) (lk_1i l37 (by decide)) (lk_1i l38 (by decide)) (lk_1i l39 (by decide)) (lk_1i l40 (by decide))
                    · refine iq_iconst hS 106 J_HGrid_fixSquares_d105 (v := 1) (by decide +kernel) rfl ?_
                      refine iq_goto hS J_HGrid_fixSquares_d106 (t := 110) rfl ?_
                      exact J43 _ _ (by rw [if_neg q96, if_neg q102]) (lk_1r l34 (by decide)) (lk_1i l35 (by decide)) (lk_1i l36 (by decide)) (lk_1i l37 (by decide)) (lk_1i l38 (by decide)) (lk_1i l39 (by decide)) (lk_1i l40 (by decide))
              refine iq_if_lt hS 42 J_HGrid_fixSquares_d39 (t := 75) rfl (fun q39 => ?_) rfl (fun q39 => ?_)
              · refine iq_iconst hS 76 J_HGrid_fixSquares_d75 (v := 0) (by decide +kernel) rfl ?_
                exact J31 _ _ (by rw [if_pos q39]) (lk_1r l21 (by decide)) (lk_1i l22 (by decide)) (lk_1i l23 (by decide)) (lk_1i l24 (by decide)) (lk_1i l25 (by decide)) (lk_1i l26 (by decide)) (lk_1i l27 (by decide)) lk_1s
              · refine iq_iload_n hS 43 J_HGrid_fixSquares_d42 (lk_1i l22 (by decide)) rfl ?_
                refine iq_iload hS 45 J_HGrid_fixSquares_d43 (lk_1i l27 (by decide)) rfl ?_
                refine iq_iadd hS 46 J_HGrid_fixSquares_d45 rfl ?_
                refine iq_aload_n hS 47 J_HGrid_fixSquares_d46 (lk_1r l21 (by decide)) rfl ?_
                refine iq_getI hS 50 J_HGrid_fixSquares_d47 lf_4_74 (Or.inl rfl) (ka_38 hM20) rfl ?_
                refine iq_icmp_ge hS 53 J_HGrid_fixSquares_d50 (t := 75) rfl (fun q50 => ?_) rfl (fun q50 => ?_)
                · refine iq_iconst hS 76 J_HGrid_fixSquares_d75 (v := 0) (by decide +kernel) rfl ?_
                  exact J31 _ _ (by rw [if_neg q39, if_pos q50]) (lk_1r l21 (by decide)) (lk_1i l22 (by decide)) (lk_1i l23 (by decide)) (lk_1i l24 (by decide)) (lk_1i l25 (by decide)) (lk_1i l26 (by decide)) (lk_1i l27 (by decide)) lk_1s
                · refine iq_iload_n hS 54 J_HGrid_fixSquares_d53 (lk_1i l23 (by decide)) rfl ?_
                  refine iq_iload hS 56 J_HGrid_fixSquares_d54 (lk_1i l26 (by decide)) rfl ?_
                  refine iq_iadd hS 57 J_HGrid_fixSquares_d56 rfl ?_
                  refine iq_if_lt hS 60 J_HGrid_fixSquares_d57 (t := 75) rfl (fun q57 => ?_) rfl (fun q57 => ?_)
                  · refine iq_iconst hS 76 J_HGrid_fixSquares_d75 (v := 0) (by decide +kernel) rfl ?_
                    exact J31 _ _ (by rw [if_neg q39, if_neg q50, if_pos q57]) (lk_1r l21 (by decide)) (lk_1i l22 (by decide)) (lk_1i l23 (by decide)) (lk_1i l24 (by decide)) (lk_1i l25 (by decide)) (lk_1i l26 (by decide)) (lk_1i l27 (by decide)) lk_1s
                  · refine iq_iload_n hS 61 J_HGrid_fixSquares_d60 (lk_1i l23 (by decide)) rfl ?_
                    refine iq_iload hS 63 J_HGrid_fixSquares_d61 (lk_1i l26 (by decide)) rfl ?_
                    refine iq_iadd hS 64 J_HGrid_fixSquares_d63 rfl ?_
                    refine iq_aload_n hS 65 J_HGrid_fixSquares_d64 (lk_1r l21 (by decide)) rfl ?_
                    refine iq_getI hS 68 J_HGrid_fixSquares_d65 lf_4_74 (Or.inl rfl) (ka_38 hM20) rfl ?_
                    refine iq_icmp_ge hS 71 J_HGrid_fixSquares_d68 (t := 75) rfl (fun q68 => ?_) rfl (fun q68 => ?_)
                    · refine iq_iconst hS 76 J_HGrid_fixSquares_d75 (v := 0) (by decide +kernel) rfl ?_
                      exact J31 _ _ (by rw [if_neg q39, if_neg q50, if_neg q57, if_pos q68]) (lk_1r l21 (by decide)) (lk_1i l22 (by decide)) (lk_1i l23 (by decide)) (lk_1i l24 (by decide)) (lk_1i l25 (by decide)) (lk_1i l26 (by decide)) (lk_1i l27 (by decide)) lk_1s
                    · refine iq_iconst hS 72 J_HGrid_fixSquares_d71 (v := 1) (by decide +kernel) rfl ?_
                      refine iq_goto hS J_HGrid_fixSquares_d72 (t := 76) rfl ?_
                      exact J31 _ _ (by rw [if_neg q39, if_neg q50, if_neg q57, if_neg q68]) (lk_1r l21 (by decide)) (lk_1i l22 (by decide)) (lk_1i l23 (by decide)) (lk_1i l24 (by decide)) (lk_1i l25 (by decide)) (lk_1i l26 (by decide)) (lk_1i l27 (by decide)) lk_1s
        exact I11 n11 _ _ _ hM4 (lk_1r l5 (by decide)) (lk_1i l6 (by decide)) (lk_1i l7 (by decide)) (lk_1i l8 (by decide)) (lk_1i l9 (by decide)) (lk_1i l10 (by decide)) lk_1s hn11
  exact I1 n1 _ _ _ hM (lk_1r l0 (by decide)) (lk_1i l1 (by decide)) (lk_1i l2 (by decide)) (lk_1i l3 (by decide)) (lk_1i l4 (by decide)) lk_1s hn1
noncomputable def f_HGrid_smallPlace (p0 : Int32) (p1 : Int32) (M : im_M) : Option (Int32) := bd1 (if ¬ (im_i M 38 6) = 32 then gd (¬ (((2 : Int32) * p1) - 2) = (0 : Int32)) <| some ((2 : Int32) * (((((4 : Int32) * (im_i M 38 6)) + ((2 : Int32) * p1)) + 1) / (((2 : Int32) * p1) - 2))) else some 26) fun (y2 : Int32) => if ¬ p0 = 0 then some (((im_i M 38 1) - 7) - (((p1 - 1) - p0) * y2)) else some 6
theorem J_HGrid_smallPlace_d0 : decode J_HGrid_smallPlace.2.1 0 = .ok (.aload_n 0, 1) := by decide +kernel
theorem J_HGrid_smallPlace_d1 : decode J_HGrid_smallPlace.2.1 1 = .ok (.getfield 71, 3) := by decide +kernel
theorem J_HGrid_smallPlace_d4 : decode J_HGrid_smallPlace.2.1 4 = .ok (.bipush 32, 2) := by decide +kernel
theorem J_HGrid_smallPlace_d6 : decode J_HGrid_smallPlace.2.1 6 = .ok (.if_icmp .ne 8, 3) := by decide +kernel
theorem J_HGrid_smallPlace_d9 : decode J_HGrid_smallPlace.2.1 9 = .ok (.bipush 26, 2) := by decide +kernel
theorem J_HGrid_smallPlace_d11 : decode J_HGrid_smallPlace.2.1 11 = .ok (.goto 23, 3) := by decide +kernel
theorem J_HGrid_smallPlace_d14 : decode J_HGrid_smallPlace.2.1 14 = .ok (.iconst 2, 1) := by decide +kernel
theorem J_HGrid_smallPlace_d15 : decode J_HGrid_smallPlace.2.1 15 = .ok (.iconst 4, 1) := by decide +kernel
theorem J_HGrid_smallPlace_d16 : decode J_HGrid_smallPlace.2.1 16 = .ok (.aload_n 0, 1) := by decide +kernel
theorem J_HGrid_smallPlace_d17 : decode J_HGrid_smallPlace.2.1 17 = .ok (.getfield 71, 3) := by decide +kernel
theorem J_HGrid_smallPlace_d20 : decode J_HGrid_smallPlace.2.1 20 = .ok (.imul, 1) := by decide +kernel
theorem J_HGrid_smallPlace_d21 : decode J_HGrid_smallPlace.2.1 21 = .ok (.iconst 2, 1) := by decide +kernel
theorem J_HGrid_smallPlace_d22 : decode J_HGrid_smallPlace.2.1 22 = .ok (.iload_n 2, 1) := by decide +kernel
theorem J_HGrid_smallPlace_d23 : decode J_HGrid_smallPlace.2.1 23 = .ok (.imul, 1) := by decide +kernel
theorem J_HGrid_smallPlace_d24 : decode J_HGrid_smallPlace.2.1 24 = .ok (.iadd, 1) := by decide +kernel
theorem J_HGrid_smallPlace_d25 : decode J_HGrid_smallPlace.2.1 25 = .ok (.iconst 1, 1) := by decide +kernel
theorem J_HGrid_smallPlace_d26 : decode J_HGrid_smallPlace.2.1 26 = .ok (.iadd, 1) := by decide +kernel
theorem J_HGrid_smallPlace_d27 : decode J_HGrid_smallPlace.2.1 27 = .ok (.iconst 2, 1) := by decide +kernel
theorem J_HGrid_smallPlace_d28 : decode J_HGrid_smallPlace.2.1 28 = .ok (.iload_n 2, 1) := by decide +kernel
theorem J_HGrid_smallPlace_d29 : decode J_HGrid_smallPlace.2.1 29 = .ok (.imul, 1) := by decide +kernel
theorem J_HGrid_smallPlace_d30 : decode J_HGrid_smallPlace.2.1 30 = .ok (.iconst 2, 1) := by decide +kernel
theorem J_HGrid_smallPlace_d31 : decode J_HGrid_smallPlace.2.1 31 = .ok (.isub, 1) := by decide +kernel
theorem J_HGrid_smallPlace_d32 : decode J_HGrid_smallPlace.2.1 32 = .ok (.idiv, 1) := by decide +kernel
theorem J_HGrid_smallPlace_d33 : decode J_HGrid_smallPlace.2.1 33 = .ok (.imul, 1) := by decide +kernel
theorem J_HGrid_smallPlace_d34 : decode J_HGrid_smallPlace.2.1 34 = .ok (.istore_n 3, 1) := by decide +kernel
theorem J_HGrid_smallPlace_d35 : decode J_HGrid_smallPlace.2.1 35 = .ok (.iload_n 1, 1) := by decide +kernel
theorem J_HGrid_smallPlace_d36 : decode J_HGrid_smallPlace.2.1 36 = .ok (.ifCond .ne 8, 3) := by decide +kernel
theorem J_HGrid_smallPlace_d39 : decode J_HGrid_smallPlace.2.1 39 = .ok (.bipush 6, 2) := by decide +kernel
theorem J_HGrid_smallPlace_d41 : decode J_HGrid_smallPlace.2.1 41 = .ok (.goto 18, 3) := by decide +kernel
theorem J_HGrid_smallPlace_d44 : decode J_HGrid_smallPlace.2.1 44 = .ok (.aload_n 0, 1) := by decide +kernel
theorem J_HGrid_smallPlace_d45 : decode J_HGrid_smallPlace.2.1 45 = .ok (.getfield 74, 3) := by decide +kernel
theorem J_HGrid_smallPlace_d48 : decode J_HGrid_smallPlace.2.1 48 = .ok (.bipush 7, 2) := by decide +kernel
theorem J_HGrid_smallPlace_d50 : decode J_HGrid_smallPlace.2.1 50 = .ok (.isub, 1) := by decide +kernel
theorem J_HGrid_smallPlace_d51 : decode J_HGrid_smallPlace.2.1 51 = .ok (.iload_n 2, 1) := by decide +kernel
theorem J_HGrid_smallPlace_d52 : decode J_HGrid_smallPlace.2.1 52 = .ok (.iconst 1, 1) := by decide +kernel
theorem J_HGrid_smallPlace_d53 : decode J_HGrid_smallPlace.2.1 53 = .ok (.isub, 1) := by decide +kernel
theorem J_HGrid_smallPlace_d54 : decode J_HGrid_smallPlace.2.1 54 = .ok (.iload_n 1, 1) := by decide +kernel
theorem J_HGrid_smallPlace_d55 : decode J_HGrid_smallPlace.2.1 55 = .ok (.isub, 1) := by decide +kernel
theorem J_HGrid_smallPlace_d56 : decode J_HGrid_smallPlace.2.1 56 = .ok (.iload_n 3, 1) := by decide +kernel
theorem J_HGrid_smallPlace_d57 : decode J_HGrid_smallPlace.2.1 57 = .ok (.imul, 1) := by decide +kernel
theorem J_HGrid_smallPlace_d58 : decode J_HGrid_smallPlace.2.1 58 = .ok (.isub, 1) := by decide +kernel
theorem J_HGrid_smallPlace_d59 : decode J_HGrid_smallPlace.2.1 59 = .ok (.ireturn, 1) := by decide +kernel
theorem f_HGrid_smallPlace_ok {L : Nat} {xs : Nat → Int32} {dep : Nat} {w : Bool} {p0 : Int32} {p1 : Int32} {M : im_M} {Q : Int32 → Prop} (hM : lw_S w M) (h : ed (f_HGrid_smallPlace p0 p1 M) Q) : ia (tb_G L xs) dep J_HGrid_smallPlace (rpI M Q) (0, lv_args 0 [.ref 38, .int p0, .int p1], [], M) := by
  have hS : im_St (tb_G L xs) dep J_HGrid_smallPlace (ia (tb_G L xs) dep J_HGrid_smallPlace (rpI M Q)) := ia_St
  unfold f_HGrid_smallPlace at h
  have l0 : im_lk (lv_args 0 [.ref 38, .int p0, .int p1]) 0 = some (.ref 38) := rfl
  have l1 : im_lk (lv_args 0 [.ref 38, .int p0, .int p1]) 1 = some (.int p0) := rfl
  have l2 : im_lk (lv_args 0 [.ref 38, .int p0, .int p1]) 2 = some (.int p1) := rfl
  refine iq_aload_n hS 1 J_HGrid_smallPlace_d0 l0 rfl ?_
  refine iq_getI hS 4 J_HGrid_smallPlace_d1 lf_4_71 (Or.inl rfl) (ka_38 hM) rfl ?_
  refine iq_bipush hS 6 J_HGrid_smallPlace_d4 (v := 32) (by decide +kernel) rfl ?_
  obtain ⟨Q1, hQ1, h⟩ := bd1_ed h
  have J1 : ∀ (y2 : Int32) (L' : List (Nat × Value)), im_lk L' 0 = some (.ref 38) → im_lk L' 1 = some (.int p0) → im_lk L' 2 = some (.int p1) → Q1 y2 → ia (tb_G L xs) dep J_HGrid_smallPlace (rpI M Q) (34, L', [.int y2], M) := by
    intro y2 L' l3 l4 l5 h
    replace h := hQ1 _ h
    refine iq_istore_n hS 35 J_HGrid_smallPlace_d34 (by decide) rfl ?_
    refine iq_iload_n hS 36 J_HGrid_smallPlace_d35 (lk_1i l4 (by decide)) rfl ?_
    refine iq_if_ne hS 39 J_HGrid_smallPlace_d36 (t := 44) rfl (fun q36 => ?_) rfl (fun q36 => ?_)
    · replace h := ed_pos q36 h
      refine iq_aload_n hS 45 J_HGrid_smallPlace_d44 (lk_1r l3 (by decide)) rfl ?_
      refine iq_getI hS 48 J_HGrid_smallPlace_d45 lf_4_74 (Or.inl rfl) (ka_38 hM) rfl ?_
      refine iq_bipush hS 50 J_HGrid_smallPlace_d48 (v := 7) (by decide +kernel) rfl ?_
      refine iq_isub hS 51 J_HGrid_smallPlace_d50 rfl ?_
      refine iq_iload_n hS 52 J_HGrid_smallPlace_d51 (lk_1i l5 (by decide)) rfl ?_
      refine iq_iconst hS 53 J_HGrid_smallPlace_d52 (v := 1) (by decide +kernel) rfl ?_
      refine iq_isub hS 54 J_HGrid_smallPlace_d53 rfl ?_
      refine iq_iload_n hS 55 J_HGrid_smallPlace_d54 (lk_1i l4 (by decide)) rfl ?_
      refine iq_isub hS 56 J_HGrid_smallPlace_d55 rfl ?_
      refine iq_iload_n hS 57 J_HGrid_smallPlace_d56 lk_1s rfl ?_
      refine iq_imul hS 58 J_HGrid_smallPlace_d57 rfl ?_
      refine iq_isub hS 59 J_HGrid_smallPlace_d58 rfl ?_
      exact iq_iret J_HGrid_smallPlace_d59 rfl rfl ⟨_, rfl, rfl, ed_some h⟩
    · replace h := ed_neg q36 h
      refine iq_bipush hS 41 J_HGrid_smallPlace_d39 (v := 6) (by decide +kernel) rfl ?_
      refine iq_goto hS J_HGrid_smallPlace_d41 (t := 59) rfl ?_
      exact iq_iret J_HGrid_smallPlace_d59 rfl rfl ⟨_, rfl, rfl, ed_some h⟩
  refine iq_icmp_ne hS 9 J_HGrid_smallPlace_d6 (t := 14) rfl (fun q6 => ?_) rfl (fun q6 => ?_)
  · replace h := ed_pos q6 h
    refine iq_iconst hS 15 J_HGrid_smallPlace_d14 (v := 2) (by decide +kernel) rfl ?_
    refine iq_iconst hS 16 J_HGrid_smallPlace_d15 (v := 4) (by decide +kernel) rfl ?_
    refine iq_aload_n hS 17 J_HGrid_smallPlace_d16 l0 rfl ?_
    refine iq_getI hS 20 J_HGrid_smallPlace_d17 lf_4_71 (Or.inl rfl) (ka_38 hM) rfl ?_
    refine iq_imul hS 21 J_HGrid_smallPlace_d20 rfl ?_
    refine iq_iconst hS 22 J_HGrid_smallPlace_d21 (v := 2) (by decide +kernel) rfl ?_
    refine iq_iload_n hS 23 J_HGrid_smallPlace_d22 l2 rfl ?_
    refine iq_imul hS 24 J_HGrid_smallPlace_d23 rfl ?_
    refine iq_iadd hS 25 J_HGrid_smallPlace_d24 rfl ?_
    refine iq_iconst hS 26 J_HGrid_smallPlace_d25 (v := 1) (by decide +kernel) rfl ?_
    refine iq_iadd hS 27 J_HGrid_smallPlace_d26 rfl ?_
    refine iq_iconst hS 28 J_HGrid_smallPlace_d27 (v := 2) (by decide +kernel) rfl ?_
    refine iq_iload_n hS 29 J_HGrid_smallPlace_d28 l2 rfl ?_
    refine iq_imul hS 30 J_HGrid_smallPlace_d29 rfl ?_
    refine iq_iconst hS 31 J_HGrid_smallPlace_d30 (v := 2) (by decide +kernel) rfl ?_
    refine iq_isub hS 32 J_HGrid_smallPlace_d31 rfl ?_
    obtain ⟨g32, h⟩ := ed_gd h
    refine iq_idiv hS 33 J_HGrid_smallPlace_d32 g32 rfl ?_
    refine iq_imul hS 34 J_HGrid_smallPlace_d33 rfl ?_
    exact J1 _ _ l0 l1 l2 (ed_some h)
  · replace h := ed_neg q6 h
    refine iq_bipush hS 11 J_HGrid_smallPlace_d9 (v := 26) (by decide +kernel) rfl ?_
    refine iq_goto hS J_HGrid_smallPlace_d11 (t := 34) rfl ?_
    exact J1 _ _ l0 l1 l2 (ed_some h)
noncomputable def f_HGrid_fixSmallSquares_L24 (v7 : Int32) (v8 : Int32) (v9 : Int32) (x10 : Int32) (M11 : im_M) : Option ((Int32 × im_M) ⊕ (im_M)) := if v7 ≤ x10 then some (.inr M11) else bd1 (if ¬ ((if ¬ v9 = 0 then (if ¬ v9 = v8 then 0 else (if ¬ x10 = 0 then 0 else 1)) else (if x10 = 0 then 1 else (if x10 = v8 then 1 else (if ¬ v9 = v8 then 0 else (if ¬ x10 = 0 then 0 else 1))))) : Int32) = 0 then some M11 else bd1 (f_HGrid_smallPlace v9 v7 M11) fun (x14 : Int32) => bd1 (f_HGrid_smallPlace x10 v7 M11) fun (x15 : Int32) => bd1 (f_HGrid_fixSquares x14 x15 2 1 M11) fun (M16 : im_M) => some M16) fun (M17 : im_M) => some (.inl ((x10 + 1), M17))
noncomputable def f_HGrid_fixSmallSquares_L16 (v2 : Int32) (v3 : Int32) (x4 : Int32) (M5 : im_M) : Option ((Int32 × im_M) ⊕ (im_M)) := if v2 ≤ x4 then some (.inr M5) else bd1 (lp (uc2 (f_HGrid_fixSmallSquares_L24 v2 v3 x4)) (0, M5)) fun (M23 : im_M) => some (.inl ((x4 + 1), M23))
noncomputable def f_HGrid_fixSmallSquares (M : im_M) : Option (im_M) := bd1 (lp (uc2 (f_HGrid_fixSmallSquares_L16 (((im_i M 38 6) / 7) + 2) ((((im_i M 38 6) / 7) + 2) - 1))) (0, M)) fun (M24 : im_M) => some M24
theorem J_HGrid_fixSmallSquares_d0 : decode J_HGrid_fixSmallSquares.2.1 0 = .ok (.aload_n 0, 1) := by decide +kernel
theorem J_HGrid_fixSmallSquares_d1 : decode J_HGrid_fixSmallSquares.2.1 1 = .ok (.getfield 71, 3) := by decide +kernel
theorem J_HGrid_fixSmallSquares_d4 : decode J_HGrid_fixSmallSquares.2.1 4 = .ok (.bipush 7, 2) := by decide +kernel
theorem J_HGrid_fixSmallSquares_d6 : decode J_HGrid_fixSmallSquares.2.1 6 = .ok (.idiv, 1) := by decide +kernel
theorem J_HGrid_fixSmallSquares_d7 : decode J_HGrid_fixSmallSquares.2.1 7 = .ok (.iconst 2, 1) := by decide +kernel
theorem J_HGrid_fixSmallSquares_d8 : decode J_HGrid_fixSmallSquares.2.1 8 = .ok (.iadd, 1) := by decide +kernel
theorem J_HGrid_fixSmallSquares_d9 : decode J_HGrid_fixSmallSquares.2.1 9 = .ok (.istore_n 1, 1) := by decide +kernel
theorem J_HGrid_fixSmallSquares_d10 : decode J_HGrid_fixSmallSquares.2.1 10 = .ok (.iload_n 1, 1) := by decide +kernel
theorem J_HGrid_fixSmallSquares_d11 : decode J_HGrid_fixSmallSquares.2.1 11 = .ok (.iconst 1, 1) := by decide +kernel
theorem J_HGrid_fixSmallSquares_d12 : decode J_HGrid_fixSmallSquares.2.1 12 = .ok (.isub, 1) := by decide +kernel
theorem J_HGrid_fixSmallSquares_d13 : decode J_HGrid_fixSmallSquares.2.1 13 = .ok (.istore_n 2, 1) := by decide +kernel
theorem J_HGrid_fixSmallSquares_d14 : decode J_HGrid_fixSmallSquares.2.1 14 = .ok (.iconst 0, 1) := by decide +kernel
theorem J_HGrid_fixSmallSquares_d15 : decode J_HGrid_fixSmallSquares.2.1 15 = .ok (.istore_n 3, 1) := by decide +kernel
theorem J_HGrid_fixSmallSquares_d16 : decode J_HGrid_fixSmallSquares.2.1 16 = .ok (.iload_n 3, 1) := by decide +kernel
theorem J_HGrid_fixSmallSquares_d17 : decode J_HGrid_fixSmallSquares.2.1 17 = .ok (.iload_n 1, 1) := by decide +kernel
theorem J_HGrid_fixSmallSquares_d18 : decode J_HGrid_fixSmallSquares.2.1 18 = .ok (.if_icmp .ge 80, 3) := by decide +kernel
theorem J_HGrid_fixSmallSquares_d21 : decode J_HGrid_fixSmallSquares.2.1 21 = .ok (.iconst 0, 1) := by decide +kernel
theorem J_HGrid_fixSmallSquares_d22 : decode J_HGrid_fixSmallSquares.2.1 22 = .ok (.istore 4, 2) := by decide +kernel
theorem J_HGrid_fixSmallSquares_d24 : decode J_HGrid_fixSmallSquares.2.1 24 = .ok (.iload 4, 2) := by decide +kernel
theorem J_HGrid_fixSmallSquares_d26 : decode J_HGrid_fixSmallSquares.2.1 26 = .ok (.iload_n 1, 1) := by decide +kernel
theorem J_HGrid_fixSmallSquares_d27 : decode J_HGrid_fixSmallSquares.2.1 27 = .ok (.if_icmp .ge 65, 3) := by decide +kernel
theorem J_HGrid_fixSmallSquares_d30 : decode J_HGrid_fixSmallSquares.2.1 30 = .ok (.iload_n 3, 1) := by decide +kernel
theorem J_HGrid_fixSmallSquares_d31 : decode J_HGrid_fixSmallSquares.2.1 31 = .ok (.ifCond .ne 14, 3) := by decide +kernel
theorem J_HGrid_fixSmallSquares_d34 : decode J_HGrid_fixSmallSquares.2.1 34 = .ok (.iload 4, 2) := by decide +kernel
theorem J_HGrid_fixSmallSquares_d36 : decode J_HGrid_fixSmallSquares.2.1 36 = .ok (.ifCond .eq 19, 3) := by decide +kernel
theorem J_HGrid_fixSmallSquares_d39 : decode J_HGrid_fixSmallSquares.2.1 39 = .ok (.iload 4, 2) := by decide +kernel
theorem J_HGrid_fixSmallSquares_d41 : decode J_HGrid_fixSmallSquares.2.1 41 = .ok (.iload_n 2, 1) := by decide +kernel
theorem J_HGrid_fixSmallSquares_d42 : decode J_HGrid_fixSmallSquares.2.1 42 = .ok (.if_icmp .eq 13, 3) := by decide +kernel
theorem J_HGrid_fixSmallSquares_d45 : decode J_HGrid_fixSmallSquares.2.1 45 = .ok (.iload_n 3, 1) := by decide +kernel
theorem J_HGrid_fixSmallSquares_d46 : decode J_HGrid_fixSmallSquares.2.1 46 = .ok (.iload_n 2, 1) := by decide +kernel
theorem J_HGrid_fixSmallSquares_d47 : decode J_HGrid_fixSmallSquares.2.1 47 = .ok (.if_icmp .ne 12, 3) := by decide +kernel
theorem J_HGrid_fixSmallSquares_d50 : decode J_HGrid_fixSmallSquares.2.1 50 = .ok (.iload 4, 2) := by decide +kernel
theorem J_HGrid_fixSmallSquares_d52 : decode J_HGrid_fixSmallSquares.2.1 52 = .ok (.ifCond .ne 7, 3) := by decide +kernel
theorem J_HGrid_fixSmallSquares_d55 : decode J_HGrid_fixSmallSquares.2.1 55 = .ok (.iconst 1, 1) := by decide +kernel
theorem J_HGrid_fixSmallSquares_d56 : decode J_HGrid_fixSmallSquares.2.1 56 = .ok (.goto 4, 3) := by decide +kernel
theorem J_HGrid_fixSmallSquares_d59 : decode J_HGrid_fixSmallSquares.2.1 59 = .ok (.iconst 0, 1) := by decide +kernel
theorem J_HGrid_fixSmallSquares_d60 : decode J_HGrid_fixSmallSquares.2.1 60 = .ok (.istore 5, 2) := by decide +kernel
theorem J_HGrid_fixSmallSquares_d62 : decode J_HGrid_fixSmallSquares.2.1 62 = .ok (.iload 5, 2) := by decide +kernel
theorem J_HGrid_fixSmallSquares_d64 : decode J_HGrid_fixSmallSquares.2.1 64 = .ok (.ifCond .ne 22, 3) := by decide +kernel
theorem J_HGrid_fixSmallSquares_d67 : decode J_HGrid_fixSmallSquares.2.1 67 = .ok (.aload_n 0, 1) := by decide +kernel
theorem J_HGrid_fixSmallSquares_d68 : decode J_HGrid_fixSmallSquares.2.1 68 = .ok (.aload_n 0, 1) := by decide +kernel
theorem J_HGrid_fixSmallSquares_d69 : decode J_HGrid_fixSmallSquares.2.1 69 = .ok (.iload_n 3, 1) := by decide +kernel
theorem J_HGrid_fixSmallSquares_d70 : decode J_HGrid_fixSmallSquares.2.1 70 = .ok (.iload_n 1, 1) := by decide +kernel
theorem J_HGrid_fixSmallSquares_d71 : decode J_HGrid_fixSmallSquares.2.1 71 = .ok (.invokevirtual 106, 3) := by decide +kernel
theorem J_HGrid_fixSmallSquares_d74 : decode J_HGrid_fixSmallSquares.2.1 74 = .ok (.aload_n 0, 1) := by decide +kernel
theorem J_HGrid_fixSmallSquares_d75 : decode J_HGrid_fixSmallSquares.2.1 75 = .ok (.iload 4, 2) := by decide +kernel
theorem J_HGrid_fixSmallSquares_d77 : decode J_HGrid_fixSmallSquares.2.1 77 = .ok (.iload_n 1, 1) := by decide +kernel
theorem J_HGrid_fixSmallSquares_d78 : decode J_HGrid_fixSmallSquares.2.1 78 = .ok (.invokevirtual 106, 3) := by decide +kernel
theorem J_HGrid_fixSmallSquares_d81 : decode J_HGrid_fixSmallSquares.2.1 81 = .ok (.iconst 2, 1) := by decide +kernel
theorem J_HGrid_fixSmallSquares_d82 : decode J_HGrid_fixSmallSquares.2.1 82 = .ok (.iconst 1, 1) := by decide +kernel
theorem J_HGrid_fixSmallSquares_d83 : decode J_HGrid_fixSmallSquares.2.1 83 = .ok (.invokevirtual 87, 3) := by decide +kernel
theorem J_HGrid_fixSmallSquares_d86 : decode J_HGrid_fixSmallSquares.2.1 86 = .ok (.iinc 4 1, 3) := by decide +kernel
theorem J_HGrid_fixSmallSquares_d89 : decode J_HGrid_fixSmallSquares.2.1 89 = .ok (.goto (-65), 3) := by decide +kernel
theorem J_HGrid_fixSmallSquares_d92 : decode J_HGrid_fixSmallSquares.2.1 92 = .ok (.iinc 3 1, 3) := by decide +kernel
theorem J_HGrid_fixSmallSquares_d95 : decode J_HGrid_fixSmallSquares.2.1 95 = .ok (.goto (-79), 3) := by decide +kernel
theorem J_HGrid_fixSmallSquares_d98 : decode J_HGrid_fixSmallSquares.2.1 98 = .ok (.return_, 1) := by decide +kernel
theorem f_HGrid_fixSmallSquares_ok {L : Nat} {xs : Nat → Int32} {dep : Nat} {w : Bool} {M : im_M} {Q : im_M → Prop} (hM : lw_S w M) (h : ed (f_HGrid_fixSmallSquares M) Q) : ia (tb_G L xs) (dep + 2) J_HGrid_fixSmallSquares (rwV w Q) (0, lv_args 0 [.ref 38], [], M) := by
  have hS : im_St (tb_G L xs) (dep + 2) J_HGrid_fixSmallSquares (ia (tb_G L xs) (dep + 2) J_HGrid_fixSmallSquares (rwV w Q)) := ia_St
  unfold f_HGrid_fixSmallSquares at h
  have l0 : im_lk (lv_args 0 [.ref 38]) 0 = some (.ref 38) := rfl
  refine iq_aload_n hS 1 J_HGrid_fixSmallSquares_d0 l0 rfl ?_
  refine iq_getI hS 4 J_HGrid_fixSmallSquares_d1 lf_4_71 (Or.inl rfl) (ka_38 hM) rfl ?_
  refine iq_bipush hS 6 J_HGrid_fixSmallSquares_d4 (v := 7) (by decide +kernel) rfl ?_
  refine iq_idiv hS 7 J_HGrid_fixSmallSquares_d6 (by decide) rfl ?_
  refine iq_iconst hS 8 J_HGrid_fixSmallSquares_d7 (v := 2) (by decide +kernel) rfl ?_
  refine iq_iadd hS 9 J_HGrid_fixSmallSquares_d8 rfl ?_
  refine iq_istore_n hS 10 J_HGrid_fixSmallSquares_d9 (by decide) rfl ?_
  refine iq_iload_n hS 11 J_HGrid_fixSmallSquares_d10 lk_1s rfl ?_
  refine iq_iconst hS 12 J_HGrid_fixSmallSquares_d11 (v := 1) (by decide +kernel) rfl ?_
  refine iq_isub hS 13 J_HGrid_fixSmallSquares_d12 rfl ?_
  refine iq_istore_n hS 14 J_HGrid_fixSmallSquares_d13 (by decide) rfl ?_
  refine iq_iconst hS 15 J_HGrid_fixSmallSquares_d14 (v := 0) (by decide +kernel) rfl ?_
  refine iq_istore_n hS 16 J_HGrid_fixSmallSquares_d15 (by decide) rfl ?_
  obtain ⟨Q1, hQ1, h⟩ := bd1_ed h
  have K1 : ∀ (M2 : im_M) (L' : List (Nat × Value)), lw_S w M2 → Q1 M2 → ia (tb_G L xs) (dep + 2) J_HGrid_fixSmallSquares (rwV w Q) (98, L', [], M2) := by
    intro M2 L' hM2  h
    replace h := hQ1 _ h
    exact iq_ret J_HGrid_fixSmallSquares_d98 rfl ⟨rfl, hM2, ed_some h⟩
  obtain ⟨r1, hr1, hq1⟩ := h
  obtain ⟨n1, hn1⟩ := lp_n hr1
  have I1 : ∀ (n : Nat) (x3 : Int32) (M4 : im_M) (L' : List (Nat × Value)), lw_S w M4 → im_lk L' 0 = some (.ref 38) → im_lk L' 1 = some (.int (((im_i M 38 6) / 7) + 2)) → im_lk L' 2 = some (.int ((((im_i M 38 6) / 7) + 2) - 1)) → im_lk L' 3 = some (.int x3) → lpn (uc2 (f_HGrid_fixSmallSquares_L16 (((im_i M 38 6) / 7) + 2) ((((im_i M 38 6) / 7) + 2) - 1))) n (x3, M4) = some r1 → ia (tb_G L xs) (dep + 2) J_HGrid_fixSmallSquares (rwV w Q) (16, L', [], M4) := by
    intro n
    induction n with
    | zero => intro x3 M4 L' hM4 l5 l6 l7 l8 hn; exact (lpn_0 hn).elim
    | succ n ih =>
      intro x3 M4 L' hM4 l5 l6 l7 l8 hn
      have h := lpn_ed2 hn
      unfold f_HGrid_fixSmallSquares_L16 at h
      refine iq_iload_n hS 17 J_HGrid_fixSmallSquares_d16 l8 rfl ?_
      refine iq_iload_n hS 18 J_HGrid_fixSmallSquares_d17 l6 rfl ?_
      refine iq_icmp_ge hS 21 J_HGrid_fixSmallSquares_d18 (t := 98) rfl (fun q18 => ?_) rfl (fun q18 => ?_)
      · replace h := ed_pos q18 h
        exact K1 _ _ hM4  (lq_r h hq1)
      · replace h := ed_neg q18 h
        refine iq_iconst hS 22 J_HGrid_fixSmallSquares_d21 (v := 0) (by decide +kernel) rfl ?_
        refine iq_istore hS 24 J_HGrid_fixSmallSquares_d22 (by decide) rfl ?_
        obtain ⟨Q9, hQ9, h⟩ := bd1_ed h
        have K9 : ∀ (M10 : im_M) (L' : List (Nat × Value)), lw_S w M10 → im_lk L' 0 = some (.ref 38) → im_lk L' 1 = some (.int (((im_i M 38 6) / 7) + 2)) → im_lk L' 2 = some (.int ((((im_i M 38 6) / 7) + 2) - 1)) → im_lk L' 3 = some (.int x3) → Q9 M10 → ia (tb_G L xs) (dep + 2) J_HGrid_fixSmallSquares (rwV w Q) (92, L', [], M10) := by
          intro M10 L' hM10 l11 l12 l13 l14 h
          replace h := hQ9 _ h
          refine iq_iincv hS 95 J_HGrid_fixSmallSquares_d92 (c := 1) (by decide +kernel) l14 (by decide) rfl ?_
          refine iq_goto hS J_HGrid_fixSmallSquares_d95 (t := 16) rfl ?_
          exact ih _ _ _ hM10 (lk_1r l11 (by decide)) (lk_1i l12 (by decide)) (lk_1i l13 (by decide)) lk_1s (lq_l h)
        obtain ⟨r9, hr9, hq9⟩ := h
        obtain ⟨n9, hn9⟩ := lp_n hr9
        have I9 : ∀ (n : Nat) (x15 : Int32) (M16 : im_M) (L' : List (Nat × Value)), lw_S w M16 → im_lk L' 0 = some (.ref 38) → im_lk L' 1 = some (.int (((im_i M 38 6) / 7) + 2)) → im_lk L' 2 = some (.int ((((im_i M 38 6) / 7) + 2) - 1)) → im_lk L' 3 = some (.int x3) → im_lk L' 4 = some (.int x15) → lpn (uc2 (f_HGrid_fixSmallSquares_L24 (((im_i M 38 6) / 7) + 2) ((((im_i M 38 6) / 7) + 2) - 1) x3)) n (x15, M16) = some r9 → ia (tb_G L xs) (dep + 2) J_HGrid_fixSmallSquares (rwV w Q) (24, L', [], M16) := by
          intro n
          induction n with
          | zero => intro x15 M16 L' hM16 l17 l18 l19 l20 l21 hn; exact (lpn_0 hn).elim
          | succ n ih =>
            intro x15 M16 L' hM16 l17 l18 l19 l20 l21 hn
            have h := lpn_ed2 hn
            unfold f_HGrid_fixSmallSquares_L24 at h
            refine iq_iload hS 26 J_HGrid_fixSmallSquares_d24 l21 rfl ?_
            refine iq_iload_n hS 27 J_HGrid_fixSmallSquares_d26 l18 rfl ?_
            refine iq_icmp_ge hS 30 J_HGrid_fixSmallSquares_d27 (t := 92) rfl (fun q27 => ?_) rfl (fun q27 => ?_)
            · replace h := ed_pos q27 h
              exact K9 _ _ hM16 l17 l18 l19 l20 (lq_r h hq9)
            · replace h := ed_neg q27 h
              refine iq_iload_n hS 31 J_HGrid_fixSmallSquares_d30 l20 rfl ?_
              have J22 : ∀ (z23 : Int32) (L' : List (Nat × Value)), z23 = ((if ¬ x3 = 0 then (if ¬ x3 = ((((im_i M 38 6) / 7) + 2) - 1) then 0 else (if ¬ x15 = 0 then 0 else 1)) else (if x15 = 0 then 1 else (if x15 = ((((im_i M 38 6) / 7) + 2) - 1) then 1 else (if ¬ x3 = ((((im_i M 38 6) / 7) + 2) - 1) then 0 else (if ¬ x15 = 0 then 0 else 1))))) : Int32) → im_lk L' 0 = some (.ref 38) → im_lk L' 1 = some (.int (((im_i M 38 6) / 7) + 2)) → im_lk L' 2 = some (.int ((((im_i M 38 6) / 7) + 2) - 1)) → im_lk L' 3 = some (.int x3) → im_lk L' 4 = some (.int x15) → ia (tb_G L xs) (dep + 2) J_HGrid_fixSmallSquares (rwV w Q) (60, L', [.int z23], M16) := by
                intro z23 L' e24 l25 l26 l27 l28 l29
                subst e24
                refine iq_istore hS 62 J_HGrid_fixSmallSquares_d60 (by decide) rfl ?_
                refine iq_iload hS 64 J_HGrid_fixSmallSquares_d62 lk_1s rfl ?_
                obtain ⟨Q30, hQ30, h⟩ := bd1_ed h
                have J30 : ∀ (M34 : im_M) (L' : List (Nat × Value)), lw_S w M34 → im_lk L' 0 = some (.ref 38) → im_lk L' 1 = some (.int (((im_i M 38 6) / 7) + 2)) → im_lk L' 2 = some (.int ((((im_i M 38 6) / 7) + 2) - 1)) → im_lk L' 3 = some (.int x3) → im_lk L' 4 = some (.int x15) → Q30 M34 → ia (tb_G L xs) (dep + 2) J_HGrid_fixSmallSquares (rwV w Q) (86, L', [], M34) := by
                  intro M34 L' hM34 l35 l36 l37 l38 l39 h
                  replace h := hQ30 _ h
                  refine iq_iincv hS 89 J_HGrid_fixSmallSquares_d86 (c := 1) (by decide +kernel) l39 (by decide) rfl ?_
                  refine iq_goto hS J_HGrid_fixSmallSquares_d89 (t := 24) rfl ?_
                  exact ih _ _ _ hM34 (lk_1r l35 (by decide)) (lk_1i l36 (by decide)) (lk_1i l37 (by decide)) (lk_1i l38 (by decide)) lk_1s (lq_l h)
                refine iq_if_ne hS 67 J_HGrid_fixSmallSquares_d64 (t := 86) rfl (fun q64 => ?_) rfl (fun q64 => ?_)
                · replace h := ed_pos q64 h
                  exact J30 _ _ hM16 (lk_1r l25 (by decide)) (lk_1i l26 (by decide)) (lk_1i l27 (by decide)) (lk_1i l28 (by decide)) (lk_1i l29 (by decide)) (ed_some h)
                · replace h := ed_neg q64 h
                  refine iq_aload_n hS 68 J_HGrid_fixSmallSquares_d67 (lk_1r l25 (by decide)) rfl ?_
                  refine iq_aload_n hS 69 J_HGrid_fixSmallSquares_d68 (lk_1r l25 (by decide)) rfl ?_
                  refine iq_iload_n hS 70 J_HGrid_fixSmallSquares_d69 (lk_1i l28 (by decide)) rfl ?_
                  refine iq_iload_n hS 71 J_HGrid_fixSmallSquares_d70 (lk_1i l26 (by decide)) rfl ?_
                  obtain ⟨Q31, hQ31, h⟩ := bd1_ed h
                  refine iq_cpI hS 74 J_HGrid_fixSmallSquares_d71 rfl (pr_inst (vs := [_, _]) lc_4_106 lT_160 rfl rfl (by decide) (by decide) rfl (Nat.le_of_ble_eq_true rfl) (Nat.le_of_ble_eq_true rfl) (fun _ => Or.inl (pr_b (ka_38 hM16) (by decide) rfl))) (f_HGrid_smallPlace_ok (dep := dep + 1) hM16 h) rfl ?_
                  intro x31 h
                  replace h := hQ31 _ h
                  refine iq_aload_n hS 75 J_HGrid_fixSmallSquares_d74 (lk_1r l25 (by decide)) rfl ?_
                  refine iq_iload hS 77 J_HGrid_fixSmallSquares_d75 (lk_1i l29 (by decide)) rfl ?_
                  refine iq_iload_n hS 78 J_HGrid_fixSmallSquares_d77 (lk_1i l26 (by decide)) rfl ?_
                  obtain ⟨Q32, hQ32, h⟩ := bd1_ed h
                  refine iq_cpI hS 81 J_HGrid_fixSmallSquares_d78 rfl (pr_inst (vs := [_, _]) lc_4_106 lT_160 rfl rfl (by decide) (by decide) rfl (Nat.le_of_ble_eq_true rfl) (Nat.le_of_ble_eq_true rfl) (fun _ => Or.inl (pr_b (ka_38 hM16) (by decide) rfl))) (f_HGrid_smallPlace_ok (dep := dep + 1) hM16 h) rfl ?_
                  intro x32 h
                  replace h := hQ32 _ h
                  refine iq_iconst hS 82 J_HGrid_fixSmallSquares_d81 (v := 2) (by decide +kernel) rfl ?_
                  refine iq_iconst hS 83 J_HGrid_fixSmallSquares_d82 (v := 1) (by decide +kernel) rfl ?_
                  obtain ⟨Q33, hQ33, h⟩ := bd1_ed h
                  refine iq_cwV hS 86 J_HGrid_fixSmallSquares_d83 rfl (pr_inst (vs := [_, _, _, _]) lc_4_87 lT_157 rfl rfl (by decide) (by decide) rfl (Nat.le_of_ble_eq_true rfl) (Nat.le_of_ble_eq_true rfl) (fun _ => Or.inl (pr_b (ka_38 hM16) (by decide) rfl))) (f_HGrid_fixSquares_ok (dep := dep + 0) hM16 h) rfl ?_
                  intro M33 hM33 h
                  replace h := hQ33 _ h
                  exact J30 _ _ hM33 (lk_1r l25 (by decide)) (lk_1i l26 (by decide)) (lk_1i l27 (by decide)) (lk_1i l28 (by decide)) (lk_1i l29 (by decide)) (ed_some h)
              refine iq_if_ne hS 34 J_HGrid_fixSmallSquares_d31 (t := 45) rfl (fun q31 => ?_) rfl (fun q31 => ?_)
              · refine iq_iload_n hS 46 J_HGrid_fixSmallSquares_d45 l20 rfl ?_
                refine iq_iload_n hS 47 J_HGrid_fixSmallSquares_d46 l19 rfl ?_
                refine iq_icmp_ne hS 50 J_HGrid_fixSmallSquares_d47 (t := 59) rfl (fun q47 => ?_) rfl (fun q47 => ?_)
                · refine iq_iconst hS 60 J_HGrid_fixSmallSquares_d59 (v := 0) (by decide +kernel) rfl ?_
                  exact J22 _ _ (by rw [if_pos q31, if_pos q47]) l17 l18 l19 l20 l21
                · refine iq_iload hS 52 J_HGrid_fixSmallSquares_d50 l21 rfl ?_
                  refine iq_if_ne hS 55 J_HGrid_fixSmallSquares_d52 (t := 59) rfl (fun q52 => ?_) rfl (fun q52 => ?_)
                  · refine iq_iconst hS 60 J_HGrid_fixSmallSquares_d59 (v := 0) (by decide +kernel) rfl ?_
                    exact J22 _ _ (by rw [if_pos q31, if_neg q47, if_pos q52]) l17 l18 l19 l20 l21
                  · refine iq_iconst hS 56 J_HGrid_fixSmallSquares_d55 (v := 1) (by decide +kernel) rfl ?_
                    refine iq_goto hS J_HGrid_fixSmallSquares_d56 (t := 60) rfl ?_
                    exact J22 _ _ (by rw [if_pos q31, if_neg q47, if_neg q52]) l17 l18 l19 l20 l21
              · refine iq_iload hS 36 J_HGrid_fixSmallSquares_d34 l21 rfl ?_
                refine iq_if_eq hS 39 J_HGrid_fixSmallSquares_d36 (t := 55) rfl (fun q36 => ?_) rfl (fun q36 => ?_)
                · refine iq_iconst hS 56 J_HGrid_fixSmallSquares_d55 (v := 1) (by decide +kernel) rfl ?_
                  refine iq_goto hS J_HGrid_fixSmallSquares_d56 (t := 60) rfl ?_
                  exact J22 _ _ (by rw [if_neg q31, if_pos q36]) l17 l18 l19 l20 l21
                · refine iq_iload hS 41 J_HGrid_fixSmallSquares_d39 l21 rfl ?_
                  refine iq_iload_n hS 42 J_HGrid_fixSmallSquares_d41 l19 rfl ?_
                  refine iq_icmp_eq hS 45 J_HGrid_fixSmallSquares_d42 (t := 55) rfl (fun q42 => ?_) rfl (fun q42 => ?_)
                  · refine iq_iconst hS 56 J_HGrid_fixSmallSquares_d55 (v := 1) (by decide +kernel) rfl ?_
                    refine iq_goto hS J_HGrid_fixSmallSquares_d56 (t := 60) rfl ?_
                    exact J22 _ _ (by rw [if_neg q31, if_neg q36, if_pos q42]) l17 l18 l19 l20 l21
                  · refine iq_iload_n hS 46 J_HGrid_fixSmallSquares_d45 l20 rfl ?_
                    refine iq_iload_n hS 47 J_HGrid_fixSmallSquares_d46 l19 rfl ?_
                    refine iq_icmp_ne hS 50 J_HGrid_fixSmallSquares_d47 (t := 59) rfl (fun q47 => ?_) rfl (fun q47 => ?_)
                    · refine iq_iconst hS 60 J_HGrid_fixSmallSquares_d59 (v := 0) (by decide +kernel) rfl ?_
                      exact J22 _ _ (by rw [if_neg q31, if_neg q36, if_neg q42, if_pos q47]) l17 l18 l19 l20 l21
                    · refine iq_iload hS 52 J_HGrid_fixSmallSquares_d50 l21 rfl ?_
                      refine iq_if_ne hS 55 J_HGrid_fixSmallSquares_d52 (t := 59) rfl (fun q52 => ?_) rfl (fun q52 => ?_)
                      · refine iq_iconst hS 60 J_HGrid_fixSmallSquares_d59 (v := 0) (by decide +kernel) rfl ?_
                        exact J22 _ _ (by rw [if_neg q31, if_neg q36, if_neg q42, if_neg q47, if_pos q52]) l17 l18 l19 l20 l21
                      · refine iq_iconst hS 56 J_HGrid_fixSmallSquares_d55 (v := 1) (by decide +kernel) rfl ?_
                        refine iq_goto hS J_HGrid_fixSmallSquares_d56 (t := 60) rfl ?_
                        exact J22 _ _ (by rw [if_neg q31, if_neg q36, if_neg q42, if_neg q47, if_neg q52]) l17 l18 l19 l20 l21
        exact I9 n9 _ _ _ hM4 (lk_1r l5 (by decide)) (lk_1i l6 (by decide)) (lk_1i l7 (by decide)) (lk_1i l8 (by decide)) lk_1s hn9
  exact I1 n1 _ _ _ hM (lk_1r (lk_1r (lk_1r l0 (by decide)) (by decide)) (by decide)) (lk_1i (lk_1i lk_1s (by decide)) (by decide)) (lk_1i lk_1s (by decide)) lk_1s hn1
noncomputable def f_HGrid_rest_L8 (v2 : Int32) (v3 : Int32) (M6 : im_M) (x4 : Int32) (x5 : Int32) : Option ((Int32 × Int32) ⊕ (Int32)) := if x5 < v3 then some (.inr x4) else some (.inl (((if ((x4 >>> (x5 &&& 31)) &&& 1) = 0 then x4 else (x4 ^^^ (v2 <<< ((x5 - v3) &&& 31)))) : Int32), (x5 + (-1))))
noncomputable def f_HGrid_rest (p0 : Int32) (p1 : Int32) (p2 : Int32) (p3 : Int32) (M : im_M) : Option (Int32) := bd1 (lp (uc2 (f_HGrid_rest_L8 p1 p2 M)) (p0, (p3 - 1))) fun (y8 : Int32) => some y8
theorem J_HGrid_rest_d0 : decode J_HGrid_rest.2.1 0 = .ok (.iload_n 0, 1) := by decide +kernel
theorem J_HGrid_rest_d1 : decode J_HGrid_rest.2.1 1 = .ok (.istore 4, 2) := by decide +kernel
theorem J_HGrid_rest_d3 : decode J_HGrid_rest.2.1 3 = .ok (.iload_n 3, 1) := by decide +kernel
theorem J_HGrid_rest_d4 : decode J_HGrid_rest.2.1 4 = .ok (.iconst 1, 1) := by decide +kernel
theorem J_HGrid_rest_d5 : decode J_HGrid_rest.2.1 5 = .ok (.isub, 1) := by decide +kernel
theorem J_HGrid_rest_d6 : decode J_HGrid_rest.2.1 6 = .ok (.istore 5, 2) := by decide +kernel
theorem J_HGrid_rest_d8 : decode J_HGrid_rest.2.1 8 = .ok (.iload 5, 2) := by decide +kernel
theorem J_HGrid_rest_d10 : decode J_HGrid_rest.2.1 10 = .ok (.iload_n 2, 1) := by decide +kernel
theorem J_HGrid_rest_d11 : decode J_HGrid_rest.2.1 11 = .ok (.if_icmp .lt 30, 3) := by decide +kernel
theorem J_HGrid_rest_d14 : decode J_HGrid_rest.2.1 14 = .ok (.iload 4, 2) := by decide +kernel
theorem J_HGrid_rest_d16 : decode J_HGrid_rest.2.1 16 = .ok (.iload 5, 2) := by decide +kernel
theorem J_HGrid_rest_d18 : decode J_HGrid_rest.2.1 18 = .ok (.ishr, 1) := by decide +kernel
theorem J_HGrid_rest_d19 : decode J_HGrid_rest.2.1 19 = .ok (.iconst 1, 1) := by decide +kernel
theorem J_HGrid_rest_d20 : decode J_HGrid_rest.2.1 20 = .ok (.iand, 1) := by decide +kernel
theorem J_HGrid_rest_d21 : decode J_HGrid_rest.2.1 21 = .ok (.ifCond .eq 14, 3) := by decide +kernel
theorem J_HGrid_rest_d24 : decode J_HGrid_rest.2.1 24 = .ok (.iload 4, 2) := by decide +kernel
theorem J_HGrid_rest_d26 : decode J_HGrid_rest.2.1 26 = .ok (.iload_n 1, 1) := by decide +kernel
theorem J_HGrid_rest_d27 : decode J_HGrid_rest.2.1 27 = .ok (.iload 5, 2) := by decide +kernel
theorem J_HGrid_rest_d29 : decode J_HGrid_rest.2.1 29 = .ok (.iload_n 2, 1) := by decide +kernel
theorem J_HGrid_rest_d30 : decode J_HGrid_rest.2.1 30 = .ok (.isub, 1) := by decide +kernel
theorem J_HGrid_rest_d31 : decode J_HGrid_rest.2.1 31 = .ok (.ishl, 1) := by decide +kernel
theorem J_HGrid_rest_d32 : decode J_HGrid_rest.2.1 32 = .ok (.ixor, 1) := by decide +kernel
theorem J_HGrid_rest_d33 : decode J_HGrid_rest.2.1 33 = .ok (.istore 4, 2) := by decide +kernel
theorem J_HGrid_rest_d35 : decode J_HGrid_rest.2.1 35 = .ok (.iinc 5 (-1), 3) := by decide +kernel
theorem J_HGrid_rest_d38 : decode J_HGrid_rest.2.1 38 = .ok (.goto (-30), 3) := by decide +kernel
theorem J_HGrid_rest_d41 : decode J_HGrid_rest.2.1 41 = .ok (.iload 4, 2) := by decide +kernel
theorem J_HGrid_rest_d43 : decode J_HGrid_rest.2.1 43 = .ok (.ireturn, 1) := by decide +kernel
theorem f_HGrid_rest_ok {L : Nat} {xs : Nat → Int32} {dep : Nat} {w : Bool} {p0 : Int32} {p1 : Int32} {p2 : Int32} {p3 : Int32} {M : im_M} {Q : Int32 → Prop} (hM : lw_S w M) (h : ed (f_HGrid_rest p0 p1 p2 p3 M) Q) : ia (tb_G L xs) dep J_HGrid_rest (rpI M Q) (0, lv_args 0 [.int p0, .int p1, .int p2, .int p3], [], M) := by
  have hS : im_St (tb_G L xs) dep J_HGrid_rest (ia (tb_G L xs) dep J_HGrid_rest (rpI M Q)) := ia_St
  unfold f_HGrid_rest at h
  have l0 : im_lk (lv_args 0 [.int p0, .int p1, .int p2, .int p3]) 0 = some (.int p0) := rfl
  have l1 : im_lk (lv_args 0 [.int p0, .int p1, .int p2, .int p3]) 1 = some (.int p1) := rfl
  have l2 : im_lk (lv_args 0 [.int p0, .int p1, .int p2, .int p3]) 2 = some (.int p2) := rfl
  have l3 : im_lk (lv_args 0 [.int p0, .int p1, .int p2, .int p3]) 3 = some (.int p3) := rfl
  refine iq_iload_n hS 1 J_HGrid_rest_d0 l0 rfl ?_
  refine iq_istore hS 3 J_HGrid_rest_d1 (by decide) rfl ?_
  refine iq_iload_n hS 4 J_HGrid_rest_d3 (lk_1i l3 (by decide)) rfl ?_
  refine iq_iconst hS 5 J_HGrid_rest_d4 (v := 1) (by decide +kernel) rfl ?_
  refine iq_isub hS 6 J_HGrid_rest_d5 rfl ?_
  refine iq_istore hS 8 J_HGrid_rest_d6 (by decide) rfl ?_
  obtain ⟨Q1, hQ1, h⟩ := bd1_ed h
  have K1 : ∀ (y2 : Int32) (L' : List (Nat × Value)), im_lk L' 4 = some (.int y2) → Q1 y2 → ia (tb_G L xs) dep J_HGrid_rest (rpI M Q) (41, L', [], M) := by
    intro y2 L' l3 h
    replace h := hQ1 _ h
    refine iq_iload hS 43 J_HGrid_rest_d41 l3 rfl ?_
    exact iq_iret J_HGrid_rest_d43 rfl rfl ⟨_, rfl, rfl, ed_some h⟩
  obtain ⟨r1, hr1, hq1⟩ := h
  obtain ⟨n1, hn1⟩ := lp_n hr1
  have I1 : ∀ (n : Nat) (x4 : Int32) (x5 : Int32) (L' : List (Nat × Value)), im_lk L' 1 = some (.int p1) → im_lk L' 2 = some (.int p2) → im_lk L' 4 = some (.int x4) → im_lk L' 5 = some (.int x5) → lpn (uc2 (f_HGrid_rest_L8 p1 p2 M)) n (x4, x5) = some r1 → ia (tb_G L xs) dep J_HGrid_rest (rpI M Q) (8, L', [], M) := by
    intro n
    induction n with
    | zero => intro x4 x5 L' l6 l7 l8 l9 hn; exact (lpn_0 hn).elim
    | succ n ih =>
      intro x4 x5 L' l6 l7 l8 l9 hn
      have h := lpn_ed2 hn
      unfold f_HGrid_rest_L8 at h
      refine iq_iload hS 10 J_HGrid_rest_d8 l9 rfl ?_
      refine iq_iload_n hS 11 J_HGrid_rest_d10 l7 rfl ?_
      refine iq_icmp_lt hS 14 J_HGrid_rest_d11 (t := 41) rfl (fun q11 => ?_) rfl (fun q11 => ?_)
      · replace h := ed_pos q11 h
        exact K1 _ _ l8 (lq_r h hq1)
      · replace h := ed_neg q11 h
        refine iq_iload hS 16 J_HGrid_rest_d14 l8 rfl ?_
        refine iq_iload hS 18 J_HGrid_rest_d16 l9 rfl ?_
        refine iq_ishr hS 19 J_HGrid_rest_d18 rfl ?_
        refine iq_iconst hS 20 J_HGrid_rest_d19 (v := 1) (by decide +kernel) rfl ?_
        refine iq_iand hS 21 J_HGrid_rest_d20 rfl ?_
        have J10 : ∀ (z11 : Int32) (L' : List (Nat × Value)), z11 = ((if ((x4 >>> (x5 &&& 31)) &&& 1) = 0 then x4 else (x4 ^^^ (p1 <<< ((x5 - p2) &&& 31)))) : Int32) → im_lk L' 1 = some (.int p1) → im_lk L' 2 = some (.int p2) → im_lk L' 4 = some (.int z11) → im_lk L' 5 = some (.int x5) → ia (tb_G L xs) dep J_HGrid_rest (rpI M Q) (35, L', [], M) := by
          intro z11 L' e12 l13 l14 l15 l16
          subst e12
          refine iq_iincv hS 38 J_HGrid_rest_d35 (c := (-1)) (by decide +kernel) l16 (by decide) rfl ?_
          refine iq_goto hS J_HGrid_rest_d38 (t := 8) rfl ?_
          exact ih _ _ _ (lk_1i l13 (by decide)) (lk_1i l14 (by decide)) (lk_1i l15 (by decide)) lk_1s (lq_l h)
        refine iq_if_eq hS 24 J_HGrid_rest_d21 (t := 35) rfl (fun q21 => ?_) rfl (fun q21 => ?_)
        · exact J10 _ _ (by rw [if_pos q21]) l6 l7 l8 l9
        · refine iq_iload hS 26 J_HGrid_rest_d24 l8 rfl ?_
          refine iq_iload_n hS 27 J_HGrid_rest_d26 l6 rfl ?_
          refine iq_iload hS 29 J_HGrid_rest_d27 l9 rfl ?_
          refine iq_iload_n hS 30 J_HGrid_rest_d29 l7 rfl ?_
          refine iq_isub hS 31 J_HGrid_rest_d30 rfl ?_
          refine iq_ishl hS 32 J_HGrid_rest_d31 rfl ?_
          refine iq_ixor hS 33 J_HGrid_rest_d32 rfl ?_
          refine iq_istore hS 35 J_HGrid_rest_d33 (by decide) rfl ?_
          exact J10 _ _ (by rw [if_neg q21]) (lk_1i l6 (by decide)) (lk_1i l7 (by decide)) lk_1s (lk_1i l9 (by decide))
  exact I1 n1 _ _ _ (lk_1i (lk_1i l1 (by decide)) (by decide)) (lk_1i (lk_1i l2 (by decide)) (by decide)) (lk_1i lk_1s (by decide)) lk_1s hn1
noncomputable def f_HGrid_formWord (p0 : Int32) (M : im_M) : Option (Int32) := bd1 (f_HGrid_rest (p0 <<< (10 &&& 31)) 1335 10 15 M) fun (x1 : Int32) => some (((p0 <<< (10 &&& 31)) ||| x1) ^^^ 21522)
theorem J_HGrid_formWord_d0 : decode J_HGrid_formWord.2.1 0 = .ok (.iload_n 0, 1) := by decide +kernel
theorem J_HGrid_formWord_d1 : decode J_HGrid_formWord.2.1 1 = .ok (.bipush 10, 2) := by decide +kernel
theorem J_HGrid_formWord_d3 : decode J_HGrid_formWord.2.1 3 = .ok (.ishl, 1) := by decide +kernel
theorem J_HGrid_formWord_d4 : decode J_HGrid_formWord.2.1 4 = .ok (.iload_n 0, 1) := by decide +kernel
theorem J_HGrid_formWord_d5 : decode J_HGrid_formWord.2.1 5 = .ok (.bipush 10, 2) := by decide +kernel
theorem J_HGrid_formWord_d7 : decode J_HGrid_formWord.2.1 7 = .ok (.ishl, 1) := by decide +kernel
theorem J_HGrid_formWord_d8 : decode J_HGrid_formWord.2.1 8 = .ok (.sipush 1335, 3) := by decide +kernel
theorem J_HGrid_formWord_d11 : decode J_HGrid_formWord.2.1 11 = .ok (.bipush 10, 2) := by decide +kernel
theorem J_HGrid_formWord_d13 : decode J_HGrid_formWord.2.1 13 = .ok (.bipush 15, 2) := by decide +kernel
theorem J_HGrid_formWord_d15 : decode J_HGrid_formWord.2.1 15 = .ok (.invokestatic 109, 3) := by decide +kernel
theorem J_HGrid_formWord_d18 : decode J_HGrid_formWord.2.1 18 = .ok (.ior, 1) := by decide +kernel
theorem J_HGrid_formWord_d19 : decode J_HGrid_formWord.2.1 19 = .ok (.sipush 21522, 3) := by decide +kernel
theorem J_HGrid_formWord_d22 : decode J_HGrid_formWord.2.1 22 = .ok (.ixor, 1) := by decide +kernel
theorem J_HGrid_formWord_d23 : decode J_HGrid_formWord.2.1 23 = .ok (.ireturn, 1) := by decide +kernel
theorem f_HGrid_formWord_ok {L : Nat} {xs : Nat → Int32} {dep : Nat} {w : Bool} {p0 : Int32} {M : im_M} {Q : Int32 → Prop} (hM : lw_S w M) (h : ed (f_HGrid_formWord p0 M) Q) : ia (tb_G L xs) (dep + 1) J_HGrid_formWord (rpI M Q) (0, lv_args 0 [.int p0], [], M) := by
  have hS : im_St (tb_G L xs) (dep + 1) J_HGrid_formWord (ia (tb_G L xs) (dep + 1) J_HGrid_formWord (rpI M Q)) := ia_St
  unfold f_HGrid_formWord at h
  have l0 : im_lk (lv_args 0 [.int p0]) 0 = some (.int p0) := rfl
  refine iq_iload_n hS 1 J_HGrid_formWord_d0 l0 rfl ?_
  refine iq_bipush hS 3 J_HGrid_formWord_d1 (v := 10) (by decide +kernel) rfl ?_
  refine iq_ishl hS 4 J_HGrid_formWord_d3 rfl ?_
  refine iq_iload_n hS 5 J_HGrid_formWord_d4 l0 rfl ?_
  refine iq_bipush hS 7 J_HGrid_formWord_d5 (v := 10) (by decide +kernel) rfl ?_
  refine iq_ishl hS 8 J_HGrid_formWord_d7 rfl ?_
  refine iq_sipush hS 11 J_HGrid_formWord_d8 (v := 1335) (by decide +kernel) rfl ?_
  refine iq_bipush hS 13 J_HGrid_formWord_d11 (v := 10) (by decide +kernel) rfl ?_
  refine iq_bipush hS 15 J_HGrid_formWord_d13 (v := 15) (by decide +kernel) rfl ?_
  obtain ⟨Q1, hQ1, h⟩ := bd1_ed h
  refine iq_cpI hS 18 J_HGrid_formWord_d15 rfl (pr_stat (vs := [_, _, _, _]) lc_4_109 lT_163 rfl rfl (by decide) rfl (Nat.le_of_ble_eq_true rfl) (Nat.le_of_ble_eq_true rfl)) (f_HGrid_rest_ok (dep := dep + 0) hM h) rfl ?_
  intro x1 h
  replace h := hQ1 _ h
  refine iq_ior hS 19 J_HGrid_formWord_d18 rfl ?_
  refine iq_sipush hS 22 J_HGrid_formWord_d19 (v := 21522) (by decide +kernel) rfl ?_
  refine iq_ixor hS 23 J_HGrid_formWord_d22 rfl ?_
  exact iq_iret J_HGrid_formWord_d23 rfl rfl ⟨_, rfl, rfl, ed_some h⟩
noncomputable def f_HGrid_formX (p0 : Int32) (p1 : Int32) (M : im_M) : Option (Int32) := if ¬ p1 = 1 then if 8 ≤ p0 then if ¬ p0 = 8 then some ((14 : Int32) - p0) else some 7 else some 8 else if 8 ≤ p0 then some 8 else some (((im_i M 38 1) - 1) - p0)
theorem J_HGrid_formX_d0 : decode J_HGrid_formX.2.1 0 = .ok (.iload_n 2, 1) := by decide +kernel
theorem J_HGrid_formX_d1 : decode J_HGrid_formX.2.1 1 = .ok (.iconst 1, 1) := by decide +kernel
theorem J_HGrid_formX_d2 : decode J_HGrid_formX.2.1 2 = .ok (.if_icmp .ne 23, 3) := by decide +kernel
theorem J_HGrid_formX_d5 : decode J_HGrid_formX.2.1 5 = .ok (.iload_n 1, 1) := by decide +kernel
theorem J_HGrid_formX_d6 : decode J_HGrid_formX.2.1 6 = .ok (.bipush 8, 2) := by decide +kernel
theorem J_HGrid_formX_d8 : decode J_HGrid_formX.2.1 8 = .ok (.if_icmp .ge 14, 3) := by decide +kernel
theorem J_HGrid_formX_d11 : decode J_HGrid_formX.2.1 11 = .ok (.aload_n 0, 1) := by decide +kernel
theorem J_HGrid_formX_d12 : decode J_HGrid_formX.2.1 12 = .ok (.getfield 74, 3) := by decide +kernel
theorem J_HGrid_formX_d15 : decode J_HGrid_formX.2.1 15 = .ok (.iconst 1, 1) := by decide +kernel
theorem J_HGrid_formX_d16 : decode J_HGrid_formX.2.1 16 = .ok (.isub, 1) := by decide +kernel
theorem J_HGrid_formX_d17 : decode J_HGrid_formX.2.1 17 = .ok (.iload_n 1, 1) := by decide +kernel
theorem J_HGrid_formX_d18 : decode J_HGrid_formX.2.1 18 = .ok (.isub, 1) := by decide +kernel
theorem J_HGrid_formX_d19 : decode J_HGrid_formX.2.1 19 = .ok (.goto 5, 3) := by decide +kernel
theorem J_HGrid_formX_d22 : decode J_HGrid_formX.2.1 22 = .ok (.bipush 8, 2) := by decide +kernel
theorem J_HGrid_formX_d24 : decode J_HGrid_formX.2.1 24 = .ok (.ireturn, 1) := by decide +kernel
theorem J_HGrid_formX_d25 : decode J_HGrid_formX.2.1 25 = .ok (.iload_n 1, 1) := by decide +kernel
theorem J_HGrid_formX_d26 : decode J_HGrid_formX.2.1 26 = .ok (.bipush 8, 2) := by decide +kernel
theorem J_HGrid_formX_d28 : decode J_HGrid_formX.2.1 28 = .ok (.if_icmp .ge 8, 3) := by decide +kernel
theorem J_HGrid_formX_d31 : decode J_HGrid_formX.2.1 31 = .ok (.bipush 8, 2) := by decide +kernel
theorem J_HGrid_formX_d33 : decode J_HGrid_formX.2.1 33 = .ok (.goto 18, 3) := by decide +kernel
theorem J_HGrid_formX_d36 : decode J_HGrid_formX.2.1 36 = .ok (.iload_n 1, 1) := by decide +kernel
theorem J_HGrid_formX_d37 : decode J_HGrid_formX.2.1 37 = .ok (.bipush 8, 2) := by decide +kernel
theorem J_HGrid_formX_d39 : decode J_HGrid_formX.2.1 39 = .ok (.if_icmp .ne 8, 3) := by decide +kernel
theorem J_HGrid_formX_d42 : decode J_HGrid_formX.2.1 42 = .ok (.bipush 7, 2) := by decide +kernel
theorem J_HGrid_formX_d44 : decode J_HGrid_formX.2.1 44 = .ok (.goto 7, 3) := by decide +kernel
theorem J_HGrid_formX_d47 : decode J_HGrid_formX.2.1 47 = .ok (.bipush 14, 2) := by decide +kernel
theorem J_HGrid_formX_d49 : decode J_HGrid_formX.2.1 49 = .ok (.iload_n 1, 1) := by decide +kernel
theorem J_HGrid_formX_d50 : decode J_HGrid_formX.2.1 50 = .ok (.isub, 1) := by decide +kernel
theorem J_HGrid_formX_d51 : decode J_HGrid_formX.2.1 51 = .ok (.ireturn, 1) := by decide +kernel
theorem f_HGrid_formX_ok {L : Nat} {xs : Nat → Int32} {dep : Nat} {w : Bool} {p0 : Int32} {p1 : Int32} {M : im_M} {Q : Int32 → Prop} (hM : lw_S w M) (h : ed (f_HGrid_formX p0 p1 M) Q) : ia (tb_G L xs) dep J_HGrid_formX (rpI M Q) (0, lv_args 0 [.ref 38, .int p0, .int p1], [], M) := by
  have hS : im_St (tb_G L xs) dep J_HGrid_formX (ia (tb_G L xs) dep J_HGrid_formX (rpI M Q)) := ia_St
  unfold f_HGrid_formX at h
  have l0 : im_lk (lv_args 0 [.ref 38, .int p0, .int p1]) 0 = some (.ref 38) := rfl
  have l1 : im_lk (lv_args 0 [.ref 38, .int p0, .int p1]) 1 = some (.int p0) := rfl
  have l2 : im_lk (lv_args 0 [.ref 38, .int p0, .int p1]) 2 = some (.int p1) := rfl
  refine iq_iload_n hS 1 J_HGrid_formX_d0 l2 rfl ?_
  refine iq_iconst hS 2 J_HGrid_formX_d1 (v := 1) (by decide +kernel) rfl ?_
  refine iq_icmp_ne hS 5 J_HGrid_formX_d2 (t := 25) rfl (fun q2 => ?_) rfl (fun q2 => ?_)
  · replace h := ed_pos q2 h
    refine iq_iload_n hS 26 J_HGrid_formX_d25 l1 rfl ?_
    refine iq_bipush hS 28 J_HGrid_formX_d26 (v := 8) (by decide +kernel) rfl ?_
    refine iq_icmp_ge hS 31 J_HGrid_formX_d28 (t := 36) rfl (fun q28 => ?_) rfl (fun q28 => ?_)
    · replace h := ed_pos q28 h
      refine iq_iload_n hS 37 J_HGrid_formX_d36 l1 rfl ?_
      refine iq_bipush hS 39 J_HGrid_formX_d37 (v := 8) (by decide +kernel) rfl ?_
      refine iq_icmp_ne hS 42 J_HGrid_formX_d39 (t := 47) rfl (fun q39 => ?_) rfl (fun q39 => ?_)
      · replace h := ed_pos q39 h
        refine iq_bipush hS 49 J_HGrid_formX_d47 (v := 14) (by decide +kernel) rfl ?_
        refine iq_iload_n hS 50 J_HGrid_formX_d49 l1 rfl ?_
        refine iq_isub hS 51 J_HGrid_formX_d50 rfl ?_
        exact iq_iret J_HGrid_formX_d51 rfl rfl ⟨_, rfl, rfl, ed_some h⟩
      · replace h := ed_neg q39 h
        refine iq_bipush hS 44 J_HGrid_formX_d42 (v := 7) (by decide +kernel) rfl ?_
        refine iq_goto hS J_HGrid_formX_d44 (t := 51) rfl ?_
        exact iq_iret J_HGrid_formX_d51 rfl rfl ⟨_, rfl, rfl, ed_some h⟩
    · replace h := ed_neg q28 h
      refine iq_bipush hS 33 J_HGrid_formX_d31 (v := 8) (by decide +kernel) rfl ?_
      refine iq_goto hS J_HGrid_formX_d33 (t := 51) rfl ?_
      exact iq_iret J_HGrid_formX_d51 rfl rfl ⟨_, rfl, rfl, ed_some h⟩
  · replace h := ed_neg q2 h
    refine iq_iload_n hS 6 J_HGrid_formX_d5 l1 rfl ?_
    refine iq_bipush hS 8 J_HGrid_formX_d6 (v := 8) (by decide +kernel) rfl ?_
    refine iq_icmp_ge hS 11 J_HGrid_formX_d8 (t := 22) rfl (fun q8 => ?_) rfl (fun q8 => ?_)
    · replace h := ed_pos q8 h
      refine iq_bipush hS 24 J_HGrid_formX_d22 (v := 8) (by decide +kernel) rfl ?_
      exact iq_iret J_HGrid_formX_d24 rfl rfl ⟨_, rfl, rfl, ed_some h⟩
    · replace h := ed_neg q8 h
      refine iq_aload_n hS 12 J_HGrid_formX_d11 l0 rfl ?_
      refine iq_getI hS 15 J_HGrid_formX_d12 lf_4_74 (Or.inl rfl) (ka_38 hM) rfl ?_
      refine iq_iconst hS 16 J_HGrid_formX_d15 (v := 1) (by decide +kernel) rfl ?_
      refine iq_isub hS 17 J_HGrid_formX_d16 rfl ?_
      refine iq_iload_n hS 18 J_HGrid_formX_d17 l1 rfl ?_
      refine iq_isub hS 19 J_HGrid_formX_d18 rfl ?_
      refine iq_goto hS J_HGrid_formX_d19 (t := 24) rfl ?_
      exact iq_iret J_HGrid_formX_d24 rfl rfl ⟨_, rfl, rfl, ed_some h⟩
noncomputable def f_HGrid_formY (p0 : Int32) (p1 : Int32) (M : im_M) : Option (Int32) := if ¬ p1 = 1 then if 6 ≤ p0 then if ¬ p0 = 6 then some 8 else some 7 else some p0 else if 8 ≤ p0 then some (((im_i M 38 1) - 15) + p0) else some 8
theorem J_HGrid_formY_d0 : decode J_HGrid_formY.2.1 0 = .ok (.iload_n 2, 1) := by decide +kernel
theorem J_HGrid_formY_d1 : decode J_HGrid_formY.2.1 1 = .ok (.iconst 1, 1) := by decide +kernel
theorem J_HGrid_formY_d2 : decode J_HGrid_formY.2.1 2 = .ok (.if_icmp .ne 24, 3) := by decide +kernel
theorem J_HGrid_formY_d5 : decode J_HGrid_formY.2.1 5 = .ok (.iload_n 1, 1) := by decide +kernel
theorem J_HGrid_formY_d6 : decode J_HGrid_formY.2.1 6 = .ok (.bipush 8, 2) := by decide +kernel
theorem J_HGrid_formY_d8 : decode J_HGrid_formY.2.1 8 = .ok (.if_icmp .ge 8, 3) := by decide +kernel
theorem J_HGrid_formY_d11 : decode J_HGrid_formY.2.1 11 = .ok (.bipush 8, 2) := by decide +kernel
theorem J_HGrid_formY_d13 : decode J_HGrid_formY.2.1 13 = .ok (.goto 12, 3) := by decide +kernel
theorem J_HGrid_formY_d16 : decode J_HGrid_formY.2.1 16 = .ok (.aload_n 0, 1) := by decide +kernel
theorem J_HGrid_formY_d17 : decode J_HGrid_formY.2.1 17 = .ok (.getfield 74, 3) := by decide +kernel
theorem J_HGrid_formY_d20 : decode J_HGrid_formY.2.1 20 = .ok (.bipush 15, 2) := by decide +kernel
theorem J_HGrid_formY_d22 : decode J_HGrid_formY.2.1 22 = .ok (.isub, 1) := by decide +kernel
theorem J_HGrid_formY_d23 : decode J_HGrid_formY.2.1 23 = .ok (.iload_n 1, 1) := by decide +kernel
theorem J_HGrid_formY_d24 : decode J_HGrid_formY.2.1 24 = .ok (.iadd, 1) := by decide +kernel
theorem J_HGrid_formY_d25 : decode J_HGrid_formY.2.1 25 = .ok (.ireturn, 1) := by decide +kernel
theorem J_HGrid_formY_d26 : decode J_HGrid_formY.2.1 26 = .ok (.iload_n 1, 1) := by decide +kernel
theorem J_HGrid_formY_d27 : decode J_HGrid_formY.2.1 27 = .ok (.bipush 6, 2) := by decide +kernel
theorem J_HGrid_formY_d29 : decode J_HGrid_formY.2.1 29 = .ok (.if_icmp .ge 7, 3) := by decide +kernel
theorem J_HGrid_formY_d32 : decode J_HGrid_formY.2.1 32 = .ok (.iload_n 1, 1) := by decide +kernel
theorem J_HGrid_formY_d33 : decode J_HGrid_formY.2.1 33 = .ok (.goto 16, 3) := by decide +kernel
theorem J_HGrid_formY_d36 : decode J_HGrid_formY.2.1 36 = .ok (.iload_n 1, 1) := by decide +kernel
theorem J_HGrid_formY_d37 : decode J_HGrid_formY.2.1 37 = .ok (.bipush 6, 2) := by decide +kernel
theorem J_HGrid_formY_d39 : decode J_HGrid_formY.2.1 39 = .ok (.if_icmp .ne 8, 3) := by decide +kernel
theorem J_HGrid_formY_d42 : decode J_HGrid_formY.2.1 42 = .ok (.bipush 7, 2) := by decide +kernel
theorem J_HGrid_formY_d44 : decode J_HGrid_formY.2.1 44 = .ok (.goto 5, 3) := by decide +kernel
theorem J_HGrid_formY_d47 : decode J_HGrid_formY.2.1 47 = .ok (.bipush 8, 2) := by decide +kernel
theorem J_HGrid_formY_d49 : decode J_HGrid_formY.2.1 49 = .ok (.ireturn, 1) := by decide +kernel
theorem f_HGrid_formY_ok {L : Nat} {xs : Nat → Int32} {dep : Nat} {w : Bool} {p0 : Int32} {p1 : Int32} {M : im_M} {Q : Int32 → Prop} (hM : lw_S w M) (h : ed (f_HGrid_formY p0 p1 M) Q) : ia (tb_G L xs) dep J_HGrid_formY (rpI M Q) (0, lv_args 0 [.ref 38, .int p0, .int p1], [], M) := by
  have hS : im_St (tb_G L xs) dep J_HGrid_formY (ia (tb_G L xs) dep J_HGrid_formY (rpI M Q)) := ia_St
  unfold f_HGrid_formY at h
  have l0 : im_lk (lv_args 0 [.ref 38, .int p0, .int p1]) 0 = some (.ref 38) := rfl
  have l1 : im_lk (lv_args 0 [.ref 38, .int p0, .int p1]) 1 = some (.int p0) := rfl
  have l2 : im_lk (lv_args 0 [.ref 38, .int p0, .int p1]) 2 = some (.int p1) := rfl
  refine iq_iload_n hS 1 J_HGrid_formY_d0 l2 rfl ?_
  refine iq_iconst hS 2 J_HGrid_formY_d1 (v := 1) (by decide +kernel) rfl ?_
  refine iq_icmp_ne hS 5 J_HGrid_formY_d2 (t := 26) rfl (fun q2 => ?_) rfl (fun q2 => ?_)
  · replace h := ed_pos q2 h
    refine iq_iload_n hS 27 J_HGrid_formY_d26 l1 rfl ?_
    refine iq_bipush hS 29 J_HGrid_formY_d27 (v := 6) (by decide +kernel) rfl ?_
    refine iq_icmp_ge hS 32 J_HGrid_formY_d29 (t := 36) rfl (fun q29 => ?_) rfl (fun q29 => ?_)
    · replace h := ed_pos q29 h
      refine iq_iload_n hS 37 J_HGrid_formY_d36 l1 rfl ?_
      refine iq_bipush hS 39 J_HGrid_formY_d37 (v := 6) (by decide +kernel) rfl ?_
      refine iq_icmp_ne hS 42 J_HGrid_formY_d39 (t := 47) rfl (fun q39 => ?_) rfl (fun q39 => ?_)
      · replace h := ed_pos q39 h
        refine iq_bipush hS 49 J_HGrid_formY_d47 (v := 8) (by decide +kernel) rfl ?_
        exact iq_iret J_HGrid_formY_d49 rfl rfl ⟨_, rfl, rfl, ed_some h⟩
      · replace h := ed_neg q39 h
        refine iq_bipush hS 44 J_HGrid_formY_d42 (v := 7) (by decide +kernel) rfl ?_
        refine iq_goto hS J_HGrid_formY_d44 (t := 49) rfl ?_
        exact iq_iret J_HGrid_formY_d49 rfl rfl ⟨_, rfl, rfl, ed_some h⟩
    · replace h := ed_neg q29 h
      refine iq_iload_n hS 33 J_HGrid_formY_d32 l1 rfl ?_
      refine iq_goto hS J_HGrid_formY_d33 (t := 49) rfl ?_
      exact iq_iret J_HGrid_formY_d49 rfl rfl ⟨_, rfl, rfl, ed_some h⟩
  · replace h := ed_neg q2 h
    refine iq_iload_n hS 6 J_HGrid_formY_d5 l1 rfl ?_
    refine iq_bipush hS 8 J_HGrid_formY_d6 (v := 8) (by decide +kernel) rfl ?_
    refine iq_icmp_ge hS 11 J_HGrid_formY_d8 (t := 16) rfl (fun q8 => ?_) rfl (fun q8 => ?_)
    · replace h := ed_pos q8 h
      refine iq_aload_n hS 17 J_HGrid_formY_d16 l0 rfl ?_
      refine iq_getI hS 20 J_HGrid_formY_d17 lf_4_74 (Or.inl rfl) (ka_38 hM) rfl ?_
      refine iq_bipush hS 22 J_HGrid_formY_d20 (v := 15) (by decide +kernel) rfl ?_
      refine iq_isub hS 23 J_HGrid_formY_d22 rfl ?_
      refine iq_iload_n hS 24 J_HGrid_formY_d23 l1 rfl ?_
      refine iq_iadd hS 25 J_HGrid_formY_d24 rfl ?_
      exact iq_iret J_HGrid_formY_d25 rfl rfl ⟨_, rfl, rfl, ed_some h⟩
    · replace h := ed_neg q8 h
      refine iq_bipush hS 13 J_HGrid_formY_d11 (v := 8) (by decide +kernel) rfl ?_
      refine iq_goto hS J_HGrid_formY_d13 (t := 25) rfl ?_
      exact iq_iret J_HGrid_formY_d25 rfl rfl ⟨_, rfl, rfl, ed_some h⟩
noncomputable def f_HGrid_fixForm_L25 (v7 : Int32) (v8 : Int32) (x9 : Int32) (M10 : im_M) : Option ((Int32 × im_M) ⊕ (im_M)) := if 2 ≤ x9 then some (.inr M10) else bd1 (f_HGrid_formX v8 x9 M10) fun (x11 : Int32) => bd1 (f_HGrid_formY v8 x9 M10) fun (x12 : Int32) => bd1 (f_HGrid_fix x11 x12 ((if ((v7 >>> (v8 &&& 31)) &&& 1) = 0 then 0 else 1) : Int32) M10) fun (M14 : im_M) => some (.inl ((x9 + 1), M14))
noncomputable def f_HGrid_fixForm_L15 (v3 : Int32) (x4 : Int32) (M5 : im_M) : Option ((Int32 × im_M) ⊕ (im_M)) := if 15 ≤ x4 then some (.inr M5) else bd1 (lp (uc2 (f_HGrid_fixForm_L25 v3 x4)) (0, M5)) fun (M15 : im_M) => some (.inl ((x4 + 1), M15))
noncomputable def f_HGrid_fixForm (p0 : Int32) (p1 : Int32) (M : im_M) : Option (im_M) := bd1 (f_HGrid_formWord (((8 : Int32) * (p0 ^^^ 1)) + p1) M) fun (x1 : Int32) => bd1 (lp (uc2 (f_HGrid_fixForm_L15 x1)) (0, M)) fun (M16 : im_M) => some M16
theorem J_HGrid_fixForm_d0 : decode J_HGrid_fixForm.2.1 0 = .ok (.bipush 8, 2) := by decide +kernel
theorem J_HGrid_fixForm_d2 : decode J_HGrid_fixForm.2.1 2 = .ok (.iload_n 1, 1) := by decide +kernel
theorem J_HGrid_fixForm_d3 : decode J_HGrid_fixForm.2.1 3 = .ok (.iconst 1, 1) := by decide +kernel
theorem J_HGrid_fixForm_d4 : decode J_HGrid_fixForm.2.1 4 = .ok (.ixor, 1) := by decide +kernel
theorem J_HGrid_fixForm_d5 : decode J_HGrid_fixForm.2.1 5 = .ok (.imul, 1) := by decide +kernel
theorem J_HGrid_fixForm_d6 : decode J_HGrid_fixForm.2.1 6 = .ok (.iload_n 2, 1) := by decide +kernel
theorem J_HGrid_fixForm_d7 : decode J_HGrid_fixForm.2.1 7 = .ok (.iadd, 1) := by decide +kernel
theorem J_HGrid_fixForm_d8 : decode J_HGrid_fixForm.2.1 8 = .ok (.invokestatic 113, 3) := by decide +kernel
theorem J_HGrid_fixForm_d11 : decode J_HGrid_fixForm.2.1 11 = .ok (.istore_n 3, 1) := by decide +kernel
theorem J_HGrid_fixForm_d12 : decode J_HGrid_fixForm.2.1 12 = .ok (.iconst 0, 1) := by decide +kernel
theorem J_HGrid_fixForm_d13 : decode J_HGrid_fixForm.2.1 13 = .ok (.istore 4, 2) := by decide +kernel
theorem J_HGrid_fixForm_d15 : decode J_HGrid_fixForm.2.1 15 = .ok (.iload 4, 2) := by decide +kernel
theorem J_HGrid_fixForm_d17 : decode J_HGrid_fixForm.2.1 17 = .ok (.bipush 15, 2) := by decide +kernel
theorem J_HGrid_fixForm_d19 : decode J_HGrid_fixForm.2.1 19 = .ok (.if_icmp .ge 58, 3) := by decide +kernel
theorem J_HGrid_fixForm_d22 : decode J_HGrid_fixForm.2.1 22 = .ok (.iconst 0, 1) := by decide +kernel
theorem J_HGrid_fixForm_d23 : decode J_HGrid_fixForm.2.1 23 = .ok (.istore 5, 2) := by decide +kernel
theorem J_HGrid_fixForm_d25 : decode J_HGrid_fixForm.2.1 25 = .ok (.iload 5, 2) := by decide +kernel
theorem J_HGrid_fixForm_d27 : decode J_HGrid_fixForm.2.1 27 = .ok (.iconst 2, 1) := by decide +kernel
theorem J_HGrid_fixForm_d28 : decode J_HGrid_fixForm.2.1 28 = .ok (.if_icmp .ge 43, 3) := by decide +kernel
theorem J_HGrid_fixForm_d31 : decode J_HGrid_fixForm.2.1 31 = .ok (.aload_n 0, 1) := by decide +kernel
theorem J_HGrid_fixForm_d32 : decode J_HGrid_fixForm.2.1 32 = .ok (.aload_n 0, 1) := by decide +kernel
theorem J_HGrid_fixForm_d33 : decode J_HGrid_fixForm.2.1 33 = .ok (.iload 4, 2) := by decide +kernel
theorem J_HGrid_fixForm_d35 : decode J_HGrid_fixForm.2.1 35 = .ok (.iload 5, 2) := by decide +kernel
theorem J_HGrid_fixForm_d37 : decode J_HGrid_fixForm.2.1 37 = .ok (.invokevirtual 116, 3) := by decide +kernel
theorem J_HGrid_fixForm_d40 : decode J_HGrid_fixForm.2.1 40 = .ok (.aload_n 0, 1) := by decide +kernel
theorem J_HGrid_fixForm_d41 : decode J_HGrid_fixForm.2.1 41 = .ok (.iload 4, 2) := by decide +kernel
theorem J_HGrid_fixForm_d43 : decode J_HGrid_fixForm.2.1 43 = .ok (.iload 5, 2) := by decide +kernel
theorem J_HGrid_fixForm_d45 : decode J_HGrid_fixForm.2.1 45 = .ok (.invokevirtual 119, 3) := by decide +kernel
theorem J_HGrid_fixForm_d48 : decode J_HGrid_fixForm.2.1 48 = .ok (.iload_n 3, 1) := by decide +kernel
theorem J_HGrid_fixForm_d49 : decode J_HGrid_fixForm.2.1 49 = .ok (.iload 4, 2) := by decide +kernel
theorem J_HGrid_fixForm_d51 : decode J_HGrid_fixForm.2.1 51 = .ok (.ishr, 1) := by decide +kernel
theorem J_HGrid_fixForm_d52 : decode J_HGrid_fixForm.2.1 52 = .ok (.iconst 1, 1) := by decide +kernel
theorem J_HGrid_fixForm_d53 : decode J_HGrid_fixForm.2.1 53 = .ok (.iand, 1) := by decide +kernel
theorem J_HGrid_fixForm_d54 : decode J_HGrid_fixForm.2.1 54 = .ok (.ifCond .eq 7, 3) := by decide +kernel
theorem J_HGrid_fixForm_d57 : decode J_HGrid_fixForm.2.1 57 = .ok (.iconst 1, 1) := by decide +kernel
theorem J_HGrid_fixForm_d58 : decode J_HGrid_fixForm.2.1 58 = .ok (.goto 4, 3) := by decide +kernel
theorem J_HGrid_fixForm_d61 : decode J_HGrid_fixForm.2.1 61 = .ok (.iconst 0, 1) := by decide +kernel
theorem J_HGrid_fixForm_d62 : decode J_HGrid_fixForm.2.1 62 = .ok (.invokevirtual 83, 3) := by decide +kernel
theorem J_HGrid_fixForm_d65 : decode J_HGrid_fixForm.2.1 65 = .ok (.iinc 5 1, 3) := by decide +kernel
theorem J_HGrid_fixForm_d68 : decode J_HGrid_fixForm.2.1 68 = .ok (.goto (-43), 3) := by decide +kernel
theorem J_HGrid_fixForm_d71 : decode J_HGrid_fixForm.2.1 71 = .ok (.iinc 4 1, 3) := by decide +kernel
theorem J_HGrid_fixForm_d74 : decode J_HGrid_fixForm.2.1 74 = .ok (.goto (-59), 3) := by decide +kernel
theorem J_HGrid_fixForm_d77 : decode J_HGrid_fixForm.2.1 77 = .ok (.return_, 1) := by decide +kernel
theorem f_HGrid_fixForm_ok {L : Nat} {xs : Nat → Int32} {dep : Nat} {w : Bool} {p0 : Int32} {p1 : Int32} {M : im_M} {Q : im_M → Prop} (hM : lw_S w M) (h : ed (f_HGrid_fixForm p0 p1 M) Q) : ia (tb_G L xs) (dep + 2) J_HGrid_fixForm (rwV w Q) (0, lv_args 0 [.ref 38, .int p0, .int p1], [], M) := by
  have hS : im_St (tb_G L xs) (dep + 2) J_HGrid_fixForm (ia (tb_G L xs) (dep + 2) J_HGrid_fixForm (rwV w Q)) := ia_St
  unfold f_HGrid_fixForm at h
  have l0 : im_lk (lv_args 0 [.ref 38, .int p0, .int p1]) 0 = some (.ref 38) := rfl
  have l1 : im_lk (lv_args 0 [.ref 38, .int p0, .int p1]) 1 = some (.int p0) := rfl
  have l2 : im_lk (lv_args 0 [.ref 38, .int p0, .int p1]) 2 = some (.int p1) := rfl
  refine iq_bipush hS 2 J_HGrid_fixForm_d0 (v := 8) (by decide +kernel) rfl ?_
  refine iq_iload_n hS 3 J_HGrid_fixForm_d2 l1 rfl ?_
  refine iq_iconst hS 4 J_HGrid_fixForm_d3 (v := 1) (by decide +kernel) rfl ?_
  refine iq_ixor hS 5 J_HGrid_fixForm_d4 rfl ?_
  refine iq_imul hS 6 J_HGrid_fixForm_d5 rfl ?_
  refine iq_iload_n hS 7 J_HGrid_fixForm_d6 l2 rfl ?_
  refine iq_iadd hS 8 J_HGrid_fixForm_d7 rfl ?_
  obtain ⟨Q1, hQ1, h⟩ := bd1_ed h
  refine iq_cpI hS 11 J_HGrid_fixForm_d8 rfl (pr_stat (vs := [_]) lc_4_113 lT_162 rfl rfl (by decide) rfl (Nat.le_of_ble_eq_true rfl) (Nat.le_of_ble_eq_true rfl)) (f_HGrid_formWord_ok (dep := dep + 0) hM h) rfl ?_
  intro x1 h
  replace h := hQ1 _ h
  refine iq_istore_n hS 12 J_HGrid_fixForm_d11 (by decide) rfl ?_
  refine iq_iconst hS 13 J_HGrid_fixForm_d12 (v := 0) (by decide +kernel) rfl ?_
  refine iq_istore hS 15 J_HGrid_fixForm_d13 (by decide) rfl ?_
  obtain ⟨Q2, hQ2, h⟩ := bd1_ed h
  have K2 : ∀ (M3 : im_M) (L' : List (Nat × Value)), lw_S w M3 → Q2 M3 → ia (tb_G L xs) (dep + 2) J_HGrid_fixForm (rwV w Q) (77, L', [], M3) := by
    intro M3 L' hM3  h
    replace h := hQ2 _ h
    exact iq_ret J_HGrid_fixForm_d77 rfl ⟨rfl, hM3, ed_some h⟩
  obtain ⟨r2, hr2, hq2⟩ := h
  obtain ⟨n2, hn2⟩ := lp_n hr2
  have I2 : ∀ (n : Nat) (x4 : Int32) (M5 : im_M) (L' : List (Nat × Value)), lw_S w M5 → im_lk L' 0 = some (.ref 38) → im_lk L' 3 = some (.int x1) → im_lk L' 4 = some (.int x4) → lpn (uc2 (f_HGrid_fixForm_L15 x1)) n (x4, M5) = some r2 → ia (tb_G L xs) (dep + 2) J_HGrid_fixForm (rwV w Q) (15, L', [], M5) := by
    intro n
    induction n with
    | zero => intro x4 M5 L' hM5 l6 l7 l8 hn; exact (lpn_0 hn).elim
    | succ n ih =>
      intro x4 M5 L' hM5 l6 l7 l8 hn
      have h := lpn_ed2 hn
      unfold f_HGrid_fixForm_L15 at h
      refine iq_iload hS 17 J_HGrid_fixForm_d15 l8 rfl ?_
      refine iq_bipush hS 19 J_HGrid_fixForm_d17 (v := 15) (by decide +kernel) rfl ?_
      refine iq_icmp_ge hS 22 J_HGrid_fixForm_d19 (t := 77) rfl (fun q19 => ?_) rfl (fun q19 => ?_)
      · replace h := ed_pos q19 h
        exact K2 _ _ hM5  (lq_r h hq2)
      · replace h := ed_neg q19 h
        refine iq_iconst hS 23 J_HGrid_fixForm_d22 (v := 0) (by decide +kernel) rfl ?_
        refine iq_istore hS 25 J_HGrid_fixForm_d23 (by decide) rfl ?_
        obtain ⟨Q9, hQ9, h⟩ := bd1_ed h
        have K9 : ∀ (M10 : im_M) (L' : List (Nat × Value)), lw_S w M10 → im_lk L' 0 = some (.ref 38) → im_lk L' 3 = some (.int x1) → im_lk L' 4 = some (.int x4) → Q9 M10 → ia (tb_G L xs) (dep + 2) J_HGrid_fixForm (rwV w Q) (71, L', [], M10) := by
          intro M10 L' hM10 l11 l12 l13 h
          replace h := hQ9 _ h
          refine iq_iincv hS 74 J_HGrid_fixForm_d71 (c := 1) (by decide +kernel) l13 (by decide) rfl ?_
          refine iq_goto hS J_HGrid_fixForm_d74 (t := 15) rfl ?_
          exact ih _ _ _ hM10 (lk_1r l11 (by decide)) (lk_1i l12 (by decide)) lk_1s (lq_l h)
        obtain ⟨r9, hr9, hq9⟩ := h
        obtain ⟨n9, hn9⟩ := lp_n hr9
        have I9 : ∀ (n : Nat) (x14 : Int32) (M15 : im_M) (L' : List (Nat × Value)), lw_S w M15 → im_lk L' 0 = some (.ref 38) → im_lk L' 3 = some (.int x1) → im_lk L' 4 = some (.int x4) → im_lk L' 5 = some (.int x14) → lpn (uc2 (f_HGrid_fixForm_L25 x1 x4)) n (x14, M15) = some r9 → ia (tb_G L xs) (dep + 2) J_HGrid_fixForm (rwV w Q) (25, L', [], M15) := by
          intro n
          induction n with
          | zero => intro x14 M15 L' hM15 l16 l17 l18 l19 hn; exact (lpn_0 hn).elim
          | succ n ih =>
            intro x14 M15 L' hM15 l16 l17 l18 l19 hn
            have h := lpn_ed2 hn
            unfold f_HGrid_fixForm_L25 at h
            refine iq_iload hS 27 J_HGrid_fixForm_d25 l19 rfl ?_
            refine iq_iconst hS 28 J_HGrid_fixForm_d27 (v := 2) (by decide +kernel) rfl ?_
            refine iq_icmp_ge hS 31 J_HGrid_fixForm_d28 (t := 71) rfl (fun q28 => ?_) rfl (fun q28 => ?_)
            · replace h := ed_pos q28 h
              exact K9 _ _ hM15 l16 l17 l18 (lq_r h hq9)
            · replace h := ed_neg q28 h
              refine iq_aload_n hS 32 J_HGrid_fixForm_d31 l16 rfl ?_
              refine iq_aload_n hS 33 J_HGrid_fixForm_d32 l16 rfl ?_
              refine iq_iload hS 35 J_HGrid_fixForm_d33 l18 rfl ?_
              refine iq_iload hS 37 J_HGrid_fixForm_d35 l19 rfl ?_
              obtain ⟨Q20, hQ20, h⟩ := bd1_ed h
              refine iq_cpI hS 40 J_HGrid_fixForm_d37 rfl (pr_inst (vs := [_, _]) lc_4_116 lT_164 rfl rfl (by decide) (by decide) rfl (Nat.le_of_ble_eq_true rfl) (Nat.le_of_ble_eq_true rfl) (fun _ => Or.inl (pr_b (ka_38 hM15) (by decide) rfl))) (f_HGrid_formX_ok (dep := dep + 1) hM15 h) rfl ?_
              intro x20 h
              replace h := hQ20 _ h
              refine iq_aload_n hS 41 J_HGrid_fixForm_d40 l16 rfl ?_
              refine iq_iload hS 43 J_HGrid_fixForm_d41 l18 rfl ?_
              refine iq_iload hS 45 J_HGrid_fixForm_d43 l19 rfl ?_
              obtain ⟨Q21, hQ21, h⟩ := bd1_ed h
              refine iq_cpI hS 48 J_HGrid_fixForm_d45 rfl (pr_inst (vs := [_, _]) lc_4_119 lT_165 rfl rfl (by decide) (by decide) rfl (Nat.le_of_ble_eq_true rfl) (Nat.le_of_ble_eq_true rfl) (fun _ => Or.inl (pr_b (ka_38 hM15) (by decide) rfl))) (f_HGrid_formY_ok (dep := dep + 1) hM15 h) rfl ?_
              intro x21 h
              replace h := hQ21 _ h
              refine iq_iload_n hS 49 J_HGrid_fixForm_d48 l17 rfl ?_
              refine iq_iload hS 51 J_HGrid_fixForm_d49 l18 rfl ?_
              refine iq_ishr hS 52 J_HGrid_fixForm_d51 rfl ?_
              refine iq_iconst hS 53 J_HGrid_fixForm_d52 (v := 1) (by decide +kernel) rfl ?_
              refine iq_iand hS 54 J_HGrid_fixForm_d53 rfl ?_
              have J22 : ∀ (z23 : Int32) (L' : List (Nat × Value)), z23 = ((if ((x1 >>> (x4 &&& 31)) &&& 1) = 0 then 0 else 1) : Int32) → im_lk L' 0 = some (.ref 38) → im_lk L' 3 = some (.int x1) → im_lk L' 4 = some (.int x4) → im_lk L' 5 = some (.int x14) → ia (tb_G L xs) (dep + 2) J_HGrid_fixForm (rwV w Q) (62, L', [.int z23, .int x21, .int x20, .ref 38], M15) := by
                intro z23 L' e24 l25 l26 l27 l28
                subst e24
                obtain ⟨Q29, hQ29, h⟩ := bd1_ed h
                refine iq_cwV hS 65 J_HGrid_fixForm_d62 rfl (pr_inst (vs := [_, _, _]) lc_4_83 lT_156 rfl rfl (by decide) (by decide) rfl (Nat.le_of_ble_eq_true rfl) (Nat.le_of_ble_eq_true rfl) (fun _ => Or.inl (pr_b (ka_38 hM15) (by decide) rfl))) (f_HGrid_fix_ok (dep := dep + 1) hM15 h) rfl ?_
                intro M29 hM29 h
                replace h := hQ29 _ h
                refine iq_iincv hS 68 J_HGrid_fixForm_d65 (c := 1) (by decide +kernel) l28 (by decide) rfl ?_
                refine iq_goto hS J_HGrid_fixForm_d68 (t := 25) rfl ?_
                exact ih _ _ _ hM29 (lk_1r l25 (by decide)) (lk_1i l26 (by decide)) (lk_1i l27 (by decide)) lk_1s (lq_l h)
              refine iq_if_eq hS 57 J_HGrid_fixForm_d54 (t := 61) rfl (fun q54 => ?_) rfl (fun q54 => ?_)
              · refine iq_iconst hS 62 J_HGrid_fixForm_d61 (v := 0) (by decide +kernel) rfl ?_
                exact J22 _ _ (by rw [if_pos q54]) l16 l17 l18 l19
              · refine iq_iconst hS 58 J_HGrid_fixForm_d57 (v := 1) (by decide +kernel) rfl ?_
                refine iq_goto hS J_HGrid_fixForm_d58 (t := 62) rfl ?_
                exact J22 _ _ (by rw [if_neg q54]) l16 l17 l18 l19
        exact I9 n9 _ _ _ hM5 (lk_1r l6 (by decide)) (lk_1i l7 (by decide)) (lk_1i l8 (by decide)) lk_1s hn9
  exact I2 n2 _ _ _ hM (lk_1r (lk_1r l0 (by decide)) (by decide)) (lk_1i lk_1s (by decide)) lk_1s hn2
noncomputable def f_HGrid_fixVersion_L28 (v3 : Int32) (x4 : Int32) (M5 : im_M) : Option ((Int32 × im_M) ⊕ (im_M)) := if 18 ≤ x4 then some (.inr M5) else bd1 (f_HGrid_fix (((im_i M5 38 1) - 11) + (x4 - x4 / 3 * 3)) (x4 / 3) ((if ((v3 >>> (x4 &&& 31)) &&& 1) = 0 then 0 else 1) : Int32) M5) fun (M7 : im_M) => bd1 (f_HGrid_fix (x4 / 3) (((im_i M7 38 1) - 11) + (x4 - x4 / 3 * 3)) ((if ((v3 >>> (x4 &&& 31)) &&& 1) = 0 then 0 else 1) : Int32) M7) fun (M8 : im_M) => some (.inl ((x4 + 1), M8))
noncomputable def f_HGrid_fixVersion (M : im_M) : Option (im_M) := bd1 (f_HGrid_rest ((im_i M 38 6) <<< (12 &&& 31)) 7973 12 18 M) fun (x1 : Int32) => bd1 (lp (uc2 (f_HGrid_fixVersion_L28 (((im_i M 38 6) <<< (12 &&& 31)) ||| x1))) (0, M)) fun (M9 : im_M) => some M9
theorem J_HGrid_fixVersion_d0 : decode J_HGrid_fixVersion.2.1 0 = .ok (.aload_n 0, 1) := by decide +kernel
theorem J_HGrid_fixVersion_d1 : decode J_HGrid_fixVersion.2.1 1 = .ok (.getfield 71, 3) := by decide +kernel
theorem J_HGrid_fixVersion_d4 : decode J_HGrid_fixVersion.2.1 4 = .ok (.bipush 12, 2) := by decide +kernel
theorem J_HGrid_fixVersion_d6 : decode J_HGrid_fixVersion.2.1 6 = .ok (.ishl, 1) := by decide +kernel
theorem J_HGrid_fixVersion_d7 : decode J_HGrid_fixVersion.2.1 7 = .ok (.aload_n 0, 1) := by decide +kernel
theorem J_HGrid_fixVersion_d8 : decode J_HGrid_fixVersion.2.1 8 = .ok (.getfield 71, 3) := by decide +kernel
theorem J_HGrid_fixVersion_d11 : decode J_HGrid_fixVersion.2.1 11 = .ok (.bipush 12, 2) := by decide +kernel
theorem J_HGrid_fixVersion_d13 : decode J_HGrid_fixVersion.2.1 13 = .ok (.ishl, 1) := by decide +kernel
theorem J_HGrid_fixVersion_d14 : decode J_HGrid_fixVersion.2.1 14 = .ok (.sipush 7973, 3) := by decide +kernel
theorem J_HGrid_fixVersion_d17 : decode J_HGrid_fixVersion.2.1 17 = .ok (.bipush 12, 2) := by decide +kernel
theorem J_HGrid_fixVersion_d19 : decode J_HGrid_fixVersion.2.1 19 = .ok (.bipush 18, 2) := by decide +kernel
theorem J_HGrid_fixVersion_d21 : decode J_HGrid_fixVersion.2.1 21 = .ok (.invokestatic 109, 3) := by decide +kernel
theorem J_HGrid_fixVersion_d24 : decode J_HGrid_fixVersion.2.1 24 = .ok (.ior, 1) := by decide +kernel
theorem J_HGrid_fixVersion_d25 : decode J_HGrid_fixVersion.2.1 25 = .ok (.istore_n 1, 1) := by decide +kernel
theorem J_HGrid_fixVersion_d26 : decode J_HGrid_fixVersion.2.1 26 = .ok (.iconst 0, 1) := by decide +kernel
theorem J_HGrid_fixVersion_d27 : decode J_HGrid_fixVersion.2.1 27 = .ok (.istore_n 2, 1) := by decide +kernel
theorem J_HGrid_fixVersion_d28 : decode J_HGrid_fixVersion.2.1 28 = .ok (.iload_n 2, 1) := by decide +kernel
theorem J_HGrid_fixVersion_d29 : decode J_HGrid_fixVersion.2.1 29 = .ok (.bipush 18, 2) := by decide +kernel
theorem J_HGrid_fixVersion_d31 : decode J_HGrid_fixVersion.2.1 31 = .ok (.if_icmp .ge 61, 3) := by decide +kernel
theorem J_HGrid_fixVersion_d34 : decode J_HGrid_fixVersion.2.1 34 = .ok (.iload_n 1, 1) := by decide +kernel
theorem J_HGrid_fixVersion_d35 : decode J_HGrid_fixVersion.2.1 35 = .ok (.iload_n 2, 1) := by decide +kernel
theorem J_HGrid_fixVersion_d36 : decode J_HGrid_fixVersion.2.1 36 = .ok (.ishr, 1) := by decide +kernel
theorem J_HGrid_fixVersion_d37 : decode J_HGrid_fixVersion.2.1 37 = .ok (.iconst 1, 1) := by decide +kernel
theorem J_HGrid_fixVersion_d38 : decode J_HGrid_fixVersion.2.1 38 = .ok (.iand, 1) := by decide +kernel
theorem J_HGrid_fixVersion_d39 : decode J_HGrid_fixVersion.2.1 39 = .ok (.ifCond .eq 7, 3) := by decide +kernel
theorem J_HGrid_fixVersion_d42 : decode J_HGrid_fixVersion.2.1 42 = .ok (.iconst 1, 1) := by decide +kernel
theorem J_HGrid_fixVersion_d43 : decode J_HGrid_fixVersion.2.1 43 = .ok (.goto 4, 3) := by decide +kernel
theorem J_HGrid_fixVersion_d46 : decode J_HGrid_fixVersion.2.1 46 = .ok (.iconst 0, 1) := by decide +kernel
theorem J_HGrid_fixVersion_d47 : decode J_HGrid_fixVersion.2.1 47 = .ok (.istore_n 3, 1) := by decide +kernel
theorem J_HGrid_fixVersion_d48 : decode J_HGrid_fixVersion.2.1 48 = .ok (.aload_n 0, 1) := by decide +kernel
theorem J_HGrid_fixVersion_d49 : decode J_HGrid_fixVersion.2.1 49 = .ok (.aload_n 0, 1) := by decide +kernel
theorem J_HGrid_fixVersion_d50 : decode J_HGrid_fixVersion.2.1 50 = .ok (.getfield 74, 3) := by decide +kernel
theorem J_HGrid_fixVersion_d53 : decode J_HGrid_fixVersion.2.1 53 = .ok (.bipush 11, 2) := by decide +kernel
theorem J_HGrid_fixVersion_d55 : decode J_HGrid_fixVersion.2.1 55 = .ok (.isub, 1) := by decide +kernel
theorem J_HGrid_fixVersion_d56 : decode J_HGrid_fixVersion.2.1 56 = .ok (.iload_n 2, 1) := by decide +kernel
theorem J_HGrid_fixVersion_d57 : decode J_HGrid_fixVersion.2.1 57 = .ok (.iconst 3, 1) := by decide +kernel
theorem J_HGrid_fixVersion_d58 : decode J_HGrid_fixVersion.2.1 58 = .ok (.irem, 1) := by decide +kernel
theorem J_HGrid_fixVersion_d59 : decode J_HGrid_fixVersion.2.1 59 = .ok (.iadd, 1) := by decide +kernel
theorem J_HGrid_fixVersion_d60 : decode J_HGrid_fixVersion.2.1 60 = .ok (.iload_n 2, 1) := by decide +kernel
theorem J_HGrid_fixVersion_d61 : decode J_HGrid_fixVersion.2.1 61 = .ok (.iconst 3, 1) := by decide +kernel
theorem J_HGrid_fixVersion_d62 : decode J_HGrid_fixVersion.2.1 62 = .ok (.idiv, 1) := by decide +kernel
theorem J_HGrid_fixVersion_d63 : decode J_HGrid_fixVersion.2.1 63 = .ok (.iload_n 3, 1) := by decide +kernel
theorem J_HGrid_fixVersion_d64 : decode J_HGrid_fixVersion.2.1 64 = .ok (.invokevirtual 83, 3) := by decide +kernel
theorem J_HGrid_fixVersion_d67 : decode J_HGrid_fixVersion.2.1 67 = .ok (.aload_n 0, 1) := by decide +kernel
theorem J_HGrid_fixVersion_d68 : decode J_HGrid_fixVersion.2.1 68 = .ok (.iload_n 2, 1) := by decide +kernel
theorem J_HGrid_fixVersion_d69 : decode J_HGrid_fixVersion.2.1 69 = .ok (.iconst 3, 1) := by decide +kernel
theorem J_HGrid_fixVersion_d70 : decode J_HGrid_fixVersion.2.1 70 = .ok (.idiv, 1) := by decide +kernel
theorem J_HGrid_fixVersion_d71 : decode J_HGrid_fixVersion.2.1 71 = .ok (.aload_n 0, 1) := by decide +kernel
theorem J_HGrid_fixVersion_d72 : decode J_HGrid_fixVersion.2.1 72 = .ok (.getfield 74, 3) := by decide +kernel
theorem J_HGrid_fixVersion_d75 : decode J_HGrid_fixVersion.2.1 75 = .ok (.bipush 11, 2) := by decide +kernel
theorem J_HGrid_fixVersion_d77 : decode J_HGrid_fixVersion.2.1 77 = .ok (.isub, 1) := by decide +kernel
theorem J_HGrid_fixVersion_d78 : decode J_HGrid_fixVersion.2.1 78 = .ok (.iload_n 2, 1) := by decide +kernel
theorem J_HGrid_fixVersion_d79 : decode J_HGrid_fixVersion.2.1 79 = .ok (.iconst 3, 1) := by decide +kernel
theorem J_HGrid_fixVersion_d80 : decode J_HGrid_fixVersion.2.1 80 = .ok (.irem, 1) := by decide +kernel
theorem J_HGrid_fixVersion_d81 : decode J_HGrid_fixVersion.2.1 81 = .ok (.iadd, 1) := by decide +kernel
theorem J_HGrid_fixVersion_d82 : decode J_HGrid_fixVersion.2.1 82 = .ok (.iload_n 3, 1) := by decide +kernel
theorem J_HGrid_fixVersion_d83 : decode J_HGrid_fixVersion.2.1 83 = .ok (.invokevirtual 83, 3) := by decide +kernel
theorem J_HGrid_fixVersion_d86 : decode J_HGrid_fixVersion.2.1 86 = .ok (.iinc 2 1, 3) := by decide +kernel
theorem J_HGrid_fixVersion_d89 : decode J_HGrid_fixVersion.2.1 89 = .ok (.goto (-61), 3) := by decide +kernel
theorem J_HGrid_fixVersion_d92 : decode J_HGrid_fixVersion.2.1 92 = .ok (.return_, 1) := by decide +kernel
theorem f_HGrid_fixVersion_ok {L : Nat} {xs : Nat → Int32} {dep : Nat} {w : Bool} {M : im_M} {Q : im_M → Prop} (hM : lw_S w M) (h : ed (f_HGrid_fixVersion M) Q) : ia (tb_G L xs) (dep + 1) J_HGrid_fixVersion (rwV w Q) (0, lv_args 0 [.ref 38], [], M) := by
  have hS : im_St (tb_G L xs) (dep + 1) J_HGrid_fixVersion (ia (tb_G L xs) (dep + 1) J_HGrid_fixVersion (rwV w Q)) := ia_St
  unfold f_HGrid_fixVersion at h
  have l0 : im_lk (lv_args 0 [.ref 38]) 0 = some (.ref 38) := rfl
  refine iq_aload_n hS 1 J_HGrid_fixVersion_d0 l0 rfl ?_
  refine iq_getI hS 4 J_HGrid_fixVersion_d1 lf_4_71 (Or.inl rfl) (ka_38 hM) rfl ?_
  refine iq_bipush hS 6 J_HGrid_fixVersion_d4 (v := 12) (by decide +kernel) rfl ?_
  refine iq_ishl hS 7 J_HGrid_fixVersion_d6 rfl ?_
  refine iq_aload_n hS 8 J_HGrid_fixVersion_d7 l0 rfl ?_
  refine iq_getI hS 11 J_HGrid_fixVersion_d8 lf_4_71 (Or.inl rfl) (ka_38 hM) rfl ?_
  refine iq_bipush hS 13 J_HGrid_fixVersion_d11 (v := 12) (by decide +kernel) rfl ?_
  refine iq_ishl hS 14 J_HGrid_fixVersion_d13 rfl ?_
  refine iq_sipush hS 17 J_HGrid_fixVersion_d14 (v := 7973) (by decide +kernel) rfl ?_
  refine iq_bipush hS 19 J_HGrid_fixVersion_d17 (v := 12) (by decide +kernel) rfl ?_
  refine iq_bipush hS 21 J_HGrid_fixVersion_d19 (v := 18) (by decide +kernel) rfl ?_
  obtain ⟨Q1, hQ1, h⟩ := bd1_ed h
  refine iq_cpI hS 24 J_HGrid_fixVersion_d21 rfl (pr_stat (vs := [_, _, _, _]) lc_4_109 lT_163 rfl rfl (by decide) rfl (Nat.le_of_ble_eq_true rfl) (Nat.le_of_ble_eq_true rfl)) (f_HGrid_rest_ok (dep := dep + 0) hM h) rfl ?_
  intro x1 h
  replace h := hQ1 _ h
  refine iq_ior hS 25 J_HGrid_fixVersion_d24 rfl ?_
  refine iq_istore_n hS 26 J_HGrid_fixVersion_d25 (by decide) rfl ?_
  refine iq_iconst hS 27 J_HGrid_fixVersion_d26 (v := 0) (by decide +kernel) rfl ?_
  refine iq_istore_n hS 28 J_HGrid_fixVersion_d27 (by decide) rfl ?_
  obtain ⟨Q2, hQ2, h⟩ := bd1_ed h
  have K2 : ∀ (M3 : im_M) (L' : List (Nat × Value)), lw_S w M3 → Q2 M3 → ia (tb_G L xs) (dep + 1) J_HGrid_fixVersion (rwV w Q) (92, L', [], M3) := by
    intro M3 L' hM3  h
    replace h := hQ2 _ h
    exact iq_ret J_HGrid_fixVersion_d92 rfl ⟨rfl, hM3, ed_some h⟩
  obtain ⟨r2, hr2, hq2⟩ := h
  obtain ⟨n2, hn2⟩ := lp_n hr2
  have I2 : ∀ (n : Nat) (x4 : Int32) (M5 : im_M) (L' : List (Nat × Value)), lw_S w M5 → im_lk L' 0 = some (.ref 38) → im_lk L' 1 = some (.int (((im_i M 38 6) <<< (12 &&& 31)) ||| x1)) → im_lk L' 2 = some (.int x4) → lpn (uc2 (f_HGrid_fixVersion_L28 (((im_i M 38 6) <<< (12 &&& 31)) ||| x1))) n (x4, M5) = some r2 → ia (tb_G L xs) (dep + 1) J_HGrid_fixVersion (rwV w Q) (28, L', [], M5) := by
    intro n
    induction n with
    | zero => intro x4 M5 L' hM5 l6 l7 l8 hn; exact (lpn_0 hn).elim
    | succ n ih =>
      intro x4 M5 L' hM5 l6 l7 l8 hn
      have h := lpn_ed2 hn
      unfold f_HGrid_fixVersion_L28 at h
      refine iq_iload_n hS 29 J_HGrid_fixVersion_d28 l8 rfl ?_
      refine iq_bipush hS 31 J_HGrid_fixVersion_d29 (v := 18) (by decide +kernel) rfl ?_
      refine iq_icmp_ge hS 34 J_HGrid_fixVersion_d31 (t := 92) rfl (fun q31 => ?_) rfl (fun q31 => ?_)
      · replace h := ed_pos q31 h
        exact K2 _ _ hM5  (lq_r h hq2)
      · replace h := ed_neg q31 h
        refine iq_iload_n hS 35 J_HGrid_fixVersion_d34 l7 rfl ?_
        refine iq_iload_n hS 36 J_HGrid_fixVersion_d35 l8 rfl ?_
        refine iq_ishr hS 37 J_HGrid_fixVersion_d36 rfl ?_
        refine iq_iconst hS 38 J_HGrid_fixVersion_d37 (v := 1) (by decide +kernel) rfl ?_
        refine iq_iand hS 39 J_HGrid_fixVersion_d38 rfl ?_
        have J9 : ∀ (z10 : Int32) (L' : List (Nat × Value)), z10 = ((if (((((im_i M 38 6) <<< (12 &&& 31)) ||| x1) >>> (x4 &&& 31)) &&& 1) = 0 then 0 else 1) : Int32) → im_lk L' 0 = some (.ref 38) → im_lk L' 1 = some (.int (((im_i M 38 6) <<< (12 &&& 31)) ||| x1)) → im_lk L' 2 = some (.int x4) → ia (tb_G L xs) (dep + 1) J_HGrid_fixVersion (rwV w Q) (47, L', [.int z10], M5) := by
          intro z10 L' e11 l12 l13 l14
          subst e11
          refine iq_istore_n hS 48 J_HGrid_fixVersion_d47 (by decide) rfl ?_
          refine iq_aload_n hS 49 J_HGrid_fixVersion_d48 (lk_1r l12 (by decide)) rfl ?_
          refine iq_aload_n hS 50 J_HGrid_fixVersion_d49 (lk_1r l12 (by decide)) rfl ?_
          refine iq_getI hS 53 J_HGrid_fixVersion_d50 lf_4_74 (Or.inl rfl) (ka_38 hM5) rfl ?_
          refine iq_bipush hS 55 J_HGrid_fixVersion_d53 (v := 11) (by decide +kernel) rfl ?_
          refine iq_isub hS 56 J_HGrid_fixVersion_d55 rfl ?_
          refine iq_iload_n hS 57 J_HGrid_fixVersion_d56 (lk_1i l14 (by decide)) rfl ?_
          refine iq_iconst hS 58 J_HGrid_fixVersion_d57 (v := 3) (by decide +kernel) rfl ?_
          refine iq_irem hS 59 J_HGrid_fixVersion_d58 (by decide) rfl ?_
          refine iq_iadd hS 60 J_HGrid_fixVersion_d59 rfl ?_
          refine iq_iload_n hS 61 J_HGrid_fixVersion_d60 (lk_1i l14 (by decide)) rfl ?_
          refine iq_iconst hS 62 J_HGrid_fixVersion_d61 (v := 3) (by decide +kernel) rfl ?_
          refine iq_idiv hS 63 J_HGrid_fixVersion_d62 (by decide) rfl ?_
          refine iq_iload_n hS 64 J_HGrid_fixVersion_d63 lk_1s rfl ?_
          obtain ⟨Q15, hQ15, h⟩ := bd1_ed h
          refine iq_cwV hS 67 J_HGrid_fixVersion_d64 rfl (pr_inst (vs := [_, _, _]) lc_4_83 lT_156 rfl rfl (by decide) (by decide) rfl (Nat.le_of_ble_eq_true rfl) (Nat.le_of_ble_eq_true rfl) (fun _ => Or.inl (pr_b (ka_38 hM5) (by decide) rfl))) (f_HGrid_fix_ok (dep := dep + 0) hM5 h) rfl ?_
          intro M15 hM15 h
          replace h := hQ15 _ h
          refine iq_aload_n hS 68 J_HGrid_fixVersion_d67 (lk_1r l12 (by decide)) rfl ?_
          refine iq_iload_n hS 69 J_HGrid_fixVersion_d68 (lk_1i l14 (by decide)) rfl ?_
          refine iq_iconst hS 70 J_HGrid_fixVersion_d69 (v := 3) (by decide +kernel) rfl ?_
          refine iq_idiv hS 71 J_HGrid_fixVersion_d70 (by decide) rfl ?_
          refine iq_aload_n hS 72 J_HGrid_fixVersion_d71 (lk_1r l12 (by decide)) rfl ?_
          refine iq_getI hS 75 J_HGrid_fixVersion_d72 lf_4_74 (Or.inl rfl) (ka_38 hM15) rfl ?_
          refine iq_bipush hS 77 J_HGrid_fixVersion_d75 (v := 11) (by decide +kernel) rfl ?_
          refine iq_isub hS 78 J_HGrid_fixVersion_d77 rfl ?_
          refine iq_iload_n hS 79 J_HGrid_fixVersion_d78 (lk_1i l14 (by decide)) rfl ?_
          refine iq_iconst hS 80 J_HGrid_fixVersion_d79 (v := 3) (by decide +kernel) rfl ?_
          refine iq_irem hS 81 J_HGrid_fixVersion_d80 (by decide) rfl ?_
          refine iq_iadd hS 82 J_HGrid_fixVersion_d81 rfl ?_
          refine iq_iload_n hS 83 J_HGrid_fixVersion_d82 lk_1s rfl ?_
          obtain ⟨Q16, hQ16, h⟩ := bd1_ed h
          refine iq_cwV hS 86 J_HGrid_fixVersion_d83 rfl (pr_inst (vs := [_, _, _]) lc_4_83 lT_156 rfl rfl (by decide) (by decide) rfl (Nat.le_of_ble_eq_true rfl) (Nat.le_of_ble_eq_true rfl) (fun _ => Or.inl (pr_b (ka_38 hM15) (by decide) rfl))) (f_HGrid_fix_ok (dep := dep + 0) hM15 h) rfl ?_
          intro M16 hM16 h
          replace h := hQ16 _ h
          refine iq_iincv hS 89 J_HGrid_fixVersion_d86 (c := 1) (by decide +kernel) (lk_1i l14 (by decide)) (by decide) rfl ?_
          refine iq_goto hS J_HGrid_fixVersion_d89 (t := 28) rfl ?_
          exact ih _ _ _ hM16 (lk_1r (lk_1r l12 (by decide)) (by decide)) (lk_1i (lk_1i l13 (by decide)) (by decide)) lk_1s (lq_l h)
        refine iq_if_eq hS 42 J_HGrid_fixVersion_d39 (t := 46) rfl (fun q39 => ?_) rfl (fun q39 => ?_)
        · refine iq_iconst hS 47 J_HGrid_fixVersion_d46 (v := 0) (by decide +kernel) rfl ?_
          exact J9 _ _ (by rw [if_pos q39]) l6 l7 l8
        · refine iq_iconst hS 43 J_HGrid_fixVersion_d42 (v := 1) (by decide +kernel) rfl ?_
          refine iq_goto hS J_HGrid_fixVersion_d43 (t := 47) rfl ?_
          exact J9 _ _ (by rw [if_neg q39]) l6 l7 l8
  exact I2 n2 _ _ _ hM (lk_1r (lk_1r l0 (by decide)) (by decide)) (lk_1i lk_1s (by decide)) lk_1s hn2
