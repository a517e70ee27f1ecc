/-! THE LAW TO THE HEAD OF ITS LOOP; ITS END -/
theorem J_law_d0 : decode J_law.2.1 0 = .ok (.new 8, 3) := by decide +kernel
theorem J_law_d3 : decode J_law.2.1 3 = .ok (.dup, 1) := by decide +kernel
theorem J_law_d4 : decode J_law.2.1 4 = .ok (.invokespecial 67, 3) := by decide +kernel
theorem J_law_d7 : decode J_law.2.1 7 = .ok (.astore_n 1, 1) := by decide +kernel
theorem J_law_d8 : decode J_law.2.1 8 = .ok (.new 68, 3) := by decide +kernel
theorem J_law_d11 : decode J_law.2.1 11 = .ok (.dup, 1) := by decide +kernel
theorem J_law_d12 : decode J_law.2.1 12 = .ok (.invokespecial 70, 3) := by decide +kernel
theorem J_law_d15 : decode J_law.2.1 15 = .ok (.astore_n 2, 1) := by decide +kernel
theorem J_law_d16 : decode J_law.2.1 16 = .ok (.iconst 1, 1) := by decide +kernel
theorem J_law_d17 : decode J_law.2.1 17 = .ok (.newarray .long, 2) := by decide +kernel
theorem J_law_d19 : decode J_law.2.1 19 = .ok (.astore_n 3, 1) := by decide +kernel
theorem J_law_d20 : decode J_law.2.1 20 = .ok (.iconst 0, 1) := by decide +kernel
theorem J_law_d21 : decode J_law.2.1 21 = .ok (.istore 4, 2) := by decide +kernel
theorem J_law_d23 : decode J_law.2.1 23 = .ok (.iload 4, 2) := by decide +kernel
theorem J_law_d25 : decode J_law.2.1 25 = .ok (.aload_n 0, 1) := by decide +kernel
theorem J_law_d26 : decode J_law.2.1 26 = .ok (.arraylength, 1) := by decide +kernel
theorem J_law_d27 : decode J_law.2.1 27 = .ok (.iconst 5, 1) := by decide +kernel
theorem J_law_d28 : decode J_law.2.1 28 = .ok (.isub, 1) := by decide +kernel
theorem J_law_d29 : decode J_law.2.1 29 = .ok (.if_icmp .gt 1402, 3) := by decide +kernel
theorem J_law_d32 : decode J_law.2.1 32 = .ok (.aload_n 0, 1) := by decide +kernel
theorem J_law_d33 : decode J_law.2.1 33 = .ok (.iload 4, 2) := by decide +kernel
theorem J_law_d35 : decode J_law.2.1 35 = .ok (.iaload, 1) := by decide +kernel
theorem J_law_d36 : decode J_law.2.1 36 = .ok (.bipush 31, 2) := by decide +kernel
theorem J_law_d38 : decode J_law.2.1 38 = .ok (.iand, 1) := by decide +kernel
theorem J_law_d39 : decode J_law.2.1 39 = .ok (.tableswitch 1386 0 22 #[105, 205, 218, 290, 362, 375, 388, 401, 469, 537, 604, 660, 685, 766, 802, 858, 896, 1004, 1084, 1152, 1208, 1304, 1360], 105) := by decide +kernel
theorem J_law_d1425 : decode J_law.2.1 1425 = .ok (.iinc 4 5, 3) := by decide +kernel
theorem J_law_d1428 : decode J_law.2.1 1428 = .ok (.goto (-1405), 3) := by decide +kernel
theorem J_law_d1431 : decode J_law.2.1 1431 = .ok (.iconst 1, 1) := by decide +kernel
theorem J_law_d1432 : decode J_law.2.1 1432 = .ok (.ireturn, 1) := by decide +kernel
/-- what the law's locals are at the head of its loop -/
def lw_L (i : Nat) (Lc : List (Nat × Value)) : Prop := im_lk Lc 0 = some (.ref 5000000) ∧ im_lk Lc 1 = some (.ref 0) ∧ im_lk Lc 2 = some (.ref 69) ∧ im_lk Lc 3 = some (.ref 138) ∧ im_lk Lc 4 = some (.int (nI i))
set_option maxRecDepth 20000 in
theorem lw_pre {L : Nat} {xs : Nat → Int32} {dep : Nat} {P : Option Value → im_M → Nat → Prop} (k : ∀ Lc, lw_L 0 Lc → ix (tb_G L xs) tb_X (dep + 3) J_law [] P (23, Lc, [], mm_341)) : ix (tb_G L xs) tb_X (dep + 3) J_law [] P lw_F0 := by
  have hS : im_St (tb_G L xs) (dep + 3) J_law (ix (tb_G L xs) tb_X (dep + 3) J_law [] P) := ix_St (tb_GX L xs)
  change ix (tb_G L xs) tb_X (dep + 3) J_law [] P (0, [(0, .ref 5000000)], [], mm_0)
  have h0 : im_lk [(0, Value.ref 5000000)] 0 = some (.ref 5000000) := rfl
  refine ix_new 3 J_law_d0 ln_18_8 rfl (by decide) (by decide) rfl ?_
  change ix _ _ _ _ _ _ (_, _, [.ref 0], mm_1)
  refine iq_dup hS 4 J_law_d3 rfl rfl ?_
  refine iq_call hS 7 J_law_d4 rfl (pr_inst (vs := []) lc_18_67 lT_0 rfl rfl (by decide) (by decide) rfl (Nat.le_of_ble_eq_true rfl) (Nat.le_of_ble_eq_true rfl) (fun q => absurd q (by decide))) (cs_12 (dep := dep)) rfl ?_
  rintro v M1 ⟨rfl, rfl⟩
  refine iq_astore_n hS 8 J_law_d7 (by decide) rfl ?_
  refine ix_new 11 J_law_d8 ln_18_68 rfl (by decide) (by decide) rfl ?_
  change ix _ _ _ _ _ _ (_, _, [.ref 69], mm_151)
  refine iq_dup hS 12 J_law_d11 rfl rfl ?_
  refine iq_call hS 15 J_law_d12 rfl (pr_inst (vs := []) lc_18_70 lT_262 rfl rfl (by decide) (by decide) rfl (Nat.le_of_ble_eq_true rfl) (Nat.le_of_ble_eq_true rfl) (fun q => absurd q (by decide))) (cs_18 (dep := dep + 1)) rfl ?_
  rintro v M1 ⟨rfl, rfl⟩
  refine iq_astore_n hS 16 J_law_d15 (by decide) rfl ?_
  refine iq_iconst hS 17 J_law_d16 (v := 1) (by decide +kernel) rfl ?_
  refine iq_newa hS 19 J_law_d17 (N := 1) rfl (by decide) (by decide) (by decide) (by decide) (by decide) rfl ?_
  change ix _ _ _ _ _ _ (_, _, [.ref 138], mm_341)
  refine iq_astore_n hS 20 J_law_d19 (by decide) rfl ?_
  refine iq_iconst hS 21 J_law_d20 (v := nI 0) (by decide +kernel) rfl ?_
  refine iq_istore hS 23 J_law_d21 (by decide) rfl ?_
  exact k _ ⟨lk_1r (lk_1r (lk_1r (lk_1r h0 (by decide)) (by decide)) (by decide)) (by decide), lk_1r (lk_1r (lk_1r lk_1s (by decide)) (by decide)) (by decide), lk_1r (lk_1r lk_1s (by decide)) (by decide), lk_1r lk_1s (by decide), lk_1s⟩
theorem lw_exit {L : Nat} {xs : Nat → Int32} {dep i : Nat} {P : Option Value → im_M → Nat → Prop} {Lc : List (Nat × Value)} {M : im_M} (hM : im_n M = 139) (hL : L ≤ 2560) (hi : L < i + 5) (hi2 : i ≤ 2560) (hl : lw_L i Lc) (hP : P (some (.int 1)) M 0) : ix (tb_G L xs) tb_X dep J_law [] P (23, Lc, [], M) := by
  have hS : im_St (tb_G L xs) dep J_law (ix (tb_G L xs) tb_X dep J_law [] P) := ix_St (tb_GX L xs)
  obtain ⟨h0, h1, h2, h3, h4⟩ := hl
  refine iq_iload hS 25 J_law_d23 h4 rfl ?_
  refine iq_aload_n hS 26 J_law_d25 h0 rfl ?_
  refine iq_xalen hS 27 J_law_d26 (by rw [hM]; decide) (Or.inl rfl) rfl ?_
  refine iq_iconst hS 28 J_law_d27 (v := 5) (by decide +kernel) rfl ?_
  refine iq_isub hS 29 J_law_d28 rfl ?_
  refine iq_icmp_gt hS 32 J_law_d29 (t := 1431) rfl (fun _ => ?_) rfl (fun q => absurd ?_ q)
  · refine iq_iconst hS 1432 J_law_d1431 (v := 1) (by decide +kernel) rfl ?_
    exact ix_iret J_law_d1432 rfl (by decide +kernel) hP
  · show nI L - 5 < nI i
    rw [Int32.lt_iff_toInt_lt, Int32.toInt_sub, nI_toInt (by omega), nI_toInt (by omega)]
    have e5 : (5 : Int32).toInt = 5 := by decide +kernel
    rw [e5]
    have : ((L : Int) - 5).bmod (2 ^ 32) = (L : Int) - 5 := by
      apply Int.bmod_eq_of_le <;> omega
    rw [this]
    omega
/-- scripts that hold no call -/
theorem lw_run_short {L : Nat} {xs : Nat → Int32} (hL : L < 5) : lw_Run L xs := by
  have h := lw_pre (L := L) (xs := xs) (dep := 10) (P := fun v M1 t => v = some (.int 1) ∧ M1 = mm_341 ∧ t = 0) (fun Lc hl => lw_exit (M := mm_341) rfl (by omega) (by omega) (by omega) hl ⟨rfl, rfl, rfl⟩)
  obtain ⟨n, v, M', t, h1, rfl, rfl, rfl⟩ := h
  exact ⟨n, _, _, _, h1, by omega, by decide +kernel, by show im_tot tb_cl (im_k mm_341) (im_n mm_341) + 6 * 0 ≤ 7293034; decide +kernel⟩
