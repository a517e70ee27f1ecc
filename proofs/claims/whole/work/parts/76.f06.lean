/-! METHODS AS FUNCTIONS -/
noncomputable def f_HFinder_haveCommonDot (p0 : Int32) (p1 : Int32) (M : im_M) : Option (Int32) := bd1 (f_HFinder_part p0 2 M) fun (x1 : Int32) => bd1 (f_HFinder_part p0 3 M) fun (x2 : Int32) => bd1 (f_HFinder_part p1 2 M) fun (x3 : Int32) => bd1 (f_HFinder_part p1 3 M) fun (x4 : Int32) => bd1 (f_HFinder_part p0 0 M) fun (x5 : Int32) => bd1 (f_HFinder_part p1 0 M) fun (x6 : Int32) => if (x6 + (x3 * ((17 : Int32) + ((4 : Int32) * x4)))) ≤ x5 then some 0 else bd1 (f_HFinder_part p1 0 M) fun (x7 : Int32) => bd1 (f_HFinder_part p0 0 M) fun (x8 : Int32) => if (x8 + (x1 * ((17 : Int32) + ((4 : Int32) * x2)))) ≤ x7 then some 0 else bd1 (f_HFinder_part p0 1 M) fun (x9 : Int32) => bd1 (f_HFinder_part p1 1 M) fun (x10 : Int32) => if (x10 + (x3 * ((17 : Int32) + ((4 : Int32) * x4)))) ≤ x9 then some 0 else bd1 (f_HFinder_part p1 1 M) fun (x11 : Int32) => bd1 (f_HFinder_part p0 1 M) fun (x12 : Int32) => if (x12 + (x1 * ((17 : Int32) + ((4 : Int32) * x2)))) ≤ x11 then some 0 else some 1
theorem J_HFinder_haveCommonDot_d0 : decode J_HFinder_haveCommonDot.2.1 0 = .ok (.aload_n 0, 1) := by decide +kernel
theorem J_HFinder_haveCommonDot_d1 : decode J_HFinder_haveCommonDot.2.1 1 = .ok (.iload_n 1, 1) := by decide +kernel
theorem J_HFinder_haveCommonDot_d2 : decode J_HFinder_haveCommonDot.2.1 2 = .ok (.iconst 2, 1) := by decide +kernel
theorem J_HFinder_haveCommonDot_d3 : decode J_HFinder_haveCommonDot.2.1 3 = .ok (.invokevirtual 148, 3) := by decide +kernel
theorem J_HFinder_haveCommonDot_d6 : decode J_HFinder_haveCommonDot.2.1 6 = .ok (.bipush 17, 2) := by decide +kernel
theorem J_HFinder_haveCommonDot_d8 : decode J_HFinder_haveCommonDot.2.1 8 = .ok (.iconst 4, 1) := by decide +kernel
theorem J_HFinder_haveCommonDot_d9 : decode J_HFinder_haveCommonDot.2.1 9 = .ok (.aload_n 0, 1) := by decide +kernel
theorem J_HFinder_haveCommonDot_d10 : decode J_HFinder_haveCommonDot.2.1 10 = .ok (.iload_n 1, 1) := by decide +kernel
theorem J_HFinder_haveCommonDot_d11 : decode J_HFinder_haveCommonDot.2.1 11 = .ok (.iconst 3, 1) := by decide +kernel
theorem J_HFinder_haveCommonDot_d12 : decode J_HFinder_haveCommonDot.2.1 12 = .ok (.invokevirtual 148, 3) := by decide +kernel
theorem J_HFinder_haveCommonDot_d15 : decode J_HFinder_haveCommonDot.2.1 15 = .ok (.imul, 1) := by decide +kernel
theorem J_HFinder_haveCommonDot_d16 : decode J_HFinder_haveCommonDot.2.1 16 = .ok (.iadd, 1) := by decide +kernel
theorem J_HFinder_haveCommonDot_d17 : decode J_HFinder_haveCommonDot.2.1 17 = .ok (.imul, 1) := by decide +kernel
theorem J_HFinder_haveCommonDot_d18 : decode J_HFinder_haveCommonDot.2.1 18 = .ok (.istore_n 3, 1) := by decide +kernel
theorem J_HFinder_haveCommonDot_d19 : decode J_HFinder_haveCommonDot.2.1 19 = .ok (.aload_n 0, 1) := by decide +kernel
theorem J_HFinder_haveCommonDot_d20 : decode J_HFinder_haveCommonDot.2.1 20 = .ok (.iload_n 2, 1) := by decide +kernel
theorem J_HFinder_haveCommonDot_d21 : decode J_HFinder_haveCommonDot.2.1 21 = .ok (.iconst 2, 1) := by decide +kernel
theorem J_HFinder_haveCommonDot_d22 : decode J_HFinder_haveCommonDot.2.1 22 = .ok (.invokevirtual 148, 3) := by decide +kernel
theorem J_HFinder_haveCommonDot_d25 : decode J_HFinder_haveCommonDot.2.1 25 = .ok (.bipush 17, 2) := by decide +kernel
theorem J_HFinder_haveCommonDot_d27 : decode J_HFinder_haveCommonDot.2.1 27 = .ok (.iconst 4, 1) := by decide +kernel
theorem J_HFinder_haveCommonDot_d28 : decode J_HFinder_haveCommonDot.2.1 28 = .ok (.aload_n 0, 1) := by decide +kernel
theorem J_HFinder_haveCommonDot_d29 : decode J_HFinder_haveCommonDot.2.1 29 = .ok (.iload_n 2, 1) := by decide +kernel
theorem J_HFinder_haveCommonDot_d30 : decode J_HFinder_haveCommonDot.2.1 30 = .ok (.iconst 3, 1) := by decide +kernel
theorem J_HFinder_haveCommonDot_d31 : decode J_HFinder_haveCommonDot.2.1 31 = .ok (.invokevirtual 148, 3) := by decide +kernel
theorem J_HFinder_haveCommonDot_d34 : decode J_HFinder_haveCommonDot.2.1 34 = .ok (.imul, 1) := by decide +kernel
theorem J_HFinder_haveCommonDot_d35 : decode J_HFinder_haveCommonDot.2.1 35 = .ok (.iadd, 1) := by decide +kernel
theorem J_HFinder_haveCommonDot_d36 : decode J_HFinder_haveCommonDot.2.1 36 = .ok (.imul, 1) := by decide +kernel
theorem J_HFinder_haveCommonDot_d37 : decode J_HFinder_haveCommonDot.2.1 37 = .ok (.istore 4, 2) := by decide +kernel
theorem J_HFinder_haveCommonDot_d39 : decode J_HFinder_haveCommonDot.2.1 39 = .ok (.aload_n 0, 1) := by decide +kernel
theorem J_HFinder_haveCommonDot_d40 : decode J_HFinder_haveCommonDot.2.1 40 = .ok (.iload_n 1, 1) := by decide +kernel
theorem J_HFinder_haveCommonDot_d41 : decode J_HFinder_haveCommonDot.2.1 41 = .ok (.iconst 0, 1) := by decide +kernel
theorem J_HFinder_haveCommonDot_d42 : decode J_HFinder_haveCommonDot.2.1 42 = .ok (.invokevirtual 148, 3) := by decide +kernel
theorem J_HFinder_haveCommonDot_d45 : decode J_HFinder_haveCommonDot.2.1 45 = .ok (.aload_n 0, 1) := by decide +kernel
theorem J_HFinder_haveCommonDot_d46 : decode J_HFinder_haveCommonDot.2.1 46 = .ok (.iload_n 2, 1) := by decide +kernel
theorem J_HFinder_haveCommonDot_d47 : decode J_HFinder_haveCommonDot.2.1 47 = .ok (.iconst 0, 1) := by decide +kernel
theorem J_HFinder_haveCommonDot_d48 : decode J_HFinder_haveCommonDot.2.1 48 = .ok (.invokevirtual 148, 3) := by decide +kernel
theorem J_HFinder_haveCommonDot_d51 : decode J_HFinder_haveCommonDot.2.1 51 = .ok (.iload 4, 2) := by decide +kernel
theorem J_HFinder_haveCommonDot_d53 : decode J_HFinder_haveCommonDot.2.1 53 = .ok (.iadd, 1) := by decide +kernel
theorem J_HFinder_haveCommonDot_d54 : decode J_HFinder_haveCommonDot.2.1 54 = .ok (.if_icmp .ge 59, 3) := by decide +kernel
theorem J_HFinder_haveCommonDot_d57 : decode J_HFinder_haveCommonDot.2.1 57 = .ok (.aload_n 0, 1) := by decide +kernel
theorem J_HFinder_haveCommonDot_d58 : decode J_HFinder_haveCommonDot.2.1 58 = .ok (.iload_n 2, 1) := by decide +kernel
theorem J_HFinder_haveCommonDot_d59 : decode J_HFinder_haveCommonDot.2.1 59 = .ok (.iconst 0, 1) := by decide +kernel
theorem J_HFinder_haveCommonDot_d60 : decode J_HFinder_haveCommonDot.2.1 60 = .ok (.invokevirtual 148, 3) := by decide +kernel
theorem J_HFinder_haveCommonDot_d63 : decode J_HFinder_haveCommonDot.2.1 63 = .ok (.aload_n 0, 1) := by decide +kernel
theorem J_HFinder_haveCommonDot_d64 : decode J_HFinder_haveCommonDot.2.1 64 = .ok (.iload_n 1, 1) := by decide +kernel
theorem J_HFinder_haveCommonDot_d65 : decode J_HFinder_haveCommonDot.2.1 65 = .ok (.iconst 0, 1) := by decide +kernel
theorem J_HFinder_haveCommonDot_d66 : decode J_HFinder_haveCommonDot.2.1 66 = .ok (.invokevirtual 148, 3) := by decide +kernel
theorem J_HFinder_haveCommonDot_d69 : decode J_HFinder_haveCommonDot.2.1 69 = .ok (.iload_n 3, 1) := by decide +kernel
theorem J_HFinder_haveCommonDot_d70 : decode J_HFinder_haveCommonDot.2.1 70 = .ok (.iadd, 1) := by decide +kernel
theorem J_HFinder_haveCommonDot_d71 : decode J_HFinder_haveCommonDot.2.1 71 = .ok (.if_icmp .ge 42, 3) := by decide +kernel
theorem J_HFinder_haveCommonDot_d74 : decode J_HFinder_haveCommonDot.2.1 74 = .ok (.aload_n 0, 1) := by decide +kernel
theorem J_HFinder_haveCommonDot_d75 : decode J_HFinder_haveCommonDot.2.1 75 = .ok (.iload_n 1, 1) := by decide +kernel
theorem J_HFinder_haveCommonDot_d76 : decode J_HFinder_haveCommonDot.2.1 76 = .ok (.iconst 1, 1) := by decide +kernel
theorem J_HFinder_haveCommonDot_d77 : decode J_HFinder_haveCommonDot.2.1 77 = .ok (.invokevirtual 148, 3) := by decide +kernel
theorem J_HFinder_haveCommonDot_d80 : decode J_HFinder_haveCommonDot.2.1 80 = .ok (.aload_n 0, 1) := by decide +kernel
theorem J_HFinder_haveCommonDot_d81 : decode J_HFinder_haveCommonDot.2.1 81 = .ok (.iload_n 2, 1) := by decide +kernel
theorem J_HFinder_haveCommonDot_d82 : decode J_HFinder_haveCommonDot.2.1 82 = .ok (.iconst 1, 1) := by decide +kernel
theorem J_HFinder_haveCommonDot_d83 : decode J_HFinder_haveCommonDot.2.1 83 = .ok (.invokevirtual 148, 3) := by decide +kernel
theorem J_HFinder_haveCommonDot_d86 : decode J_HFinder_haveCommonDot.2.1 86 = .ok (.iload 4, 2) := by decide +kernel
theorem J_HFinder_haveCommonDot_d88 : decode J_HFinder_haveCommonDot.2.1 88 = .ok (.iadd, 1) := by decide +kernel
theorem J_HFinder_haveCommonDot_d89 : decode J_HFinder_haveCommonDot.2.1 89 = .ok (.if_icmp .ge 24, 3) := by decide +kernel
theorem J_HFinder_haveCommonDot_d92 : decode J_HFinder_haveCommonDot.2.1 92 = .ok (.aload_n 0, 1) := by decide +kernel
theorem J_HFinder_haveCommonDot_d93 : decode J_HFinder_haveCommonDot.2.1 93 = .ok (.iload_n 2, 1) := by decide +kernel
theorem J_HFinder_haveCommonDot_d94 : decode J_HFinder_haveCommonDot.2.1 94 = .ok (.iconst 1, 1) := by decide +kernel
theorem J_HFinder_haveCommonDot_d95 : decode J_HFinder_haveCommonDot.2.1 95 = .ok (.invokevirtual 148, 3) := by decide +kernel
theorem J_HFinder_haveCommonDot_d98 : decode J_HFinder_haveCommonDot.2.1 98 = .ok (.aload_n 0, 1) := by decide +kernel
theorem J_HFinder_haveCommonDot_d99 : decode J_HFinder_haveCommonDot.2.1 99 = .ok (.iload_n 1, 1) := by decide +kernel
theorem J_HFinder_haveCommonDot_d100 : decode J_HFinder_haveCommonDot.2.1 100 = .ok (.iconst 1, 1) := by decide +kernel
theorem J_HFinder_haveCommonDot_d101 : decode J_HFinder_haveCommonDot.2.1 101 = .ok (.invokevirtual 148, 3) := by decide +kernel
theorem J_HFinder_haveCommonDot_d104 : decode J_HFinder_haveCommonDot.2.1 104 = .ok (.iload_n 3, 1) := by decide +kernel
theorem J_HFinder_haveCommonDot_d105 : decode J_HFinder_haveCommonDot.2.1 105 = .ok (.iadd, 1) := by decide +kernel
theorem J_HFinder_haveCommonDot_d106 : decode J_HFinder_haveCommonDot.2.1 106 = .ok (.if_icmp .ge 7, 3) := by decide +kernel
theorem J_HFinder_haveCommonDot_d109 : decode J_HFinder_haveCommonDot.2.1 109 = .ok (.iconst 1, 1) := by decide +kernel
theorem J_HFinder_haveCommonDot_d110 : decode J_HFinder_haveCommonDot.2.1 110 = .ok (.goto 4, 3) := by decide +kernel
theorem J_HFinder_haveCommonDot_d113 : decode J_HFinder_haveCommonDot.2.1 113 = .ok (.iconst 0, 1) := by decide +kernel
theorem J_HFinder_haveCommonDot_d114 : decode J_HFinder_haveCommonDot.2.1 114 = .ok (.ireturn, 1) := by decide +kernel
theorem f_HFinder_haveCommonDot_ok {L : Nat} {xs : Nat → Int32} {dep : Nat} {w : Bool} {p0 : Int32} {p1 : Int32} {M : im_M} {Q : Int32 → Prop} (hM : lw_S w M) (h : ed (f_HFinder_haveCommonDot p0 p1 M) Q) : ia (tb_G L xs) (dep + 1) J_HFinder_haveCommonDot (rpI M Q) (0, lv_args 0 [.ref 59, .int p0, .int p1], [], M) := by
  have hS : im_St (tb_G L xs) (dep + 1) J_HFinder_haveCommonDot (ia (tb_G L xs) (dep + 1) J_HFinder_haveCommonDot (rpI M Q)) := ia_St
  unfold f_HFinder_haveCommonDot at h
  have l0 : im_lk (lv_args 0 [.ref 59, .int p0, .int p1]) 0 = some (.ref 59) := rfl
  have l1 : im_lk (lv_args 0 [.ref 59, .int p0, .int p1]) 1 = some (.int p0) := rfl
  have l2 : im_lk (lv_args 0 [.ref 59, .int p0, .int p1]) 2 = some (.int p1) := rfl
  refine iq_aload_n hS 1 J_HFinder_haveCommonDot_d0 l0 rfl ?_
  refine iq_iload_n hS 2 J_HFinder_haveCommonDot_d1 l1 rfl ?_
  refine iq_iconst hS 3 J_HFinder_haveCommonDot_d2 (v := 2) (by decide +kernel) rfl ?_
  obtain ⟨Q1, hQ1, h⟩ := bd1_ed h
  refine iq_cpI hS 6 J_HFinder_haveCommonDot_d3 rfl (pr_inst (vs := [_, _]) lc_3_148 lT_222 rfl rfl (by decide) (by decide) rfl (Nat.le_of_ble_eq_true rfl) (Nat.le_of_ble_eq_true rfl) (fun _ => Or.inl (pr_b (ka_59 hM) (by decide) rfl))) (f_HFinder_part_ok (dep := dep + 0) hM h) rfl ?_
  intro x1 h
  replace h := hQ1 _ h
  refine iq_bipush hS 8 J_HFinder_haveCommonDot_d6 (v := 17) (by decide +kernel) rfl ?_
  refine iq_iconst hS 9 J_HFinder_haveCommonDot_d8 (v := 4) (by decide +kernel) rfl ?_
  refine iq_aload_n hS 10 J_HFinder_haveCommonDot_d9 l0 rfl ?_
  refine iq_iload_n hS 11 J_HFinder_haveCommonDot_d10 l1 rfl ?_
  refine iq_iconst hS 12 J_HFinder_haveCommonDot_d11 (v := 3) (by decide +kernel) rfl ?_
  obtain ⟨Q2, hQ2, h⟩ := bd1_ed h
  refine iq_cpI hS 15 J_HFinder_haveCommonDot_d12 rfl (pr_inst (vs := [_, _]) lc_3_148 lT_222 rfl rfl (by decide) (by decide) rfl (Nat.le_of_ble_eq_true rfl) (Nat.le_of_ble_eq_true rfl) (fun _ => Or.inl (pr_b (ka_59 hM) (by decide) rfl))) (f_HFinder_part_ok (dep := dep + 0) hM h) rfl ?_
  intro x2 h
  replace h := hQ2 _ h
  refine iq_imul hS 16 J_HFinder_haveCommonDot_d15 rfl ?_
  refine iq_iadd hS 17 J_HFinder_haveCommonDot_d16 rfl ?_
  refine iq_imul hS 18 J_HFinder_haveCommonDot_d17 rfl ?_
  refine iq_istore_n hS 19 J_HFinder_haveCommonDot_d18 (by decide) rfl ?_
  refine iq_aload_n hS 20 J_HFinder_haveCommonDot_d19 (lk_1r l0 (by decide)) rfl ?_
  refine iq_iload_n hS 21 J_HFinder_haveCommonDot_d20 (lk_1i l2 (by decide)) rfl ?_
  refine iq_iconst hS 22 J_HFinder_haveCommonDot_d21 (v := 2) (by decide +kernel) rfl ?_
  obtain ⟨Q3, hQ3, h⟩ := bd1_ed h
  refine iq_cpI hS 25 J_HFinder_haveCommonDot_d22 rfl (pr_inst (vs := [_, _]) lc_3_148 lT_222 rfl rfl (by decide) (by decide) rfl (Nat.le_of_ble_eq_true rfl) (Nat.le_of_ble_eq_true rfl) (fun _ => Or.inl (pr_b (ka_59 hM) (by decide) rfl))) (f_HFinder_part_ok (dep := dep + 0) hM h) rfl ?_
  intro x3 h
  replace h := hQ3 _ h
  refine iq_bipush hS 27 J_HFinder_haveCommonDot_d25 (v := 17) (by decide +kernel) rfl ?_
  refine iq_iconst hS 28 J_HFinder_haveCommonDot_d27 (v := 4) (by decide +kernel) rfl ?_
  refine iq_aload_n hS 29 J_HFinder_haveCommonDot_d28 (lk_1r l0 (by decide)) rfl ?_
  refine iq_iload_n hS 30 J_HFinder_haveCommonDot_d29 (lk_1i l2 (by decide)) rfl ?_
  refine iq_iconst hS 31 J_HFinder_haveCommonDot_d30 (v := 3) (by decide +kernel) rfl ?_
  obtain ⟨Q4, hQ4, h⟩ := bd1_ed h
  refine iq_cpI hS 34 J_HFinder_haveCommonDot_d31 rfl (pr_inst (vs := [_, _]) lc_3_148 lT_222 rfl rfl (by decide) (by decide) rfl (Nat.le_of_ble_eq_true rfl) (Nat.le_of_ble_eq_true rfl) (fun _ => Or.inl (pr_b (ka_59 hM) (by decide) rfl))) (f_HFinder_part_ok (dep := dep + 0) hM h) rfl ?_
  intro x4 h
  replace h := hQ4 _ h
  refine iq_imul hS 35 J_HFinder_haveCommonDot_d34 rfl ?_
  refine iq_iadd hS 36 J_HFinder_haveCommonDot_d35 rfl ?_
  refine iq_imul hS 37 J_HFinder_haveCommonDot_d36 rfl ?_
  refine iq_istore hS 39 J_HFinder_haveCommonDot_d37 (by decide) rfl ?_
  refine iq_aload_n hS 40 J_HFinder_haveCommonDot_d39 (lk_1r (lk_1r l0 (by decide)) (by decide)) rfl ?_
  refine iq_iload_n hS 41 J_HFinder_haveCommonDot_d40 (lk_1i (lk_1i l1 (by decide)) (by decide)) rfl ?_
  refine iq_iconst hS 42 J_HFinder_haveCommonDot_d41 (v := 0) (by decide +kernel) rfl ?_
  obtain ⟨Q5, hQ5, h⟩ := bd1_ed h
  refine iq_cpI hS 45 J_HFinder_haveCommonDot_d42 rfl (pr_inst (vs := [_, _]) lc_3_148 lT_222 rfl rfl (by decide) (by decide) rfl (Nat.le_of_ble_eq_true rfl) (Nat.le_of_ble_eq_true rfl) (fun _ => Or.inl (pr_b (ka_59 hM) (by decide) rfl))) (f_HFinder_part_ok (dep := dep + 0) hM h) rfl ?_
  intro x5 h
  replace h := hQ5 _ h
  refine iq_aload_n hS 46 J_HFinder_haveCommonDot_d45 (lk_1r (lk_1r l0 (by decide)) (by decide)) rfl ?_
  refine iq_iload_n hS 47 J_HFinder_haveCommonDot_d46 (lk_1i (lk_1i l2 (by decide)) (by decide)) rfl ?_
  refine iq_iconst hS 48 J_HFinder_haveCommonDot_d47 (v := 0) (by decide +kernel) rfl ?_
  obtain ⟨Q6, hQ6, h⟩ := bd1_ed h
  refine iq_cpI hS 51 J_HFinder_haveCommonDot_d48 rfl (pr_inst (vs := [_, _]) lc_3_148 lT_222 rfl rfl (by decide) (by decide) rfl (Nat.le_of_ble_eq_true rfl) (Nat.le_of_ble_eq_true rfl) (fun _ => Or.inl (pr_b (ka_59 hM) (by decide) rfl))) (f_HFinder_part_ok (dep := dep + 0) hM h) rfl ?_
  intro x6 h
  replace h := hQ6 _ h
  refine iq_iload hS 53 J_HFinder_haveCommonDot_d51 lk_1s rfl ?_
  refine iq_iadd hS 54 J_HFinder_haveCommonDot_d53 rfl ?_
  refine iq_icmp_ge hS 57 J_HFinder_haveCommonDot_d54 (t := 113) rfl (fun q54 => ?_) rfl (fun q54 => ?_)
  · replace h := ed_pos q54 h
    refine iq_iconst hS 114 J_HFinder_haveCommonDot_d113 (v := 0) (by decide +kernel) rfl ?_
    exact iq_iret J_HFinder_haveCommonDot_d114 rfl rfl ⟨_, rfl, rfl, ed_some h⟩
  · replace h := ed_neg q54 h
    refine iq_aload_n hS 58 J_HFinder_haveCommonDot_d57 (lk_1r (lk_1r l0 (by decide)) (by decide)) rfl ?_
    refine iq_iload_n hS 59 J_HFinder_haveCommonDot_d58 (lk_1i (lk_1i l2 (by decide)) (by decide)) rfl ?_
    refine iq_iconst hS 60 J_HFinder_haveCommonDot_d59 (v := 0) (by decide +kernel) rfl ?_
    obtain ⟨Q7, hQ7, h⟩ := bd1_ed h
    refine iq_cpI hS 63 J_HFinder_haveCommonDot_d60 rfl (pr_inst (vs := [_, _]) lc_3_148 lT_222 rfl rfl (by decide) (by decide) rfl (Nat.le_of_ble_eq_true rfl) (Nat.le_of_ble_eq_true rfl) (fun _ => Or.inl (pr_b (ka_59 hM) (by decide) rfl))) (f_HFinder_part_ok (dep := dep + 0) hM h) rfl ?_
    intro x7 h
    replace h := hQ7 _ h
    refine iq_aload_n hS 64 J_HFinder_haveCommonDot_d63 (lk_1r (lk_1r l0 (by decide)) (by decide)) rfl ?_
    refine iq_iload_n hS 65 J_HFinder_haveCommonDot_d64 (lk_1i (lk_1i l1 (by decide)) (by decide)) rfl ?_
    refine iq_iconst hS 66 J_HFinder_haveCommonDot_d65 (v := 0) (by decide +kernel) rfl ?_
    obtain ⟨Q8, hQ8, h⟩ := bd1_ed h
    refine iq_cpI hS 69 J_HFinder_haveCommonDot_d66 rfl (pr_inst (vs := [_, _]) lc_3_148 lT_222 rfl rfl (by decide) (by decide) rfl (Nat.le_of_ble_eq_true rfl) (Nat.le_of_ble_eq_true rfl) (fun _ => Or.inl (pr_b (ka_59 hM) (by decide) rfl))) (f_HFinder_part_ok (dep := dep + 0) hM h) rfl ?_
    intro x8 h
    replace h := hQ8 _ h
    refine iq_iload_n hS 70 J_HFinder_haveCommonDot_d69 (lk_1i lk_1s (by decide)) rfl ?_
    refine iq_iadd hS 71 J_HFinder_haveCommonDot_d70 rfl ?_
    refine iq_icmp_ge hS 74 J_HFinder_haveCommonDot_d71 (t := 113) rfl (fun q71 => ?_) rfl (fun q71 => ?_)
    · replace h := ed_pos q71 h
      refine iq_iconst hS 114 J_HFinder_haveCommonDot_d113 (v := 0) (by decide +kernel) rfl ?_
      exact iq_iret J_HFinder_haveCommonDot_d114 rfl rfl ⟨_, rfl, rfl, ed_some h⟩
    · replace h := ed_neg q71 h
      refine iq_aload_n hS 75 J_HFinder_haveCommonDot_d74 (lk_1r (lk_1r l0 (by decide)) (by decide)) rfl ?_
      refine iq_iload_n hS 76 J_HFinder_haveCommonDot_d75 (lk_1i (lk_1i l1 (by decide)) (by decide)) rfl ?_
      refine iq_iconst hS 77 J_HFinder_haveCommonDot_d76 (v := 1) (by decide +kernel) rfl ?_
      obtain ⟨Q9, hQ9, h⟩ := bd1_ed h
      refine iq_cpI hS 80 J_HFinder_haveCommonDot_d77 rfl (pr_inst (vs := [_, _]) lc_3_148 lT_222 rfl rfl (by decide) (by decide) rfl (Nat.le_of_ble_eq_true rfl) (Nat.le_of_ble_eq_true rfl) (fun _ => Or.inl (pr_b (ka_59 hM) (by decide) rfl))) (f_HFinder_part_ok (dep := dep + 0) hM h) rfl ?_
      intro x9 h
      replace h := hQ9 _ h
      refine iq_aload_n hS 81 J_HFinder_haveCommonDot_d80 (lk_1r (lk_1r l0 (by decide)) (by decide)) rfl ?_
      refine iq_iload_n hS 82 J_HFinder_haveCommonDot_d81 (lk_1i (lk_1i l2 (by decide)) (by decide)) rfl ?_
      refine iq_iconst hS 83 J_HFinder_haveCommonDot_d82 (v := 1) (by decide +kernel) rfl ?_
      obtain ⟨Q10, hQ10, h⟩ := bd1_ed h
      refine iq_cpI hS 86 J_HFinder_haveCommonDot_d83 rfl (pr_inst (vs := [_, _]) lc_3_148 lT_222 rfl rfl (by decide) (by decide) rfl (Nat.le_of_ble_eq_true rfl) (Nat.le_of_ble_eq_true rfl) (fun _ => Or.inl (pr_b (ka_59 hM) (by decide) rfl))) (f_HFinder_part_ok (dep := dep + 0) hM h) rfl ?_
      intro x10 h
      replace h := hQ10 _ h
      refine iq_iload hS 88 J_HFinder_haveCommonDot_d86 lk_1s rfl ?_
      refine iq_iadd hS 89 J_HFinder_haveCommonDot_d88 rfl ?_
      refine iq_icmp_ge hS 92 J_HFinder_haveCommonDot_d89 (t := 113) rfl (fun q89 => ?_) rfl (fun q89 => ?_)
      · replace h := ed_pos q89 h
        refine iq_iconst hS 114 J_HFinder_haveCommonDot_d113 (v := 0) (by decide +kernel) rfl ?_
        exact iq_iret J_HFinder_haveCommonDot_d114 rfl rfl ⟨_, rfl, rfl, ed_some h⟩
      · replace h := ed_neg q89 h
        refine iq_aload_n hS 93 J_HFinder_haveCommonDot_d92 (lk_1r (lk_1r l0 (by decide)) (by decide)) rfl ?_
        refine iq_iload_n hS 94 J_HFinder_haveCommonDot_d93 (lk_1i (lk_1i l2 (by decide)) (by decide)) rfl ?_
        refine iq_iconst hS 95 J_HFinder_haveCommonDot_d94 (v := 1) (by decide +kernel) rfl ?_
        obtain ⟨Q11, hQ11, h⟩ := bd1_ed h
        refine iq_cpI hS 98 J_HFinder_haveCommonDot_d95 rfl (pr_inst (vs := [_, _]) lc_3_148 lT_222 rfl rfl (by decide) (by decide) rfl (Nat.le_of_ble_eq_true rfl) (Nat.le_of_ble_eq_true rfl) (fun _ => Or.inl (pr_b (ka_59 hM) (by decide) rfl))) (f_HFinder_part_ok (dep := dep + 0) hM h) rfl ?_
        intro x11 h
        replace h := hQ11 _ h
        refine iq_aload_n hS 99 J_HFinder_haveCommonDot_d98 (lk_1r (lk_1r l0 (by decide)) (by decide)) rfl ?_
        refine iq_iload_n hS 100 J_HFinder_haveCommonDot_d99 (lk_1i (lk_1i l1 (by decide)) (by decide)) rfl ?_
        refine iq_iconst hS 101 J_HFinder_haveCommonDot_d100 (v := 1) (by decide +kernel) rfl ?_
        obtain ⟨Q12, hQ12, h⟩ := bd1_ed h
        refine iq_cpI hS 104 J_HFinder_haveCommonDot_d101 rfl (pr_inst (vs := [_, _]) lc_3_148 lT_222 rfl rfl (by decide) (by decide) rfl (Nat.le_of_ble_eq_true rfl) (Nat.le_of_ble_eq_true rfl) (fun _ => Or.inl (pr_b (ka_59 hM) (by decide) rfl))) (f_HFinder_part_ok (dep := dep + 0) hM h) rfl ?_
        intro x12 h
        replace h := hQ12 _ h
        refine iq_iload_n hS 105 J_HFinder_haveCommonDot_d104 (lk_1i lk_1s (by decide)) rfl ?_
        refine iq_iadd hS 106 J_HFinder_haveCommonDot_d105 rfl ?_
        refine iq_icmp_ge hS 109 J_HFinder_haveCommonDot_d106 (t := 113) rfl (fun q106 => ?_) rfl (fun q106 => ?_)
        · replace h := ed_pos q106 h
          refine iq_iconst hS 114 J_HFinder_haveCommonDot_d113 (v := 0) (by decide +kernel) rfl ?_
          exact iq_iret J_HFinder_haveCommonDot_d114 rfl rfl ⟨_, rfl, rfl, ed_some h⟩
        · replace h := ed_neg q106 h
          refine iq_iconst hS 110 J_HFinder_haveCommonDot_d109 (v := 1) (by decide +kernel) rfl ?_
          refine iq_goto hS J_HFinder_haveCommonDot_d110 (t := 114) rfl ?_
          exact iq_iret J_HFinder_haveCommonDot_d114 rfl rfl ⟨_, rfl, rfl, ed_some h⟩
noncomputable def f_HFinder_keepLeaders_L19 (v5 : Int32) (x6 : Int32) (M7 : im_M) : Option ((Int32 × im_M) ⊕ (im_M)) := if (im_i M7 59 8) ≤ x6 then some (.inr M7) else gd (inb x6 300) <| gd (inb v5 300) <| bd1 (jn0 (fun (_ : Unit) => some 1) fun k9 => if (im_i M7 63 (Int32.toNatClampNeg x6)) < (im_i M7 63 (Int32.toNatClampNeg v5)) then k9 () else gd (inb x6 300) <| gd (inb v5 300) <| jn0 (fun (_ : Unit) => some 0) fun k10 => if ¬ (im_i M7 63 (Int32.toNatClampNeg x6)) = (im_i M7 63 (Int32.toNatClampNeg v5)) then k10 () else if v5 ≤ x6 then k10 () else k9 ()) fun (y17 : Int32) => bd1 (if y17 = 0 then some M7 else bd1 (f_HFinder_haveCommonDot v5 x6 M7) fun (x22 : Int32) => if x22 = 0 then some M7 else gd (inb v5 300) <| some (im_setI M7 64 (Int32.toNatClampNeg v5) (vp_nar .boolean 0))) fun (M23 : im_M) => some (.inl ((x6 + 1), M23))
noncomputable def f_HFinder_keepLeaders_L2 (x2 : Int32) (M3 : im_M) : Option ((Int32 × im_M) ⊕ (im_M)) := if (im_i M3 59 8) ≤ x2 then some (.inr M3) else gd (inb x2 300) <| bd1 (lp (uc2 (f_HFinder_keepLeaders_L19 x2)) (0, (im_setI M3 64 (Int32.toNatClampNeg x2) (vp_nar .boolean 1)))) fun (M27 : im_M) => some (.inl ((x2 + 1), M27))
noncomputable def f_HFinder_keepLeaders_L102 (x30 : Int32) (M31 : im_M) : Option ((Int32 × im_M) ⊕ (im_M)) := if (im_i M31 59 8) ≤ x30 then some (.inr M31) else gd (inb x30 300) <| bd1 (if (im_i M31 64 (Int32.toNatClampNeg x30)) = 0 then some M31 else gd (inb x30 300) <| gd (inb (im_i M31 59 0) 300) <| gd (inb x30 300) <| gd (inb (im_i (im_setL M31 62 (Int32.toNatClampNeg (im_i M31 59 0)) (im_l M31 62 (Int32.toNatClampNeg x30))) 59 0) 300) <| some (im_setI (im_setI (im_setL M31 62 (Int32.toNatClampNeg (im_i M31 59 0)) (im_l M31 62 (Int32.toNatClampNeg x30))) 63 (Int32.toNatClampNeg (im_i (im_setL M31 62 (Int32.toNatClampNeg (im_i M31 59 0)) (im_l M31 62 (Int32.toNatClampNeg x30))) 59 0)) (im_i (im_setL M31 62 (Int32.toNatClampNeg (im_i M31 59 0)) (im_l M31 62 (Int32.toNatClampNeg x30))) 63 (Int32.toNatClampNeg x30))) 59 0 ((im_i (im_setI (im_setL M31 62 (Int32.toNatClampNeg (im_i M31 59 0)) (im_l M31 62 (Int32.toNatClampNeg x30))) 63 (Int32.toNatClampNeg (im_i (im_setL M31 62 (Int32.toNatClampNeg (im_i M31 59 0)) (im_l M31 62 (Int32.toNatClampNeg x30))) 59 0)) (im_i (im_setL M31 62 (Int32.toNatClampNeg (im_i M31 59 0)) (im_l M31 62 (Int32.toNatClampNeg x30))) 63 (Int32.toNatClampNeg x30))) 59 0) + 1))) fun (M33 : im_M) => some (.inl ((x30 + 1), M33))
noncomputable def f_HFinder_keepLeaders (M : im_M) : Option (im_M) := bd1 (lp (uc2 (f_HFinder_keepLeaders_L2)) (0, M)) fun (M28 : im_M) => bd1 (lp (uc2 (f_HFinder_keepLeaders_L102)) (0, M28)) fun (M36 : im_M) => some M36
theorem J_HFinder_keepLeaders_d0 : decode J_HFinder_keepLeaders.2.1 0 = .ok (.iconst 0, 1) := by decide +kernel
theorem J_HFinder_keepLeaders_d1 : decode J_HFinder_keepLeaders.2.1 1 = .ok (.istore_n 1, 1) := by decide +kernel
theorem J_HFinder_keepLeaders_d2 : decode J_HFinder_keepLeaders.2.1 2 = .ok (.iload_n 1, 1) := by decide +kernel
theorem J_HFinder_keepLeaders_d3 : decode J_HFinder_keepLeaders.2.1 3 = .ok (.aload_n 0, 1) := by decide +kernel
theorem J_HFinder_keepLeaders_d4 : decode J_HFinder_keepLeaders.2.1 4 = .ok (.getfield 45, 3) := by decide +kernel
theorem J_HFinder_keepLeaders_d7 : decode J_HFinder_keepLeaders.2.1 7 = .ok (.if_icmp .ge 93, 3) := by decide +kernel
theorem J_HFinder_keepLeaders_d10 : decode J_HFinder_keepLeaders.2.1 10 = .ok (.aload_n 0, 1) := by decide +kernel
theorem J_HFinder_keepLeaders_d11 : decode J_HFinder_keepLeaders.2.1 11 = .ok (.getfield 30, 3) := by decide +kernel
theorem J_HFinder_keepLeaders_d14 : decode J_HFinder_keepLeaders.2.1 14 = .ok (.iload_n 1, 1) := by decide +kernel
theorem J_HFinder_keepLeaders_d15 : decode J_HFinder_keepLeaders.2.1 15 = .ok (.iconst 1, 1) := by decide +kernel
theorem J_HFinder_keepLeaders_d16 : decode J_HFinder_keepLeaders.2.1 16 = .ok (.bastore, 1) := by decide +kernel
theorem J_HFinder_keepLeaders_d17 : decode J_HFinder_keepLeaders.2.1 17 = .ok (.iconst 0, 1) := by decide +kernel
theorem J_HFinder_keepLeaders_d18 : decode J_HFinder_keepLeaders.2.1 18 = .ok (.istore_n 2, 1) := by decide +kernel
theorem J_HFinder_keepLeaders_d19 : decode J_HFinder_keepLeaders.2.1 19 = .ok (.iload_n 2, 1) := by decide +kernel
theorem J_HFinder_keepLeaders_d20 : decode J_HFinder_keepLeaders.2.1 20 = .ok (.aload_n 0, 1) := by decide +kernel
theorem J_HFinder_keepLeaders_d21 : decode J_HFinder_keepLeaders.2.1 21 = .ok (.getfield 45, 3) := by decide +kernel
theorem J_HFinder_keepLeaders_d24 : decode J_HFinder_keepLeaders.2.1 24 = .ok (.if_icmp .ge 70, 3) := by decide +kernel
theorem J_HFinder_keepLeaders_d27 : decode J_HFinder_keepLeaders.2.1 27 = .ok (.aload_n 0, 1) := by decide +kernel
theorem J_HFinder_keepLeaders_d28 : decode J_HFinder_keepLeaders.2.1 28 = .ok (.getfield 27, 3) := by decide +kernel
theorem J_HFinder_keepLeaders_d31 : decode J_HFinder_keepLeaders.2.1 31 = .ok (.iload_n 2, 1) := by decide +kernel
theorem J_HFinder_keepLeaders_d32 : decode J_HFinder_keepLeaders.2.1 32 = .ok (.iaload, 1) := by decide +kernel
theorem J_HFinder_keepLeaders_d33 : decode J_HFinder_keepLeaders.2.1 33 = .ok (.aload_n 0, 1) := by decide +kernel
theorem J_HFinder_keepLeaders_d34 : decode J_HFinder_keepLeaders.2.1 34 = .ok (.getfield 27, 3) := by decide +kernel
theorem J_HFinder_keepLeaders_d37 : decode J_HFinder_keepLeaders.2.1 37 = .ok (.iload_n 1, 1) := by decide +kernel
theorem J_HFinder_keepLeaders_d38 : decode J_HFinder_keepLeaders.2.1 38 = .ok (.iaload, 1) := by decide +kernel
theorem J_HFinder_keepLeaders_d39 : decode J_HFinder_keepLeaders.2.1 39 = .ok (.if_icmp .lt 23, 3) := by decide +kernel
theorem J_HFinder_keepLeaders_d42 : decode J_HFinder_keepLeaders.2.1 42 = .ok (.aload_n 0, 1) := by decide +kernel
theorem J_HFinder_keepLeaders_d43 : decode J_HFinder_keepLeaders.2.1 43 = .ok (.getfield 27, 3) := by decide +kernel
theorem J_HFinder_keepLeaders_d46 : decode J_HFinder_keepLeaders.2.1 46 = .ok (.iload_n 2, 1) := by decide +kernel
theorem J_HFinder_keepLeaders_d47 : decode J_HFinder_keepLeaders.2.1 47 = .ok (.iaload, 1) := by decide +kernel
theorem J_HFinder_keepLeaders_d48 : decode J_HFinder_keepLeaders.2.1 48 = .ok (.aload_n 0, 1) := by decide +kernel
theorem J_HFinder_keepLeaders_d49 : decode J_HFinder_keepLeaders.2.1 49 = .ok (.getfield 27, 3) := by decide +kernel
theorem J_HFinder_keepLeaders_d52 : decode J_HFinder_keepLeaders.2.1 52 = .ok (.iload_n 1, 1) := by decide +kernel
theorem J_HFinder_keepLeaders_d53 : decode J_HFinder_keepLeaders.2.1 53 = .ok (.iaload, 1) := by decide +kernel
theorem J_HFinder_keepLeaders_d54 : decode J_HFinder_keepLeaders.2.1 54 = .ok (.if_icmp .ne 12, 3) := by decide +kernel
theorem J_HFinder_keepLeaders_d57 : decode J_HFinder_keepLeaders.2.1 57 = .ok (.iload_n 2, 1) := by decide +kernel
theorem J_HFinder_keepLeaders_d58 : decode J_HFinder_keepLeaders.2.1 58 = .ok (.iload_n 1, 1) := by decide +kernel
theorem J_HFinder_keepLeaders_d59 : decode J_HFinder_keepLeaders.2.1 59 = .ok (.if_icmp .ge 7, 3) := by decide +kernel
theorem J_HFinder_keepLeaders_d62 : decode J_HFinder_keepLeaders.2.1 62 = .ok (.iconst 1, 1) := by decide +kernel
theorem J_HFinder_keepLeaders_d63 : decode J_HFinder_keepLeaders.2.1 63 = .ok (.goto 4, 3) := by decide +kernel
theorem J_HFinder_keepLeaders_d66 : decode J_HFinder_keepLeaders.2.1 66 = .ok (.iconst 0, 1) := by decide +kernel
theorem J_HFinder_keepLeaders_d67 : decode J_HFinder_keepLeaders.2.1 67 = .ok (.istore_n 3, 1) := by decide +kernel
theorem J_HFinder_keepLeaders_d68 : decode J_HFinder_keepLeaders.2.1 68 = .ok (.iload_n 3, 1) := by decide +kernel
theorem J_HFinder_keepLeaders_d69 : decode J_HFinder_keepLeaders.2.1 69 = .ok (.ifCond .eq 19, 3) := by decide +kernel
theorem J_HFinder_keepLeaders_d72 : decode J_HFinder_keepLeaders.2.1 72 = .ok (.aload_n 0, 1) := by decide +kernel
theorem J_HFinder_keepLeaders_d73 : decode J_HFinder_keepLeaders.2.1 73 = .ok (.iload_n 1, 1) := by decide +kernel
theorem J_HFinder_keepLeaders_d74 : decode J_HFinder_keepLeaders.2.1 74 = .ok (.iload_n 2, 1) := by decide +kernel
theorem J_HFinder_keepLeaders_d75 : decode J_HFinder_keepLeaders.2.1 75 = .ok (.invokevirtual 145, 3) := by decide +kernel
theorem J_HFinder_keepLeaders_d78 : decode J_HFinder_keepLeaders.2.1 78 = .ok (.ifCond .eq 10, 3) := by decide +kernel
theorem J_HFinder_keepLeaders_d81 : decode J_HFinder_keepLeaders.2.1 81 = .ok (.aload_n 0, 1) := by decide +kernel
theorem J_HFinder_keepLeaders_d82 : decode J_HFinder_keepLeaders.2.1 82 = .ok (.getfield 30, 3) := by decide +kernel
theorem J_HFinder_keepLeaders_d85 : decode J_HFinder_keepLeaders.2.1 85 = .ok (.iload_n 1, 1) := by decide +kernel
theorem J_HFinder_keepLeaders_d86 : decode J_HFinder_keepLeaders.2.1 86 = .ok (.iconst 0, 1) := by decide +kernel
theorem J_HFinder_keepLeaders_d87 : decode J_HFinder_keepLeaders.2.1 87 = .ok (.bastore, 1) := by decide +kernel
theorem J_HFinder_keepLeaders_d88 : decode J_HFinder_keepLeaders.2.1 88 = .ok (.iinc 2 1, 3) := by decide +kernel
theorem J_HFinder_keepLeaders_d91 : decode J_HFinder_keepLeaders.2.1 91 = .ok (.goto (-72), 3) := by decide +kernel
theorem J_HFinder_keepLeaders_d94 : decode J_HFinder_keepLeaders.2.1 94 = .ok (.iinc 1 1, 3) := by decide +kernel
theorem J_HFinder_keepLeaders_d97 : decode J_HFinder_keepLeaders.2.1 97 = .ok (.goto (-95), 3) := by decide +kernel
theorem J_HFinder_keepLeaders_d100 : decode J_HFinder_keepLeaders.2.1 100 = .ok (.iconst 0, 1) := by decide +kernel
theorem J_HFinder_keepLeaders_d101 : decode J_HFinder_keepLeaders.2.1 101 = .ok (.istore_n 1, 1) := by decide +kernel
theorem J_HFinder_keepLeaders_d102 : decode J_HFinder_keepLeaders.2.1 102 = .ok (.iload_n 1, 1) := by decide +kernel
theorem J_HFinder_keepLeaders_d103 : decode J_HFinder_keepLeaders.2.1 103 = .ok (.aload_n 0, 1) := by decide +kernel
theorem J_HFinder_keepLeaders_d104 : decode J_HFinder_keepLeaders.2.1 104 = .ok (.getfield 45, 3) := by decide +kernel
theorem J_HFinder_keepLeaders_d107 : decode J_HFinder_keepLeaders.2.1 107 = .ok (.if_icmp .ge 58, 3) := by decide +kernel
theorem J_HFinder_keepLeaders_d110 : decode J_HFinder_keepLeaders.2.1 110 = .ok (.aload_n 0, 1) := by decide +kernel
theorem J_HFinder_keepLeaders_d111 : decode J_HFinder_keepLeaders.2.1 111 = .ok (.getfield 30, 3) := by decide +kernel
theorem J_HFinder_keepLeaders_d114 : decode J_HFinder_keepLeaders.2.1 114 = .ok (.iload_n 1, 1) := by decide +kernel
theorem J_HFinder_keepLeaders_d115 : decode J_HFinder_keepLeaders.2.1 115 = .ok (.baload, 1) := by decide +kernel
theorem J_HFinder_keepLeaders_d116 : decode J_HFinder_keepLeaders.2.1 116 = .ok (.ifCond .eq 43, 3) := by decide +kernel
theorem J_HFinder_keepLeaders_d119 : decode J_HFinder_keepLeaders.2.1 119 = .ok (.aload_n 0, 1) := by decide +kernel
theorem J_HFinder_keepLeaders_d120 : decode J_HFinder_keepLeaders.2.1 120 = .ok (.getfield 23, 3) := by decide +kernel
theorem J_HFinder_keepLeaders_d123 : decode J_HFinder_keepLeaders.2.1 123 = .ok (.aload_n 0, 1) := by decide +kernel
theorem J_HFinder_keepLeaders_d124 : decode J_HFinder_keepLeaders.2.1 124 = .ok (.getfield 41, 3) := by decide +kernel
theorem J_HFinder_keepLeaders_d127 : decode J_HFinder_keepLeaders.2.1 127 = .ok (.aload_n 0, 1) := by decide +kernel
theorem J_HFinder_keepLeaders_d128 : decode J_HFinder_keepLeaders.2.1 128 = .ok (.getfield 23, 3) := by decide +kernel
theorem J_HFinder_keepLeaders_d131 : decode J_HFinder_keepLeaders.2.1 131 = .ok (.iload_n 1, 1) := by decide +kernel
theorem J_HFinder_keepLeaders_d132 : decode J_HFinder_keepLeaders.2.1 132 = .ok (.laload, 1) := by decide +kernel
theorem J_HFinder_keepLeaders_d133 : decode J_HFinder_keepLeaders.2.1 133 = .ok (.lastore, 1) := by decide +kernel
theorem J_HFinder_keepLeaders_d134 : decode J_HFinder_keepLeaders.2.1 134 = .ok (.aload_n 0, 1) := by decide +kernel
theorem J_HFinder_keepLeaders_d135 : decode J_HFinder_keepLeaders.2.1 135 = .ok (.getfield 27, 3) := by decide +kernel
theorem J_HFinder_keepLeaders_d138 : decode J_HFinder_keepLeaders.2.1 138 = .ok (.aload_n 0, 1) := by decide +kernel
theorem J_HFinder_keepLeaders_d139 : decode J_HFinder_keepLeaders.2.1 139 = .ok (.getfield 41, 3) := by decide +kernel
theorem J_HFinder_keepLeaders_d142 : decode J_HFinder_keepLeaders.2.1 142 = .ok (.aload_n 0, 1) := by decide +kernel
theorem J_HFinder_keepLeaders_d143 : decode J_HFinder_keepLeaders.2.1 143 = .ok (.getfield 27, 3) := by decide +kernel
theorem J_HFinder_keepLeaders_d146 : decode J_HFinder_keepLeaders.2.1 146 = .ok (.iload_n 1, 1) := by decide +kernel
theorem J_HFinder_keepLeaders_d147 : decode J_HFinder_keepLeaders.2.1 147 = .ok (.iaload, 1) := by decide +kernel
theorem J_HFinder_keepLeaders_d148 : decode J_HFinder_keepLeaders.2.1 148 = .ok (.iastore, 1) := by decide +kernel
theorem J_HFinder_keepLeaders_d149 : decode J_HFinder_keepLeaders.2.1 149 = .ok (.aload_n 0, 1) := by decide +kernel
theorem J_HFinder_keepLeaders_d150 : decode J_HFinder_keepLeaders.2.1 150 = .ok (.dup, 1) := by decide +kernel
theorem J_HFinder_keepLeaders_d151 : decode J_HFinder_keepLeaders.2.1 151 = .ok (.getfield 41, 3) := by decide +kernel
theorem J_HFinder_keepLeaders_d154 : decode J_HFinder_keepLeaders.2.1 154 = .ok (.iconst 1, 1) := by decide +kernel
theorem J_HFinder_keepLeaders_d155 : decode J_HFinder_keepLeaders.2.1 155 = .ok (.iadd, 1) := by decide +kernel
theorem J_HFinder_keepLeaders_d156 : decode J_HFinder_keepLeaders.2.1 156 = .ok (.putfield 41, 3) := by decide +kernel
theorem J_HFinder_keepLeaders_d159 : decode J_HFinder_keepLeaders.2.1 159 = .ok (.iinc 1 1, 3) := by decide +kernel
theorem J_HFinder_keepLeaders_d162 : decode J_HFinder_keepLeaders.2.1 162 = .ok (.goto (-60), 3) := by decide +kernel
theorem J_HFinder_keepLeaders_d165 : decode J_HFinder_keepLeaders.2.1 165 = .ok (.return_, 1) := by decide +kernel
theorem f_HFinder_keepLeaders_ok {L : Nat} {xs : Nat → Int32} {dep : Nat} {w : Bool} {M : im_M} {Q : im_M → Prop} (hM : lw_S w M) (h : ed (f_HFinder_keepLeaders M) Q) : ia (tb_G L xs) (dep + 2) J_HFinder_keepLeaders (rwV w Q) (0, lv_args 0 [.ref 59], [], M) := by
  have hS : im_St (tb_G L xs) (dep + 2) J_HFinder_keepLeaders (ia (tb_G L xs) (dep + 2) J_HFinder_keepLeaders (rwV w Q)) := ia_St
  unfold f_HFinder_keepLeaders at h
  have l0 : im_lk (lv_args 0 [.ref 59]) 0 = some (.ref 59) := rfl
  refine iq_iconst hS 1 J_HFinder_keepLeaders_d0 (v := 0) (by decide +kernel) rfl ?_
  refine iq_istore_n hS 2 J_HFinder_keepLeaders_d1 (by decide) rfl ?_
  obtain ⟨Q1, hQ1, h⟩ := bd1_ed h
  have K1 : ∀ (M2 : im_M) (L' : List (Nat × Value)), lw_S w M2 → im_lk L' 0 = some (.ref 59) → Q1 M2 → ia (tb_G L xs) (dep + 2) J_HFinder_keepLeaders (rwV w Q) (100, L', [], M2) := by
    intro M2 L' hM2 l3 h
    replace h := hQ1 _ h
    refine iq_iconst hS 101 J_HFinder_keepLeaders_d100 (v := 0) (by decide +kernel) rfl ?_
    refine iq_istore_n hS 102 J_HFinder_keepLeaders_d101 (by decide) rfl ?_
    obtain ⟨Q4, hQ4, h⟩ := bd1_ed h
    have K4 : ∀ (M5 : im_M) (L' : List (Nat × Value)), lw_S w M5 → Q4 M5 → ia (tb_G L xs) (dep + 2) J_HFinder_keepLeaders (rwV w Q) (165, L', [], M5) := by
      intro M5 L' hM5  h
      replace h := hQ4 _ h
      exact iq_ret J_HFinder_keepLeaders_d165 rfl ⟨rfl, hM5, ed_some h⟩
    obtain ⟨r4, hr4, hq4⟩ := h
    obtain ⟨n4, hn4⟩ := lp_n hr4
    have I4 : ∀ (n : Nat) (x6 : Int32) (M7 : im_M) (L' : List (Nat × Value)), lw_S w M7 → im_lk L' 0 = some (.ref 59) → im_lk L' 1 = some (.int x6) → lpn (uc2 (f_HFinder_keepLeaders_L102)) n (x6, M7) = some r4 → ia (tb_G L xs) (dep + 2) J_HFinder_keepLeaders (rwV w Q) (102, L', [], M7) := by
      intro n
      induction n with
      | zero => intro x6 M7 L' hM7 l8 l9 hn; exact (lpn_0 hn).elim
      | succ n ih =>
        intro x6 M7 L' hM7 l8 l9 hn
        have h := lpn_ed2 hn
        unfold f_HFinder_keepLeaders_L102 at h
        refine iq_iload_n hS 103 J_HFinder_keepLeaders_d102 l9 rfl ?_
        refine iq_aload_n hS 104 J_HFinder_keepLeaders_d103 l8 rfl ?_
        refine iq_getI hS 107 J_HFinder_keepLeaders_d104 lf_3_45 (Or.inl rfl) (ka_59 hM7) rfl ?_
        refine iq_icmp_ge hS 110 J_HFinder_keepLeaders_d107 (t := 165) rfl (fun q107 => ?_) rfl (fun q107 => ?_)
        · replace h := ed_pos q107 h
          exact K4 _ _ hM7  (lq_r h hq4)
        · replace h := ed_neg q107 h
          refine iq_aload_n hS 111 J_HFinder_keepLeaders_d110 l8 rfl ?_
          refine iq_getR hS 114 J_HFinder_keepLeaders_d111 lf_3_30 (Or.inr ⟨_, rfl⟩) (ka_59 hM7) (ra_59_6 hM7) rfl ?_
          refine iq_iload_n hS 115 J_HFinder_keepLeaders_d114 l9 rfl ?_
          obtain ⟨g115, h⟩ := ed_gd h
          refine iq_zaload hS 116 J_HFinder_keepLeaders_d115 ⟨(ka_64 hM7).1, (ka_64 hM7).2, g115.1, ix_lt (kl_64 hM7) g115.2⟩ rfl ?_
          obtain ⟨Q10, hQ10, h⟩ := bd1_ed h
          have J10 : ∀ (M11 : im_M) (L' : List (Nat × Value)), lw_S w M11 → im_lk L' 0 = some (.ref 59) → im_lk L' 1 = some (.int x6) → Q10 M11 → ia (tb_G L xs) (dep + 2) J_HFinder_keepLeaders (rwV w Q) (159, L', [], M11) := by
            intro M11 L' hM11 l12 l13 h
            replace h := hQ10 _ h
            refine iq_iincv hS 162 J_HFinder_keepLeaders_d159 (c := 1) (by decide +kernel) l13 (by decide) rfl ?_
            refine iq_goto hS J_HFinder_keepLeaders_d162 (t := 102) rfl ?_
            exact ih _ _ _ hM11 (lk_1r l12 (by decide)) lk_1s (lq_l h)
          refine iq_if_eq hS 119 J_HFinder_keepLeaders_d116 (t := 159) rfl (fun q116 => ?_) rfl (fun q116 => ?_)
          · replace h := ed_pos q116 h
            exact J10 _ _ hM7 l8 l9 (ed_some h)
          · replace h := ed_neg q116 h
            refine iq_aload_n hS 120 J_HFinder_keepLeaders_d119 l8 rfl ?_
            refine iq_getR hS 123 J_HFinder_keepLeaders_d120 lf_3_23 (Or.inr ⟨_, rfl⟩) (ka_59 hM7) (ra_59_4 hM7) rfl ?_
            refine iq_aload_n hS 124 J_HFinder_keepLeaders_d123 l8 rfl ?_
            refine iq_getI hS 127 J_HFinder_keepLeaders_d124 lf_3_41 (Or.inl rfl) (ka_59 hM7) rfl ?_
            refine iq_aload_n hS 128 J_HFinder_keepLeaders_d127 l8 rfl ?_
            refine iq_getR hS 131 J_HFinder_keepLeaders_d128 lf_3_23 (Or.inr ⟨_, rfl⟩) (ka_59 hM7) (ra_59_4 hM7) rfl ?_
            refine iq_iload_n hS 132 J_HFinder_keepLeaders_d131 l9 rfl ?_
            obtain ⟨g132, h⟩ := ed_gd h
            refine iq_laload hS 133 J_HFinder_keepLeaders_d132 ⟨(ka_62 hM7).1, (ka_62 hM7).2, g132.1, ix_lt (kl_62 hM7) g132.2⟩ rfl ?_
            obtain ⟨g133, h⟩ := ed_gd h
            refine iq_lastore hS 134 J_HFinder_keepLeaders_d133 ⟨(ka_62 hM7).1, (ka_62 hM7).2, g133.1, ix_lt (kl_62 hM7) g133.2⟩ rfl ?_
            refine iq_aload_n hS 135 J_HFinder_keepLeaders_d134 l8 rfl ?_
            refine iq_getR hS 138 J_HFinder_keepLeaders_d135 lf_3_27 (Or.inr ⟨_, rfl⟩) (ka_59 (lw_sL hM7)) (ra_59_5 (lw_sL hM7)) rfl ?_
            refine iq_aload_n hS 139 J_HFinder_keepLeaders_d138 l8 rfl ?_
            refine iq_getI hS 142 J_HFinder_keepLeaders_d139 lf_3_41 (Or.inl rfl) (ka_59 (lw_sL hM7)) rfl ?_
            refine iq_aload_n hS 143 J_HFinder_keepLeaders_d142 l8 rfl ?_
            refine iq_getR hS 146 J_HFinder_keepLeaders_d143 lf_3_27 (Or.inr ⟨_, rfl⟩) (ka_59 (lw_sL hM7)) (ra_59_5 (lw_sL hM7)) rfl ?_
            refine iq_iload_n hS 147 J_HFinder_keepLeaders_d146 l9 rfl ?_
            obtain ⟨g147, h⟩ := ed_gd h
            refine iq_iaload hS 148 J_HFinder_keepLeaders_d147 ⟨(ka_63 (lw_sL hM7)).1, (ka_63 (lw_sL hM7)).2, g147.1, ix_lt (kl_63 (lw_sL hM7)) g147.2⟩ rfl ?_
            obtain ⟨g148, h⟩ := ed_gd h
            refine iq_iastore hS 149 J_HFinder_keepLeaders_d148 ⟨(ka_63 (lw_sL hM7)).1, (ka_63 (lw_sL hM7)).2, g148.1, ix_lt (kl_63 (lw_sL hM7)) g148.2⟩ rfl ?_
            refine iq_aload_n hS 150 J_HFinder_keepLeaders_d149 l8 rfl ?_
            refine iq_dup hS 151 J_HFinder_keepLeaders_d150 rfl rfl ?_
            refine iq_getI hS 154 J_HFinder_keepLeaders_d151 lf_3_41 (Or.inl rfl) (ka_59 (lw_sI (lw_sL hM7))) rfl ?_
            refine iq_iconst hS 155 J_HFinder_keepLeaders_d154 (v := 1) (by decide +kernel) rfl ?_
            refine iq_iadd hS 156 J_HFinder_keepLeaders_d155 rfl ?_
            refine iq_putI hS 159 J_HFinder_keepLeaders_d156 lf_3_41 (Or.inl rfl) rfl (ka_59 (lw_sI (lw_sL hM7))) rfl ?_
            exact J10 _ _ (lw_sI (lw_sI (lw_sL hM7))) l8 l9 (ed_some h)
    exact I4 n4 _ _ _ hM2 (lk_1r l3 (by decide)) lk_1s hn4
  obtain ⟨r1, hr1, hq1⟩ := h
  obtain ⟨n1, hn1⟩ := lp_n hr1
  have I1 : ∀ (n : Nat) (x14 : Int32) (M15 : im_M) (L' : List (Nat × Value)), lw_S w M15 → im_lk L' 0 = some (.ref 59) → im_lk L' 1 = some (.int x14) → lpn (uc2 (f_HFinder_keepLeaders_L2)) n (x14, M15) = some r1 → ia (tb_G L xs) (dep + 2) J_HFinder_keepLeaders (rwV w Q) (2, L', [], M15) := by
    intro n
    induction n with
    | zero => intro x14 M15 L' hM15 l16 l17 hn; exact (lpn_0 hn).elim
    | succ n ih =>
      intro x14 M15 L' hM15 l16 l17 hn
      have h := lpn_ed2 hn
      unfold f_HFinder_keepLeaders_L2 at h
      refine iq_iload_n hS 3 J_HFinder_keepLeaders_d2 l17 rfl ?_
      refine iq_aload_n hS 4 J_HFinder_keepLeaders_d3 l16 rfl ?_
      refine iq_getI hS 7 J_HFinder_keepLeaders_d4 lf_3_45 (Or.inl rfl) (ka_59 hM15) rfl ?_
      refine iq_icmp_ge hS 10 J_HFinder_keepLeaders_d7 (t := 100) rfl (fun q7 => ?_) rfl (fun q7 => ?_)
      · replace h := ed_pos q7 h
        exact K1 _ _ hM15 l16 (lq_r h hq1)
      · replace h := ed_neg q7 h
        refine iq_aload_n hS 11 J_HFinder_keepLeaders_d10 l16 rfl ?_
        refine iq_getR hS 14 J_HFinder_keepLeaders_d11 lf_3_30 (Or.inr ⟨_, rfl⟩) (ka_59 hM15) (ra_59_6 hM15) rfl ?_
        refine iq_iload_n hS 15 J_HFinder_keepLeaders_d14 l17 rfl ?_
        refine iq_iconst hS 16 J_HFinder_keepLeaders_d15 (v := 1) (by decide +kernel) rfl ?_
        obtain ⟨g16, h⟩ := ed_gd h
        refine iq_zastore hS 17 J_HFinder_keepLeaders_d16 ⟨(ka_64 hM15).1, (ka_64 hM15).2, g16.1, ix_lt (kl_64 hM15) g16.2⟩ rfl ?_
        refine iq_iconst hS 18 J_HFinder_keepLeaders_d17 (v := 0) (by decide +kernel) rfl ?_
        refine iq_istore_n hS 19 J_HFinder_keepLeaders_d18 (by decide) rfl ?_
        obtain ⟨Q18, hQ18, h⟩ := bd1_ed h
        have K18 : ∀ (M19 : im_M) (L' : List (Nat × Value)), lw_S w M19 → im_lk L' 0 = some (.ref 59) → im_lk L' 1 = some (.int x14) → Q18 M19 → ia (tb_G L xs) (dep + 2) J_HFinder_keepLeaders (rwV w Q) (94, L', [], M19) := by
          intro M19 L' hM19 l20 l21 h
          replace h := hQ18 _ h
          refine iq_iincv hS 97 J_HFinder_keepLeaders_d94 (c := 1) (by decide +kernel) l21 (by decide) rfl ?_
          refine iq_goto hS J_HFinder_keepLeaders_d97 (t := 2) rfl ?_
          exact ih _ _ _ hM19 (lk_1r l20 (by decide)) lk_1s (lq_l h)
        obtain ⟨r18, hr18, hq18⟩ := h
        obtain ⟨n18, hn18⟩ := lp_n hr18
        have I18 : ∀ (n : Nat) (x22 : Int32) (M23 : im_M) (L' : List (Nat × Value)), lw_S w M23 → im_lk L' 0 = some (.ref 59) → im_lk L' 1 = some (.int x14) → im_lk L' 2 = some (.int x22) → lpn (uc2 (f_HFinder_keepLeaders_L19 x14)) n (x22, M23) = some r18 → ia (tb_G L xs) (dep + 2) J_HFinder_keepLeaders (rwV w Q) (19, L', [], M23) := by
          intro n
          induction n with
          | zero => intro x22 M23 L' hM23 l24 l25 l26 hn; exact (lpn_0 hn).elim
          | succ n ih =>
            intro x22 M23 L' hM23 l24 l25 l26 hn
            have h := lpn_ed2 hn
            unfold f_HFinder_keepLeaders_L19 at h
            refine iq_iload_n hS 20 J_HFinder_keepLeaders_d19 l26 rfl ?_
            refine iq_aload_n hS 21 J_HFinder_keepLeaders_d20 l24 rfl ?_
            refine iq_getI hS 24 J_HFinder_keepLeaders_d21 lf_3_45 (Or.inl rfl) (ka_59 hM23) rfl ?_
            refine iq_icmp_ge hS 27 J_HFinder_keepLeaders_d24 (t := 94) rfl (fun q24 => ?_) rfl (fun q24 => ?_)
            · replace h := ed_pos q24 h
              exact K18 _ _ hM23 l24 l25 (lq_r h hq18)
            · replace h := ed_neg q24 h
              refine iq_aload_n hS 28 J_HFinder_keepLeaders_d27 l24 rfl ?_
              refine iq_getR hS 31 J_HFinder_keepLeaders_d28 lf_3_27 (Or.inr ⟨_, rfl⟩) (ka_59 hM23) (ra_59_5 hM23) rfl ?_
              refine iq_iload_n hS 32 J_HFinder_keepLeaders_d31 l26 rfl ?_
              obtain ⟨g32, h⟩ := ed_gd h
              refine iq_iaload hS 33 J_HFinder_keepLeaders_d32 ⟨(ka_63 hM23).1, (ka_63 hM23).2, g32.1, ix_lt (kl_63 hM23) g32.2⟩ rfl ?_
              refine iq_aload_n hS 34 J_HFinder_keepLeaders_d33 l24 rfl ?_
              refine iq_getR hS 37 J_HFinder_keepLeaders_d34 lf_3_27 (Or.inr ⟨_, rfl⟩) (ka_59 hM23) (ra_59_5 hM23) rfl ?_
              refine iq_iload_n hS 38 J_HFinder_keepLeaders_d37 l25 rfl ?_
              obtain ⟨g38, h⟩ := ed_gd h
              refine iq_iaload hS 39 J_HFinder_keepLeaders_d38 ⟨(ka_63 hM23).1, (ka_63 hM23).2, g38.1, ix_lt (kl_63 hM23) g38.2⟩ rfl ?_
              obtain ⟨Q27, hQ27, h⟩ := bd1_ed h
              have J27 : ∀ (y36 : Int32) (L' : List (Nat × Value)), im_lk L' 0 = some (.ref 59) → im_lk L' 1 = some (.int x14) → im_lk L' 2 = some (.int x22) → Q27 y36 → ia (tb_G L xs) (dep + 2) J_HFinder_keepLeaders (rwV w Q) (67, L', [.int y36], M23) := by
                intro y36 L' l37 l38 l39 h
                replace h := hQ27 _ h
                refine iq_istore_n hS 68 J_HFinder_keepLeaders_d67 (by decide) rfl ?_
                refine iq_iload_n hS 69 J_HFinder_keepLeaders_d68 lk_1s rfl ?_
                obtain ⟨Q40, hQ40, h⟩ := bd1_ed h
                have J40 : ∀ (M42 : im_M) (L' : List (Nat × Value)), lw_S w M42 → im_lk L' 0 = some (.ref 59) → im_lk L' 1 = some (.int x14) → im_lk L' 2 = some (.int x22) → Q40 M42 → ia (tb_G L xs) (dep + 2) J_HFinder_keepLeaders (rwV w Q) (88, L', [], M42) := by
                  intro M42 L' hM42 l43 l44 l45 h
                  replace h := hQ40 _ h
                  refine iq_iincv hS 91 J_HFinder_keepLeaders_d88 (c := 1) (by decide +kernel) l45 (by decide) rfl ?_
                  refine iq_goto hS J_HFinder_keepLeaders_d91 (t := 19) rfl ?_
                  exact ih _ _ _ hM42 (lk_1r l43 (by decide)) (lk_1i l44 (by decide)) lk_1s (lq_l h)
                refine iq_if_eq hS 72 J_HFinder_keepLeaders_d69 (t := 88) rfl (fun q69 => ?_) rfl (fun q69 => ?_)
                · replace h := ed_pos q69 h
                  exact J40 _ _ hM23 (lk_1r l37 (by decide)) (lk_1i l38 (by decide)) (lk_1i l39 (by decide)) (ed_some h)
                · replace h := ed_neg q69 h
                  refine iq_aload_n hS 73 J_HFinder_keepLeaders_d72 (lk_1r l37 (by decide)) rfl ?_
                  refine iq_iload_n hS 74 J_HFinder_keepLeaders_d73 (lk_1i l38 (by decide)) rfl ?_
                  refine iq_iload_n hS 75 J_HFinder_keepLeaders_d74 (lk_1i l39 (by decide)) rfl ?_
                  obtain ⟨Q41, hQ41, h⟩ := bd1_ed h
                  refine iq_cpI hS 78 J_HFinder_keepLeaders_d75 rfl (pr_inst (vs := [_, _]) lc_3_145 lT_221 rfl rfl (by decide) (by decide) rfl (Nat.le_of_ble_eq_true rfl) (Nat.le_of_ble_eq_true rfl) (fun _ => Or.inl (pr_b (ka_59 hM23) (by decide) rfl))) (f_HFinder_haveCommonDot_ok (dep := dep + 0) hM23 h) rfl ?_
                  intro x41 h
                  replace h := hQ41 _ h
                  refine iq_if_eq hS 81 J_HFinder_keepLeaders_d78 (t := 88) rfl (fun q78 => ?_) rfl (fun q78 => ?_)
                  · replace h := ed_pos q78 h
                    exact J40 _ _ hM23 (lk_1r l37 (by decide)) (lk_1i l38 (by decide)) (lk_1i l39 (by decide)) (ed_some h)
                  · replace h := ed_neg q78 h
                    refine iq_aload_n hS 82 J_HFinder_keepLeaders_d81 (lk_1r l37 (by decide)) rfl ?_
                    refine iq_getR hS 85 J_HFinder_keepLeaders_d82 lf_3_30 (Or.inr ⟨_, rfl⟩) (ka_59 hM23) (ra_59_6 hM23) rfl ?_
                    refine iq_iload_n hS 86 J_HFinder_keepLeaders_d85 (lk_1i l38 (by decide)) rfl ?_
                    refine iq_iconst hS 87 J_HFinder_keepLeaders_d86 (v := 0) (by decide +kernel) rfl ?_
                    obtain ⟨g87, h⟩ := ed_gd h
                    refine iq_zastore hS 88 J_HFinder_keepLeaders_d87 ⟨(ka_64 hM23).1, (ka_64 hM23).2, g87.1, ix_lt (kl_64 hM23) g87.2⟩ rfl ?_
                    exact J40 _ _ (lw_sI hM23) (lk_1r l37 (by decide)) (lk_1i l38 (by decide)) (lk_1i l39 (by decide)) (ed_some h)
              obtain ⟨k28, Q28, hQ28, hk28, h⟩ := jn0_ed h
              have J28 : ∀  (L' : List (Nat × Value)), im_lk L' 0 = some (.ref 59) → im_lk L' 1 = some (.int x14) → im_lk L' 2 = some (.int x22) → Q28 () → ia (tb_G L xs) (dep + 2) J_HFinder_keepLeaders (rwV w Q) (62, L', [], M23) := by
                intro  L' l33 l34 l35 h
                replace h := hQ28  h
                refine iq_iconst hS 63 J_HFinder_keepLeaders_d62 (v := 1) (by decide +kernel) rfl ?_
                refine iq_goto hS J_HFinder_keepLeaders_d63 (t := 67) rfl ?_
                exact J27 _ _ l33 l34 l35 (ed_some h)
              refine iq_icmp_lt hS 42 J_HFinder_keepLeaders_d39 (t := 62) rfl (fun q39 => ?_) rfl (fun q39 => ?_)
              · replace h := ed_pos q39 h
                exact J28  _ l24 l25 l26 (hk28  h)
              · replace h := ed_neg q39 h
                refine iq_aload_n hS 43 J_HFinder_keepLeaders_d42 l24 rfl ?_
                refine iq_getR hS 46 J_HFinder_keepLeaders_d43 lf_3_27 (Or.inr ⟨_, rfl⟩) (ka_59 hM23) (ra_59_5 hM23) rfl ?_
                refine iq_iload_n hS 47 J_HFinder_keepLeaders_d46 l26 rfl ?_
                obtain ⟨g47, h⟩ := ed_gd h
                refine iq_iaload hS 48 J_HFinder_keepLeaders_d47 ⟨(ka_63 hM23).1, (ka_63 hM23).2, g47.1, ix_lt (kl_63 hM23) g47.2⟩ rfl ?_
                refine iq_aload_n hS 49 J_HFinder_keepLeaders_d48 l24 rfl ?_
                refine iq_getR hS 52 J_HFinder_keepLeaders_d49 lf_3_27 (Or.inr ⟨_, rfl⟩) (ka_59 hM23) (ra_59_5 hM23) rfl ?_
                refine iq_iload_n hS 53 J_HFinder_keepLeaders_d52 l25 rfl ?_
                obtain ⟨g53, h⟩ := ed_gd h
                refine iq_iaload hS 54 J_HFinder_keepLeaders_d53 ⟨(ka_63 hM23).1, (ka_63 hM23).2, g53.1, ix_lt (kl_63 hM23) g53.2⟩ rfl ?_
                obtain ⟨k29, Q29, hQ29, hk29, h⟩ := jn0_ed h
                have J29 : ∀  (L' : List (Nat × Value)), im_lk L' 0 = some (.ref 59) → im_lk L' 1 = some (.int x14) → im_lk L' 2 = some (.int x22) → Q29 () → ia (tb_G L xs) (dep + 2) J_HFinder_keepLeaders (rwV w Q) (66, L', [], M23) := by
                  intro  L' l30 l31 l32 h
                  replace h := hQ29  h
                  refine iq_iconst hS 67 J_HFinder_keepLeaders_d66 (v := 0) (by decide +kernel) rfl ?_
                  exact J27 _ _ l30 l31 l32 (ed_some h)
                refine iq_icmp_ne hS 57 J_HFinder_keepLeaders_d54 (t := 66) rfl (fun q54 => ?_) rfl (fun q54 => ?_)
                · replace h := ed_pos q54 h
                  exact J29  _ l24 l25 l26 (hk29  h)
                · replace h := ed_neg q54 h
                  refine iq_iload_n hS 58 J_HFinder_keepLeaders_d57 l26 rfl ?_
                  refine iq_iload_n hS 59 J_HFinder_keepLeaders_d58 l25 rfl ?_
                  refine iq_icmp_ge hS 62 J_HFinder_keepLeaders_d59 (t := 66) rfl (fun q59 => ?_) rfl (fun q59 => ?_)
                  · replace h := ed_pos q59 h
                    exact J29  _ l24 l25 l26 (hk29  h)
                  · replace h := ed_neg q59 h
                    exact J28  _ l24 l25 l26 (hk28  h)
        exact I18 n18 _ _ _ (lw_sI hM15) (lk_1r l16 (by decide)) (lk_1i l17 (by decide)) lk_1s hn18
  exact I1 n1 _ _ _ hM (lk_1r l0 (by decide)) lk_1s hn1
theorem f_HFinder_keepLeaders_fr {M : im_M} {r : im_M} (h : f_HFinder_keepLeaders M = some r) : fr 32281802128991715328 [(59, 0)] M r := by
  replace h : ed (f_HFinder_keepLeaders M) (fun x => x = r) := ⟨r, h, rfl⟩
  unfold f_HFinder_keepLeaders at h
  obtain ⟨Q1, hQ1, h⟩ := bd1_ed h
  have K1 : ∀ (M2 : im_M), fr 32281802128991715328 [(59, 0)] M M2 → Q1 M2 → fr 32281802128991715328 [(59, 0)] M r := by
    intro M2 hM2 h
    replace h := hQ1 _ h
    obtain ⟨Q3, hQ3, h⟩ := bd1_ed h
    have K3 : ∀ (M4 : im_M), fr 32281802128991715328 [(59, 0)] M M4 → Q3 M4 → fr 32281802128991715328 [(59, 0)] M r := by
      intro M4 hM4 h
      replace h := hQ3 _ h
      exact fr_retV h hM4
    obtain ⟨r3, hr3, hq3⟩ := h
    obtain ⟨n3, hn3⟩ := lp_n hr3
    have I3 : ∀ (n : Nat) (x5 : Int32) (M6 : im_M), fr 32281802128991715328 [(59, 0)] M M6 → lpn (uc2 (f_HFinder_keepLeaders_L102)) n (x5, M6) = some r3 → fr 32281802128991715328 [(59, 0)] M r := by
      intro n
      induction n with
      | zero => intro x5 M6 hM6 hn; exact (lpn_0 hn).elim
      | succ n ih =>
        intro x5 M6 hM6 hn
        have h := lpn_ed2 hn
        unfold f_HFinder_keepLeaders_L102 at h
        by_cases q107 : (im_i M6 59 8) ≤ x5
        · replace h := ed_pos q107 h
          exact K3 _ hM6 (lq_r h hq3)
        · replace h := ed_neg q107 h
          obtain ⟨g115, h⟩ := ed_gd h
          obtain ⟨Q7, hQ7, h⟩ := bd1_ed h
          have J7 : ∀ (M8 : im_M), fr 32281802128991715328 [(59, 0)] M M8 → Q7 M8 → fr 32281802128991715328 [(59, 0)] M r := by
            intro M8 hM8 h
            replace h := hQ7 _ h
            exact ih _ _ hM8 (lq_l h)
          by_cases q116 : (im_i M6 64 (Int32.toNatClampNeg x5)) = 0
          · replace h := ed_pos q116 h
            exact J7 _ hM6 (ed_some h)
          · replace h := ed_neg q116 h
            obtain ⟨g132, h⟩ := ed_gd h
            obtain ⟨g133, h⟩ := ed_gd h
            obtain ⟨g147, h⟩ := ed_gd h
            obtain ⟨g148, h⟩ := ed_gd h
            exact J7 _ (fr_F (by decide) (fr_I (by decide) (fr_L (by decide) hM6))) (ed_some h)
    exact I3 n3 _ _ hM2 hn3
  obtain ⟨r1, hr1, hq1⟩ := h
  obtain ⟨n1, hn1⟩ := lp_n hr1
  have I1 : ∀ (n : Nat) (x11 : Int32) (M12 : im_M), fr 32281802128991715328 [(59, 0)] M M12 → lpn (uc2 (f_HFinder_keepLeaders_L2)) n (x11, M12) = some r1 → fr 32281802128991715328 [(59, 0)] M r := by
    intro n
    induction n with
    | zero => intro x11 M12 hM12 hn; exact (lpn_0 hn).elim
    | succ n ih =>
      intro x11 M12 hM12 hn
      have h := lpn_ed2 hn
      unfold f_HFinder_keepLeaders_L2 at h
      by_cases q7 : (im_i M12 59 8) ≤ x11
      · replace h := ed_pos q7 h
        exact K1 _ hM12 (lq_r h hq1)
      · replace h := ed_neg q7 h
        obtain ⟨g16, h⟩ := ed_gd h
        obtain ⟨Q13, hQ13, h⟩ := bd1_ed h
        have K13 : ∀ (M14 : im_M), fr 32281802128991715328 [(59, 0)] M M14 → Q13 M14 → fr 32281802128991715328 [(59, 0)] M r := by
          intro M14 hM14 h
          replace h := hQ13 _ h
          exact ih _ _ hM14 (lq_l h)
        obtain ⟨r13, hr13, hq13⟩ := h
        obtain ⟨n13, hn13⟩ := lp_n hr13
        have I13 : ∀ (n : Nat) (x15 : Int32) (M16 : im_M), fr 32281802128991715328 [(59, 0)] M M16 → lpn (uc2 (f_HFinder_keepLeaders_L19 x11)) n (x15, M16) = some r13 → fr 32281802128991715328 [(59, 0)] M r := by
          intro n
          induction n with
          | zero => intro x15 M16 hM16 hn; exact (lpn_0 hn).elim
          | succ n ih =>
            intro x15 M16 hM16 hn
            have h := lpn_ed2 hn
            unfold f_HFinder_keepLeaders_L19 at h
            by_cases q24 : (im_i M16 59 8) ≤ x15
            · replace h := ed_pos q24 h
              exact K13 _ hM16 (lq_r h hq13)
            · replace h := ed_neg q24 h
              obtain ⟨g32, h⟩ := ed_gd h
              obtain ⟨g38, h⟩ := ed_gd h
              obtain ⟨Q17, hQ17, h⟩ := bd1_ed h
              have J17 : ∀ (y26 : Int32), Q17 y26 → fr 32281802128991715328 [(59, 0)] M r := by
                intro y26 h
                replace h := hQ17 _ h
                obtain ⟨Q30, hQ30, h⟩ := bd1_ed h
                have J30 : ∀ (M32 : im_M), fr 32281802128991715328 [(59, 0)] M M32 → Q30 M32 → fr 32281802128991715328 [(59, 0)] M r := by
                  intro M32 hM32 h
                  replace h := hQ30 _ h
                  exact ih _ _ hM32 (lq_l h)
                by_cases q69 : y26 = 0
                · replace h := ed_pos q69 h
                  exact J30 _ hM16 (ed_some h)
                · replace h := ed_neg q69 h
                  obtain ⟨Q31, hQ31, h⟩ := bd1_ed h
                  obtain ⟨x31, e31, h⟩ := h
                  replace h := hQ31 _ h
                  by_cases q78 : x31 = 0
                  · replace h := ed_pos q78 h
                    exact J30 _ hM16 (ed_some h)
                  · replace h := ed_neg q78 h
                    obtain ⟨g87, h⟩ := ed_gd h
                    exact J30 _ (fr_I (by decide) hM16) (ed_some h)
              obtain ⟨k18, Q18, hQ18, hk18, h⟩ := jn0_ed h
              have J18 : Q18 () → fr 32281802128991715328 [(59, 0)] M r := by
                intro  h
                replace h := hQ18  h
                exact J17 _ (ed_some h)
              by_cases q39 : (im_i M16 63 (Int32.toNatClampNeg x15)) < (im_i M16 63 (Int32.toNatClampNeg x11))
              · replace h := ed_pos q39 h
                exact J18  (hk18  h)
              · replace h := ed_neg q39 h
                obtain ⟨g47, h⟩ := ed_gd h
                obtain ⟨g53, h⟩ := ed_gd h
                obtain ⟨k19, Q19, hQ19, hk19, h⟩ := jn0_ed h
                have J19 : Q19 () → fr 32281802128991715328 [(59, 0)] M r := by
                  intro  h
                  replace h := hQ19  h
                  exact J17 _ (ed_some h)
                by_cases q54 : ¬ (im_i M16 63 (Int32.toNatClampNeg x15)) = (im_i M16 63 (Int32.toNatClampNeg x11))
                · replace h := ed_pos q54 h
                  exact J19  (hk19  h)
                · replace h := ed_neg q54 h
                  by_cases q59 : x11 ≤ x15
                  · replace h := ed_pos q59 h
                    exact J19  (hk19  h)
                  · replace h := ed_neg q59 h
                    exact J18  (hk18  h)
        exact I13 n13 _ _ (fr_I (by decide) hM12) hn13
  exact I1 n1 _ _ fr_refl hn1
noncomputable def f_HFinder_search_L69 (w : Bool) (v4 : Int32) (v5 : Int32) (v6 : Int32) (M7 : im_M) : Option ((im_M) ⊕ ((im_M) ⊕ (Int32 × im_M))) := if v4 < (im_i M7 59 9) then some (.inr (.inl M7)) else if v5 < ((21 : Int32) * (im_i M7 59 9)) then some (.inr (.inl M7)) else bd1 (f_HFinder_darkMarks 1 M7) fun (x8 : Int32) => jn1 (fun (M12 : im_M) => some (.inl (im_setI M12 59 9 ((im_i M12 59 9) + 1)))) fun k9 => if (v6 + (im_i M7 59 10)) < ((x8 * (im_i M7 59 9)) * (im_i M7 59 9)) then k9 M7 else bd1 (f_HFinder_lookAtCorners M7) fun (M10 : im_M) => bd2 (f_HFinder_lookAtAll v5 M10) fun (x11 : Int32) (M11 : im_M) => if ¬ x11 = 0 then k9 M11 else some (.inr (.inr ((-1), M11)))
noncomputable def f_HFinder_search (w : Bool) (p0 : Int32) (p1 : Int32) (p2 : Int32) (M : im_M) : Option (Int32 × im_M) := bd1 (f_HFinder_addUp w (im_setI (im_setI (im_setI M 59 0 0) 59 8 0) 59 10 p2)) fun (M1 : im_M) => bd1 (f_Math_min (im_i M1 28 0) (im_i M1 28 1) M1) fun (x2 : Int32) => gd (inb (((im_i M1 28 1) * 513) + (im_i M1 28 0)) 263169) <| bs1 (lp (uc1 (f_HFinder_search_L69 w p1 x2 (im_i M1 60 (Int32.toNatClampNeg (((im_i M1 28 1) * 513) + (im_i M1 28 0)))))) (im_setI M1 59 9 p0)) (fun (M17 : im_M) => bd1 (f_HFinder_keepLeaders M17) fun (M18 : im_M) => some ((im_i M18 59 0), M18)) (fun t => some t)
theorem J_HFinder_search_d0 : decode J_HFinder_search.2.1 0 = .ok (.aload_n 0, 1) := by decide +kernel
theorem J_HFinder_search_d1 : decode J_HFinder_search.2.1 1 = .ok (.iconst 0, 1) := by decide +kernel
theorem J_HFinder_search_d2 : decode J_HFinder_search.2.1 2 = .ok (.putfield 41, 3) := by decide +kernel
theorem J_HFinder_search_d5 : decode J_HFinder_search.2.1 5 = .ok (.aload_n 0, 1) := by decide +kernel
theorem J_HFinder_search_d6 : decode J_HFinder_search.2.1 6 = .ok (.iconst 0, 1) := by decide +kernel
theorem J_HFinder_search_d7 : decode J_HFinder_search.2.1 7 = .ok (.putfield 45, 3) := by decide +kernel
theorem J_HFinder_search_d10 : decode J_HFinder_search.2.1 10 = .ok (.aload_n 0, 1) := by decide +kernel
theorem J_HFinder_search_d11 : decode J_HFinder_search.2.1 11 = .ok (.iload_n 3, 1) := by decide +kernel
theorem J_HFinder_search_d12 : decode J_HFinder_search.2.1 12 = .ok (.putfield 48, 3) := by decide +kernel
theorem J_HFinder_search_d15 : decode J_HFinder_search.2.1 15 = .ok (.aload_n 0, 1) := by decide +kernel
theorem J_HFinder_search_d16 : decode J_HFinder_search.2.1 16 = .ok (.invokevirtual 51, 3) := by decide +kernel
theorem J_HFinder_search_d19 : decode J_HFinder_search.2.1 19 = .ok (.aload_n 0, 1) := by decide +kernel
theorem J_HFinder_search_d20 : decode J_HFinder_search.2.1 20 = .ok (.getfield 37, 3) := by decide +kernel
theorem J_HFinder_search_d23 : decode J_HFinder_search.2.1 23 = .ok (.getfield 54, 3) := by decide +kernel
theorem J_HFinder_search_d26 : decode J_HFinder_search.2.1 26 = .ok (.aload_n 0, 1) := by decide +kernel
theorem J_HFinder_search_d27 : decode J_HFinder_search.2.1 27 = .ok (.getfield 37, 3) := by decide +kernel
theorem J_HFinder_search_d30 : decode J_HFinder_search.2.1 30 = .ok (.getfield 57, 3) := by decide +kernel
theorem J_HFinder_search_d33 : decode J_HFinder_search.2.1 33 = .ok (.invokestatic 60, 3) := by decide +kernel
theorem J_HFinder_search_d36 : decode J_HFinder_search.2.1 36 = .ok (.istore 4, 2) := by decide +kernel
theorem J_HFinder_search_d38 : decode J_HFinder_search.2.1 38 = .ok (.aload_n 0, 1) := by decide +kernel
theorem J_HFinder_search_d39 : decode J_HFinder_search.2.1 39 = .ok (.getfield 14, 3) := by decide +kernel
theorem J_HFinder_search_d42 : decode J_HFinder_search.2.1 42 = .ok (.aload_n 0, 1) := by decide +kernel
theorem J_HFinder_search_d43 : decode J_HFinder_search.2.1 43 = .ok (.getfield 37, 3) := by decide +kernel
theorem J_HFinder_search_d46 : decode J_HFinder_search.2.1 46 = .ok (.getfield 57, 3) := by decide +kernel
theorem J_HFinder_search_d49 : decode J_HFinder_search.2.1 49 = .ok (.sipush 513, 3) := by decide +kernel
theorem J_HFinder_search_d52 : decode J_HFinder_search.2.1 52 = .ok (.imul, 1) := by decide +kernel
theorem J_HFinder_search_d53 : decode J_HFinder_search.2.1 53 = .ok (.aload_n 0, 1) := by decide +kernel
theorem J_HFinder_search_d54 : decode J_HFinder_search.2.1 54 = .ok (.getfield 37, 3) := by decide +kernel
theorem J_HFinder_search_d57 : decode J_HFinder_search.2.1 57 = .ok (.getfield 54, 3) := by decide +kernel
theorem J_HFinder_search_d60 : decode J_HFinder_search.2.1 60 = .ok (.iadd, 1) := by decide +kernel
theorem J_HFinder_search_d61 : decode J_HFinder_search.2.1 61 = .ok (.iaload, 1) := by decide +kernel
theorem J_HFinder_search_d62 : decode J_HFinder_search.2.1 62 = .ok (.istore 5, 2) := by decide +kernel
theorem J_HFinder_search_d64 : decode J_HFinder_search.2.1 64 = .ok (.aload_n 0, 1) := by decide +kernel
theorem J_HFinder_search_d65 : decode J_HFinder_search.2.1 65 = .ok (.iload_n 1, 1) := by decide +kernel
theorem J_HFinder_search_d66 : decode J_HFinder_search.2.1 66 = .ok (.putfield 66, 3) := by decide +kernel
theorem J_HFinder_search_d69 : decode J_HFinder_search.2.1 69 = .ok (.aload_n 0, 1) := by decide +kernel
theorem J_HFinder_search_d70 : decode J_HFinder_search.2.1 70 = .ok (.getfield 66, 3) := by decide +kernel
theorem J_HFinder_search_d73 : decode J_HFinder_search.2.1 73 = .ok (.iload_n 2, 1) := by decide +kernel
theorem J_HFinder_search_d74 : decode J_HFinder_search.2.1 74 = .ok (.if_icmp .gt 67, 3) := by decide +kernel
theorem J_HFinder_search_d77 : decode J_HFinder_search.2.1 77 = .ok (.bipush 21, 2) := by decide +kernel
theorem J_HFinder_search_d79 : decode J_HFinder_search.2.1 79 = .ok (.aload_n 0, 1) := by decide +kernel
theorem J_HFinder_search_d80 : decode J_HFinder_search.2.1 80 = .ok (.getfield 66, 3) := by decide +kernel
theorem J_HFinder_search_d83 : decode J_HFinder_search.2.1 83 = .ok (.imul, 1) := by decide +kernel
theorem J_HFinder_search_d84 : decode J_HFinder_search.2.1 84 = .ok (.iload 4, 2) := by decide +kernel
theorem J_HFinder_search_d86 : decode J_HFinder_search.2.1 86 = .ok (.if_icmp .gt 55, 3) := by decide +kernel
theorem J_HFinder_search_d89 : decode J_HFinder_search.2.1 89 = .ok (.iload 5, 2) := by decide +kernel
theorem J_HFinder_search_d91 : decode J_HFinder_search.2.1 91 = .ok (.aload_n 0, 1) := by decide +kernel
theorem J_HFinder_search_d92 : decode J_HFinder_search.2.1 92 = .ok (.getfield 48, 3) := by decide +kernel
theorem J_HFinder_search_d95 : decode J_HFinder_search.2.1 95 = .ok (.iadd, 1) := by decide +kernel
theorem J_HFinder_search_d96 : decode J_HFinder_search.2.1 96 = .ok (.iconst 1, 1) := by decide +kernel
theorem J_HFinder_search_d97 : decode J_HFinder_search.2.1 97 = .ok (.invokestatic 69, 3) := by decide +kernel
theorem J_HFinder_search_d100 : decode J_HFinder_search.2.1 100 = .ok (.aload_n 0, 1) := by decide +kernel
theorem J_HFinder_search_d101 : decode J_HFinder_search.2.1 101 = .ok (.getfield 66, 3) := by decide +kernel
theorem J_HFinder_search_d104 : decode J_HFinder_search.2.1 104 = .ok (.imul, 1) := by decide +kernel
theorem J_HFinder_search_d105 : decode J_HFinder_search.2.1 105 = .ok (.aload_n 0, 1) := by decide +kernel
theorem J_HFinder_search_d106 : decode J_HFinder_search.2.1 106 = .ok (.getfield 66, 3) := by decide +kernel
theorem J_HFinder_search_d109 : decode J_HFinder_search.2.1 109 = .ok (.imul, 1) := by decide +kernel
theorem J_HFinder_search_d110 : decode J_HFinder_search.2.1 110 = .ok (.if_icmp .lt 18, 3) := by decide +kernel
theorem J_HFinder_search_d113 : decode J_HFinder_search.2.1 113 = .ok (.aload_n 0, 1) := by decide +kernel
theorem J_HFinder_search_d114 : decode J_HFinder_search.2.1 114 = .ok (.invokevirtual 73, 3) := by decide +kernel
theorem J_HFinder_search_d117 : decode J_HFinder_search.2.1 117 = .ok (.aload_n 0, 1) := by decide +kernel
theorem J_HFinder_search_d118 : decode J_HFinder_search.2.1 118 = .ok (.iload 4, 2) := by decide +kernel
theorem J_HFinder_search_d120 : decode J_HFinder_search.2.1 120 = .ok (.invokevirtual 76, 3) := by decide +kernel
theorem J_HFinder_search_d123 : decode J_HFinder_search.2.1 123 = .ok (.ifCond .ne 5, 3) := by decide +kernel
theorem J_HFinder_search_d126 : decode J_HFinder_search.2.1 126 = .ok (.iconst (-1), 1) := by decide +kernel
theorem J_HFinder_search_d127 : decode J_HFinder_search.2.1 127 = .ok (.ireturn, 1) := by decide +kernel
theorem J_HFinder_search_d128 : decode J_HFinder_search.2.1 128 = .ok (.aload_n 0, 1) := by decide +kernel
theorem J_HFinder_search_d129 : decode J_HFinder_search.2.1 129 = .ok (.dup, 1) := by decide +kernel
theorem J_HFinder_search_d130 : decode J_HFinder_search.2.1 130 = .ok (.getfield 66, 3) := by decide +kernel
theorem J_HFinder_search_d133 : decode J_HFinder_search.2.1 133 = .ok (.iconst 1, 1) := by decide +kernel
theorem J_HFinder_search_d134 : decode J_HFinder_search.2.1 134 = .ok (.iadd, 1) := by decide +kernel
theorem J_HFinder_search_d135 : decode J_HFinder_search.2.1 135 = .ok (.putfield 66, 3) := by decide +kernel
theorem J_HFinder_search_d138 : decode J_HFinder_search.2.1 138 = .ok (.goto (-69), 3) := by decide +kernel
theorem J_HFinder_search_d141 : decode J_HFinder_search.2.1 141 = .ok (.aload_n 0, 1) := by decide +kernel
theorem J_HFinder_search_d142 : decode J_HFinder_search.2.1 142 = .ok (.invokevirtual 80, 3) := by decide +kernel
theorem J_HFinder_search_d145 : decode J_HFinder_search.2.1 145 = .ok (.aload_n 0, 1) := by decide +kernel
theorem J_HFinder_search_d146 : decode J_HFinder_search.2.1 146 = .ok (.getfield 41, 3) := by decide +kernel
theorem J_HFinder_search_d149 : decode J_HFinder_search.2.1 149 = .ok (.ireturn, 1) := by decide +kernel
theorem f_HFinder_search_ok {L : Nat} {xs : Nat → Int32} {dep : Nat} {w : Bool} {p0 : Int32} {p1 : Int32} {p2 : Int32} {M : im_M} {Q : Int32 × im_M → Prop} (hM : lw_S w M) (h : ed (f_HFinder_search w p0 p1 p2 M) Q) : ia (tb_G L xs) (dep + 5) J_HFinder_search (rwI w Q) (0, lv_args 0 [.ref 59, .int p0, .int p1, .int p2], [], M) := by
  have hS : im_St (tb_G L xs) (dep + 5) J_HFinder_search (ia (tb_G L xs) (dep + 5) J_HFinder_search (rwI w Q)) := ia_St
  unfold f_HFinder_search at h
  have l0 : im_lk (lv_args 0 [.ref 59, .int p0, .int p1, .int p2]) 0 = some (.ref 59) := rfl
  have l1 : im_lk (lv_args 0 [.ref 59, .int p0, .int p1, .int p2]) 1 = some (.int p0) := rfl
  have l2 : im_lk (lv_args 0 [.ref 59, .int p0, .int p1, .int p2]) 2 = some (.int p1) := rfl
  have l3 : im_lk (lv_args 0 [.ref 59, .int p0, .int p1, .int p2]) 3 = some (.int p2) := rfl
  refine iq_aload_n hS 1 J_HFinder_search_d0 l0 rfl ?_
  refine iq_iconst hS 2 J_HFinder_search_d1 (v := 0) (by decide +kernel) rfl ?_
  refine iq_putI hS 5 J_HFinder_search_d2 lf_3_41 (Or.inl rfl) rfl (ka_59 hM) rfl ?_
  refine iq_aload_n hS 6 J_HFinder_search_d5 l0 rfl ?_
  refine iq_iconst hS 7 J_HFinder_search_d6 (v := 0) (by decide +kernel) rfl ?_
  refine iq_putI hS 10 J_HFinder_search_d7 lf_3_45 (Or.inl rfl) rfl (ka_59 (lw_sI hM)) rfl ?_
  refine iq_aload_n hS 11 J_HFinder_search_d10 l0 rfl ?_
  refine iq_iload_n hS 12 J_HFinder_search_d11 l3 rfl ?_
  refine iq_putI hS 15 J_HFinder_search_d12 lf_3_48 (Or.inl rfl) rfl (ka_59 (lw_sI (lw_sI hM))) rfl ?_
  refine iq_aload_n hS 16 J_HFinder_search_d15 l0 rfl ?_
  obtain ⟨Q1, hQ1, h⟩ := bd1_ed h
  refine iq_cwV hS 19 J_HFinder_search_d16 rfl (pr_inst (vs := []) lc_3_51 lT_203 rfl rfl (by decide) (by decide) rfl (Nat.le_of_ble_eq_true rfl) (Nat.le_of_ble_eq_true rfl) (fun _ => Or.inl (pr_b (ka_59 (lw_sI (lw_sI (lw_sI hM)))) (by decide) rfl))) (f_HFinder_addUp_ok (dep := dep + 3) (lw_sI (lw_sI (lw_sI hM))) h) rfl ?_
  intro M1 hM1 h
  replace h := hQ1 _ h
  refine iq_aload_n hS 20 J_HFinder_search_d19 l0 rfl ?_
  refine iq_getR hS 23 J_HFinder_search_d20 lf_3_37 (Or.inl ⟨_, rfl⟩) (ka_59 hM1) (ra_59_1 hM1) rfl ?_
  refine iq_getI hS 26 J_HFinder_search_d23 lf_3_54 (Or.inl rfl) (ka_28 hM1) rfl ?_
  refine iq_aload_n hS 27 J_HFinder_search_d26 l0 rfl ?_
  refine iq_getR hS 30 J_HFinder_search_d27 lf_3_37 (Or.inl ⟨_, rfl⟩) (ka_59 hM1) (ra_59_1 hM1) rfl ?_
  refine iq_getI hS 33 J_HFinder_search_d30 lf_3_57 (Or.inl rfl) (ka_28 hM1) rfl ?_
  obtain ⟨Q2, hQ2, h⟩ := bd1_ed h
  refine iq_cpI hS 36 J_HFinder_search_d33 rfl (pr_stat (vs := [_, _]) lc_3_60 lT_28 rfl rfl (by decide) rfl (Nat.le_of_ble_eq_true rfl) (Nat.le_of_ble_eq_true rfl)) (f_Math_min_ok (dep := dep + 4) hM1 h) rfl ?_
  intro x2 h
  replace h := hQ2 _ h
  refine iq_istore hS 38 J_HFinder_search_d36 (by decide) rfl ?_
  refine iq_aload_n hS 39 J_HFinder_search_d38 (lk_1r l0 (by decide)) rfl ?_
  refine iq_getR hS 42 J_HFinder_search_d39 lf_3_14 (Or.inr ⟨_, rfl⟩) (ka_59 hM1) (ra_59_2 hM1) rfl ?_
  refine iq_aload_n hS 43 J_HFinder_search_d42 (lk_1r l0 (by decide)) rfl ?_
  refine iq_getR hS 46 J_HFinder_search_d43 lf_3_37 (Or.inl ⟨_, rfl⟩) (ka_59 hM1) (ra_59_1 hM1) rfl ?_
  refine iq_getI hS 49 J_HFinder_search_d46 lf_3_57 (Or.inl rfl) (ka_28 hM1) rfl ?_
  refine iq_sipush hS 52 J_HFinder_search_d49 (v := 513) (by decide +kernel) rfl ?_
  refine iq_imul hS 53 J_HFinder_search_d52 rfl ?_
  refine iq_aload_n hS 54 J_HFinder_search_d53 (lk_1r l0 (by decide)) rfl ?_
  refine iq_getR hS 57 J_HFinder_search_d54 lf_3_37 (Or.inl ⟨_, rfl⟩) (ka_59 hM1) (ra_59_1 hM1) rfl ?_
  refine iq_getI hS 60 J_HFinder_search_d57 lf_3_54 (Or.inl rfl) (ka_28 hM1) rfl ?_
  refine iq_iadd hS 61 J_HFinder_search_d60 rfl ?_
  obtain ⟨g61, h⟩ := ed_gd h
  refine iq_iaload hS 62 J_HFinder_search_d61 ⟨(ka_60 hM1).1, (ka_60 hM1).2, g61.1, ix_lt (kl_60 hM1) g61.2⟩ rfl ?_
  refine iq_istore hS 64 J_HFinder_search_d62 (by decide) rfl ?_
  refine iq_aload_n hS 65 J_HFinder_search_d64 (lk_1r (lk_1r l0 (by decide)) (by decide)) rfl ?_
  refine iq_iload_n hS 66 J_HFinder_search_d65 (lk_1i (lk_1i l1 (by decide)) (by decide)) rfl ?_
  refine iq_putI hS 69 J_HFinder_search_d66 lf_3_66 (Or.inl rfl) rfl (ka_59 hM1) rfl ?_
  obtain ⟨Q3, hQ3, hR3, h⟩ := bs1_ed h
  have K3 : ∀ (M4 : im_M) (L' : List (Nat × Value)), lw_S w M4 → im_lk L' 0 = some (.ref 59) → Q3 (.inl M4) → ia (tb_G L xs) (dep + 5) J_HFinder_search (rwI w Q) (141, L', [], M4) := by
    intro M4 L' hM4 l5 h
    replace h := hQ3 _ h
    refine iq_aload_n hS 142 J_HFinder_search_d141 l5 rfl ?_
    obtain ⟨Q6, hQ6, h⟩ := bd1_ed h
    refine iq_cwV hS 145 J_HFinder_search_d142 rfl (pr_inst (vs := []) lc_3_80 lT_220 rfl rfl (by decide) (by decide) rfl (Nat.le_of_ble_eq_true rfl) (Nat.le_of_ble_eq_true rfl) (fun _ => Or.inl (pr_b (ka_59 hM4) (by decide) rfl))) (f_HFinder_keepLeaders_ok (dep := dep + 2) hM4 h) rfl ?_
    intro M6 hM6 h
    replace h := hQ6 _ h
    refine iq_aload_n hS 146 J_HFinder_search_d145 l5 rfl ?_
    refine iq_getI hS 149 J_HFinder_search_d146 lf_3_41 (Or.inl rfl) (ka_59 hM6) rfl ?_
    exact iq_iret J_HFinder_search_d149 rfl rfl ⟨_, rfl, hM6, ed_some h⟩
  obtain ⟨r3, hr3, hq3⟩ := h
  obtain ⟨n3, hn3⟩ := lp_n hr3
  have I3 : ∀ (n : Nat)  (M7 : im_M) (L' : List (Nat × Value)), lw_S w M7 → im_lk L' 0 = some (.ref 59) → im_lk L' 2 = some (.int p1) → im_lk L' 4 = some (.int x2) → im_lk L' 5 = some (.int (im_i M1 60 (Int32.toNatClampNeg (((im_i M1 28 1) * 513) + (im_i M1 28 0))))) → lpn (uc1 (f_HFinder_search_L69 w p1 x2 (im_i M1 60 (Int32.toNatClampNeg (((im_i M1 28 1) * 513) + (im_i M1 28 0)))))) n M7 = some r3 → ia (tb_G L xs) (dep + 5) J_HFinder_search (rwI w Q) (69, L', [], M7) := by
    intro n
    induction n with
    | zero => intro  M7 L' hM7 l8 l9 l10 l11 hn; exact (lpn_0 hn).elim
    | succ n ih =>
      intro  M7 L' hM7 l8 l9 l10 l11 hn
      have h := lpn_ed1 hn
      unfold f_HFinder_search_L69 at h
      refine iq_aload_n hS 70 J_HFinder_search_d69 l8 rfl ?_
      refine iq_getI hS 73 J_HFinder_search_d70 lf_3_66 (Or.inl rfl) (ka_59 hM7) rfl ?_
      refine iq_iload_n hS 74 J_HFinder_search_d73 l9 rfl ?_
      refine iq_icmp_gt hS 77 J_HFinder_search_d74 (t := 141) rfl (fun q74 => ?_) rfl (fun q74 => ?_)
      · replace h := ed_pos q74 h
        exact K3 _ _ hM7 l8 (lq_r h hq3)
      · replace h := ed_neg q74 h
        refine iq_bipush hS 79 J_HFinder_search_d77 (v := 21) (by decide +kernel) rfl ?_
        refine iq_aload_n hS 80 J_HFinder_search_d79 l8 rfl ?_
        refine iq_getI hS 83 J_HFinder_search_d80 lf_3_66 (Or.inl rfl) (ka_59 hM7) rfl ?_
        refine iq_imul hS 84 J_HFinder_search_d83 rfl ?_
        refine iq_iload hS 86 J_HFinder_search_d84 l10 rfl ?_
        refine iq_icmp_gt hS 89 J_HFinder_search_d86 (t := 141) rfl (fun q86 => ?_) rfl (fun q86 => ?_)
        · replace h := ed_pos q86 h
          exact K3 _ _ hM7 l8 (lq_r h hq3)
        · replace h := ed_neg q86 h
          refine iq_iload hS 91 J_HFinder_search_d89 l11 rfl ?_
          refine iq_aload_n hS 92 J_HFinder_search_d91 l8 rfl ?_
          refine iq_getI hS 95 J_HFinder_search_d92 lf_3_48 (Or.inl rfl) (ka_59 hM7) rfl ?_
          refine iq_iadd hS 96 J_HFinder_search_d95 rfl ?_
          refine iq_iconst hS 97 J_HFinder_search_d96 (v := 1) (by decide +kernel) rfl ?_
          obtain ⟨Q12, hQ12, h⟩ := bd1_ed h
          refine iq_cpI hS 100 J_HFinder_search_d97 rfl (pr_stat (vs := [_]) lc_3_69 lT_204 rfl rfl (by decide) rfl (Nat.le_of_ble_eq_true rfl) (Nat.le_of_ble_eq_true rfl)) (f_HFinder_darkMarks_ok (dep := dep + 4) hM7 h) rfl ?_
          intro x12 h
          replace h := hQ12 _ h
          refine iq_aload_n hS 101 J_HFinder_search_d100 l8 rfl ?_
          refine iq_getI hS 104 J_HFinder_search_d101 lf_3_66 (Or.inl rfl) (ka_59 hM7) rfl ?_
          refine iq_imul hS 105 J_HFinder_search_d104 rfl ?_
          refine iq_aload_n hS 106 J_HFinder_search_d105 l8 rfl ?_
          refine iq_getI hS 109 J_HFinder_search_d106 lf_3_66 (Or.inl rfl) (ka_59 hM7) rfl ?_
          refine iq_imul hS 110 J_HFinder_search_d109 rfl ?_
          obtain ⟨k13, Q13, hQ13, hk13, h⟩ := jn1_ed h
          have J13 : ∀ (M16 : im_M) (L' : List (Nat × Value)), lw_S w M16 → im_lk L' 0 = some (.ref 59) → im_lk L' 2 = some (.int p1) → im_lk L' 4 = some (.int x2) → im_lk L' 5 = some (.int (im_i M1 60 (Int32.toNatClampNeg (((im_i M1 28 1) * 513) + (im_i M1 28 0))))) → Q13 M16 → ia (tb_G L xs) (dep + 5) J_HFinder_search (rwI w Q) (128, L', [], M16) := by
            intro M16 L' hM16 l17 l18 l19 l20 h
            replace h := hQ13 _ h
            refine iq_aload_n hS 129 J_HFinder_search_d128 l17 rfl ?_
            refine iq_dup hS 130 J_HFinder_search_d129 rfl rfl ?_
            refine iq_getI hS 133 J_HFinder_search_d130 lf_3_66 (Or.inl rfl) (ka_59 hM16) rfl ?_
            refine iq_iconst hS 134 J_HFinder_search_d133 (v := 1) (by decide +kernel) rfl ?_
            refine iq_iadd hS 135 J_HFinder_search_d134 rfl ?_
            refine iq_putI hS 138 J_HFinder_search_d135 lf_3_66 (Or.inl rfl) rfl (ka_59 hM16) rfl ?_
            refine iq_goto hS J_HFinder_search_d138 (t := 69) rfl ?_
            exact ih  _ _ (lw_sI hM16) l17 l18 l19 l20 (lq_l h)
          refine iq_icmp_lt hS 113 J_HFinder_search_d110 (t := 128) rfl (fun q110 => ?_) rfl (fun q110 => ?_)
          · replace h := ed_pos q110 h
            exact J13 _ _ hM7 l8 l9 l10 l11 (hk13 _ h)
          · replace h := ed_neg q110 h
            refine iq_aload_n hS 114 J_HFinder_search_d113 l8 rfl ?_
            obtain ⟨Q14, hQ14, h⟩ := bd1_ed h
            refine iq_cwV hS 117 J_HFinder_search_d114 rfl (pr_inst (vs := []) lc_3_73 lT_205 rfl rfl (by decide) (by decide) rfl (Nat.le_of_ble_eq_true rfl) (Nat.le_of_ble_eq_true rfl) (fun _ => Or.inl (pr_b (ka_59 hM7) (by decide) rfl))) (f_HFinder_lookAtCorners_ok (dep := dep + 2) hM7 h) rfl ?_
            intro M14 hM14 h
            replace h := hQ14 _ h
            refine iq_aload_n hS 118 J_HFinder_search_d117 l8 rfl ?_
            refine iq_iload hS 120 J_HFinder_search_d118 l10 rfl ?_
            obtain ⟨Q15, hQ15, h⟩ := bd2_ed h
            refine iq_cwI hS 123 J_HFinder_search_d120 rfl (pr_inst (vs := [_]) lc_3_76 lT_208 rfl rfl (by decide) (by decide) rfl (Nat.le_of_ble_eq_true rfl) (Nat.le_of_ble_eq_true rfl) (fun _ => Or.inl (pr_b (ka_59 hM14) (by decide) rfl))) (f_HFinder_lookAtAll_ok (dep := dep + 0) hM14 h) rfl ?_
            intro x15 M15 hM15 h
            replace h := hQ15 _ _ h
            refine iq_if_ne hS 126 J_HFinder_search_d123 (t := 128) rfl (fun q123 => ?_) rfl (fun q123 => ?_)
            · replace h := ed_pos q123 h
              exact J13 _ _ hM15 l8 l9 l10 l11 (hk13 _ h)
            · replace h := ed_neg q123 h
              refine iq_iconst hS 127 J_HFinder_search_d126 (v := (-1)) (by decide +kernel) rfl ?_
              exact iq_iret J_HFinder_search_d127 rfl rfl ⟨_, rfl, hM15, ed_some (hR3 _ (lq_r h hq3))⟩
  exact I3 n3  _ _ (lw_sI hM1) (lk_1r (lk_1r l0 (by decide)) (by decide)) (lk_1i (lk_1i l2 (by decide)) (by decide)) (lk_1i lk_1s (by decide)) lk_1s hn3
theorem f_HFinder_search_fr {w : Bool} {p0 : Int32} {p1 : Int32} {p2 : Int32} {M : im_M} {r : Int32 × im_M} (h : f_HFinder_search w p0 p1 p2 M = some r) : fr 72634054790231359488 [(59, 0), (59, 8), (59, 9), (59, 10)] M r.2 := by
  replace h : ed (f_HFinder_search w p0 p1 p2 M) (fun x => x = r) := ⟨r, h, rfl⟩
  unfold f_HFinder_search at h
  obtain ⟨Q1, hQ1, h⟩ := bd1_ed h
  obtain ⟨M1, e1, h⟩ := h
  replace h := hQ1 _ h
  obtain ⟨Q2, hQ2, h⟩ := bd1_ed h
  obtain ⟨x2, e2, h⟩ := h
  replace h := hQ2 _ h
  obtain ⟨g61, h⟩ := ed_gd h
  obtain ⟨Q3, hQ3, hR3, h⟩ := bs1_ed h
  have K3 : ∀ (M4 : im_M), fr 72634054790231359488 [(59, 0), (59, 8), (59, 9), (59, 10)] M M4 → Q3 (.inl M4) → fr 72634054790231359488 [(59, 0), (59, 8), (59, 9), (59, 10)] M r.2 := by
    intro M4 hM4 h
    replace h := hQ3 _ h
    obtain ⟨Q5, hQ5, h⟩ := bd1_ed h
    obtain ⟨M5, e5, h⟩ := h
    replace h := hQ5 _ h
    exact fr_ret h (fr_tr (fr_mono (by decide) (by decide +kernel) (f_HFinder_keepLeaders_fr e5)) hM4)
  obtain ⟨r3, hr3, hq3⟩ := h
  obtain ⟨n3, hn3⟩ := lp_n hr3
  have I3 : ∀ (n : Nat)  (M6 : im_M), fr 72634054790231359488 [(59, 0), (59, 8), (59, 9), (59, 10)] M M6 → lpn (uc1 (f_HFinder_search_L69 w p1 x2 (im_i M1 60 (Int32.toNatClampNeg (((im_i M1 28 1) * 513) + (im_i M1 28 0)))))) n M6 = some r3 → fr 72634054790231359488 [(59, 0), (59, 8), (59, 9), (59, 10)] M r.2 := by
    intro n
    induction n with
    | zero => intro  M6 hM6 hn; exact (lpn_0 hn).elim
    | succ n ih =>
      intro  M6 hM6 hn
      have h := lpn_ed1 hn
      unfold f_HFinder_search_L69 at h
      by_cases q74 : p1 < (im_i M6 59 9)
      · replace h := ed_pos q74 h
        exact K3 _ hM6 (lq_r h hq3)
      · replace h := ed_neg q74 h
        by_cases q86 : x2 < ((21 : Int32) * (im_i M6 59 9))
        · replace h := ed_pos q86 h
          exact K3 _ hM6 (lq_r h hq3)
        · replace h := ed_neg q86 h
          obtain ⟨Q7, hQ7, h⟩ := bd1_ed h
          obtain ⟨x7, e7, h⟩ := h
          replace h := hQ7 _ h
          obtain ⟨k8, Q8, hQ8, hk8, h⟩ := jn1_ed h
          have J8 : ∀ (M11 : im_M), fr 72634054790231359488 [(59, 0), (59, 8), (59, 9), (59, 10)] M M11 → Q8 M11 → fr 72634054790231359488 [(59, 0), (59, 8), (59, 9), (59, 10)] M r.2 := by
            intro M11 hM11 h
            replace h := hQ8 _ h
            exact ih  _ (fr_F (by decide) hM11) (lq_l h)
          by_cases q110 : ((im_i M1 60 (Int32.toNatClampNeg (((im_i M1 28 1) * 513) + (im_i M1 28 0)))) + (im_i M6 59 10)) < ((x7 * (im_i M6 59 9)) * (im_i M6 59 9))
          · replace h := ed_pos q110 h
            exact J8 _ hM6 (hk8 _ h)
          · replace h := ed_neg q110 h
            obtain ⟨Q9, hQ9, h⟩ := bd1_ed h
            obtain ⟨M9, e9, h⟩ := h
            replace h := hQ9 _ h
            obtain ⟨Q10, hQ10, h⟩ := bd2_ed h
            obtain ⟨⟨x10, M10⟩, e10, h⟩ := h
            replace h := hQ10 _ _ h
            by_cases q123 : ¬ x10 = 0
            · replace h := ed_pos q123 h
              exact J8 _ (fr_tr (fr_mono (by decide) (by decide +kernel) (f_HFinder_lookAtAll_fr e10)) (fr_tr (fr_mono (by decide) (by decide +kernel) (f_HFinder_lookAtCorners_fr e9)) hM6)) (hk8 _ h)
            · replace h := ed_neg q123 h
              exact fr_ret (hR3 _ (lq_r h hq3)) (fr_tr (fr_mono (by decide) (by decide +kernel) (f_HFinder_lookAtAll_fr e10)) (fr_tr (fr_mono (by decide) (by decide +kernel) (f_HFinder_lookAtCorners_fr e9)) hM6))
  exact I3 n3  _ (fr_F (by decide) (fr_tr (fr_mono (by decide) (by decide +kernel) (f_HFinder_addUp_fr e1)) (fr_F (by decide) (fr_F (by decide) (fr_F (by decide) fr_refl))))) hn3
noncomputable def f_H_scan (w : Bool) (p0 : Int32) (p1 : Int32) (p2 : Int32) (M : im_M) : Option (Int32 × im_M) := if p0 < 1 then none else if 16 < p0 then none else if p1 < p0 then none else if 16 < p1 then none else if p2 < 0 then none else if p2 ≤ 500 then bd2 (f_HFinder_search w p0 p1 p2 M) fun (x1 : Int32) (M1 : im_M) => some (x1, M1) else none
theorem J_H_scan_d41 : decode J_H_scan.2.1 41 = .ok (.aload_n 0, 1) := by decide +kernel
theorem J_H_scan_d42 : decode J_H_scan.2.1 42 = .ok (.getfield 69, 3) := by decide +kernel
theorem J_H_scan_d45 : decode J_H_scan.2.1 45 = .ok (.iload_n 1, 1) := by decide +kernel
theorem J_H_scan_d46 : decode J_H_scan.2.1 46 = .ok (.iload_n 2, 1) := by decide +kernel
theorem J_H_scan_d47 : decode J_H_scan.2.1 47 = .ok (.iload_n 3, 1) := by decide +kernel
theorem J_H_scan_d48 : decode J_H_scan.2.1 48 = .ok (.invokevirtual 193, 3) := by decide +kernel
theorem J_H_scan_d51 : decode J_H_scan.2.1 51 = .ok (.ireturn, 1) := by decide +kernel
theorem f_H_scan_ok {L : Nat} {xs : Nat → Int32} {dep : Nat} {w : Bool} {p0 : Int32} {p1 : Int32} {p2 : Int32} {M : im_M} {Q : Int32 × im_M → Prop} (hM : lw_S w M) (h : ed (f_H_scan w p0 p1 p2 M) Q) : ia (tb_G L xs) (dep + 6) J_H_scan (rwI w Q) (0, lv_args 0 [.ref 0, .int p0, .int p1, .int p2], [], M) := by
  have hS : im_St (tb_G L xs) (dep + 6) J_H_scan (ia (tb_G L xs) (dep + 6) J_H_scan (rwI w Q)) := ia_St
  unfold f_H_scan at h
  have l0 : im_lk (lv_args 0 [.ref 0, .int p0, .int p1, .int p2]) 0 = some (.ref 0) := rfl
  have l1 : im_lk (lv_args 0 [.ref 0, .int p0, .int p1, .int p2]) 1 = some (.int p0) := rfl
  have l2 : im_lk (lv_args 0 [.ref 0, .int p0, .int p1, .int p2]) 2 = some (.int p1) := rfl
  have l3 : im_lk (lv_args 0 [.ref 0, .int p0, .int p1, .int p2]) 3 = some (.int p2) := rfl
  refine iq_iload_n hS 1 J_H_scan_d0 l1 rfl ?_
  refine iq_iconst hS 2 J_H_scan_d1 (v := 1) (by decide +kernel) rfl ?_
  refine iq_icmp_lt hS 5 J_H_scan_d2 (t := 33) rfl (fun q2 => ?_) rfl (fun q2 => ?_)
  · replace h := ed_pos q2 h
    exact (ed_none h).elim
  · replace h := ed_neg q2 h
    refine iq_iload_n hS 6 J_H_scan_d5 l1 rfl ?_
    refine iq_bipush hS 8 J_H_scan_d6 (v := 16) (by decide +kernel) rfl ?_
    refine iq_icmp_gt hS 11 J_H_scan_d8 (t := 33) rfl (fun q8 => ?_) rfl (fun q8 => ?_)
    · replace h := ed_pos q8 h
      exact (ed_none h).elim
    · replace h := ed_neg q8 h
      refine iq_iload_n hS 12 J_H_scan_d11 l2 rfl ?_
      refine iq_iload_n hS 13 J_H_scan_d12 l1 rfl ?_
      refine iq_icmp_lt hS 16 J_H_scan_d13 (t := 33) rfl (fun q13 => ?_) rfl (fun q13 => ?_)
      · replace h := ed_pos q13 h
        exact (ed_none h).elim
      · replace h := ed_neg q13 h
        refine iq_iload_n hS 17 J_H_scan_d16 l2 rfl ?_
        refine iq_bipush hS 19 J_H_scan_d17 (v := 16) (by decide +kernel) rfl ?_
        refine iq_icmp_gt hS 22 J_H_scan_d19 (t := 33) rfl (fun q19 => ?_) rfl (fun q19 => ?_)
        · replace h := ed_pos q19 h
          exact (ed_none h).elim
        · replace h := ed_neg q19 h
          refine iq_iload_n hS 23 J_H_scan_d22 l3 rfl ?_
          refine iq_if_lt hS 26 J_H_scan_d23 (t := 33) rfl (fun q23 => ?_) rfl (fun q23 => ?_)
          · replace h := ed_pos q23 h
            exact (ed_none h).elim
          · replace h := ed_neg q23 h
            refine iq_iload_n hS 27 J_H_scan_d26 l3 rfl ?_
            refine iq_sipush hS 30 J_H_scan_d27 (v := 500) (by decide +kernel) rfl ?_
            refine iq_icmp_le hS 33 J_H_scan_d30 (t := 41) rfl (fun q30 => ?_) rfl (fun q30 => ?_)
            · replace h := ed_pos q30 h
              refine iq_aload_n hS 42 J_H_scan_d41 l0 rfl ?_
              refine iq_getR hS 45 J_H_scan_d42 lf_11_69 (Or.inl ⟨_, rfl⟩) (ka_0 hM) (ra_0_7 hM) rfl ?_
              refine iq_iload_n hS 46 J_H_scan_d45 l1 rfl ?_
              refine iq_iload_n hS 47 J_H_scan_d46 l2 rfl ?_
              refine iq_iload_n hS 48 J_H_scan_d47 l3 rfl ?_
              obtain ⟨Q1, hQ1, h⟩ := bd2_ed h
              refine iq_cwI hS 51 J_H_scan_d48 rfl (pr_inst (vs := [_, _, _]) lc_11_193 lT_202 rfl rfl (by decide) (by decide) rfl (Nat.le_of_ble_eq_true rfl) (Nat.le_of_ble_eq_true rfl) (fun _ => Or.inl (pr_b (ka_59 hM) (by decide) rfl))) (f_HFinder_search_ok (dep := dep + 0) hM h) rfl ?_
              intro x1 M1 hM1 h
              replace h := hQ1 _ _ h
              exact iq_iret J_H_scan_d51 rfl rfl ⟨_, rfl, hM1, ed_some h⟩
            · replace h := ed_neg q30 h
              exact (ed_none h).elim
theorem f_H_scan_fr {w : Bool} {p0 : Int32} {p1 : Int32} {p2 : Int32} {M : im_M} {r : Int32 × im_M} (h : f_H_scan w p0 p1 p2 M = some r) : fr 72634054790231359488 [(59, 0), (59, 8), (59, 9), (59, 10)] M r.2 := by
  replace h : ed (f_H_scan w p0 p1 p2 M) (fun x => x = r) := ⟨r, h, rfl⟩
  unfold f_H_scan at h
  by_cases q2 : p0 < 1
  · replace h := ed_pos q2 h
    exact (ed_none h).elim
  · replace h := ed_neg q2 h
    by_cases q8 : 16 < p0
    · replace h := ed_pos q8 h
      exact (ed_none h).elim
    · replace h := ed_neg q8 h
      by_cases q13 : p1 < p0
      · replace h := ed_pos q13 h
        exact (ed_none h).elim
      · replace h := ed_neg q13 h
        by_cases q19 : 16 < p1
        · replace h := ed_pos q19 h
          exact (ed_none h).elim
        · replace h := ed_neg q19 h
          by_cases q23 : p2 < 0
          · replace h := ed_pos q23 h
            exact (ed_none h).elim
          · replace h := ed_neg q23 h
            by_cases q30 : p2 ≤ 500
            · replace h := ed_pos q30 h
              obtain ⟨Q1, hQ1, h⟩ := bd2_ed h
              obtain ⟨⟨x1, M1⟩, e1, h⟩ := h
              replace h := hQ1 _ _ h
              exact fr_ret h (fr_tr (fr_mono (by decide) (by decide +kernel) (f_HFinder_search_fr e1)) fr_refl)
            · replace h := ed_neg q30 h
              exact (ed_none h).elim
noncomputable def f_H_found (p0 : Int32) (p1 : Int32) (M : im_M) : Option (Int32) := if p1 < 0 then none else if p1 ≤ 5 then jn0 (fun (_ : Unit) => some (-1)) fun k1 => if p0 < 0 then k1 () else if p0 < (im_i M 59 0) then bd1 (f_HFinder_part p0 p1 M) fun (x2 : Int32) => some x2 else k1 () else none
theorem J_H_found_d36 : decode J_H_found.2.1 36 = .ok (.aload_n 0, 1) := by decide +kernel
theorem J_H_found_d37 : decode J_H_found.2.1 37 = .ok (.getfield 69, 3) := by decide +kernel
theorem J_H_found_d40 : decode J_H_found.2.1 40 = .ok (.iload_n 1, 1) := by decide +kernel
theorem J_H_found_d41 : decode J_H_found.2.1 41 = .ok (.iload_n 2, 1) := by decide +kernel
theorem J_H_found_d42 : decode J_H_found.2.1 42 = .ok (.invokevirtual 197, 3) := by decide +kernel
theorem f_H_found_ok {L : Nat} {xs : Nat → Int32} {dep : Nat} {w : Bool} {p0 : Int32} {p1 : Int32} {M : im_M} {Q : Int32 → Prop} (hM : lw_S w M) (h : ed (f_H_found p0 p1 M) Q) : ia (tb_G L xs) (dep + 1) J_H_found (rpI M Q) (0, lv_args 0 [.ref 0, .int p0, .int p1], [], M) := by
  have hS : im_St (tb_G L xs) (dep + 1) J_H_found (ia (tb_G L xs) (dep + 1) J_H_found (rpI M Q)) := ia_St
  unfold f_H_found at h
  have l0 : im_lk (lv_args 0 [.ref 0, .int p0, .int p1]) 0 = some (.ref 0) := rfl
  have l1 : im_lk (lv_args 0 [.ref 0, .int p0, .int p1]) 1 = some (.int p0) := rfl
  have l2 : im_lk (lv_args 0 [.ref 0, .int p0, .int p1]) 2 = some (.int p1) := rfl
  refine iq_iload_n hS 1 J_H_found_d0 l2 rfl ?_
  refine iq_if_lt hS 4 J_H_found_d1 (t := 9) rfl (fun q1 => ?_) rfl (fun q1 => ?_)
  · replace h := ed_pos q1 h
    exact (ed_none h).elim
  · replace h := ed_neg q1 h
    refine iq_iload_n hS 5 J_H_found_d4 l2 rfl ?_
    refine iq_iconst hS 6 J_H_found_d5 (v := 5) (by decide +kernel) rfl ?_
    refine iq_icmp_le hS 9 J_H_found_d6 (t := 17) rfl (fun q6 => ?_) rfl (fun q6 => ?_)
    · replace h := ed_pos q6 h
      refine iq_iload_n hS 18 J_H_found_d17 l1 rfl ?_
      obtain ⟨k1, Q1, hQ1, hk1, h⟩ := jn0_ed h
      have J1 : ∀  (L' : List (Nat × Value)), Q1 () → ia (tb_G L xs) (dep + 1) J_H_found (rpI M Q) (32, L', [], M) := by
        intro  L'  h
        replace h := hQ1  h
        refine iq_iconst hS 33 J_H_found_d32 (v := (-1)) (by decide +kernel) rfl ?_
        refine iq_goto hS J_H_found_d33 (t := 45) rfl ?_
        exact iq_iret J_H_found_d45 rfl rfl ⟨_, rfl, rfl, ed_some h⟩
      refine iq_if_lt hS 21 J_H_found_d18 (t := 32) rfl (fun q18 => ?_) rfl (fun q18 => ?_)
      · replace h := ed_pos q18 h
        exact J1  _  (hk1  h)
      · replace h := ed_neg q18 h
        refine iq_iload_n hS 22 J_H_found_d21 l1 rfl ?_
        refine iq_aload_n hS 23 J_H_found_d22 l0 rfl ?_
        refine iq_getR hS 26 J_H_found_d23 lf_11_69 (Or.inl ⟨_, rfl⟩) (ka_0 hM) (ra_0_7 hM) rfl ?_
        refine iq_getI hS 29 J_H_found_d26 lf_11_146 (Or.inl rfl) (ka_59 hM) rfl ?_
        refine iq_icmp_lt hS 32 J_H_found_d29 (t := 36) rfl (fun q29 => ?_) rfl (fun q29 => ?_)
        · replace h := ed_pos q29 h
          refine iq_aload_n hS 37 J_H_found_d36 l0 rfl ?_
          refine iq_getR hS 40 J_H_found_d37 lf_11_69 (Or.inl ⟨_, rfl⟩) (ka_0 hM) (ra_0_7 hM) rfl ?_
          refine iq_iload_n hS 41 J_H_found_d40 l1 rfl ?_
          refine iq_iload_n hS 42 J_H_found_d41 l2 rfl ?_
          obtain ⟨Q2, hQ2, h⟩ := bd1_ed h
          refine iq_cpI hS 45 J_H_found_d42 rfl (pr_inst (vs := [_, _]) lc_11_197 lT_222 rfl rfl (by decide) (by decide) rfl (Nat.le_of_ble_eq_true rfl) (Nat.le_of_ble_eq_true rfl) (fun _ => Or.inl (pr_b (ka_59 hM) (by decide) rfl))) (f_HFinder_part_ok (dep := dep + 0) hM h) rfl ?_
          intro x2 h
          replace h := hQ2 _ h
          exact iq_iret J_H_found_d45 rfl rfl ⟨_, rfl, rfl, ed_some h⟩
        · replace h := ed_neg q29 h
          exact J1  _  (hk1  h)
    · replace h := ed_neg q6 h
      exact (ed_none h).elim
noncomputable def f_Arrays_fill_5_L10 (v3 : Int32) (v4 : Int32) (x5 : Int32) (M6 : im_M) : Option ((Int32 × im_M) ⊕ (im_M)) := if v3 ≤ x5 then some (.inr M6) else gd (inb x5 7) <| some (.inl ((x5 + 1), (im_setI M6 67 (Int32.toNatClampNeg x5) v4)))
noncomputable def f_Arrays_fill_5 (p1 : Int32) (p2 : Int32) (p3 : Int32) (M : im_M) : Option (im_M) := bd0 (f_Arrays_rangeCheck 7 p1 p2 M) fun (_ : Unit) => bd1 (lp (uc2 (f_Arrays_fill_5_L10 p2 p3)) (p1, M)) fun (M7 : im_M) => some M7
theorem f_Arrays_fill_5_ok {L : Nat} {xs : Nat → Int32} {dep : Nat} {w : Bool} {p1 : Int32} {p2 : Int32} {p3 : Int32} {M : im_M} {Q : im_M → Prop} (hM : lw_S w M) (h : ed (f_Arrays_fill_5 p1 p2 p3 M) Q) : ia (tb_G L xs) (dep + 1) J_Arrays_fill (rwV w Q) (0, lv_args 0 [.ref 67, .int p1, .int p2, .int p3], [], M) := by
  have hS : im_St (tb_G L xs) (dep + 1) J_Arrays_fill (ia (tb_G L xs) (dep + 1) J_Arrays_fill (rwV w Q)) := ia_St
  unfold f_Arrays_fill_5 at h
  have l0 : im_lk (lv_args 0 [.ref 67, .int p1, .int p2, .int p3]) 0 = some (.ref 67) := rfl
  have l1 : im_lk (lv_args 0 [.ref 67, .int p1, .int p2, .int p3]) 1 = some (.int p1) := rfl
  have l2 : im_lk (lv_args 0 [.ref 67, .int p1, .int p2, .int p3]) 2 = some (.int p2) := rfl
  have l3 : im_lk (lv_args 0 [.ref 67, .int p1, .int p2, .int p3]) 3 = some (.int p3) := rfl
  refine iq_aload_n hS 1 J_Arrays_fill_d0 l0 rfl ?_
  refine iq_alenv hS 2 J_Arrays_fill_d1 (v := 7) (ka_67 hM) (by decide) (by decide) (kl_67 hM) (by decide +kernel) rfl ?_
  refine iq_iload_n hS 3 J_Arrays_fill_d2 l1 rfl ?_
  refine iq_iload_n hS 4 J_Arrays_fill_d3 l2 rfl ?_
  obtain ⟨Q1, hQ1, h⟩ := bd0_ed h
  refine iq_cpV hS 7 J_Arrays_fill_d4 rfl (pr_stat (vs := [_, _, _]) lc_22_13 lT_54 rfl rfl (by decide) rfl (Nat.le_of_ble_eq_true rfl) (Nat.le_of_ble_eq_true rfl)) (f_Arrays_rangeCheck_ok (dep := dep + 0) hM h) rfl ?_
  intro h
  replace h := hQ1  h
  refine iq_iload_n hS 8 J_Arrays_fill_d7 l1 rfl ?_
  refine iq_istore hS 10 J_Arrays_fill_d8 (by decide) rfl ?_
  obtain ⟨Q2, hQ2, h⟩ := bd1_ed h
  have K2 : ∀ (M3 : im_M) (L' : List (Nat × Value)), lw_S w M3 → Q2 M3 → ia (tb_G L xs) (dep + 1) J_Arrays_fill (rwV w Q) (27, L', [], M3) := by
    intro M3 L' hM3  h
    replace h := hQ2 _ h
    exact iq_ret J_Arrays_fill_d27 rfl ⟨rfl, hM3, ed_some h⟩
  obtain ⟨r2, hr2, hq2⟩ := h
  obtain ⟨n2, hn2⟩ := lp_n hr2
  have I2 : ∀ (n : Nat) (x4 : Int32) (M5 : im_M) (L' : List (Nat × Value)), lw_S w M5 → im_lk L' 0 = some (.ref 67) → im_lk L' 2 = some (.int p2) → im_lk L' 3 = some (.int p3) → im_lk L' 4 = some (.int x4) → lpn (uc2 (f_Arrays_fill_5_L10 p2 p3)) n (x4, M5) = some r2 → ia (tb_G L xs) (dep + 1) J_Arrays_fill (rwV w Q) (10, L', [], M5) := by
    intro n
    induction n with
    | zero => intro x4 M5 L' hM5 l6 l7 l8 l9 hn; exact (lpn_0 hn).elim
    | succ n ih =>
      intro x4 M5 L' hM5 l6 l7 l8 l9 hn
      have h := lpn_ed2 hn
      unfold f_Arrays_fill_5_L10 at h
      refine iq_iload hS 12 J_Arrays_fill_d10 l9 rfl ?_
      refine iq_iload_n hS 13 J_Arrays_fill_d12 l7 rfl ?_
      refine iq_icmp_ge hS 16 J_Arrays_fill_d13 (t := 27) rfl (fun q13 => ?_) rfl (fun q13 => ?_)
      · replace h := ed_pos q13 h
        exact K2 _ _ hM5  (lq_r h hq2)
      · replace h := ed_neg q13 h
        refine iq_aload_n hS 17 J_Arrays_fill_d16 l6 rfl ?_
        refine iq_iload hS 19 J_Arrays_fill_d17 l9 rfl ?_
        refine iq_iload_n hS 20 J_Arrays_fill_d19 l8 rfl ?_
        obtain ⟨g20, h⟩ := ed_gd h
        refine iq_iastore hS 21 J_Arrays_fill_d20 ⟨(ka_67 hM5).1, (ka_67 hM5).2, g20.1, ix_lt (kl_67 hM5) g20.2⟩ rfl ?_
        refine iq_iincv hS 24 J_Arrays_fill_d21 (c := 1) (by decide +kernel) l9 (by decide) rfl ?_
        refine iq_goto hS J_Arrays_fill_d24 (t := 10) rfl ?_
        exact ih _ _ _ (lw_sI hM5) (lk_1r l6 (by decide)) (lk_1i l7 (by decide)) (lk_1i l8 (by decide)) lk_1s (lq_l h)
  exact I2 n2 _ _ _ hM (lk_1r l0 (by decide)) (lk_1i l2 (by decide)) (lk_1i l3 (by decide)) lk_1s hn2
theorem f_Arrays_fill_5_fr {p1 : Int32} {p2 : Int32} {p3 : Int32} {M : im_M} {r : im_M} (h : f_Arrays_fill_5 p1 p2 p3 M = some r) : fr 147573952589676412928 [] M r := by
  replace h : ed (f_Arrays_fill_5 p1 p2 p3 M) (fun x => x = r) := ⟨r, h, rfl⟩
  unfold f_Arrays_fill_5 at h
  obtain ⟨Q1, hQ1, h⟩ := bd0_ed h
  obtain ⟨_, e1, h⟩ := h
  replace h := hQ1  h
  obtain ⟨Q2, hQ2, h⟩ := bd1_ed h
  have K2 : ∀ (M3 : im_M), fr 147573952589676412928 [] M M3 → Q2 M3 → fr 147573952589676412928 [] M r := by
    intro M3 hM3 h
    replace h := hQ2 _ h
    exact fr_retV h hM3
  obtain ⟨r2, hr2, hq2⟩ := h
  obtain ⟨n2, hn2⟩ := lp_n hr2
  have I2 : ∀ (n : Nat) (x4 : Int32) (M5 : im_M), fr 147573952589676412928 [] M M5 → lpn (uc2 (f_Arrays_fill_5_L10 p2 p3)) n (x4, M5) = some r2 → fr 147573952589676412928 [] M r := by
    intro n
    induction n with
    | zero => intro x4 M5 hM5 hn; exact (lpn_0 hn).elim
    | succ n ih =>
      intro x4 M5 hM5 hn
      have h := lpn_ed2 hn
      unfold f_Arrays_fill_5_L10 at h
      by_cases q13 : p2 ≤ x4
      · replace h := ed_pos q13 h
        exact K2 _ hM5 (lq_r h hq2)
      · replace h := ed_neg q13 h
        obtain ⟨g20, h⟩ := ed_gd h
        exact ih _ _ (fr_I (by decide) hM5) (lq_l h)
  exact I2 n2 _ _ fr_refl hn2
noncomputable def f_H_forgetReading (M : im_M) : Option (im_M) := bd1 (f_Arrays_fill_5 0 6 (-1) M) fun (M1 : im_M) => some (im_setI M1 0 12 0)
theorem J_H_forgetReading_d0 : decode J_H_forgetReading.2.1 0 = .ok (.aload_n 0, 1) := by decide +kernel
theorem J_H_forgetReading_d1 : decode J_H_forgetReading.2.1 1 = .ok (.getfield 77, 3) := by decide +kernel
theorem J_H_forgetReading_d4 : decode J_H_forgetReading.2.1 4 = .ok (.iconst 0, 1) := by decide +kernel
theorem J_H_forgetReading_d5 : decode J_H_forgetReading.2.1 5 = .ok (.bipush 6, 2) := by decide +kernel
theorem J_H_forgetReading_d7 : decode J_H_forgetReading.2.1 7 = .ok (.iconst (-1), 1) := by decide +kernel
theorem J_H_forgetReading_d8 : decode J_H_forgetReading.2.1 8 = .ok (.invokestatic 247, 3) := by decide +kernel
theorem J_H_forgetReading_d11 : decode J_H_forgetReading.2.1 11 = .ok (.aload_n 0, 1) := by decide +kernel
theorem J_H_forgetReading_d12 : decode J_H_forgetReading.2.1 12 = .ok (.iconst 0, 1) := by decide +kernel
theorem J_H_forgetReading_d13 : decode J_H_forgetReading.2.1 13 = .ok (.putfield 231, 3) := by decide +kernel
theorem J_H_forgetReading_d16 : decode J_H_forgetReading.2.1 16 = .ok (.return_, 1) := by decide +kernel
theorem f_H_forgetReading_ok {L : Nat} {xs : Nat → Int32} {dep : Nat} {w : Bool} {M : im_M} {Q : im_M → Prop} (hM : lw_S w M) (h : ed (f_H_forgetReading M) Q) : ia (tb_G L xs) (dep + 2) J_H_forgetReading (rwV w Q) (0, lv_args 0 [.ref 0], [], M) := by
  have hS : im_St (tb_G L xs) (dep + 2) J_H_forgetReading (ia (tb_G L xs) (dep + 2) J_H_forgetReading (rwV w Q)) := ia_St
  unfold f_H_forgetReading at h
  have l0 : im_lk (lv_args 0 [.ref 0]) 0 = some (.ref 0) := rfl
  refine iq_aload_n hS 1 J_H_forgetReading_d0 l0 rfl ?_
  refine iq_getR hS 4 J_H_forgetReading_d1 lf_11_77 (Or.inr ⟨_, rfl⟩) (ka_0 hM) (ra_0_10 hM) rfl ?_
  refine iq_iconst hS 5 J_H_forgetReading_d4 (v := 0) (by decide +kernel) rfl ?_
  refine iq_bipush hS 7 J_H_forgetReading_d5 (v := 6) (by decide +kernel) rfl ?_
  refine iq_iconst hS 8 J_H_forgetReading_d7 (v := (-1)) (by decide +kernel) rfl ?_
  obtain ⟨Q1, hQ1, h⟩ := bd1_ed h
  refine iq_cwV hS 11 J_H_forgetReading_d8 rfl (pr_stat (vs := [_, _, _, _]) lc_11_247 lT_53 rfl rfl (by decide) rfl (Nat.le_of_ble_eq_true rfl) (Nat.le_of_ble_eq_true rfl)) (f_Arrays_fill_5_ok (dep := dep + 0) hM h) rfl ?_
  intro M1 hM1 h
  replace h := hQ1 _ h
  refine iq_aload_n hS 12 J_H_forgetReading_d11 l0 rfl ?_
  refine iq_iconst hS 13 J_H_forgetReading_d12 (v := 0) (by decide +kernel) rfl ?_
  refine iq_putI hS 16 J_H_forgetReading_d13 lf_11_231 (Or.inl rfl) rfl (ka_0 hM1) rfl ?_
  exact iq_ret J_H_forgetReading_d16 rfl ⟨rfl, (lw_sI hM1), ed_some h⟩
theorem f_H_forgetReading_fr {M : im_M} {r : im_M} (h : f_H_forgetReading M = some r) : fr 147573952589676412928 [(0, 12)] M r := by
  replace h : ed (f_H_forgetReading M) (fun x => x = r) := ⟨r, h, rfl⟩
  unfold f_H_forgetReading at h
  obtain ⟨Q1, hQ1, h⟩ := bd1_ed h
  obtain ⟨M1, e1, h⟩ := h
  replace h := hQ1 _ h
  exact fr_retV h (fr_F (by decide) (fr_tr (fr_mono (by decide) (by decide +kernel) (f_Arrays_fill_5_fr e1)) fr_refl))
noncomputable def f_HFinder_darkNow_L6 (w : Bool) (v2 : Int32) (v3 : Int32) (v4 : Int32) (M7 : im_M) (x5 : Int32) (x6 : Int32) : Option ((Int32 × Int32) ⊕ (Int32)) := if (v3 + v4) ≤ x6 then some (.inr x5) else bd1 (f_HSheet_wordFrom w v2 x6 M7) fun (x8 : Int64) => bd1 (f_Long_bitCount (x8 &&& (((1 : Int64) <<< (Int32.toInt64 v4 &&& 63) : Int64) - 1)) M7) fun (x9 : Int32) => some (.inl ((x5 + x9), (x6 + 1)))
noncomputable def f_HFinder_darkNow (w : Bool) (p0 : Int32) (p1 : Int32) (p2 : Int32) (M : im_M) : Option (Int32) := bd1 (lp (uc2 (f_HFinder_darkNow_L6 w p0 p1 p2 M)) (0, p1)) fun (y10 : Int32) => some y10
theorem J_HFinder_darkNow_d0 : decode J_HFinder_darkNow.2.1 0 = .ok (.iconst 0, 1) := by decide +kernel
theorem J_HFinder_darkNow_d1 : decode J_HFinder_darkNow.2.1 1 = .ok (.istore 4, 2) := by decide +kernel
theorem J_HFinder_darkNow_d3 : decode J_HFinder_darkNow.2.1 3 = .ok (.iload_n 2, 1) := by decide +kernel
theorem J_HFinder_darkNow_d4 : decode J_HFinder_darkNow.2.1 4 = .ok (.istore 5, 2) := by decide +kernel
theorem J_HFinder_darkNow_d6 : decode J_HFinder_darkNow.2.1 6 = .ok (.iload 5, 2) := by decide +kernel
theorem J_HFinder_darkNow_d8 : decode J_HFinder_darkNow.2.1 8 = .ok (.iload_n 2, 1) := by decide +kernel
theorem J_HFinder_darkNow_d9 : decode J_HFinder_darkNow.2.1 9 = .ok (.iload_n 3, 1) := by decide +kernel
theorem J_HFinder_darkNow_d10 : decode J_HFinder_darkNow.2.1 10 = .ok (.iadd, 1) := by decide +kernel
theorem J_HFinder_darkNow_d11 : decode J_HFinder_darkNow.2.1 11 = .ok (.if_icmp .ge 33, 3) := by decide +kernel
theorem J_HFinder_darkNow_d14 : decode J_HFinder_darkNow.2.1 14 = .ok (.iload 4, 2) := by decide +kernel
theorem J_HFinder_darkNow_d16 : decode J_HFinder_darkNow.2.1 16 = .ok (.aload_n 0, 1) := by decide +kernel
theorem J_HFinder_darkNow_d17 : decode J_HFinder_darkNow.2.1 17 = .ok (.getfield 37, 3) := by decide +kernel
theorem J_HFinder_darkNow_d20 : decode J_HFinder_darkNow.2.1 20 = .ok (.iload_n 1, 1) := by decide +kernel
theorem J_HFinder_darkNow_d21 : decode J_HFinder_darkNow.2.1 21 = .ok (.iload 5, 2) := by decide +kernel
theorem J_HFinder_darkNow_d23 : decode J_HFinder_darkNow.2.1 23 = .ok (.invokevirtual 163, 3) := by decide +kernel
theorem J_HFinder_darkNow_d26 : decode J_HFinder_darkNow.2.1 26 = .ok (.lconst 1, 1) := by decide +kernel
theorem J_HFinder_darkNow_d27 : decode J_HFinder_darkNow.2.1 27 = .ok (.iload_n 3, 1) := by decide +kernel
theorem J_HFinder_darkNow_d28 : decode J_HFinder_darkNow.2.1 28 = .ok (.lshl, 1) := by decide +kernel
theorem J_HFinder_darkNow_d29 : decode J_HFinder_darkNow.2.1 29 = .ok (.lconst 1, 1) := by decide +kernel
theorem J_HFinder_darkNow_d30 : decode J_HFinder_darkNow.2.1 30 = .ok (.lsub, 1) := by decide +kernel
theorem J_HFinder_darkNow_d31 : decode J_HFinder_darkNow.2.1 31 = .ok (.land, 1) := by decide +kernel
theorem J_HFinder_darkNow_d32 : decode J_HFinder_darkNow.2.1 32 = .ok (.invokestatic 167, 3) := by decide +kernel
theorem J_HFinder_darkNow_d35 : decode J_HFinder_darkNow.2.1 35 = .ok (.iadd, 1) := by decide +kernel
theorem J_HFinder_darkNow_d36 : decode J_HFinder_darkNow.2.1 36 = .ok (.istore 4, 2) := by decide +kernel
theorem J_HFinder_darkNow_d38 : decode J_HFinder_darkNow.2.1 38 = .ok (.iinc 5 1, 3) := by decide +kernel
theorem J_HFinder_darkNow_d41 : decode J_HFinder_darkNow.2.1 41 = .ok (.goto (-35), 3) := by decide +kernel
theorem J_HFinder_darkNow_d44 : decode J_HFinder_darkNow.2.1 44 = .ok (.iload 4, 2) := by decide +kernel
theorem J_HFinder_darkNow_d46 : decode J_HFinder_darkNow.2.1 46 = .ok (.ireturn, 1) := by decide +kernel
theorem f_HFinder_darkNow_ok {L : Nat} {xs : Nat → Int32} {dep : Nat} {w : Bool} {p0 : Int32} {p1 : Int32} {p2 : Int32} {M : im_M} {Q : Int32 → Prop} (hM : lw_S w M) (h : ed (f_HFinder_darkNow w p0 p1 p2 M) Q) : ia (tb_G L xs) (dep + 2) J_HFinder_darkNow (rpI M Q) (0, lv_args 0 [.ref 59, .int p0, .int p1, .int p2], [], M) := by
  have hS : im_St (tb_G L xs) (dep + 2) J_HFinder_darkNow (ia (tb_G L xs) (dep + 2) J_HFinder_darkNow (rpI M Q)) := ia_St
  unfold f_HFinder_darkNow at h
  have l0 : im_lk (lv_args 0 [.ref 59, .int p0, .int p1, .int p2]) 0 = some (.ref 59) := rfl
  have l1 : im_lk (lv_args 0 [.ref 59, .int p0, .int p1, .int p2]) 1 = some (.int p0) := rfl
  have l2 : im_lk (lv_args 0 [.ref 59, .int p0, .int p1, .int p2]) 2 = some (.int p1) := rfl
  have l3 : im_lk (lv_args 0 [.ref 59, .int p0, .int p1, .int p2]) 3 = some (.int p2) := rfl
  refine iq_iconst hS 1 J_HFinder_darkNow_d0 (v := 0) (by decide +kernel) rfl ?_
  refine iq_istore hS 3 J_HFinder_darkNow_d1 (by decide) rfl ?_
  refine iq_iload_n hS 4 J_HFinder_darkNow_d3 (lk_1i l2 (by decide)) rfl ?_
  refine iq_istore hS 6 J_HFinder_darkNow_d4 (by decide) rfl ?_
  obtain ⟨Q1, hQ1, h⟩ := bd1_ed h
  have K1 : ∀ (y2 : Int32) (L' : List (Nat × Value)), im_lk L' 4 = some (.int y2) → Q1 y2 → ia (tb_G L xs) (dep + 2) J_HFinder_darkNow (rpI M Q) (44, L', [], M) := by
    intro y2 L' l3 h
    replace h := hQ1 _ h
    refine iq_iload hS 46 J_HFinder_darkNow_d44 l3 rfl ?_
    exact iq_iret J_HFinder_darkNow_d46 rfl rfl ⟨_, rfl, rfl, ed_some h⟩
  obtain ⟨r1, hr1, hq1⟩ := h
  obtain ⟨n1, hn1⟩ := lp_n hr1
  have I1 : ∀ (n : Nat) (x4 : Int32) (x5 : Int32) (L' : List (Nat × Value)), im_lk L' 0 = some (.ref 59) → im_lk L' 1 = some (.int p0) → im_lk L' 2 = some (.int p1) → im_lk L' 3 = some (.int p2) → im_lk L' 4 = some (.int x4) → im_lk L' 5 = some (.int x5) → lpn (uc2 (f_HFinder_darkNow_L6 w p0 p1 p2 M)) n (x4, x5) = some r1 → ia (tb_G L xs) (dep + 2) J_HFinder_darkNow (rpI M Q) (6, L', [], M) := by
    intro n
    induction n with
    | zero => intro x4 x5 L' l6 l7 l8 l9 l10 l11 hn; exact (lpn_0 hn).elim
    | succ n ih =>
      intro x4 x5 L' l6 l7 l8 l9 l10 l11 hn
      have h := lpn_ed2 hn
      unfold f_HFinder_darkNow_L6 at h
      refine iq_iload hS 8 J_HFinder_darkNow_d6 l11 rfl ?_
      refine iq_iload_n hS 9 J_HFinder_darkNow_d8 l8 rfl ?_
      refine iq_iload_n hS 10 J_HFinder_darkNow_d9 l9 rfl ?_
      refine iq_iadd hS 11 J_HFinder_darkNow_d10 rfl ?_
      refine iq_icmp_ge hS 14 J_HFinder_darkNow_d11 (t := 44) rfl (fun q11 => ?_) rfl (fun q11 => ?_)
      · replace h := ed_pos q11 h
        exact K1 _ _ l10 (lq_r h hq1)
      · replace h := ed_neg q11 h
        refine iq_iload hS 16 J_HFinder_darkNow_d14 l10 rfl ?_
        refine iq_aload_n hS 17 J_HFinder_darkNow_d16 l6 rfl ?_
        refine iq_getR hS 20 J_HFinder_darkNow_d17 lf_3_37 (Or.inl ⟨_, rfl⟩) (ka_59 hM) (ra_59_1 hM) rfl ?_
        refine iq_iload_n hS 21 J_HFinder_darkNow_d20 l7 rfl ?_
        refine iq_iload hS 23 J_HFinder_darkNow_d21 l11 rfl ?_
        obtain ⟨Q12, hQ12, h⟩ := bd1_ed h
        refine iq_cpL hS 26 J_HFinder_darkNow_d23 rfl (pr_inst (vs := [_, _]) lc_3_163 lT_91 rfl rfl (by decide) (by decide) rfl (Nat.le_of_ble_eq_true rfl) (Nat.le_of_ble_eq_true rfl) (fun _ => Or.inl (pr_b (ka_28 hM) (by decide) rfl))) (f_HSheet_wordFrom_ok (dep := dep + 0) hM h) rfl ?_
        intro x12 h
        replace h := hQ12 _ h
        refine iq_lconst hS 27 J_HFinder_darkNow_d26 (v := 1) (by decide +kernel) rfl ?_
        refine iq_iload_n hS 28 J_HFinder_darkNow_d27 l9 rfl ?_
        refine iq_lshl hS 29 J_HFinder_darkNow_d28 rfl ?_
        refine iq_lconst hS 30 J_HFinder_darkNow_d29 (v := 1) (by decide +kernel) rfl ?_
        refine iq_lsub hS 31 J_HFinder_darkNow_d30 rfl ?_
        refine iq_land hS 32 J_HFinder_darkNow_d31 rfl ?_
        obtain ⟨Q13, hQ13, h⟩ := bd1_ed h
        refine iq_cpI hS 35 J_HFinder_darkNow_d32 rfl (pr_stat (vs := [_]) lc_3_167 lT_196 rfl rfl (by decide) rfl (Nat.le_of_ble_eq_true rfl) (Nat.le_of_ble_eq_true rfl)) (f_Long_bitCount_ok (dep := dep + 1) hM h) rfl ?_
        intro x13 h
        replace h := hQ13 _ h
        refine iq_iadd hS 36 J_HFinder_darkNow_d35 rfl ?_
        refine iq_istore hS 38 J_HFinder_darkNow_d36 (by decide) rfl ?_
        refine iq_iincv hS 41 J_HFinder_darkNow_d38 (c := 1) (by decide +kernel) (lk_1i l11 (by decide)) (by decide) rfl ?_
        refine iq_goto hS J_HFinder_darkNow_d41 (t := 6) rfl ?_
        exact ih _ _ _ (lk_1r (lk_1r l6 (by decide)) (by decide)) (lk_1i (lk_1i l7 (by decide)) (by decide)) (lk_1i (lk_1i l8 (by decide)) (by decide)) (lk_1i (lk_1i l9 (by decide)) (by decide)) (lk_1i lk_1s (by decide)) lk_1s (lq_l h)
  exact I1 n1 _ _ _ (lk_1r (lk_1r l0 (by decide)) (by decide)) (lk_1i (lk_1i l1 (by decide)) (by decide)) (lk_1i (lk_1i l2 (by decide)) (by decide)) (lk_1i (lk_1i l3 (by decide)) (by decide)) (lk_1i lk_1s (by decide)) lk_1s hn1
noncomputable def f_HFinder_fill_L36 (w : Bool) (v11 : Int32) (v12 : Int32) (v13 : Int32) (v14 : Int32) (v15 : Int32) (x16 : Int32) (M17 : im_M) : Option ((Int32 × im_M) ⊕ (im_M)) := if v14 < x16 then some (.inr M17) else bd1 (f_HFinder_part v11 0 M17) fun (x20 : Int32) => bd1 (f_HFinder_part v11 1 M17) fun (x21 : Int32) => bd1 (f_HFinder_darkNow w (x20 + (v12 * ((if ¬ v13 = 0 then (if ¬ v13 = 1 then (if ¬ v13 = 2 then v15 else (v14 - x16)) else (v14 - v15)) else x16) : Int32))) (x21 + (v12 * ((if ¬ v13 = 0 then (if ¬ v13 = 1 then (if ¬ v13 = 2 then (v14 - x16) else (v14 - v15)) else x16) else v15) : Int32))) v12 M17) fun (x22 : Int32) => bd1 (f_HGrid_set x16 v15 ((if ((2 : Int32) * x22) ≤ (v12 * v12) then 0 else 1) : Int32) M17) fun (M24 : im_M) => some (.inl ((x16 + 1), M24))
noncomputable def f_HFinder_fill_L26 (w : Bool) (v4 : Int32) (v5 : Int32) (v6 : Int32) (v7 : Int32) (x8 : Int32) (M9 : im_M) : Option ((Int32 × im_M) ⊕ (im_M)) := if v7 < x8 then some (.inr M9) else bd1 (lp (uc2 (f_HFinder_fill_L36 w v4 v5 v6 v7 x8)) (0, M9)) fun (M25 : im_M) => some (.inl ((x8 + 1), M25))
noncomputable def f_HFinder_fill (w : Bool) (p0 : Int32) (M : im_M) : Option (im_M) := bd1 (f_HFinder_part p0 2 M) fun (x1 : Int32) => bd1 (f_HFinder_part p0 4 M) fun (x2 : Int32) => bd1 (lp (uc2 (f_HFinder_fill_L26 w p0 x1 x2 ((im_i M 38 1) - 1))) (0, M)) fun (M26 : im_M) => some M26
theorem J_HFinder_fill_d0 : decode J_HFinder_fill.2.1 0 = .ok (.aload_n 0, 1) := by decide +kernel
theorem J_HFinder_fill_d1 : decode J_HFinder_fill.2.1 1 = .ok (.iload_n 1, 1) := by decide +kernel
theorem J_HFinder_fill_d2 : decode J_HFinder_fill.2.1 2 = .ok (.iconst 2, 1) := by decide +kernel
theorem J_HFinder_fill_d3 : decode J_HFinder_fill.2.1 3 = .ok (.invokevirtual 148, 3) := by decide +kernel
theorem J_HFinder_fill_d6 : decode J_HFinder_fill.2.1 6 = .ok (.istore_n 3, 1) := by decide +kernel
theorem J_HFinder_fill_d7 : decode J_HFinder_fill.2.1 7 = .ok (.aload_n 0, 1) := by decide +kernel
theorem J_HFinder_fill_d8 : decode J_HFinder_fill.2.1 8 = .ok (.iload_n 1, 1) := by decide +kernel
theorem J_HFinder_fill_d9 : decode J_HFinder_fill.2.1 9 = .ok (.iconst 4, 1) := by decide +kernel
theorem J_HFinder_fill_d10 : decode J_HFinder_fill.2.1 10 = .ok (.invokevirtual 148, 3) := by decide +kernel
theorem J_HFinder_fill_d13 : decode J_HFinder_fill.2.1 13 = .ok (.istore 4, 2) := by decide +kernel
theorem J_HFinder_fill_d15 : decode J_HFinder_fill.2.1 15 = .ok (.aload_n 2, 1) := by decide +kernel
theorem J_HFinder_fill_d16 : decode J_HFinder_fill.2.1 16 = .ok (.getfield 151, 3) := by decide +kernel
theorem J_HFinder_fill_d19 : decode J_HFinder_fill.2.1 19 = .ok (.iconst 1, 1) := by decide +kernel
theorem J_HFinder_fill_d20 : decode J_HFinder_fill.2.1 20 = .ok (.isub, 1) := by decide +kernel
theorem J_HFinder_fill_d21 : decode J_HFinder_fill.2.1 21 = .ok (.istore 5, 2) := by decide +kernel
theorem J_HFinder_fill_d23 : decode J_HFinder_fill.2.1 23 = .ok (.iconst 0, 1) := by decide +kernel
theorem J_HFinder_fill_d24 : decode J_HFinder_fill.2.1 24 = .ok (.istore 6, 2) := by decide +kernel
theorem J_HFinder_fill_d26 : decode J_HFinder_fill.2.1 26 = .ok (.iload 6, 2) := by decide +kernel
theorem J_HFinder_fill_d28 : decode J_HFinder_fill.2.1 28 = .ok (.iload 5, 2) := by decide +kernel
theorem J_HFinder_fill_d30 : decode J_HFinder_fill.2.1 30 = .ok (.if_icmp .gt 161, 3) := by decide +kernel
theorem J_HFinder_fill_d33 : decode J_HFinder_fill.2.1 33 = .ok (.iconst 0, 1) := by decide +kernel
theorem J_HFinder_fill_d34 : decode J_HFinder_fill.2.1 34 = .ok (.istore 7, 2) := by decide +kernel
theorem J_HFinder_fill_d36 : decode J_HFinder_fill.2.1 36 = .ok (.iload 7, 2) := by decide +kernel
theorem J_HFinder_fill_d38 : decode J_HFinder_fill.2.1 38 = .ok (.iload 5, 2) := by decide +kernel
theorem J_HFinder_fill_d40 : decode J_HFinder_fill.2.1 40 = .ok (.if_icmp .gt 145, 3) := by decide +kernel
theorem J_HFinder_fill_d43 : decode J_HFinder_fill.2.1 43 = .ok (.iload 4, 2) := by decide +kernel
theorem J_HFinder_fill_d45 : decode J_HFinder_fill.2.1 45 = .ok (.ifCond .ne 8, 3) := by decide +kernel
theorem J_HFinder_fill_d48 : decode J_HFinder_fill.2.1 48 = .ok (.iload 7, 2) := by decide +kernel
theorem J_HFinder_fill_d50 : decode J_HFinder_fill.2.1 50 = .ok (.goto 33, 3) := by decide +kernel
theorem J_HFinder_fill_d53 : decode J_HFinder_fill.2.1 53 = .ok (.iload 4, 2) := by decide +kernel
theorem J_HFinder_fill_d55 : decode J_HFinder_fill.2.1 55 = .ok (.iconst 1, 1) := by decide +kernel
theorem J_HFinder_fill_d56 : decode J_HFinder_fill.2.1 56 = .ok (.if_icmp .ne 11, 3) := by decide +kernel
theorem J_HFinder_fill_d59 : decode J_HFinder_fill.2.1 59 = .ok (.iload 5, 2) := by decide +kernel
theorem J_HFinder_fill_d61 : decode J_HFinder_fill.2.1 61 = .ok (.iload 6, 2) := by decide +kernel
theorem J_HFinder_fill_d63 : decode J_HFinder_fill.2.1 63 = .ok (.isub, 1) := by decide +kernel
theorem J_HFinder_fill_d64 : decode J_HFinder_fill.2.1 64 = .ok (.goto 19, 3) := by decide +kernel
theorem J_HFinder_fill_d67 : decode J_HFinder_fill.2.1 67 = .ok (.iload 4, 2) := by decide +kernel
theorem J_HFinder_fill_d69 : decode J_HFinder_fill.2.1 69 = .ok (.iconst 2, 1) := by decide +kernel
theorem J_HFinder_fill_d70 : decode J_HFinder_fill.2.1 70 = .ok (.if_icmp .ne 11, 3) := by decide +kernel
theorem J_HFinder_fill_d73 : decode J_HFinder_fill.2.1 73 = .ok (.iload 5, 2) := by decide +kernel
theorem J_HFinder_fill_d75 : decode J_HFinder_fill.2.1 75 = .ok (.iload 7, 2) := by decide +kernel
theorem J_HFinder_fill_d77 : decode J_HFinder_fill.2.1 77 = .ok (.isub, 1) := by decide +kernel
theorem J_HFinder_fill_d78 : decode J_HFinder_fill.2.1 78 = .ok (.goto 5, 3) := by decide +kernel
theorem J_HFinder_fill_d81 : decode J_HFinder_fill.2.1 81 = .ok (.iload 6, 2) := by decide +kernel
theorem J_HFinder_fill_d83 : decode J_HFinder_fill.2.1 83 = .ok (.istore 8, 2) := by decide +kernel
theorem J_HFinder_fill_d85 : decode J_HFinder_fill.2.1 85 = .ok (.iload 4, 2) := by decide +kernel
theorem J_HFinder_fill_d87 : decode J_HFinder_fill.2.1 87 = .ok (.ifCond .ne 8, 3) := by decide +kernel
theorem J_HFinder_fill_d90 : decode J_HFinder_fill.2.1 90 = .ok (.iload 6, 2) := by decide +kernel
theorem J_HFinder_fill_d92 : decode J_HFinder_fill.2.1 92 = .ok (.goto 33, 3) := by decide +kernel
theorem J_HFinder_fill_d95 : decode J_HFinder_fill.2.1 95 = .ok (.iload 4, 2) := by decide +kernel
theorem J_HFinder_fill_d97 : decode J_HFinder_fill.2.1 97 = .ok (.iconst 1, 1) := by decide +kernel
theorem J_HFinder_fill_d98 : decode J_HFinder_fill.2.1 98 = .ok (.if_icmp .ne 8, 3) := by decide +kernel
theorem J_HFinder_fill_d101 : decode J_HFinder_fill.2.1 101 = .ok (.iload 7, 2) := by decide +kernel
theorem J_HFinder_fill_d103 : decode J_HFinder_fill.2.1 103 = .ok (.goto 22, 3) := by decide +kernel
theorem J_HFinder_fill_d106 : decode J_HFinder_fill.2.1 106 = .ok (.iload 4, 2) := by decide +kernel
theorem J_HFinder_fill_d108 : decode J_HFinder_fill.2.1 108 = .ok (.iconst 2, 1) := by decide +kernel
theorem J_HFinder_fill_d109 : decode J_HFinder_fill.2.1 109 = .ok (.if_icmp .ne 11, 3) := by decide +kernel
theorem J_HFinder_fill_d112 : decode J_HFinder_fill.2.1 112 = .ok (.iload 5, 2) := by decide +kernel
theorem J_HFinder_fill_d114 : decode J_HFinder_fill.2.1 114 = .ok (.iload 6, 2) := by decide +kernel
theorem J_HFinder_fill_d116 : decode J_HFinder_fill.2.1 116 = .ok (.isub, 1) := by decide +kernel
theorem J_HFinder_fill_d117 : decode J_HFinder_fill.2.1 117 = .ok (.goto 8, 3) := by decide +kernel
theorem J_HFinder_fill_d120 : decode J_HFinder_fill.2.1 120 = .ok (.iload 5, 2) := by decide +kernel
theorem J_HFinder_fill_d122 : decode J_HFinder_fill.2.1 122 = .ok (.iload 7, 2) := by decide +kernel
theorem J_HFinder_fill_d124 : decode J_HFinder_fill.2.1 124 = .ok (.isub, 1) := by decide +kernel
theorem J_HFinder_fill_d125 : decode J_HFinder_fill.2.1 125 = .ok (.istore 9, 2) := by decide +kernel
theorem J_HFinder_fill_d127 : decode J_HFinder_fill.2.1 127 = .ok (.aload_n 0, 1) := by decide +kernel
theorem J_HFinder_fill_d128 : decode J_HFinder_fill.2.1 128 = .ok (.aload_n 0, 1) := by decide +kernel
theorem J_HFinder_fill_d129 : decode J_HFinder_fill.2.1 129 = .ok (.iload_n 1, 1) := by decide +kernel
theorem J_HFinder_fill_d130 : decode J_HFinder_fill.2.1 130 = .ok (.iconst 0, 1) := by decide +kernel
theorem J_HFinder_fill_d131 : decode J_HFinder_fill.2.1 131 = .ok (.invokevirtual 148, 3) := by decide +kernel
theorem J_HFinder_fill_d134 : decode J_HFinder_fill.2.1 134 = .ok (.iload_n 3, 1) := by decide +kernel
theorem J_HFinder_fill_d135 : decode J_HFinder_fill.2.1 135 = .ok (.iload 8, 2) := by decide +kernel
theorem J_HFinder_fill_d137 : decode J_HFinder_fill.2.1 137 = .ok (.imul, 1) := by decide +kernel
theorem J_HFinder_fill_d138 : decode J_HFinder_fill.2.1 138 = .ok (.iadd, 1) := by decide +kernel
theorem J_HFinder_fill_d139 : decode J_HFinder_fill.2.1 139 = .ok (.aload_n 0, 1) := by decide +kernel
theorem J_HFinder_fill_d140 : decode J_HFinder_fill.2.1 140 = .ok (.iload_n 1, 1) := by decide +kernel
theorem J_HFinder_fill_d141 : decode J_HFinder_fill.2.1 141 = .ok (.iconst 1, 1) := by decide +kernel
theorem J_HFinder_fill_d142 : decode J_HFinder_fill.2.1 142 = .ok (.invokevirtual 148, 3) := by decide +kernel
theorem J_HFinder_fill_d145 : decode J_HFinder_fill.2.1 145 = .ok (.iload_n 3, 1) := by decide +kernel
theorem J_HFinder_fill_d146 : decode J_HFinder_fill.2.1 146 = .ok (.iload 9, 2) := by decide +kernel
theorem J_HFinder_fill_d148 : decode J_HFinder_fill.2.1 148 = .ok (.imul, 1) := by decide +kernel
theorem J_HFinder_fill_d149 : decode J_HFinder_fill.2.1 149 = .ok (.iadd, 1) := by decide +kernel
theorem J_HFinder_fill_d150 : decode J_HFinder_fill.2.1 150 = .ok (.iload_n 3, 1) := by decide +kernel
theorem J_HFinder_fill_d151 : decode J_HFinder_fill.2.1 151 = .ok (.invokevirtual 156, 3) := by decide +kernel
theorem J_HFinder_fill_d154 : decode J_HFinder_fill.2.1 154 = .ok (.istore 10, 2) := by decide +kernel
theorem J_HFinder_fill_d156 : decode J_HFinder_fill.2.1 156 = .ok (.aload_n 2, 1) := by decide +kernel
theorem J_HFinder_fill_d157 : decode J_HFinder_fill.2.1 157 = .ok (.iload 7, 2) := by decide +kernel
theorem J_HFinder_fill_d159 : decode J_HFinder_fill.2.1 159 = .ok (.iload 6, 2) := by decide +kernel
theorem J_HFinder_fill_d161 : decode J_HFinder_fill.2.1 161 = .ok (.iconst 2, 1) := by decide +kernel
theorem J_HFinder_fill_d162 : decode J_HFinder_fill.2.1 162 = .ok (.iload 10, 2) := by decide +kernel
theorem J_HFinder_fill_d164 : decode J_HFinder_fill.2.1 164 = .ok (.imul, 1) := by decide +kernel
theorem J_HFinder_fill_d165 : decode J_HFinder_fill.2.1 165 = .ok (.iload_n 3, 1) := by decide +kernel
theorem J_HFinder_fill_d166 : decode J_HFinder_fill.2.1 166 = .ok (.iload_n 3, 1) := by decide +kernel
theorem J_HFinder_fill_d167 : decode J_HFinder_fill.2.1 167 = .ok (.imul, 1) := by decide +kernel
theorem J_HFinder_fill_d168 : decode J_HFinder_fill.2.1 168 = .ok (.if_icmp .le 7, 3) := by decide +kernel
theorem J_HFinder_fill_d171 : decode J_HFinder_fill.2.1 171 = .ok (.iconst 1, 1) := by decide +kernel
theorem J_HFinder_fill_d172 : decode J_HFinder_fill.2.1 172 = .ok (.goto 4, 3) := by decide +kernel
theorem J_HFinder_fill_d175 : decode J_HFinder_fill.2.1 175 = .ok (.iconst 0, 1) := by decide +kernel
theorem J_HFinder_fill_d176 : decode J_HFinder_fill.2.1 176 = .ok (.invokevirtual 159, 3) := by decide +kernel
theorem J_HFinder_fill_d179 : decode J_HFinder_fill.2.1 179 = .ok (.iinc 7 1, 3) := by decide +kernel
theorem J_HFinder_fill_d182 : decode J_HFinder_fill.2.1 182 = .ok (.goto (-146), 3) := by decide +kernel
theorem J_HFinder_fill_d185 : decode J_HFinder_fill.2.1 185 = .ok (.iinc 6 1, 3) := by decide +kernel
theorem J_HFinder_fill_d188 : decode J_HFinder_fill.2.1 188 = .ok (.goto (-162), 3) := by decide +kernel
theorem J_HFinder_fill_d191 : decode J_HFinder_fill.2.1 191 = .ok (.return_, 1) := by decide +kernel
theorem f_HFinder_fill_ok {L : Nat} {xs : Nat → Int32} {dep : Nat} {w : Bool} {p0 : Int32} {M : im_M} {Q : im_M → Prop} (hM : lw_S w M) (h : ed (f_HFinder_fill w p0 M) Q) : ia (tb_G L xs) (dep + 3) J_HFinder_fill (rwV w Q) (0, lv_args 0 [.ref 59, .int p0, .ref 38], [], M) := by
  have hS : im_St (tb_G L xs) (dep + 3) J_HFinder_fill (ia (tb_G L xs) (dep + 3) J_HFinder_fill (rwV w Q)) := ia_St
  unfold f_HFinder_fill at h
  have l0 : im_lk (lv_args 0 [.ref 59, .int p0, .ref 38]) 0 = some (.ref 59) := rfl
  have l1 : im_lk (lv_args 0 [.ref 59, .int p0, .ref 38]) 1 = some (.int p0) := rfl
  have l2 : im_lk (lv_args 0 [.ref 59, .int p0, .ref 38]) 2 = some (.ref 38) := rfl
  refine iq_aload_n hS 1 J_HFinder_fill_d0 l0 rfl ?_
  refine iq_iload_n hS 2 J_HFinder_fill_d1 l1 rfl ?_
  refine iq_iconst hS 3 J_HFinder_fill_d2 (v := 2) (by decide +kernel) rfl ?_
  obtain ⟨Q1, hQ1, h⟩ := bd1_ed h
  refine iq_cpI hS 6 J_HFinder_fill_d3 rfl (pr_inst (vs := [_, _]) lc_3_148 lT_222 rfl rfl (by decide) (by decide) rfl (Nat.le_of_ble_eq_true rfl) (Nat.le_of_ble_eq_true rfl) (fun _ => Or.inl (pr_b (ka_59 hM) (by decide) rfl))) (f_HFinder_part_ok (dep := dep + 2) hM h) rfl ?_
  intro x1 h
  replace h := hQ1 _ h
  refine iq_istore_n hS 7 J_HFinder_fill_d6 (by decide) rfl ?_
  refine iq_aload_n hS 8 J_HFinder_fill_d7 (lk_1r l0 (by decide)) rfl ?_
  refine iq_iload_n hS 9 J_HFinder_fill_d8 (lk_1i l1 (by decide)) rfl ?_
  refine iq_iconst hS 10 J_HFinder_fill_d9 (v := 4) (by decide +kernel) rfl ?_
  obtain ⟨Q2, hQ2, h⟩ := bd1_ed h
  refine iq_cpI hS 13 J_HFinder_fill_d10 rfl (pr_inst (vs := [_, _]) lc_3_148 lT_222 rfl rfl (by decide) (by decide) rfl (Nat.le_of_ble_eq_true rfl) (Nat.le_of_ble_eq_true rfl) (fun _ => Or.inl (pr_b (ka_59 hM) (by decide) rfl))) (f_HFinder_part_ok (dep := dep + 2) hM h) rfl ?_
  intro x2 h
  replace h := hQ2 _ h
  refine iq_istore hS 15 J_HFinder_fill_d13 (by decide) rfl ?_
  refine iq_aload_n hS 16 J_HFinder_fill_d15 (lk_1r (lk_1r l2 (by decide)) (by decide)) rfl ?_
  refine iq_getI hS 19 J_HFinder_fill_d16 lf_3_151 (Or.inl rfl) (ka_38 hM) rfl ?_
  refine iq_iconst hS 20 J_HFinder_fill_d19 (v := 1) (by decide +kernel) rfl ?_
  refine iq_isub hS 21 J_HFinder_fill_d20 rfl ?_
  refine iq_istore hS 23 J_HFinder_fill_d21 (by decide) rfl ?_
  refine iq_iconst hS 24 J_HFinder_fill_d23 (v := 0) (by decide +kernel) rfl ?_
  refine iq_istore hS 26 J_HFinder_fill_d24 (by decide) rfl ?_
  obtain ⟨Q3, hQ3, h⟩ := bd1_ed h
  have K3 : ∀ (M4 : im_M) (L' : List (Nat × Value)), lw_S w M4 → Q3 M4 → ia (tb_G L xs) (dep + 3) J_HFinder_fill (rwV w Q) (191, L', [], M4) := by
    intro M4 L' hM4  h
    replace h := hQ3 _ h
    exact iq_ret J_HFinder_fill_d191 rfl ⟨rfl, hM4, ed_some h⟩
  obtain ⟨r3, hr3, hq3⟩ := h
  obtain ⟨n3, hn3⟩ := lp_n hr3
  have I3 : ∀ (n : Nat) (x5 : Int32) (M6 : im_M) (L' : List (Nat × Value)), lw_S w M6 → im_lk L' 0 = some (.ref 59) → im_lk L' 1 = some (.int p0) → im_lk L' 2 = some (.ref 38) → im_lk L' 3 = some (.int x1) → im_lk L' 4 = some (.int x2) → im_lk L' 5 = some (.int ((im_i M 38 1) - 1)) → im_lk L' 6 = some (.int x5) → lpn (uc2 (f_HFinder_fill_L26 w p0 x1 x2 ((im_i M 38 1) - 1))) n (x5, M6) = some r3 → ia (tb_G L xs) (dep + 3) J_HFinder_fill (rwV w Q) (26, L', [], M6) := by
    intro n
    induction n with
    | zero => intro x5 M6 L' hM6 l7 l8 l9 l10 l11 l12 l13 hn; exact (lpn_0 hn).elim
    | succ n ih =>
      intro x5 M6 L' hM6 l7 l8 l9 l10 l11 l12 l13 hn
      have h := lpn_ed2 hn
      unfold f_HFinder_fill_L26 at h
      refine iq_iload hS 28 J_HFinder_fill_d26 l13 rfl ?_
      refine iq_iload hS 30 J_HFinder_fill_d28 l12 rfl ?_
      refine iq_icmp_gt hS 33 J_HFinder_fill_d30 (t := 191) rfl (fun q30 => ?_) rfl (fun q30 => ?_)
      · replace h := ed_pos q30 h
        exact K3 _ _ hM6  (lq_r h hq3)
      · replace h := ed_neg q30 h
        refine iq_iconst hS 34 J_HFinder_fill_d33 (v := 0) (by decide +kernel) rfl ?_
        refine iq_istore hS 36 J_HFinder_fill_d34 (by decide) rfl ?_
        obtain ⟨Q14, hQ14, h⟩ := bd1_ed h
        have K14 : ∀ (M15 : im_M) (L' : List (Nat × Value)), lw_S w M15 → im_lk L' 0 = some (.ref 59) → im_lk L' 1 = some (.int p0) → im_lk L' 2 = some (.ref 38) → im_lk L' 3 = some (.int x1) → im_lk L' 4 = some (.int x2) → im_lk L' 5 = some (.int ((im_i M 38 1) - 1)) → im_lk L' 6 = some (.int x5) → Q14 M15 → ia (tb_G L xs) (dep + 3) J_HFinder_fill (rwV w Q) (185, L', [], M15) := by
          intro M15 L' hM15 l16 l17 l18 l19 l20 l21 l22 h
          replace h := hQ14 _ h
          refine iq_iincv hS 188 J_HFinder_fill_d185 (c := 1) (by decide +kernel) l22 (by decide) rfl ?_
          refine iq_goto hS J_HFinder_fill_d188 (t := 26) rfl ?_
          exact ih _ _ _ hM15 (lk_1r l16 (by decide)) (lk_1i l17 (by decide)) (lk_1r l18 (by decide)) (lk_1i l19 (by decide)) (lk_1i l20 (by decide)) (lk_1i l21 (by decide)) lk_1s (lq_l h)
        obtain ⟨r14, hr14, hq14⟩ := h
        obtain ⟨n14, hn14⟩ := lp_n hr14
        have I14 : ∀ (n : Nat) (x23 : Int32) (M24 : im_M) (L' : List (Nat × Value)), lw_S w M24 → im_lk L' 0 = some (.ref 59) → im_lk L' 1 = some (.int p0) → im_lk L' 2 = some (.ref 38) → im_lk L' 3 = some (.int x1) → im_lk L' 4 = some (.int x2) → im_lk L' 5 = some (.int ((im_i M 38 1) - 1)) → im_lk L' 6 = some (.int x5) → im_lk L' 7 = some (.int x23) → lpn (uc2 (f_HFinder_fill_L36 w p0 x1 x2 ((im_i M 38 1) - 1) x5)) n (x23, M24) = some r14 → ia (tb_G L xs) (dep + 3) J_HFinder_fill (rwV w Q) (36, L', [], M24) := by
          intro n
          induction n with
          | zero => intro x23 M24 L' hM24 l25 l26 l27 l28 l29 l30 l31 l32 hn; exact (lpn_0 hn).elim
          | succ n ih =>
            intro x23 M24 L' hM24 l25 l26 l27 l28 l29 l30 l31 l32 hn
            have h := lpn_ed2 hn
            unfold f_HFinder_fill_L36 at h
            refine iq_iload hS 38 J_HFinder_fill_d36 l32 rfl ?_
            refine iq_iload hS 40 J_HFinder_fill_d38 l30 rfl ?_
            refine iq_icmp_gt hS 43 J_HFinder_fill_d40 (t := 185) rfl (fun q40 => ?_) rfl (fun q40 => ?_)
            · replace h := ed_pos q40 h
              exact K14 _ _ hM24 l25 l26 l27 l28 l29 l30 l31 (lq_r h hq14)
            · replace h := ed_neg q40 h
              refine iq_iload hS 45 J_HFinder_fill_d43 l29 rfl ?_
              have J33 : ∀ (z34 : Int32) (L' : List (Nat × Value)), z34 = ((if ¬ x2 = 0 then (if ¬ x2 = 1 then (if ¬ x2 = 2 then x5 else (((im_i M 38 1) - 1) - x23)) else (((im_i M 38 1) - 1) - x5)) else x23) : Int32) → im_lk L' 0 = some (.ref 59) → im_lk L' 1 = some (.int p0) → im_lk L' 2 = some (.ref 38) → im_lk L' 3 = some (.int x1) → im_lk L' 4 = some (.int x2) → im_lk L' 5 = some (.int ((im_i M 38 1) - 1)) → im_lk L' 6 = some (.int x5) → im_lk L' 7 = some (.int x23) → ia (tb_G L xs) (dep + 3) J_HFinder_fill (rwV w Q) (83, L', [.int z34], M24) := by
                intro z34 L' e35 l36 l37 l38 l39 l40 l41 l42 l43
                subst e35
                refine iq_istore hS 85 J_HFinder_fill_d83 (by decide) rfl ?_
                refine iq_iload hS 87 J_HFinder_fill_d85 (lk_1i l40 (by decide)) rfl ?_
                have J44 : ∀ (z45 : Int32) (L' : List (Nat × Value)), z45 = ((if ¬ x2 = 0 then (if ¬ x2 = 1 then (if ¬ x2 = 2 then (((im_i M 38 1) - 1) - x23) else (((im_i M 38 1) - 1) - x5)) else x23) else x5) : Int32) → im_lk L' 0 = some (.ref 59) → im_lk L' 1 = some (.int p0) → im_lk L' 2 = some (.ref 38) → im_lk L' 3 = some (.int x1) → im_lk L' 4 = some (.int x2) → im_lk L' 5 = some (.int ((im_i M 38 1) - 1)) → im_lk L' 6 = some (.int x5) → im_lk L' 7 = some (.int x23) → im_lk L' 8 = some (.int ((if ¬ x2 = 0 then (if ¬ x2 = 1 then (if ¬ x2 = 2 then x5 else (((im_i M 38 1) - 1) - x23)) else (((im_i M 38 1) - 1) - x5)) else x23) : Int32)) → ia (tb_G L xs) (dep + 3) J_HFinder_fill (rwV w Q) (125, L', [.int z45], M24) := by
                  intro z45 L' e46 l47 l48 l49 l50 l51 l52 l53 l54 l55
                  subst e46
                  refine iq_istore hS 127 J_HFinder_fill_d125 (by decide) rfl ?_
                  refine iq_aload_n hS 128 J_HFinder_fill_d127 (lk_1r l47 (by decide)) rfl ?_
                  refine iq_aload_n hS 129 J_HFinder_fill_d128 (lk_1r l47 (by decide)) rfl ?_
                  refine iq_iload_n hS 130 J_HFinder_fill_d129 (lk_1i l48 (by decide)) rfl ?_
                  refine iq_iconst hS 131 J_HFinder_fill_d130 (v := 0) (by decide +kernel) rfl ?_
                  obtain ⟨Q56, hQ56, h⟩ := bd1_ed h
                  refine iq_cpI hS 134 J_HFinder_fill_d131 rfl (pr_inst (vs := [_, _]) lc_3_148 lT_222 rfl rfl (by decide) (by decide) rfl (Nat.le_of_ble_eq_true rfl) (Nat.le_of_ble_eq_true rfl) (fun _ => Or.inl (pr_b (ka_59 hM24) (by decide) rfl))) (f_HFinder_part_ok (dep := dep + 2) hM24 h) rfl ?_
                  intro x56 h
                  replace h := hQ56 _ h
                  refine iq_iload_n hS 135 J_HFinder_fill_d134 (lk_1i l50 (by decide)) rfl ?_
                  refine iq_iload hS 137 J_HFinder_fill_d135 (lk_1i l55 (by decide)) rfl ?_
                  refine iq_imul hS 138 J_HFinder_fill_d137 rfl ?_
                  refine iq_iadd hS 139 J_HFinder_fill_d138 rfl ?_
                  refine iq_aload_n hS 140 J_HFinder_fill_d139 (lk_1r l47 (by decide)) rfl ?_
                  refine iq_iload_n hS 141 J_HFinder_fill_d140 (lk_1i l48 (by decide)) rfl ?_
                  refine iq_iconst hS 142 J_HFinder_fill_d141 (v := 1) (by decide +kernel) rfl ?_
                  obtain ⟨Q57, hQ57, h⟩ := bd1_ed h
                  refine iq_cpI hS 145 J_HFinder_fill_d142 rfl (pr_inst (vs := [_, _]) lc_3_148 lT_222 rfl rfl (by decide) (by decide) rfl (Nat.le_of_ble_eq_true rfl) (Nat.le_of_ble_eq_true rfl) (fun _ => Or.inl (pr_b (ka_59 hM24) (by decide) rfl))) (f_HFinder_part_ok (dep := dep + 2) hM24 h) rfl ?_
                  intro x57 h
                  replace h := hQ57 _ h
                  refine iq_iload_n hS 146 J_HFinder_fill_d145 (lk_1i l50 (by decide)) rfl ?_
                  refine iq_iload hS 148 J_HFinder_fill_d146 lk_1s rfl ?_
                  refine iq_imul hS 149 J_HFinder_fill_d148 rfl ?_
                  refine iq_iadd hS 150 J_HFinder_fill_d149 rfl ?_
                  refine iq_iload_n hS 151 J_HFinder_fill_d150 (lk_1i l50 (by decide)) rfl ?_
                  obtain ⟨Q58, hQ58, h⟩ := bd1_ed h
                  refine iq_cpI hS 154 J_HFinder_fill_d151 rfl (pr_inst (vs := [_, _, _]) lc_3_156 lT_227 rfl rfl (by decide) (by decide) rfl (Nat.le_of_ble_eq_true rfl) (Nat.le_of_ble_eq_true rfl) (fun _ => Or.inl (pr_b (ka_59 hM24) (by decide) rfl))) (f_HFinder_darkNow_ok (dep := dep + 0) hM24 h) rfl ?_
                  intro x58 h
                  replace h := hQ58 _ h
                  refine iq_istore hS 156 J_HFinder_fill_d154 (by decide) rfl ?_
                  refine iq_aload_n hS 157 J_HFinder_fill_d156 (lk_1r (lk_1r l49 (by decide)) (by decide)) rfl ?_
                  refine iq_iload hS 159 J_HFinder_fill_d157 (lk_1i (lk_1i l54 (by decide)) (by decide)) rfl ?_
                  refine iq_iload hS 161 J_HFinder_fill_d159 (lk_1i (lk_1i l53 (by decide)) (by decide)) rfl ?_
                  refine iq_iconst hS 162 J_HFinder_fill_d161 (v := 2) (by decide +kernel) rfl ?_
                  refine iq_iload hS 164 J_HFinder_fill_d162 lk_1s rfl ?_
                  refine iq_imul hS 165 J_HFinder_fill_d164 rfl ?_
                  refine iq_iload_n hS 166 J_HFinder_fill_d165 (lk_1i (lk_1i l50 (by decide)) (by decide)) rfl ?_
                  refine iq_iload_n hS 167 J_HFinder_fill_d166 (lk_1i (lk_1i l50 (by decide)) (by decide)) rfl ?_
                  refine iq_imul hS 168 J_HFinder_fill_d167 rfl ?_
                  have J59 : ∀ (z60 : Int32) (L' : List (Nat × Value)), z60 = ((if ((2 : Int32) * x58) ≤ (x1 * x1) then 0 else 1) : Int32) → im_lk L' 0 = some (.ref 59) → im_lk L' 1 = some (.int p0) → im_lk L' 2 = some (.ref 38) → im_lk L' 3 = some (.int x1) → im_lk L' 4 = some (.int x2) → im_lk L' 5 = some (.int ((im_i M 38 1) - 1)) → im_lk L' 6 = some (.int x5) → im_lk L' 7 = some (.int x23) → ia (tb_G L xs) (dep + 3) J_HFinder_fill (rwV w Q) (176, L', [.int z60, .int x5, .int x23, .ref 38], M24) := by
                    intro z60 L' e61 l62 l63 l64 l65 l66 l67 l68 l69
                    subst e61
                    obtain ⟨Q70, hQ70, h⟩ := bd1_ed h
                    refine iq_cwV hS 179 J_HFinder_fill_d176 rfl (pr_inst (vs := [_, _, _]) lc_3_159 lT_170 rfl rfl (by decide) (by decide) rfl (Nat.le_of_ble_eq_true rfl) (Nat.le_of_ble_eq_true rfl) (fun _ => Or.inl (pr_b (ka_38 hM24) (by decide) rfl))) (f_HGrid_set_ok (dep := dep + 2) hM24 h) rfl ?_
                    intro M70 hM70 h
                    replace h := hQ70 _ h
                    refine iq_iincv hS 182 J_HFinder_fill_d179 (c := 1) (by decide +kernel) l69 (by decide) rfl ?_
                    refine iq_goto hS J_HFinder_fill_d182 (t := 36) rfl ?_
                    exact ih _ _ _ hM70 (lk_1r l62 (by decide)) (lk_1i l63 (by decide)) (lk_1r l64 (by decide)) (lk_1i l65 (by decide)) (lk_1i l66 (by decide)) (lk_1i l67 (by decide)) (lk_1i l68 (by decide)) lk_1s (lq_l h)
                  refine iq_icmp_le hS 171 J_HFinder_fill_d168 (t := 175) rfl (fun q168 => ?_) rfl (fun q168 => ?_)
                  · refine iq_iconst hS 176 J_HFinder_fill_d175 (v := 0) (by decide +kernel) rfl ?_
                    exact J59 _ _ (by simp only [if_pos q168]) (lk_1r (lk_1r l47 (by decide)) (by decide)) (lk_1i (lk_1i l48 (by decide)) (by decide)) (lk_1r (lk_1r l49 (by decide)) (by decide)) (lk_1i (lk_1i l50 (by decide)) (by decide)) (lk_1i (lk_1i l51 (by decide)) (by decide)) (lk_1i (lk_1i l52 (by decide)) (by decide)) (lk_1i (lk_1i l53 (by decide)) (by decide)) (lk_1i (lk_1i l54 (by decide)) (by decide))
                  · refine iq_iconst hS 172 J_HFinder_fill_d171 (v := 1) (by decide +kernel) rfl ?_
                    refine iq_goto hS J_HFinder_fill_d172 (t := 176) rfl ?_
                    exact J59 _ _ (by simp only [if_neg q168]) (lk_1r (lk_1r l47 (by decide)) (by decide)) (lk_1i (lk_1i l48 (by decide)) (by decide)) (lk_1r (lk_1r l49 (by decide)) (by decide)) (lk_1i (lk_1i l50 (by decide)) (by decide)) (lk_1i (lk_1i l51 (by decide)) (by decide)) (lk_1i (lk_1i l52 (by decide)) (by decide)) (lk_1i (lk_1i l53 (by decide)) (by decide)) (lk_1i (lk_1i l54 (by decide)) (by decide))
                refine iq_if_ne hS 90 J_HFinder_fill_d87 (t := 95) rfl (fun q87 => ?_) rfl (fun q87 => ?_)
                · refine iq_iload hS 97 J_HFinder_fill_d95 (lk_1i l40 (by decide)) rfl ?_
                  refine iq_iconst hS 98 J_HFinder_fill_d97 (v := 1) (by decide +kernel) rfl ?_
                  refine iq_icmp_ne hS 101 J_HFinder_fill_d98 (t := 106) rfl (fun q98 => ?_) rfl (fun q98 => ?_)
                  · refine iq_iload hS 108 J_HFinder_fill_d106 (lk_1i l40 (by decide)) rfl ?_
                    refine iq_iconst hS 109 J_HFinder_fill_d108 (v := 2) (by decide +kernel) rfl ?_
                    refine iq_icmp_ne hS 112 J_HFinder_fill_d109 (t := 120) rfl (fun q109 => ?_) rfl (fun q109 => ?_)
                    · refine iq_iload hS 122 J_HFinder_fill_d120 (lk_1i l41 (by decide)) rfl ?_
                      refine iq_iload hS 124 J_HFinder_fill_d122 (lk_1i l43 (by decide)) rfl ?_
                      refine iq_isub hS 125 J_HFinder_fill_d124 rfl ?_
                      exact J44 _ _ (by simp only [if_pos q87, if_pos q98, if_pos q109]) (lk_1r l36 (by decide)) (lk_1i l37 (by decide)) (lk_1r l38 (by decide)) (lk_1i l39 (by decide)) (lk_1i l40 (by decide)) (lk_1i l41 (by decide)) (lk_1i l42 (by decide)) (lk_1i l43 (by decide)) lk_1s
                    · refine iq_iload hS 114 J_HFinder_fill_d112 (lk_1i l41 (by decide)) rfl ?_
                      refine iq_iload hS 116 J_HFinder_fill_d114 (lk_1i l42 (by decide)) rfl ?_
                      refine iq_isub hS 117 J_HFinder_fill_d116 rfl ?_
                      refine iq_goto hS J_HFinder_fill_d117 (t := 125) rfl ?_
                      exact J44 _ _ (by simp only [if_pos q87, if_pos q98, if_neg q109]) (lk_1r l36 (by decide)) (lk_1i l37 (by decide)) (lk_1r l38 (by decide)) (lk_1i l39 (by decide)) (lk_1i l40 (by decide)) (lk_1i l41 (by decide)) (lk_1i l42 (by decide)) (lk_1i l43 (by decide)) lk_1s
                  · refine iq_iload hS 103 J_HFinder_fill_d101 (lk_1i l43 (by decide)) rfl ?_
                    refine iq_goto hS J_HFinder_fill_d103 (t := 125) rfl ?_
                    exact J44 _ _ (by simp only [if_pos q87, if_neg q98]) (lk_1r l36 (by decide)) (lk_1i l37 (by decide)) (lk_1r l38 (by decide)) (lk_1i l39 (by decide)) (lk_1i l40 (by decide)) (lk_1i l41 (by decide)) (lk_1i l42 (by decide)) (lk_1i l43 (by decide)) lk_1s
                · refine iq_iload hS 92 J_HFinder_fill_d90 (lk_1i l42 (by decide)) rfl ?_
                  refine iq_goto hS J_HFinder_fill_d92 (t := 125) rfl ?_
                  exact J44 _ _ (by simp only [if_neg q87]) (lk_1r l36 (by decide)) (lk_1i l37 (by decide)) (lk_1r l38 (by decide)) (lk_1i l39 (by decide)) (lk_1i l40 (by decide)) (lk_1i l41 (by decide)) (lk_1i l42 (by decide)) (lk_1i l43 (by decide)) lk_1s
              refine iq_if_ne hS 48 J_HFinder_fill_d45 (t := 53) rfl (fun q45 => ?_) rfl (fun q45 => ?_)
              · refine iq_iload hS 55 J_HFinder_fill_d53 l29 rfl ?_
                refine iq_iconst hS 56 J_HFinder_fill_d55 (v := 1) (by decide +kernel) rfl ?_
                refine iq_icmp_ne hS 59 J_HFinder_fill_d56 (t := 67) rfl (fun q56 => ?_) rfl (fun q56 => ?_)
                · refine iq_iload hS 69 J_HFinder_fill_d67 l29 rfl ?_
                  refine iq_iconst hS 70 J_HFinder_fill_d69 (v := 2) (by decide +kernel) rfl ?_
                  refine iq_icmp_ne hS 73 J_HFinder_fill_d70 (t := 81) rfl (fun q70 => ?_) rfl (fun q70 => ?_)
                  · refine iq_iload hS 83 J_HFinder_fill_d81 l31 rfl ?_
                    exact J33 _ _ (by simp only [if_pos q45, if_pos q56, if_pos q70]) l25 l26 l27 l28 l29 l30 l31 l32
                  · refine iq_iload hS 75 J_HFinder_fill_d73 l30 rfl ?_
                    refine iq_iload hS 77 J_HFinder_fill_d75 l32 rfl ?_
                    refine iq_isub hS 78 J_HFinder_fill_d77 rfl ?_
                    refine iq_goto hS J_HFinder_fill_d78 (t := 83) rfl ?_
                    exact J33 _ _ (by simp only [if_pos q45, if_pos q56, if_neg q70]) l25 l26 l27 l28 l29 l30 l31 l32
                · refine iq_iload hS 61 J_HFinder_fill_d59 l30 rfl ?_
                  refine iq_iload hS 63 J_HFinder_fill_d61 l31 rfl ?_
                  refine iq_isub hS 64 J_HFinder_fill_d63 rfl ?_
                  refine iq_goto hS J_HFinder_fill_d64 (t := 83) rfl ?_
                  exact J33 _ _ (by simp only [if_pos q45, if_neg q56]) l25 l26 l27 l28 l29 l30 l31 l32
              · refine iq_iload hS 50 J_HFinder_fill_d48 l32 rfl ?_
                refine iq_goto hS J_HFinder_fill_d50 (t := 83) rfl ?_
                exact J33 _ _ (by simp only [if_neg q45]) l25 l26 l27 l28 l29 l30 l31 l32
        exact I14 n14 _ _ _ hM6 (lk_1r l7 (by decide)) (lk_1i l8 (by decide)) (lk_1r l9 (by decide)) (lk_1i l10 (by decide)) (lk_1i l11 (by decide)) (lk_1i l12 (by decide)) (lk_1i l13 (by decide)) lk_1s hn14
  exact I3 n3 _ _ _ hM (lk_1r (lk_1r (lk_1r (lk_1r l0 (by decide)) (by decide)) (by decide)) (by decide)) (lk_1i (lk_1i (lk_1i (lk_1i l1 (by decide)) (by decide)) (by decide)) (by decide)) (lk_1r (lk_1r (lk_1r (lk_1r l2 (by decide)) (by decide)) (by decide)) (by decide)) (lk_1i (lk_1i (lk_1i lk_1s (by decide)) (by decide)) (by decide)) (lk_1i (lk_1i lk_1s (by decide)) (by decide)) (lk_1i lk_1s (by decide)) lk_1s hn3
theorem f_HFinder_fill_fr {w : Bool} {p0 : Int32} {M : im_M} {r : im_M} (h : f_HFinder_fill w p0 M = some r) : fr 18014398509481984 [] M r := by
  replace h : ed (f_HFinder_fill w p0 M) (fun x => x = r) := ⟨r, h, rfl⟩
  unfold f_HFinder_fill at h
  obtain ⟨Q1, hQ1, h⟩ := bd1_ed h
  obtain ⟨x1, e1, h⟩ := h
  replace h := hQ1 _ h
  obtain ⟨Q2, hQ2, h⟩ := bd1_ed h
  obtain ⟨x2, e2, h⟩ := h
  replace h := hQ2 _ h
  obtain ⟨Q3, hQ3, h⟩ := bd1_ed h
  have K3 : ∀ (M4 : im_M), fr 18014398509481984 [] M M4 → Q3 M4 → fr 18014398509481984 [] M r := by
    intro M4 hM4 h
    replace h := hQ3 _ h
    exact fr_retV h hM4
  obtain ⟨r3, hr3, hq3⟩ := h
  obtain ⟨n3, hn3⟩ := lp_n hr3
  have I3 : ∀ (n : Nat) (x5 : Int32) (M6 : im_M), fr 18014398509481984 [] M M6 → lpn (uc2 (f_HFinder_fill_L26 w p0 x1 x2 ((im_i M 38 1) - 1))) n (x5, M6) = some r3 → fr 18014398509481984 [] M r := by
    intro n
    induction n with
    | zero => intro x5 M6 hM6 hn; exact (lpn_0 hn).elim
    | succ n ih =>
      intro x5 M6 hM6 hn
      have h := lpn_ed2 hn
      unfold f_HFinder_fill_L26 at h
      by_cases q30 : ((im_i M 38 1) - 1) < x5
      · replace h := ed_pos q30 h
        exact K3 _ hM6 (lq_r h hq3)
      · replace h := ed_neg q30 h
        obtain ⟨Q7, hQ7, h⟩ := bd1_ed h
        have K7 : ∀ (M8 : im_M), fr 18014398509481984 [] M M8 → Q7 M8 → fr 18014398509481984 [] M r := by
          intro M8 hM8 h
          replace h := hQ7 _ h
          exact ih _ _ hM8 (lq_l h)
        obtain ⟨r7, hr7, hq7⟩ := h
        obtain ⟨n7, hn7⟩ := lp_n hr7
        have I7 : ∀ (n : Nat) (x9 : Int32) (M10 : im_M), fr 18014398509481984 [] M M10 → lpn (uc2 (f_HFinder_fill_L36 w p0 x1 x2 ((im_i M 38 1) - 1) x5)) n (x9, M10) = some r7 → fr 18014398509481984 [] M r := by
          intro n
          induction n with
          | zero => intro x9 M10 hM10 hn; exact (lpn_0 hn).elim
          | succ n ih =>
            intro x9 M10 hM10 hn
            have h := lpn_ed2 hn
            unfold f_HFinder_fill_L36 at h
            by_cases q40 : ((im_i M 38 1) - 1) < x9
            · replace h := ed_pos q40 h
              exact K7 _ hM10 (lq_r h hq7)
            · replace h := ed_neg q40 h
              obtain ⟨Q13, hQ13, h⟩ := bd1_ed h
              obtain ⟨x13, e13, h⟩ := h
              replace h := hQ13 _ h
              obtain ⟨Q14, hQ14, h⟩ := bd1_ed h
              obtain ⟨x14, e14, h⟩ := h
              replace h := hQ14 _ h
              obtain ⟨Q15, hQ15, h⟩ := bd1_ed h
              obtain ⟨x15, e15, h⟩ := h
              replace h := hQ15 _ h
              obtain ⟨Q17, hQ17, h⟩ := bd1_ed h
              obtain ⟨M17, e17, h⟩ := h
              replace h := hQ17 _ h
              exact ih _ _ (fr_tr (fr_mono (by decide) (by decide +kernel) (f_HGrid_set_fr e17)) hM10) (lq_l h)
        exact I7 n7 _ _ hM6 hn7
  exact I3 n3 _ _ fr_refl hn3
noncomputable def f_Integer_bitCount (p0 : Int32) (M : im_M) : Option (Int32) := some ((((((((p0 - ((Int32.toUInt32 p0 >>> (Int32.toUInt32 1 &&& Int32.toUInt32 31)).toInt32 &&& 1431655765)) &&& 858993459) + ((Int32.toUInt32 (p0 - ((Int32.toUInt32 p0 >>> (Int32.toUInt32 1 &&& Int32.toUInt32 31)).toInt32 &&& 1431655765)) >>> (Int32.toUInt32 2 &&& Int32.toUInt32 31)).toInt32 &&& 858993459)) + (Int32.toUInt32 (((p0 - ((Int32.toUInt32 p0 >>> (Int32.toUInt32 1 &&& Int32.toUInt32 31)).toInt32 &&& 1431655765)) &&& 858993459) + ((Int32.toUInt32 (p0 - ((Int32.toUInt32 p0 >>> (Int32.toUInt32 1 &&& Int32.toUInt32 31)).toInt32 &&& 1431655765)) >>> (Int32.toUInt32 2 &&& Int32.toUInt32 31)).toInt32 &&& 858993459)) >>> (Int32.toUInt32 4 &&& Int32.toUInt32 31)).toInt32) &&& 252645135) + (Int32.toUInt32 (((((p0 - ((Int32.toUInt32 p0 >>> (Int32.toUInt32 1 &&& Int32.toUInt32 31)).toInt32 &&& 1431655765)) &&& 858993459) + ((Int32.toUInt32 (p0 - ((Int32.toUInt32 p0 >>> (Int32.toUInt32 1 &&& Int32.toUInt32 31)).toInt32 &&& 1431655765)) >>> (Int32.toUInt32 2 &&& Int32.toUInt32 31)).toInt32 &&& 858993459)) + (Int32.toUInt32 (((p0 - ((Int32.toUInt32 p0 >>> (Int32.toUInt32 1 &&& Int32.toUInt32 31)).toInt32 &&& 1431655765)) &&& 858993459) + ((Int32.toUInt32 (p0 - ((Int32.toUInt32 p0 >>> (Int32.toUInt32 1 &&& Int32.toUInt32 31)).toInt32 &&& 1431655765)) >>> (Int32.toUInt32 2 &&& Int32.toUInt32 31)).toInt32 &&& 858993459)) >>> (Int32.toUInt32 4 &&& Int32.toUInt32 31)).toInt32) &&& 252645135) >>> (Int32.toUInt32 8 &&& Int32.toUInt32 31)).toInt32) + (Int32.toUInt32 ((((((p0 - ((Int32.toUInt32 p0 >>> (Int32.toUInt32 1 &&& Int32.toUInt32 31)).toInt32 &&& 1431655765)) &&& 858993459) + ((Int32.toUInt32 (p0 - ((Int32.toUInt32 p0 >>> (Int32.toUInt32 1 &&& Int32.toUInt32 31)).toInt32 &&& 1431655765)) >>> (Int32.toUInt32 2 &&& Int32.toUInt32 31)).toInt32 &&& 858993459)) + (Int32.toUInt32 (((p0 - ((Int32.toUInt32 p0 >>> (Int32.toUInt32 1 &&& Int32.toUInt32 31)).toInt32 &&& 1431655765)) &&& 858993459) + ((Int32.toUInt32 (p0 - ((Int32.toUInt32 p0 >>> (Int32.toUInt32 1 &&& Int32.toUInt32 31)).toInt32 &&& 1431655765)) >>> (Int32.toUInt32 2 &&& Int32.toUInt32 31)).toInt32 &&& 858993459)) >>> (Int32.toUInt32 4 &&& Int32.toUInt32 31)).toInt32) &&& 252645135) + (Int32.toUInt32 (((((p0 - ((Int32.toUInt32 p0 >>> (Int32.toUInt32 1 &&& Int32.toUInt32 31)).toInt32 &&& 1431655765)) &&& 858993459) + ((Int32.toUInt32 (p0 - ((Int32.toUInt32 p0 >>> (Int32.toUInt32 1 &&& Int32.toUInt32 31)).toInt32 &&& 1431655765)) >>> (Int32.toUInt32 2 &&& Int32.toUInt32 31)).toInt32 &&& 858993459)) + (Int32.toUInt32 (((p0 - ((Int32.toUInt32 p0 >>> (Int32.toUInt32 1 &&& Int32.toUInt32 31)).toInt32 &&& 1431655765)) &&& 858993459) + ((Int32.toUInt32 (p0 - ((Int32.toUInt32 p0 >>> (Int32.toUInt32 1 &&& Int32.toUInt32 31)).toInt32 &&& 1431655765)) >>> (Int32.toUInt32 2 &&& Int32.toUInt32 31)).toInt32 &&& 858993459)) >>> (Int32.toUInt32 4 &&& Int32.toUInt32 31)).toInt32) &&& 252645135) >>> (Int32.toUInt32 8 &&& Int32.toUInt32 31)).toInt32) >>> (Int32.toUInt32 16 &&& Int32.toUInt32 31)).toInt32) &&& 63)
theorem J_Integer_bitCount_d0 : decode J_Integer_bitCount.2.1 0 = .ok (.iload_n 0, 1) := by decide +kernel
theorem J_Integer_bitCount_d1 : decode J_Integer_bitCount.2.1 1 = .ok (.iload_n 0, 1) := by decide +kernel
theorem J_Integer_bitCount_d2 : decode J_Integer_bitCount.2.1 2 = .ok (.iconst 1, 1) := by decide +kernel
theorem J_Integer_bitCount_d3 : decode J_Integer_bitCount.2.1 3 = .ok (.iushr, 1) := by decide +kernel
theorem J_Integer_bitCount_d4 : decode J_Integer_bitCount.2.1 4 = .ok (.ldc_w 265, 3) := by decide +kernel
theorem J_Integer_bitCount_d7 : decode J_Integer_bitCount.2.1 7 = .ok (.iand, 1) := by decide +kernel
theorem J_Integer_bitCount_d8 : decode J_Integer_bitCount.2.1 8 = .ok (.isub, 1) := by decide +kernel
theorem J_Integer_bitCount_d9 : decode J_Integer_bitCount.2.1 9 = .ok (.istore_n 0, 1) := by decide +kernel
theorem J_Integer_bitCount_d10 : decode J_Integer_bitCount.2.1 10 = .ok (.iload_n 0, 1) := by decide +kernel
theorem J_Integer_bitCount_d11 : decode J_Integer_bitCount.2.1 11 = .ok (.ldc_w 266, 3) := by decide +kernel
theorem J_Integer_bitCount_d14 : decode J_Integer_bitCount.2.1 14 = .ok (.iand, 1) := by decide +kernel
theorem J_Integer_bitCount_d15 : decode J_Integer_bitCount.2.1 15 = .ok (.iload_n 0, 1) := by decide +kernel
theorem J_Integer_bitCount_d16 : decode J_Integer_bitCount.2.1 16 = .ok (.iconst 2, 1) := by decide +kernel
theorem J_Integer_bitCount_d17 : decode J_Integer_bitCount.2.1 17 = .ok (.iushr, 1) := by decide +kernel
theorem J_Integer_bitCount_d18 : decode J_Integer_bitCount.2.1 18 = .ok (.ldc_w 266, 3) := by decide +kernel
theorem J_Integer_bitCount_d21 : decode J_Integer_bitCount.2.1 21 = .ok (.iand, 1) := by decide +kernel
theorem J_Integer_bitCount_d22 : decode J_Integer_bitCount.2.1 22 = .ok (.iadd, 1) := by decide +kernel
theorem J_Integer_bitCount_d23 : decode J_Integer_bitCount.2.1 23 = .ok (.istore_n 0, 1) := by decide +kernel
theorem J_Integer_bitCount_d24 : decode J_Integer_bitCount.2.1 24 = .ok (.iload_n 0, 1) := by decide +kernel
theorem J_Integer_bitCount_d25 : decode J_Integer_bitCount.2.1 25 = .ok (.iload_n 0, 1) := by decide +kernel
theorem J_Integer_bitCount_d26 : decode J_Integer_bitCount.2.1 26 = .ok (.iconst 4, 1) := by decide +kernel
theorem J_Integer_bitCount_d27 : decode J_Integer_bitCount.2.1 27 = .ok (.iushr, 1) := by decide +kernel
theorem J_Integer_bitCount_d28 : decode J_Integer_bitCount.2.1 28 = .ok (.iadd, 1) := by decide +kernel
theorem J_Integer_bitCount_d29 : decode J_Integer_bitCount.2.1 29 = .ok (.ldc_w 267, 3) := by decide +kernel
theorem J_Integer_bitCount_d32 : decode J_Integer_bitCount.2.1 32 = .ok (.iand, 1) := by decide +kernel
theorem J_Integer_bitCount_d33 : decode J_Integer_bitCount.2.1 33 = .ok (.istore_n 0, 1) := by decide +kernel
theorem J_Integer_bitCount_d34 : decode J_Integer_bitCount.2.1 34 = .ok (.iload_n 0, 1) := by decide +kernel
theorem J_Integer_bitCount_d35 : decode J_Integer_bitCount.2.1 35 = .ok (.iload_n 0, 1) := by decide +kernel
theorem J_Integer_bitCount_d36 : decode J_Integer_bitCount.2.1 36 = .ok (.bipush 8, 2) := by decide +kernel
theorem J_Integer_bitCount_d38 : decode J_Integer_bitCount.2.1 38 = .ok (.iushr, 1) := by decide +kernel
theorem J_Integer_bitCount_d39 : decode J_Integer_bitCount.2.1 39 = .ok (.iadd, 1) := by decide +kernel
theorem J_Integer_bitCount_d40 : decode J_Integer_bitCount.2.1 40 = .ok (.istore_n 0, 1) := by decide +kernel
theorem J_Integer_bitCount_d41 : decode J_Integer_bitCount.2.1 41 = .ok (.iload_n 0, 1) := by decide +kernel
theorem J_Integer_bitCount_d42 : decode J_Integer_bitCount.2.1 42 = .ok (.iload_n 0, 1) := by decide +kernel
theorem J_Integer_bitCount_d43 : decode J_Integer_bitCount.2.1 43 = .ok (.bipush 16, 2) := by decide +kernel
theorem J_Integer_bitCount_d45 : decode J_Integer_bitCount.2.1 45 = .ok (.iushr, 1) := by decide +kernel
theorem J_Integer_bitCount_d46 : decode J_Integer_bitCount.2.1 46 = .ok (.iadd, 1) := by decide +kernel
theorem J_Integer_bitCount_d47 : decode J_Integer_bitCount.2.1 47 = .ok (.istore_n 0, 1) := by decide +kernel
theorem J_Integer_bitCount_d48 : decode J_Integer_bitCount.2.1 48 = .ok (.iload_n 0, 1) := by decide +kernel
theorem J_Integer_bitCount_d49 : decode J_Integer_bitCount.2.1 49 = .ok (.bipush 63, 2) := by decide +kernel
theorem J_Integer_bitCount_d51 : decode J_Integer_bitCount.2.1 51 = .ok (.iand, 1) := by decide +kernel
theorem J_Integer_bitCount_d52 : decode J_Integer_bitCount.2.1 52 = .ok (.ireturn, 1) := by decide +kernel
theorem f_Integer_bitCount_ok {L : Nat} {xs : Nat → Int32} {dep : Nat} {w : Bool} {p0 : Int32} {M : im_M} {Q : Int32 → Prop} (hM : lw_S w M) (h : ed (f_Integer_bitCount p0 M) Q) : ia (tb_G L xs) dep J_Integer_bitCount (rpI M Q) (0, lv_args 0 [.int p0], [], M) := by
  have hS : im_St (tb_G L xs) dep J_Integer_bitCount (ia (tb_G L xs) dep J_Integer_bitCount (rpI M Q)) := ia_St
  unfold f_Integer_bitCount at h
  have l0 : im_lk (lv_args 0 [.int p0]) 0 = some (.int p0) := rfl
  refine iq_iload_n hS 1 J_Integer_bitCount_d0 l0 rfl ?_
  refine iq_iload_n hS 2 J_Integer_bitCount_d1 l0 rfl ?_
  refine iq_iconst hS 3 J_Integer_bitCount_d2 (v := 1) (by decide +kernel) rfl ?_
  refine iq_iushr hS 4 J_Integer_bitCount_d3 rfl ?_
  refine iq_ldc_w hS 7 J_Integer_bitCount_d4 lk_23_265 rfl ?_
  refine iq_iand hS 8 J_Integer_bitCount_d7 rfl ?_
  refine iq_isub hS 9 J_Integer_bitCount_d8 rfl ?_
  refine iq_istore_n hS 10 J_Integer_bitCount_d9 (by decide) rfl ?_
  refine iq_iload_n hS 11 J_Integer_bitCount_d10 lk_1s rfl ?_
  refine iq_ldc_w hS 14 J_Integer_bitCount_d11 lk_23_266 rfl ?_
  refine iq_iand hS 15 J_Integer_bitCount_d14 rfl ?_
  refine iq_iload_n hS 16 J_Integer_bitCount_d15 lk_1s rfl ?_
  refine iq_iconst hS 17 J_Integer_bitCount_d16 (v := 2) (by decide +kernel) rfl ?_
  refine iq_iushr hS 18 J_Integer_bitCount_d17 rfl ?_
  refine iq_ldc_w hS 21 J_Integer_bitCount_d18 lk_23_266 rfl ?_
  refine iq_iand hS 22 J_Integer_bitCount_d21 rfl ?_
  refine iq_iadd hS 23 J_Integer_bitCount_d22 rfl ?_
  refine iq_istore_n hS 24 J_Integer_bitCount_d23 (by decide) rfl ?_
  refine iq_iload_n hS 25 J_Integer_bitCount_d24 lk_1s rfl ?_
  refine iq_iload_n hS 26 J_Integer_bitCount_d25 lk_1s rfl ?_
  refine iq_iconst hS 27 J_Integer_bitCount_d26 (v := 4) (by decide +kernel) rfl ?_
  refine iq_iushr hS 28 J_Integer_bitCount_d27 rfl ?_
  refine iq_iadd hS 29 J_Integer_bitCount_d28 rfl ?_
  refine iq_ldc_w hS 32 J_Integer_bitCount_d29 lk_23_267 rfl ?_
  refine iq_iand hS 33 J_Integer_bitCount_d32 rfl ?_
  refine iq_istore_n hS 34 J_Integer_bitCount_d33 (by decide) rfl ?_
  refine iq_iload_n hS 35 J_Integer_bitCount_d34 lk_1s rfl ?_
  refine iq_iload_n hS 36 J_Integer_bitCount_d35 lk_1s rfl ?_
  refine iq_bipush hS 38 J_Integer_bitCount_d36 (v := 8) (by decide +kernel) rfl ?_
  refine iq_iushr hS 39 J_Integer_bitCount_d38 rfl ?_
  refine iq_iadd hS 40 J_Integer_bitCount_d39 rfl ?_
  refine iq_istore_n hS 41 J_Integer_bitCount_d40 (by decide) rfl ?_
  refine iq_iload_n hS 42 J_Integer_bitCount_d41 lk_1s rfl ?_
  refine iq_iload_n hS 43 J_Integer_bitCount_d42 lk_1s rfl ?_
  refine iq_bipush hS 45 J_Integer_bitCount_d43 (v := 16) (by decide +kernel) rfl ?_
  refine iq_iushr hS 46 J_Integer_bitCount_d45 rfl ?_
  refine iq_iadd hS 47 J_Integer_bitCount_d46 rfl ?_
  refine iq_istore_n hS 48 J_Integer_bitCount_d47 (by decide) rfl ?_
  refine iq_iload_n hS 49 J_Integer_bitCount_d48 lk_1s rfl ?_
  refine iq_bipush hS 51 J_Integer_bitCount_d49 (v := 63) (by decide +kernel) rfl ?_
  refine iq_iand hS 52 J_Integer_bitCount_d51 rfl ?_
  exact iq_iret J_Integer_bitCount_d52 rfl rfl ⟨_, rfl, rfl, ed_some h⟩
noncomputable def f_HGrid_formNumber_L11 (v5 : Int32) (M8 : im_M) (x6 : Int32) (x7 : Int32) : Option ((Int32 × Int32) ⊕ (Int32)) := if 15 ≤ x7 then some (.inr x6) else bd1 (f_HGrid_formX x7 v5 M8) fun (x9 : Int32) => bd1 (f_HGrid_formY x7 v5 M8) fun (x10 : Int32) => bd1 (f_HGrid_isDark x9 x10 M8) fun (x11 : Int32) => some (.inl ((x6 ||| ((if x11 = 0 then 0 else ((1 : Int32) <<< (x7 &&& 31 : Int32) : Int32)) : Int32)), (x7 + 1)))
noncomputable def f_HGrid_formNumber_L54 (v15 : Int32) (v16 : Int32) (M18 : im_M) (x17 : Int32) : Option ((Int32) ⊕ ((Unit) ⊕ (Int32))) := if 32 ≤ x17 then some (.inr (.inl ())) else bd1 (f_HGrid_formWord x17 M18) fun (x19 : Int32) => bd1 (f_Integer_bitCount (v16 ^^^ x19) M18) fun (x20 : Int32) => if 3 < x20 then some (.inl (x17 + 1)) else some (.inr (.inr x17))
noncomputable def f_HGrid_formNumber_L2 (M3 : im_M) (x2 : Int32) : Option ((Int32) ⊕ ((Unit) ⊕ (Int32))) := if 2 ≤ x2 then some (.inr (.inl ())) else bd1 (lp (uc2 (f_HGrid_formNumber_L11 x2 M3)) (0, 0)) fun (y13 : Int32) => bs0 (lp (uc1 (f_HGrid_formNumber_L54 x2 y13 M3)) 0) (fun (_ : Unit) => some (.inl (x2 + 1))) (fun t => some (.inr (.inr t)))
noncomputable def f_HGrid_formNumber (M : im_M) : Option (Int32) := bs0 (lp (uc1 (f_HGrid_formNumber_L2 M)) 0) (fun (_ : Unit) => some (-1)) (fun t => some t)
theorem J_HGrid_formNumber_d0 : decode J_HGrid_formNumber.2.1 0 = .ok (.iconst 0, 1) := by decide +kernel
theorem J_HGrid_formNumber_d1 : decode J_HGrid_formNumber.2.1 1 = .ok (.istore_n 1, 1) := by decide +kernel
theorem J_HGrid_formNumber_d2 : decode J_HGrid_formNumber.2.1 2 = .ok (.iload_n 1, 1) := by decide +kernel
theorem J_HGrid_formNumber_d3 : decode J_HGrid_formNumber.2.1 3 = .ok (.iconst 2, 1) := by decide +kernel
theorem J_HGrid_formNumber_d4 : decode J_HGrid_formNumber.2.1 4 = .ok (.if_icmp .ge 83, 3) := by decide +kernel
theorem J_HGrid_formNumber_d7 : decode J_HGrid_formNumber.2.1 7 = .ok (.iconst 0, 1) := by decide +kernel
theorem J_HGrid_formNumber_d8 : decode J_HGrid_formNumber.2.1 8 = .ok (.istore_n 2, 1) := by decide +kernel
theorem J_HGrid_formNumber_d9 : decode J_HGrid_formNumber.2.1 9 = .ok (.iconst 0, 1) := by decide +kernel
theorem J_HGrid_formNumber_d10 : decode J_HGrid_formNumber.2.1 10 = .ok (.istore_n 3, 1) := by decide +kernel
theorem J_HGrid_formNumber_d11 : decode J_HGrid_formNumber.2.1 11 = .ok (.iload_n 3, 1) := by decide +kernel
theorem J_HGrid_formNumber_d12 : decode J_HGrid_formNumber.2.1 12 = .ok (.bipush 15, 2) := by decide +kernel
theorem J_HGrid_formNumber_d14 : decode J_HGrid_formNumber.2.1 14 = .ok (.if_icmp .ge 38, 3) := by decide +kernel
theorem J_HGrid_formNumber_d17 : decode J_HGrid_formNumber.2.1 17 = .ok (.iload_n 2, 1) := by decide +kernel
theorem J_HGrid_formNumber_d18 : decode J_HGrid_formNumber.2.1 18 = .ok (.aload_n 0, 1) := by decide +kernel
theorem J_HGrid_formNumber_d19 : decode J_HGrid_formNumber.2.1 19 = .ok (.aload_n 0, 1) := by decide +kernel
theorem J_HGrid_formNumber_d20 : decode J_HGrid_formNumber.2.1 20 = .ok (.iload_n 3, 1) := by decide +kernel
theorem J_HGrid_formNumber_d21 : decode J_HGrid_formNumber.2.1 21 = .ok (.iload_n 1, 1) := by decide +kernel
theorem J_HGrid_formNumber_d22 : decode J_HGrid_formNumber.2.1 22 = .ok (.invokevirtual 116, 3) := by decide +kernel
theorem J_HGrid_formNumber_d25 : decode J_HGrid_formNumber.2.1 25 = .ok (.aload_n 0, 1) := by decide +kernel
theorem J_HGrid_formNumber_d26 : decode J_HGrid_formNumber.2.1 26 = .ok (.iload_n 3, 1) := by decide +kernel
theorem J_HGrid_formNumber_d27 : decode J_HGrid_formNumber.2.1 27 = .ok (.iload_n 1, 1) := by decide +kernel
theorem J_HGrid_formNumber_d28 : decode J_HGrid_formNumber.2.1 28 = .ok (.invokevirtual 119, 3) := by decide +kernel
theorem J_HGrid_formNumber_d31 : decode J_HGrid_formNumber.2.1 31 = .ok (.invokevirtual 133, 3) := by decide +kernel
theorem J_HGrid_formNumber_d34 : decode J_HGrid_formNumber.2.1 34 = .ok (.ifCond .eq 9, 3) := by decide +kernel
theorem J_HGrid_formNumber_d37 : decode J_HGrid_formNumber.2.1 37 = .ok (.iconst 1, 1) := by decide +kernel
theorem J_HGrid_formNumber_d38 : decode J_HGrid_formNumber.2.1 38 = .ok (.iload_n 3, 1) := by decide +kernel
theorem J_HGrid_formNumber_d39 : decode J_HGrid_formNumber.2.1 39 = .ok (.ishl, 1) := by decide +kernel
theorem J_HGrid_formNumber_d40 : decode J_HGrid_formNumber.2.1 40 = .ok (.goto 4, 3) := by decide +kernel
theorem J_HGrid_formNumber_d43 : decode J_HGrid_formNumber.2.1 43 = .ok (.iconst 0, 1) := by decide +kernel
theorem J_HGrid_formNumber_d44 : decode J_HGrid_formNumber.2.1 44 = .ok (.ior, 1) := by decide +kernel
theorem J_HGrid_formNumber_d45 : decode J_HGrid_formNumber.2.1 45 = .ok (.istore_n 2, 1) := by decide +kernel
theorem J_HGrid_formNumber_d46 : decode J_HGrid_formNumber.2.1 46 = .ok (.iinc 3 1, 3) := by decide +kernel
theorem J_HGrid_formNumber_d49 : decode J_HGrid_formNumber.2.1 49 = .ok (.goto (-38), 3) := by decide +kernel
theorem J_HGrid_formNumber_d52 : decode J_HGrid_formNumber.2.1 52 = .ok (.iconst 0, 1) := by decide +kernel
theorem J_HGrid_formNumber_d53 : decode J_HGrid_formNumber.2.1 53 = .ok (.istore_n 3, 1) := by decide +kernel
theorem J_HGrid_formNumber_d54 : decode J_HGrid_formNumber.2.1 54 = .ok (.iload_n 3, 1) := by decide +kernel
theorem J_HGrid_formNumber_d55 : decode J_HGrid_formNumber.2.1 55 = .ok (.bipush 32, 2) := by decide +kernel
theorem J_HGrid_formNumber_d57 : decode J_HGrid_formNumber.2.1 57 = .ok (.if_icmp .ge 24, 3) := by decide +kernel
theorem J_HGrid_formNumber_d60 : decode J_HGrid_formNumber.2.1 60 = .ok (.iload_n 2, 1) := by decide +kernel
theorem J_HGrid_formNumber_d61 : decode J_HGrid_formNumber.2.1 61 = .ok (.iload_n 3, 1) := by decide +kernel
theorem J_HGrid_formNumber_d62 : decode J_HGrid_formNumber.2.1 62 = .ok (.invokestatic 113, 3) := by decide +kernel
theorem J_HGrid_formNumber_d65 : decode J_HGrid_formNumber.2.1 65 = .ok (.ixor, 1) := by decide +kernel
theorem J_HGrid_formNumber_d66 : decode J_HGrid_formNumber.2.1 66 = .ok (.invokestatic 167, 3) := by decide +kernel
theorem J_HGrid_formNumber_d69 : decode J_HGrid_formNumber.2.1 69 = .ok (.iconst 3, 1) := by decide +kernel
theorem J_HGrid_formNumber_d70 : decode J_HGrid_formNumber.2.1 70 = .ok (.if_icmp .gt 5, 3) := by decide +kernel
theorem J_HGrid_formNumber_d73 : decode J_HGrid_formNumber.2.1 73 = .ok (.iload_n 3, 1) := by decide +kernel
theorem J_HGrid_formNumber_d74 : decode J_HGrid_formNumber.2.1 74 = .ok (.ireturn, 1) := by decide +kernel
theorem J_HGrid_formNumber_d75 : decode J_HGrid_formNumber.2.1 75 = .ok (.iinc 3 1, 3) := by decide +kernel
theorem J_HGrid_formNumber_d78 : decode J_HGrid_formNumber.2.1 78 = .ok (.goto (-24), 3) := by decide +kernel
theorem J_HGrid_formNumber_d81 : decode J_HGrid_formNumber.2.1 81 = .ok (.iinc 1 1, 3) := by decide +kernel
theorem J_HGrid_formNumber_d84 : decode J_HGrid_formNumber.2.1 84 = .ok (.goto (-82), 3) := by decide +kernel
theorem J_HGrid_formNumber_d87 : decode J_HGrid_formNumber.2.1 87 = .ok (.iconst (-1), 1) := by decide +kernel
theorem J_HGrid_formNumber_d88 : decode J_HGrid_formNumber.2.1 88 = .ok (.ireturn, 1) := by decide +kernel
theorem f_HGrid_formNumber_ok {L : Nat} {xs : Nat → Int32} {dep : Nat} {w : Bool} {M : im_M} {Q : Int32 → Prop} (hM : lw_S w M) (h : ed (f_HGrid_formNumber M) Q) : ia (tb_G L xs) (dep + 2) J_HGrid_formNumber (rpI M Q) (0, lv_args 0 [.ref 38], [], M) := by
  have hS : im_St (tb_G L xs) (dep + 2) J_HGrid_formNumber (ia (tb_G L xs) (dep + 2) J_HGrid_formNumber (rpI M Q)) := ia_St
  unfold f_HGrid_formNumber at h
  have l0 : im_lk (lv_args 0 [.ref 38]) 0 = some (.ref 38) := rfl
  refine iq_iconst hS 1 J_HGrid_formNumber_d0 (v := 0) (by decide +kernel) rfl ?_
  refine iq_istore_n hS 2 J_HGrid_formNumber_d1 (by decide) rfl ?_
  obtain ⟨Q1, hQ1, hR1, h⟩ := bs0_ed h
  have K1 : ∀  (L' : List (Nat × Value)), Q1 (.inl ()) → ia (tb_G L xs) (dep + 2) J_HGrid_formNumber (rpI M Q) (87, L', [], M) := by
    intro  L'  h
    replace h := hQ1  h
    refine iq_iconst hS 88 J_HGrid_formNumber_d87 (v := (-1)) (by decide +kernel) rfl ?_
    exact iq_iret J_HGrid_formNumber_d88 rfl rfl ⟨_, rfl, rfl, ed_some h⟩
  obtain ⟨r1, hr1, hq1⟩ := h
  obtain ⟨n1, hn1⟩ := lp_n hr1
  have I1 : ∀ (n : Nat) (x2 : Int32) (L' : List (Nat × Value)), im_lk L' 0 = some (.ref 38) → im_lk L' 1 = some (.int x2) → lpn (uc1 (f_HGrid_formNumber_L2 M)) n x2 = some r1 → ia (tb_G L xs) (dep + 2) J_HGrid_formNumber (rpI M Q) (2, L', [], M) := by
    intro n
    induction n with
    | zero => intro x2 L' l3 l4 hn; exact (lpn_0 hn).elim
    | succ n ih =>
      intro x2 L' l3 l4 hn
      have h := lpn_ed1 hn
      unfold f_HGrid_formNumber_L2 at h
      refine iq_iload_n hS 3 J_HGrid_formNumber_d2 l4 rfl ?_
      refine iq_iconst hS 4 J_HGrid_formNumber_d3 (v := 2) (by decide +kernel) rfl ?_
      refine iq_icmp_ge hS 7 J_HGrid_formNumber_d4 (t := 87) rfl (fun q4 => ?_) rfl (fun q4 => ?_)
      · replace h := ed_pos q4 h
        exact K1  _  (lq_r h hq1)
      · replace h := ed_neg q4 h
        refine iq_iconst hS 8 J_HGrid_formNumber_d7 (v := 0) (by decide +kernel) rfl ?_
        refine iq_istore_n hS 9 J_HGrid_formNumber_d8 (by decide) rfl ?_
        refine iq_iconst hS 10 J_HGrid_formNumber_d9 (v := 0) (by decide +kernel) rfl ?_
        refine iq_istore_n hS 11 J_HGrid_formNumber_d10 (by decide) rfl ?_
        obtain ⟨Q5, hQ5, h⟩ := bd1_ed h
        have K5 : ∀ (y6 : Int32) (L' : List (Nat × Value)), im_lk L' 0 = some (.ref 38) → im_lk L' 1 = some (.int x2) → im_lk L' 2 = some (.int y6) → Q5 y6 → ia (tb_G L xs) (dep + 2) J_HGrid_formNumber (rpI M Q) (52, L', [], M) := by
          intro y6 L' l7 l8 l9 h
          replace h := hQ5 _ h
          refine iq_iconst hS 53 J_HGrid_formNumber_d52 (v := 0) (by decide +kernel) rfl ?_
          refine iq_istore_n hS 54 J_HGrid_formNumber_d53 (by decide) rfl ?_
          obtain ⟨Q10, hQ10, hR10, h⟩ := bs0_ed h
          have K10 : ∀  (L' : List (Nat × Value)), im_lk L' 0 = some (.ref 38) → im_lk L' 1 = some (.int x2) → Q10 (.inl ()) → ia (tb_G L xs) (dep + 2) J_HGrid_formNumber (rpI M Q) (81, L', [], M) := by
            intro  L' l11 l12 h
            replace h := hQ10  h
            refine iq_iincv hS 84 J_HGrid_formNumber_d81 (c := 1) (by decide +kernel) l12 (by decide) rfl ?_
            refine iq_goto hS J_HGrid_formNumber_d84 (t := 2) rfl ?_
            exact ih _ _ (lk_1r l11 (by decide)) lk_1s (lq_l h)
          obtain ⟨r10, hr10, hq10⟩ := h
          obtain ⟨n10, hn10⟩ := lp_n hr10
          have I10 : ∀ (n : Nat) (x13 : Int32) (L' : List (Nat × Value)), im_lk L' 0 = some (.ref 38) → im_lk L' 1 = some (.int x2) → im_lk L' 2 = some (.int y6) → im_lk L' 3 = some (.int x13) → lpn (uc1 (f_HGrid_formNumber_L54 x2 y6 M)) n x13 = some r10 → ia (tb_G L xs) (dep + 2) J_HGrid_formNumber (rpI M Q) (54, L', [], M) := by
            intro n
            induction n with
            | zero => intro x13 L' l14 l15 l16 l17 hn; exact (lpn_0 hn).elim
            | succ n ih =>
              intro x13 L' l14 l15 l16 l17 hn
              have h := lpn_ed1 hn
              unfold f_HGrid_formNumber_L54 at h
              refine iq_iload_n hS 55 J_HGrid_formNumber_d54 l17 rfl ?_
              refine iq_bipush hS 57 J_HGrid_formNumber_d55 (v := 32) (by decide +kernel) rfl ?_
              refine iq_icmp_ge hS 60 J_HGrid_formNumber_d57 (t := 81) rfl (fun q57 => ?_) rfl (fun q57 => ?_)
              · replace h := ed_pos q57 h
                exact K10  _ l14 l15 (lq_r h hq10)
              · replace h := ed_neg q57 h
                refine iq_iload_n hS 61 J_HGrid_formNumber_d60 l16 rfl ?_
                refine iq_iload_n hS 62 J_HGrid_formNumber_d61 l17 rfl ?_
                obtain ⟨Q18, hQ18, h⟩ := bd1_ed h
                refine iq_cpI hS 65 J_HGrid_formNumber_d62 rfl (pr_stat (vs := [_]) lc_4_113 lT_162 rfl rfl (by decide) rfl (Nat.le_of_ble_eq_true rfl) (Nat.le_of_ble_eq_true rfl)) (f_HGrid_formWord_ok (dep := dep + 0) hM h) rfl ?_
                intro x18 h
                replace h := hQ18 _ h
                refine iq_ixor hS 66 J_HGrid_formNumber_d65 rfl ?_
                obtain ⟨Q19, hQ19, h⟩ := bd1_ed h
                refine iq_cpI hS 69 J_HGrid_formNumber_d66 rfl (pr_stat (vs := [_]) lc_4_167 lT_230 rfl rfl (by decide) rfl (Nat.le_of_ble_eq_true rfl) (Nat.le_of_ble_eq_true rfl)) (f_Integer_bitCount_ok (dep := dep + 1) hM h) rfl ?_
                intro x19 h
                replace h := hQ19 _ h
                refine iq_iconst hS 70 J_HGrid_formNumber_d69 (v := 3) (by decide +kernel) rfl ?_
                refine iq_icmp_gt hS 73 J_HGrid_formNumber_d70 (t := 75) rfl (fun q70 => ?_) rfl (fun q70 => ?_)
                · replace h := ed_pos q70 h
                  refine iq_iincv hS 78 J_HGrid_formNumber_d75 (c := 1) (by decide +kernel) l17 (by decide) rfl ?_
                  refine iq_goto hS J_HGrid_formNumber_d78 (t := 54) rfl ?_
                  exact ih _ _ (lk_1r l14 (by decide)) (lk_1i l15 (by decide)) (lk_1i l16 (by decide)) lk_1s (lq_l h)
                · replace h := ed_neg q70 h
                  refine iq_iload_n hS 74 J_HGrid_formNumber_d73 l17 rfl ?_
                  exact iq_iret J_HGrid_formNumber_d74 rfl rfl ⟨_, rfl, rfl, ed_some (hR1 _ (lq_r (hR10 _ (lq_r h hq10)) hq1))⟩
          exact I10 n10 _ _ (lk_1r l7 (by decide)) (lk_1i l8 (by decide)) (lk_1i l9 (by decide)) lk_1s hn10
        obtain ⟨r5, hr5, hq5⟩ := h
        obtain ⟨n5, hn5⟩ := lp_n hr5
        have I5 : ∀ (n : Nat) (x20 : Int32) (x21 : Int32) (L' : List (Nat × Value)), im_lk L' 0 = some (.ref 38) → im_lk L' 1 = some (.int x2) → im_lk L' 2 = some (.int x20) → im_lk L' 3 = some (.int x21) → lpn (uc2 (f_HGrid_formNumber_L11 x2 M)) n (x20, x21) = some r5 → ia (tb_G L xs) (dep + 2) J_HGrid_formNumber (rpI M Q) (11, L', [], M) := by
          intro n
          induction n with
          | zero => intro x20 x21 L' l22 l23 l24 l25 hn; exact (lpn_0 hn).elim
          | succ n ih =>
            intro x20 x21 L' l22 l23 l24 l25 hn
            have h := lpn_ed2 hn
            unfold f_HGrid_formNumber_L11 at h
            refine iq_iload_n hS 12 J_HGrid_formNumber_d11 l25 rfl ?_
            refine iq_bipush hS 14 J_HGrid_formNumber_d12 (v := 15) (by decide +kernel) rfl ?_
            refine iq_icmp_ge hS 17 J_HGrid_formNumber_d14 (t := 52) rfl (fun q14 => ?_) rfl (fun q14 => ?_)
            · replace h := ed_pos q14 h
              exact K5 _ _ l22 l23 l24 (lq_r h hq5)
            · replace h := ed_neg q14 h
              refine iq_iload_n hS 18 J_HGrid_formNumber_d17 l24 rfl ?_
              refine iq_aload_n hS 19 J_HGrid_formNumber_d18 l22 rfl ?_
              refine iq_aload_n hS 20 J_HGrid_formNumber_d19 l22 rfl ?_
              refine iq_iload_n hS 21 J_HGrid_formNumber_d20 l25 rfl ?_
              refine iq_iload_n hS 22 J_HGrid_formNumber_d21 l23 rfl ?_
              obtain ⟨Q26, hQ26, h⟩ := bd1_ed h
              refine iq_cpI hS 25 J_HGrid_formNumber_d22 rfl (pr_inst (vs := [_, _]) lc_4_116 lT_164 rfl rfl (by decide) (by decide) rfl (Nat.le_of_ble_eq_true rfl) (Nat.le_of_ble_eq_true rfl) (fun _ => Or.inl (pr_b (ka_38 hM) (by decide) rfl))) (f_HGrid_formX_ok (dep := dep + 1) hM h) rfl ?_
              intro x26 h
              replace h := hQ26 _ h
              refine iq_aload_n hS 26 J_HGrid_formNumber_d25 l22 rfl ?_
              refine iq_iload_n hS 27 J_HGrid_formNumber_d26 l25 rfl ?_
              refine iq_iload_n hS 28 J_HGrid_formNumber_d27 l23 rfl ?_
              obtain ⟨Q27, hQ27, h⟩ := bd1_ed h
              refine iq_cpI hS 31 J_HGrid_formNumber_d28 rfl (pr_inst (vs := [_, _]) lc_4_119 lT_165 rfl rfl (by decide) (by decide) rfl (Nat.le_of_ble_eq_true rfl) (Nat.le_of_ble_eq_true rfl) (fun _ => Or.inl (pr_b (ka_38 hM) (by decide) rfl))) (f_HGrid_formY_ok (dep := dep + 1) hM h) rfl ?_
              intro x27 h
              replace h := hQ27 _ h
              obtain ⟨Q28, hQ28, h⟩ := bd1_ed h
              refine iq_cpI hS 34 J_HGrid_formNumber_d31 rfl (pr_inst (vs := [_, _]) lc_4_133 lT_171 rfl rfl (by decide) (by decide) rfl (Nat.le_of_ble_eq_true rfl) (Nat.le_of_ble_eq_true rfl) (fun _ => Or.inl (pr_b (ka_38 hM) (by decide) rfl))) (f_HGrid_isDark_ok (dep := dep + 1) hM h) rfl ?_
              intro x28 h
              replace h := hQ28 _ h
              have J29 : ∀ (z30 : Int32) (L' : List (Nat × Value)), z30 = ((if x28 = 0 then 0 else ((1 : Int32) <<< (x21 &&& 31 : Int32) : Int32)) : Int32) → im_lk L' 0 = some (.ref 38) → im_lk L' 1 = some (.int x2) → im_lk L' 3 = some (.int x21) → ia (tb_G L xs) (dep + 2) J_HGrid_formNumber (rpI M Q) (44, L', [.int z30, .int x20], M) := by
                intro z30 L' e31 l32 l33 l34
                subst e31
                refine iq_ior hS 45 J_HGrid_formNumber_d44 rfl ?_
                refine iq_istore_n hS 46 J_HGrid_formNumber_d45 (by decide) rfl ?_
                refine iq_iincv hS 49 J_HGrid_formNumber_d46 (c := 1) (by decide +kernel) (lk_1i l34 (by decide)) (by decide) rfl ?_
                refine iq_goto hS J_HGrid_formNumber_d49 (t := 11) rfl ?_
                exact ih _ _ _ (lk_1r (lk_1r l32 (by decide)) (by decide)) (lk_1i (lk_1i l33 (by decide)) (by decide)) (lk_1i lk_1s (by decide)) lk_1s (lq_l h)
              refine iq_if_eq hS 37 J_HGrid_formNumber_d34 (t := 43) rfl (fun q34 => ?_) rfl (fun q34 => ?_)
              · refine iq_iconst hS 44 J_HGrid_formNumber_d43 (v := 0) (by decide +kernel) rfl ?_
                exact J29 _ _ (by simp only [if_pos q34]) l22 l23 l25
              · refine iq_iconst hS 38 J_HGrid_formNumber_d37 (v := 1) (by decide +kernel) rfl ?_
                refine iq_iload_n hS 39 J_HGrid_formNumber_d38 l25 rfl ?_
                refine iq_ishl hS 40 J_HGrid_formNumber_d39 rfl ?_
                refine iq_goto hS J_HGrid_formNumber_d40 (t := 44) rfl ?_
                exact J29 _ _ (by simp only [if_neg q34]) l22 l23 l25
        exact I5 n5 _ _ _ (lk_1r (lk_1r l3 (by decide)) (by decide)) (lk_1i (lk_1i l4 (by decide)) (by decide)) (lk_1i lk_1s (by decide)) lk_1s hn5
  exact I1 n1 _ _ (lk_1r l0 (by decide)) lk_1s hn1
noncomputable def f_HBlocks_kept (p0 : Int32) (p1 : Int32) (M : im_M) : Option (Int32) := if ¬ p0 = 1 then jn0 (fun (_ : Unit) => some 0) fun k1 => if ¬ p1 = 0 then k1 () else if p0 ≤ 3 then if ¬ p0 = 2 then some 1 else some 2 else k1 () else if ¬ p1 = 0 then if ¬ p1 = 1 then some 1 else some 2 else some 3
theorem J_HBlocks_kept_d0 : decode J_HBlocks_kept.2.1 0 = .ok (.iload_n 0, 1) := by decide +kernel
theorem J_HBlocks_kept_d1 : decode J_HBlocks_kept.2.1 1 = .ok (.iconst 1, 1) := by decide +kernel
theorem J_HBlocks_kept_d2 : decode J_HBlocks_kept.2.1 2 = .ok (.if_icmp .ne 22, 3) := by decide +kernel
theorem J_HBlocks_kept_d5 : decode J_HBlocks_kept.2.1 5 = .ok (.iload_n 1, 1) := by decide +kernel
theorem J_HBlocks_kept_d6 : decode J_HBlocks_kept.2.1 6 = .ok (.ifCond .ne 7, 3) := by decide +kernel
theorem J_HBlocks_kept_d9 : decode J_HBlocks_kept.2.1 9 = .ok (.iconst 3, 1) := by decide +kernel
theorem J_HBlocks_kept_d10 : decode J_HBlocks_kept.2.1 10 = .ok (.goto 13, 3) := by decide +kernel
theorem J_HBlocks_kept_d13 : decode J_HBlocks_kept.2.1 13 = .ok (.iload_n 1, 1) := by decide +kernel
theorem J_HBlocks_kept_d14 : decode J_HBlocks_kept.2.1 14 = .ok (.iconst 1, 1) := by decide +kernel
theorem J_HBlocks_kept_d15 : decode J_HBlocks_kept.2.1 15 = .ok (.if_icmp .ne 7, 3) := by decide +kernel
theorem J_HBlocks_kept_d18 : decode J_HBlocks_kept.2.1 18 = .ok (.iconst 2, 1) := by decide +kernel
theorem J_HBlocks_kept_d19 : decode J_HBlocks_kept.2.1 19 = .ok (.goto 4, 3) := by decide +kernel
theorem J_HBlocks_kept_d22 : decode J_HBlocks_kept.2.1 22 = .ok (.iconst 1, 1) := by decide +kernel
theorem J_HBlocks_kept_d23 : decode J_HBlocks_kept.2.1 23 = .ok (.ireturn, 1) := by decide +kernel
theorem J_HBlocks_kept_d24 : decode J_HBlocks_kept.2.1 24 = .ok (.iload_n 1, 1) := by decide +kernel
theorem J_HBlocks_kept_d25 : decode J_HBlocks_kept.2.1 25 = .ok (.ifCond .ne 8, 3) := by decide +kernel
theorem J_HBlocks_kept_d28 : decode J_HBlocks_kept.2.1 28 = .ok (.iload_n 0, 1) := by decide +kernel
theorem J_HBlocks_kept_d29 : decode J_HBlocks_kept.2.1 29 = .ok (.iconst 3, 1) := by decide +kernel
theorem J_HBlocks_kept_d30 : decode J_HBlocks_kept.2.1 30 = .ok (.if_icmp .le 7, 3) := by decide +kernel
theorem J_HBlocks_kept_d33 : decode J_HBlocks_kept.2.1 33 = .ok (.iconst 0, 1) := by decide +kernel
theorem J_HBlocks_kept_d34 : decode J_HBlocks_kept.2.1 34 = .ok (.goto 13, 3) := by decide +kernel
theorem J_HBlocks_kept_d37 : decode J_HBlocks_kept.2.1 37 = .ok (.iload_n 0, 1) := by decide +kernel
theorem J_HBlocks_kept_d38 : decode J_HBlocks_kept.2.1 38 = .ok (.iconst 2, 1) := by decide +kernel
theorem J_HBlocks_kept_d39 : decode J_HBlocks_kept.2.1 39 = .ok (.if_icmp .ne 7, 3) := by decide +kernel
theorem J_HBlocks_kept_d42 : decode J_HBlocks_kept.2.1 42 = .ok (.iconst 2, 1) := by decide +kernel
theorem J_HBlocks_kept_d43 : decode J_HBlocks_kept.2.1 43 = .ok (.goto 4, 3) := by decide +kernel
theorem J_HBlocks_kept_d46 : decode J_HBlocks_kept.2.1 46 = .ok (.iconst 1, 1) := by decide +kernel
theorem J_HBlocks_kept_d47 : decode J_HBlocks_kept.2.1 47 = .ok (.ireturn, 1) := by decide +kernel
theorem f_HBlocks_kept_ok {L : Nat} {xs : Nat → Int32} {dep : Nat} {w : Bool} {p0 : Int32} {p1 : Int32} {M : im_M} {Q : Int32 → Prop} (hM : lw_S w M) (h : ed (f_HBlocks_kept p0 p1 M) Q) : ia (tb_G L xs) dep J_HBlocks_kept (rpI M Q) (0, lv_args 0 [.int p0, .int p1], [], M) := by
  have hS : im_St (tb_G L xs) dep J_HBlocks_kept (ia (tb_G L xs) dep J_HBlocks_kept (rpI M Q)) := ia_St
  unfold f_HBlocks_kept at h
  have l0 : im_lk (lv_args 0 [.int p0, .int p1]) 0 = some (.int p0) := rfl
  have l1 : im_lk (lv_args 0 [.int p0, .int p1]) 1 = some (.int p1) := rfl
  refine iq_iload_n hS 1 J_HBlocks_kept_d0 l0 rfl ?_
  refine iq_iconst hS 2 J_HBlocks_kept_d1 (v := 1) (by decide +kernel) rfl ?_
  refine iq_icmp_ne hS 5 J_HBlocks_kept_d2 (t := 24) rfl (fun q2 => ?_) rfl (fun q2 => ?_)
  · replace h := ed_pos q2 h
    refine iq_iload_n hS 25 J_HBlocks_kept_d24 l1 rfl ?_
    obtain ⟨k1, Q1, hQ1, hk1, h⟩ := jn0_ed h
    have J1 : ∀  (L' : List (Nat × Value)), Q1 () → ia (tb_G L xs) dep J_HBlocks_kept (rpI M Q) (33, L', [], M) := by
      intro  L'  h
      replace h := hQ1  h
      refine iq_iconst hS 34 J_HBlocks_kept_d33 (v := 0) (by decide +kernel) rfl ?_
      refine iq_goto hS J_HBlocks_kept_d34 (t := 47) rfl ?_
      exact iq_iret J_HBlocks_kept_d47 rfl rfl ⟨_, rfl, rfl, ed_some h⟩
    refine iq_if_ne hS 28 J_HBlocks_kept_d25 (t := 33) rfl (fun q25 => ?_) rfl (fun q25 => ?_)
    · replace h := ed_pos q25 h
      exact J1  _  (hk1  h)
    · replace h := ed_neg q25 h
      refine iq_iload_n hS 29 J_HBlocks_kept_d28 l0 rfl ?_
      refine iq_iconst hS 30 J_HBlocks_kept_d29 (v := 3) (by decide +kernel) rfl ?_
      refine iq_icmp_le hS 33 J_HBlocks_kept_d30 (t := 37) rfl (fun q30 => ?_) rfl (fun q30 => ?_)
      · replace h := ed_pos q30 h
        refine iq_iload_n hS 38 J_HBlocks_kept_d37 l0 rfl ?_
        refine iq_iconst hS 39 J_HBlocks_kept_d38 (v := 2) (by decide +kernel) rfl ?_
        refine iq_icmp_ne hS 42 J_HBlocks_kept_d39 (t := 46) rfl (fun q39 => ?_) rfl (fun q39 => ?_)
        · replace h := ed_pos q39 h
          refine iq_iconst hS 47 J_HBlocks_kept_d46 (v := 1) (by decide +kernel) rfl ?_
          exact iq_iret J_HBlocks_kept_d47 rfl rfl ⟨_, rfl, rfl, ed_some h⟩
        · replace h := ed_neg q39 h
          refine iq_iconst hS 43 J_HBlocks_kept_d42 (v := 2) (by decide +kernel) rfl ?_
          refine iq_goto hS J_HBlocks_kept_d43 (t := 47) rfl ?_
          exact iq_iret J_HBlocks_kept_d47 rfl rfl ⟨_, rfl, rfl, ed_some h⟩
      · replace h := ed_neg q30 h
        exact J1  _  (hk1  h)
  · replace h := ed_neg q2 h
    refine iq_iload_n hS 6 J_HBlocks_kept_d5 l1 rfl ?_
    refine iq_if_ne hS 9 J_HBlocks_kept_d6 (t := 13) rfl (fun q6 => ?_) rfl (fun q6 => ?_)
    · replace h := ed_pos q6 h
      refine iq_iload_n hS 14 J_HBlocks_kept_d13 l1 rfl ?_
      refine iq_iconst hS 15 J_HBlocks_kept_d14 (v := 1) (by decide +kernel) rfl ?_
      refine iq_icmp_ne hS 18 J_HBlocks_kept_d15 (t := 22) rfl (fun q15 => ?_) rfl (fun q15 => ?_)
      · replace h := ed_pos q15 h
        refine iq_iconst hS 23 J_HBlocks_kept_d22 (v := 1) (by decide +kernel) rfl ?_
        exact iq_iret J_HBlocks_kept_d23 rfl rfl ⟨_, rfl, rfl, ed_some h⟩
      · replace h := ed_neg q15 h
        refine iq_iconst hS 19 J_HBlocks_kept_d18 (v := 2) (by decide +kernel) rfl ?_
        refine iq_goto hS J_HBlocks_kept_d19 (t := 23) rfl ?_
        exact iq_iret J_HBlocks_kept_d23 rfl rfl ⟨_, rfl, rfl, ed_some h⟩
    · replace h := ed_neg q6 h
      refine iq_iconst hS 10 J_HBlocks_kept_d9 (v := 3) (by decide +kernel) rfl ?_
      refine iq_goto hS J_HBlocks_kept_d10 (t := 23) rfl ?_
      exact iq_iret J_HBlocks_kept_d23 rfl rfl ⟨_, rfl, rfl, ed_some h⟩
noncomputable def f_HBlocks_isCodeword_L18 (v7 : Int32) (v8 : Int32) (v9 : Int32) (M12 : im_M) (x10 : Int32) (x11 : Int32) : Option ((Int32 × Int32) ⊕ (Int32)) := if v7 ≤ x11 then some (.inr x10) else gd (inb v9 510) <| bd1 (f_HBlocks_times x10 (im_i M12 45 (Int32.toNatClampNeg v9)) M12) fun (x13 : Int32) => gd (inb x11 255) <| some (.inl ((x13 ^^^ (im_i M12 48 (Int32.toNatClampNeg x11))), (x11 + 1)))
noncomputable def f_HBlocks_isCodeword_L4 (v2 : Int32) (x3 : Int32) (x4 : Int32) (M5 : im_M) : Option ((Int32 × Int32 × im_M) ⊕ (Int32 × im_M)) := if (im_i M5 43 12) ≤ x4 then some (.inr (x3, M5)) else bd1 (lp (uc2 (f_HBlocks_isCodeword_L18 v2 x3 x4 M5)) (0, 0)) fun (y14 : Int32) => gd (inb x4 30) <| some (.inl ((x3 &&& ((if ¬ y14 = 0 then 0 else 1) : Int32)), (x4 + 1), (im_setI M5 49 (Int32.toNatClampNeg x4) y14)))
noncomputable def f_HBlocks_isCodeword (p0 : Int32) (M : im_M) : Option (Int32 × im_M) := bd2 (lp (uc3 (f_HBlocks_isCodeword_L4 p0)) (1, 0, M)) fun (y16 : Int32) (M17 : im_M) => gd (y16 = 0 ∨ y16 = 1) <| some (y16, M17)
theorem J_HBlocks_isCodeword_d0 : decode J_HBlocks_isCodeword.2.1 0 = .ok (.iconst 1, 1) := by decide +kernel
theorem J_HBlocks_isCodeword_d1 : decode J_HBlocks_isCodeword.2.1 1 = .ok (.istore_n 2, 1) := by decide +kernel
theorem J_HBlocks_isCodeword_d2 : decode J_HBlocks_isCodeword.2.1 2 = .ok (.iconst 0, 1) := by decide +kernel
theorem J_HBlocks_isCodeword_d3 : decode J_HBlocks_isCodeword.2.1 3 = .ok (.istore_n 3, 1) := by decide +kernel
theorem J_HBlocks_isCodeword_d4 : decode J_HBlocks_isCodeword.2.1 4 = .ok (.iload_n 3, 1) := by decide +kernel
theorem J_HBlocks_isCodeword_d5 : decode J_HBlocks_isCodeword.2.1 5 = .ok (.aload_n 0, 1) := by decide +kernel
theorem J_HBlocks_isCodeword_d6 : decode J_HBlocks_isCodeword.2.1 6 = .ok (.getfield 57, 3) := by decide +kernel
theorem J_HBlocks_isCodeword_d9 : decode J_HBlocks_isCodeword.2.1 9 = .ok (.if_icmp .ge 70, 3) := by decide +kernel
theorem J_HBlocks_isCodeword_d12 : decode J_HBlocks_isCodeword.2.1 12 = .ok (.iconst 0, 1) := by decide +kernel
theorem J_HBlocks_isCodeword_d13 : decode J_HBlocks_isCodeword.2.1 13 = .ok (.istore 4, 2) := by decide +kernel
theorem J_HBlocks_isCodeword_d15 : decode J_HBlocks_isCodeword.2.1 15 = .ok (.iconst 0, 1) := by decide +kernel
theorem J_HBlocks_isCodeword_d16 : decode J_HBlocks_isCodeword.2.1 16 = .ok (.istore 5, 2) := by decide +kernel
theorem J_HBlocks_isCodeword_d18 : decode J_HBlocks_isCodeword.2.1 18 = .ok (.iload 5, 2) := by decide +kernel
theorem J_HBlocks_isCodeword_d20 : decode J_HBlocks_isCodeword.2.1 20 = .ok (.iload_n 1, 1) := by decide +kernel
theorem J_HBlocks_isCodeword_d21 : decode J_HBlocks_isCodeword.2.1 21 = .ok (.if_icmp .ge 31, 3) := by decide +kernel
theorem J_HBlocks_isCodeword_d24 : decode J_HBlocks_isCodeword.2.1 24 = .ok (.aload_n 0, 1) := by decide +kernel
theorem J_HBlocks_isCodeword_d25 : decode J_HBlocks_isCodeword.2.1 25 = .ok (.iload 4, 2) := by decide +kernel
theorem J_HBlocks_isCodeword_d27 : decode J_HBlocks_isCodeword.2.1 27 = .ok (.aload_n 0, 1) := by decide +kernel
theorem J_HBlocks_isCodeword_d28 : decode J_HBlocks_isCodeword.2.1 28 = .ok (.getfield 15, 3) := by decide +kernel
theorem J_HBlocks_isCodeword_d31 : decode J_HBlocks_isCodeword.2.1 31 = .ok (.iload_n 3, 1) := by decide +kernel
theorem J_HBlocks_isCodeword_d32 : decode J_HBlocks_isCodeword.2.1 32 = .ok (.iaload, 1) := by decide +kernel
theorem J_HBlocks_isCodeword_d33 : decode J_HBlocks_isCodeword.2.1 33 = .ok (.invokevirtual 93, 3) := by decide +kernel
theorem J_HBlocks_isCodeword_d36 : decode J_HBlocks_isCodeword.2.1 36 = .ok (.aload_n 0, 1) := by decide +kernel
theorem J_HBlocks_isCodeword_d37 : decode J_HBlocks_isCodeword.2.1 37 = .ok (.getfield 25, 3) := by decide +kernel
theorem J_HBlocks_isCodeword_d40 : decode J_HBlocks_isCodeword.2.1 40 = .ok (.iload 5, 2) := by decide +kernel
theorem J_HBlocks_isCodeword_d42 : decode J_HBlocks_isCodeword.2.1 42 = .ok (.iaload, 1) := by decide +kernel
theorem J_HBlocks_isCodeword_d43 : decode J_HBlocks_isCodeword.2.1 43 = .ok (.ixor, 1) := by decide +kernel
theorem J_HBlocks_isCodeword_d44 : decode J_HBlocks_isCodeword.2.1 44 = .ok (.istore 4, 2) := by decide +kernel
theorem J_HBlocks_isCodeword_d46 : decode J_HBlocks_isCodeword.2.1 46 = .ok (.iinc 5 1, 3) := by decide +kernel
theorem J_HBlocks_isCodeword_d49 : decode J_HBlocks_isCodeword.2.1 49 = .ok (.goto (-31), 3) := by decide +kernel
theorem J_HBlocks_isCodeword_d52 : decode J_HBlocks_isCodeword.2.1 52 = .ok (.aload_n 0, 1) := by decide +kernel
theorem J_HBlocks_isCodeword_d53 : decode J_HBlocks_isCodeword.2.1 53 = .ok (.getfield 28, 3) := by decide +kernel
theorem J_HBlocks_isCodeword_d56 : decode J_HBlocks_isCodeword.2.1 56 = .ok (.iload_n 3, 1) := by decide +kernel
theorem J_HBlocks_isCodeword_d57 : decode J_HBlocks_isCodeword.2.1 57 = .ok (.iload 4, 2) := by decide +kernel
theorem J_HBlocks_isCodeword_d59 : decode J_HBlocks_isCodeword.2.1 59 = .ok (.iastore, 1) := by decide +kernel
theorem J_HBlocks_isCodeword_d60 : decode J_HBlocks_isCodeword.2.1 60 = .ok (.iload_n 2, 1) := by decide +kernel
theorem J_HBlocks_isCodeword_d61 : decode J_HBlocks_isCodeword.2.1 61 = .ok (.iload 4, 2) := by decide +kernel
theorem J_HBlocks_isCodeword_d63 : decode J_HBlocks_isCodeword.2.1 63 = .ok (.ifCond .ne 7, 3) := by decide +kernel
theorem J_HBlocks_isCodeword_d66 : decode J_HBlocks_isCodeword.2.1 66 = .ok (.iconst 1, 1) := by decide +kernel
theorem J_HBlocks_isCodeword_d67 : decode J_HBlocks_isCodeword.2.1 67 = .ok (.goto 4, 3) := by decide +kernel
theorem J_HBlocks_isCodeword_d70 : decode J_HBlocks_isCodeword.2.1 70 = .ok (.iconst 0, 1) := by decide +kernel
theorem J_HBlocks_isCodeword_d71 : decode J_HBlocks_isCodeword.2.1 71 = .ok (.iand, 1) := by decide +kernel
theorem J_HBlocks_isCodeword_d72 : decode J_HBlocks_isCodeword.2.1 72 = .ok (.istore_n 2, 1) := by decide +kernel
theorem J_HBlocks_isCodeword_d73 : decode J_HBlocks_isCodeword.2.1 73 = .ok (.iinc 3 1, 3) := by decide +kernel
theorem J_HBlocks_isCodeword_d76 : decode J_HBlocks_isCodeword.2.1 76 = .ok (.goto (-72), 3) := by decide +kernel
theorem J_HBlocks_isCodeword_d79 : decode J_HBlocks_isCodeword.2.1 79 = .ok (.iload_n 2, 1) := by decide +kernel
theorem J_HBlocks_isCodeword_d80 : decode J_HBlocks_isCodeword.2.1 80 = .ok (.ireturn, 1) := by decide +kernel
theorem f_HBlocks_isCodeword_ok {L : Nat} {xs : Nat → Int32} {dep : Nat} {w : Bool} {p0 : Int32} {M : im_M} {Q : Int32 × im_M → Prop} (hM : lw_S w M) (h : ed (f_HBlocks_isCodeword p0 M) Q) : ia (tb_G L xs) (dep + 1) J_HBlocks_isCodeword (rwI w Q) (0, lv_args 0 [.ref 43, .int p0], [], M) := by
  have hS : im_St (tb_G L xs) (dep + 1) J_HBlocks_isCodeword (ia (tb_G L xs) (dep + 1) J_HBlocks_isCodeword (rwI w Q)) := ia_St
  unfold f_HBlocks_isCodeword at h
  have l0 : im_lk (lv_args 0 [.ref 43, .int p0]) 0 = some (.ref 43) := rfl
  have l1 : im_lk (lv_args 0 [.ref 43, .int p0]) 1 = some (.int p0) := rfl
  refine iq_iconst hS 1 J_HBlocks_isCodeword_d0 (v := 1) (by decide +kernel) rfl ?_
  refine iq_istore_n hS 2 J_HBlocks_isCodeword_d1 (by decide) rfl ?_
  refine iq_iconst hS 3 J_HBlocks_isCodeword_d2 (v := 0) (by decide +kernel) rfl ?_
  refine iq_istore_n hS 4 J_HBlocks_isCodeword_d3 (by decide) rfl ?_
  obtain ⟨Q1, hQ1, h⟩ := bd2_ed h
  have K1 : ∀ (y2 : Int32) (M3 : im_M) (L' : List (Nat × Value)), lw_S w M3 → im_lk L' 2 = some (.int y2) → Q1 (y2, M3) → ia (tb_G L xs) (dep + 1) J_HBlocks_isCodeword (rwI w Q) (79, L', [], M3) := by
    intro y2 M3 L' hM3 l4 h
    replace h := hQ1 _ _ h
    refine iq_iload_n hS 80 J_HBlocks_isCodeword_d79 l4 rfl ?_
    obtain ⟨g80, h⟩ := ed_gd h
    exact iq_iret J_HBlocks_isCodeword_d80 rfl (nar_z g80) ⟨_, rfl, hM3, ed_some h⟩
  obtain ⟨r1, hr1, hq1⟩ := h
  obtain ⟨n1, hn1⟩ := lp_n hr1
  have I1 : ∀ (n : Nat) (x5 : Int32) (x6 : Int32) (M7 : im_M) (L' : List (Nat × Value)), lw_S w M7 → im_lk L' 0 = some (.ref 43) → im_lk L' 1 = some (.int p0) → im_lk L' 2 = some (.int x5) → im_lk L' 3 = some (.int x6) → lpn (uc3 (f_HBlocks_isCodeword_L4 p0)) n (x5, x6, M7) = some r1 → ia (tb_G L xs) (dep + 1) J_HBlocks_isCodeword (rwI w Q) (4, L', [], M7) := by
    intro n
    induction n with
    | zero => intro x5 x6 M7 L' hM7 l8 l9 l10 l11 hn; exact (lpn_0 hn).elim
    | succ n ih =>
      intro x5 x6 M7 L' hM7 l8 l9 l10 l11 hn
      have h := lpn_ed3 hn
      unfold f_HBlocks_isCodeword_L4 at h
      refine iq_iload_n hS 5 J_HBlocks_isCodeword_d4 l11 rfl ?_
      refine iq_aload_n hS 6 J_HBlocks_isCodeword_d5 l8 rfl ?_
      refine iq_getI hS 9 J_HBlocks_isCodeword_d6 lf_1_57 (Or.inl rfl) (ka_43 hM7) rfl ?_
      refine iq_icmp_ge hS 12 J_HBlocks_isCodeword_d9 (t := 79) rfl (fun q9 => ?_) rfl (fun q9 => ?_)
      · replace h := ed_pos q9 h
        exact K1 _ _ _ hM7 l10 (lq_r h hq1)
      · replace h := ed_neg q9 h
        refine iq_iconst hS 13 J_HBlocks_isCodeword_d12 (v := 0) (by decide +kernel) rfl ?_
        refine iq_istore hS 15 J_HBlocks_isCodeword_d13 (by decide) rfl ?_
        refine iq_iconst hS 16 J_HBlocks_isCodeword_d15 (v := 0) (by decide +kernel) rfl ?_
        refine iq_istore hS 18 J_HBlocks_isCodeword_d16 (by decide) rfl ?_
        obtain ⟨Q12, hQ12, h⟩ := bd1_ed h
        have K12 : ∀ (y13 : Int32) (L' : List (Nat × Value)), im_lk L' 0 = some (.ref 43) → im_lk L' 1 = some (.int p0) → im_lk L' 2 = some (.int x5) → im_lk L' 3 = some (.int x6) → im_lk L' 4 = some (.int y13) → Q12 y13 → ia (tb_G L xs) (dep + 1) J_HBlocks_isCodeword (rwI w Q) (52, L', [], M7) := by
          intro y13 L' l14 l15 l16 l17 l18 h
          replace h := hQ12 _ h
          refine iq_aload_n hS 53 J_HBlocks_isCodeword_d52 l14 rfl ?_
          refine iq_getR hS 56 J_HBlocks_isCodeword_d53 lf_1_28 (Or.inr ⟨_, rfl⟩) (ka_43 hM7) (ra_43_5 hM7) rfl ?_
          refine iq_iload_n hS 57 J_HBlocks_isCodeword_d56 l17 rfl ?_
          refine iq_iload hS 59 J_HBlocks_isCodeword_d57 l18 rfl ?_
          obtain ⟨g59, h⟩ := ed_gd h
          refine iq_iastore hS 60 J_HBlocks_isCodeword_d59 ⟨(ka_49 hM7).1, (ka_49 hM7).2, g59.1, ix_lt (kl_49 hM7) g59.2⟩ rfl ?_
          refine iq_iload_n hS 61 J_HBlocks_isCodeword_d60 l16 rfl ?_
          refine iq_iload hS 63 J_HBlocks_isCodeword_d61 l18 rfl ?_
          have J19 : ∀ (z20 : Int32) (L' : List (Nat × Value)), z20 = ((if ¬ y13 = 0 then 0 else 1) : Int32) → im_lk L' 0 = some (.ref 43) → im_lk L' 1 = some (.int p0) → im_lk L' 3 = some (.int x6) → ia (tb_G L xs) (dep + 1) J_HBlocks_isCodeword (rwI w Q) (71, L', [.int z20, .int x5], (im_setI M7 49 (Int32.toNatClampNeg x6) y13)) := by
            intro z20 L' e21 l22 l23 l24
            subst e21
            refine iq_iand hS 72 J_HBlocks_isCodeword_d71 rfl ?_
            refine iq_istore_n hS 73 J_HBlocks_isCodeword_d72 (by decide) rfl ?_
            refine iq_iincv hS 76 J_HBlocks_isCodeword_d73 (c := 1) (by decide +kernel) (lk_1i l24 (by decide)) (by decide) rfl ?_
            refine iq_goto hS J_HBlocks_isCodeword_d76 (t := 4) rfl ?_
            exact ih _ _ _ _ (lw_sI hM7) (lk_1r (lk_1r l22 (by decide)) (by decide)) (lk_1i (lk_1i l23 (by decide)) (by decide)) (lk_1i lk_1s (by decide)) lk_1s (lq_l h)
          refine iq_if_ne hS 66 J_HBlocks_isCodeword_d63 (t := 70) rfl (fun q63 => ?_) rfl (fun q63 => ?_)
          · refine iq_iconst hS 71 J_HBlocks_isCodeword_d70 (v := 0) (by decide +kernel) rfl ?_
            exact J19 _ _ (by simp only [if_pos q63]) l14 l15 l17
          · refine iq_iconst hS 67 J_HBlocks_isCodeword_d66 (v := 1) (by decide +kernel) rfl ?_
            refine iq_goto hS J_HBlocks_isCodeword_d67 (t := 71) rfl ?_
            exact J19 _ _ (by simp only [if_neg q63]) l14 l15 l17
        obtain ⟨r12, hr12, hq12⟩ := h
        obtain ⟨n12, hn12⟩ := lp_n hr12
        have I12 : ∀ (n : Nat) (x25 : Int32) (x26 : Int32) (L' : List (Nat × Value)), im_lk L' 0 = some (.ref 43) → im_lk L' 1 = some (.int p0) → im_lk L' 2 = some (.int x5) → im_lk L' 3 = some (.int x6) → im_lk L' 4 = some (.int x25) → im_lk L' 5 = some (.int x26) → lpn (uc2 (f_HBlocks_isCodeword_L18 p0 x5 x6 M7)) n (x25, x26) = some r12 → ia (tb_G L xs) (dep + 1) J_HBlocks_isCodeword (rwI w Q) (18, L', [], M7) := by
          intro n
          induction n with
          | zero => intro x25 x26 L' l27 l28 l29 l30 l31 l32 hn; exact (lpn_0 hn).elim
          | succ n ih =>
            intro x25 x26 L' l27 l28 l29 l30 l31 l32 hn
            have h := lpn_ed2 hn
            unfold f_HBlocks_isCodeword_L18 at h
            refine iq_iload hS 20 J_HBlocks_isCodeword_d18 l32 rfl ?_
            refine iq_iload_n hS 21 J_HBlocks_isCodeword_d20 l28 rfl ?_
            refine iq_icmp_ge hS 24 J_HBlocks_isCodeword_d21 (t := 52) rfl (fun q21 => ?_) rfl (fun q21 => ?_)
            · replace h := ed_pos q21 h
              exact K12 _ _ l27 l28 l29 l30 l31 (lq_r h hq12)
            · replace h := ed_neg q21 h
              refine iq_aload_n hS 25 J_HBlocks_isCodeword_d24 l27 rfl ?_
              refine iq_iload hS 27 J_HBlocks_isCodeword_d25 l31 rfl ?_
              refine iq_aload_n hS 28 J_HBlocks_isCodeword_d27 l27 rfl ?_
              refine iq_getR hS 31 J_HBlocks_isCodeword_d28 lf_1_15 (Or.inr ⟨_, rfl⟩) (ka_43 hM7) (ra_43_1 hM7) rfl ?_
              refine iq_iload_n hS 32 J_HBlocks_isCodeword_d31 l30 rfl ?_
              obtain ⟨g32, h⟩ := ed_gd h
              refine iq_iaload hS 33 J_HBlocks_isCodeword_d32 ⟨(ka_45 hM7).1, (ka_45 hM7).2, g32.1, ix_lt (kl_45 hM7) g32.2⟩ rfl ?_
              obtain ⟨Q33, hQ33, h⟩ := bd1_ed h
              refine iq_cpI hS 36 J_HBlocks_isCodeword_d33 rfl (pr_inst (vs := [_, _]) lc_1_93 lT_151 rfl rfl (by decide) (by decide) rfl (Nat.le_of_ble_eq_true rfl) (Nat.le_of_ble_eq_true rfl) (fun _ => Or.inl (pr_b (ka_43 hM7) (by decide) rfl))) (f_HBlocks_times_ok (dep := dep + 0) hM7 h) rfl ?_
              intro x33 h
              replace h := hQ33 _ h
              refine iq_aload_n hS 37 J_HBlocks_isCodeword_d36 l27 rfl ?_
              refine iq_getR hS 40 J_HBlocks_isCodeword_d37 lf_1_25 (Or.inr ⟨_, rfl⟩) (ka_43 hM7) (ra_43_4 hM7) rfl ?_
              refine iq_iload hS 42 J_HBlocks_isCodeword_d40 l32 rfl ?_
              obtain ⟨g42, h⟩ := ed_gd h
              refine iq_iaload hS 43 J_HBlocks_isCodeword_d42 ⟨(ka_48 hM7).1, (ka_48 hM7).2, g42.1, ix_lt (kl_48 hM7) g42.2⟩ rfl ?_
              refine iq_ixor hS 44 J_HBlocks_isCodeword_d43 rfl ?_
              refine iq_istore hS 46 J_HBlocks_isCodeword_d44 (by decide) rfl ?_
              refine iq_iincv hS 49 J_HBlocks_isCodeword_d46 (c := 1) (by decide +kernel) (lk_1i l32 (by decide)) (by decide) rfl ?_
              refine iq_goto hS J_HBlocks_isCodeword_d49 (t := 18) rfl ?_
              exact ih _ _ _ (lk_1r (lk_1r l27 (by decide)) (by decide)) (lk_1i (lk_1i l28 (by decide)) (by decide)) (lk_1i (lk_1i l29 (by decide)) (by decide)) (lk_1i (lk_1i l30 (by decide)) (by decide)) (lk_1i lk_1s (by decide)) lk_1s (lq_l h)
        exact I12 n12 _ _ _ (lk_1r (lk_1r l8 (by decide)) (by decide)) (lk_1i (lk_1i l9 (by decide)) (by decide)) (lk_1i (lk_1i l10 (by decide)) (by decide)) (lk_1i (lk_1i l11 (by decide)) (by decide)) (lk_1i lk_1s (by decide)) lk_1s hn12
  exact I1 n1 _ _ _ _ hM (lk_1r (lk_1r l0 (by decide)) (by decide)) (lk_1i (lk_1i l1 (by decide)) (by decide)) (lk_1i lk_1s (by decide)) lk_1s hn1
theorem f_HBlocks_isCodeword_fr {p0 : Int32} {M : im_M} {r : Int32 × im_M} (h : f_HBlocks_isCodeword p0 M = some r) : fr 562949953421312 [] M r.2 := by
  replace h : ed (f_HBlocks_isCodeword p0 M) (fun x => x = r) := ⟨r, h, rfl⟩
  unfold f_HBlocks_isCodeword at h
  obtain ⟨Q1, hQ1, h⟩ := bd2_ed h
  have K1 : ∀ (y2 : Int32) (M3 : im_M), fr 562949953421312 [] M M3 → Q1 (y2, M3) → fr 562949953421312 [] M r.2 := by
    intro y2 M3 hM3 h
    replace h := hQ1 _ _ h
    obtain ⟨g80, h⟩ := ed_gd h
    exact fr_ret h hM3
  obtain ⟨r1, hr1, hq1⟩ := h
  obtain ⟨n1, hn1⟩ := lp_n hr1
  have I1 : ∀ (n : Nat) (x4 : Int32) (x5 : Int32) (M6 : im_M), fr 562949953421312 [] M M6 → lpn (uc3 (f_HBlocks_isCodeword_L4 p0)) n (x4, x5, M6) = some r1 → fr 562949953421312 [] M r.2 := by
    intro n
    induction n with
    | zero => intro x4 x5 M6 hM6 hn; exact (lpn_0 hn).elim
    | succ n ih =>
      intro x4 x5 M6 hM6 hn
      have h := lpn_ed3 hn
      unfold f_HBlocks_isCodeword_L4 at h
      by_cases q9 : (im_i M6 43 12) ≤ x5
      · replace h := ed_pos q9 h
        exact K1 _ _ hM6 (lq_r h hq1)
      · replace h := ed_neg q9 h
        obtain ⟨Q7, hQ7, h⟩ := bd1_ed h
        have K7 : ∀ (y8 : Int32), Q7 y8 → fr 562949953421312 [] M r.2 := by
          intro y8 h
          replace h := hQ7 _ h
          obtain ⟨g59, h⟩ := ed_gd h
          exact ih _ _ _ (fr_I (by decide) hM6) (lq_l h)
        obtain ⟨r7, hr7, hq7⟩ := h
        obtain ⟨n7, hn7⟩ := lp_n hr7
        have I7 : ∀ (n : Nat) (x10 : Int32) (x11 : Int32), lpn (uc2 (f_HBlocks_isCodeword_L18 p0 x4 x5 M6)) n (x10, x11) = some r7 → fr 562949953421312 [] M r.2 := by
          intro n
          induction n with
          | zero => intro x10 x11 hn; exact (lpn_0 hn).elim
          | succ n ih =>
            intro x10 x11 hn
            have h := lpn_ed2 hn
            unfold f_HBlocks_isCodeword_L18 at h
            by_cases q21 : p0 ≤ x11
            · replace h := ed_pos q21 h
              exact K7 _ (lq_r h hq7)
            · replace h := ed_neg q21 h
              obtain ⟨g32, h⟩ := ed_gd h
              obtain ⟨Q12, hQ12, h⟩ := bd1_ed h
              obtain ⟨x12, e12, h⟩ := h
              replace h := hQ12 _ h
              obtain ⟨g42, h⟩ := ed_gd h
              exact ih _ _ (lq_l h)
        exact I7 n7 _ _ hn7
  exact I1 n1 _ _ _ fr_refl hn1
noncomputable def f_Arrays_fill4_1_L5 (v2 : Int32) (v3 : Int32) (x4 : Int32) (M5 : im_M) : Option ((Int32 × im_M) ⊕ (im_M)) := if v3 ≤ x4 then some (.inr M5) else gd (inb x4 31) <| some (.inl ((x4 + 1), (im_setI M5 50 (Int32.toNatClampNeg x4) v2)))
noncomputable def f_Arrays_fill4_1 (p1 : Int32) (M : im_M) : Option (im_M) := bd1 (lp (uc2 (f_Arrays_fill4_1_L5 p1 31)) (0, M)) fun (M6 : im_M) => some M6
theorem f_Arrays_fill4_1_ok {L : Nat} {xs : Nat → Int32} {dep : Nat} {w : Bool} {p1 : Int32} {M : im_M} {Q : im_M → Prop} (hM : lw_S w M) (h : ed (f_Arrays_fill4_1 p1 M) Q) : ia (tb_G L xs) dep J_Arrays_fill4 (rwV w Q) (0, lv_args 0 [.ref 50, .int p1], [], M) := by
  have hS : im_St (tb_G L xs) dep J_Arrays_fill4 (ia (tb_G L xs) dep J_Arrays_fill4 (rwV w Q)) := ia_St
  unfold f_Arrays_fill4_1 at h
  have l0 : im_lk (lv_args 0 [.ref 50, .int p1]) 0 = some (.ref 50) := rfl
  have l1 : im_lk (lv_args 0 [.ref 50, .int p1]) 1 = some (.int p1) := rfl
  refine iq_iconst hS 1 J_Arrays_fill4_d0 (v := 0) (by decide +kernel) rfl ?_
  refine iq_istore_n hS 2 J_Arrays_fill4_d1 (by decide) rfl ?_
  refine iq_aload_n hS 3 J_Arrays_fill4_d2 (lk_1r l0 (by decide)) rfl ?_
  refine iq_alenv hS 4 J_Arrays_fill4_d3 (v := 31) (ka_50 hM) (by decide) (by decide) (kl_50 hM) (by decide +kernel) rfl ?_
  refine iq_istore_n hS 5 J_Arrays_fill4_d4 (by decide) rfl ?_
  obtain ⟨Q1, hQ1, h⟩ := bd1_ed h
  have K1 : ∀ (M2 : im_M) (L' : List (Nat × Value)), lw_S w M2 → Q1 M2 → ia (tb_G L xs) dep J_Arrays_fill4 (rwV w Q) (20, L', [], M2) := by
    intro M2 L' hM2  h
    replace h := hQ1 _ h
    exact iq_ret J_Arrays_fill4_d20 rfl ⟨rfl, hM2, ed_some h⟩
  obtain ⟨r1, hr1, hq1⟩ := h
  obtain ⟨n1, hn1⟩ := lp_n hr1
  have I1 : ∀ (n : Nat) (x3 : Int32) (M4 : im_M) (L' : List (Nat × Value)), lw_S w M4 → im_lk L' 0 = some (.ref 50) → im_lk L' 1 = some (.int p1) → im_lk L' 2 = some (.int x3) → im_lk L' 3 = some (.int 31) → lpn (uc2 (f_Arrays_fill4_1_L5 p1 31)) n (x3, M4) = some r1 → ia (tb_G L xs) dep J_Arrays_fill4 (rwV w Q) (5, L', [], M4) := by
    intro n
    induction n with
    | zero => intro x3 M4 L' hM4 l5 l6 l7 l8 hn; exact (lpn_0 hn).elim
    | succ n ih =>
      intro x3 M4 L' hM4 l5 l6 l7 l8 hn
      have h := lpn_ed2 hn
      unfold f_Arrays_fill4_1_L5 at h
      refine iq_iload_n hS 6 J_Arrays_fill4_d5 l7 rfl ?_
      refine iq_iload_n hS 7 J_Arrays_fill4_d6 l8 rfl ?_
      refine iq_icmp_ge hS 10 J_Arrays_fill4_d7 (t := 20) rfl (fun q7 => ?_) rfl (fun q7 => ?_)
      · replace h := ed_pos q7 h
        exact K1 _ _ hM4  (lq_r h hq1)
      · replace h := ed_neg q7 h
        refine iq_aload_n hS 11 J_Arrays_fill4_d10 l5 rfl ?_
        refine iq_iload_n hS 12 J_Arrays_fill4_d11 l7 rfl ?_
        refine iq_iload_n hS 13 J_Arrays_fill4_d12 l6 rfl ?_
        obtain ⟨g13, h⟩ := ed_gd h
        refine iq_iastore hS 14 J_Arrays_fill4_d13 ⟨(ka_50 hM4).1, (ka_50 hM4).2, g13.1, ix_lt (kl_50 hM4) g13.2⟩ rfl ?_
        refine iq_iincv hS 17 J_Arrays_fill4_d14 (c := 1) (by decide +kernel) l7 (by decide) rfl ?_
        refine iq_goto hS J_Arrays_fill4_d17 (t := 5) rfl ?_
        exact ih _ _ _ (lw_sI hM4) (lk_1r l5 (by decide)) (lk_1i l6 (by decide)) lk_1s (lk_1i l8 (by decide)) (lq_l h)
  exact I1 n1 _ _ _ hM (lk_1r (lk_1r l0 (by decide)) (by decide)) (lk_1i (lk_1i l1 (by decide)) (by decide)) (lk_1i lk_1s (by decide)) lk_1s hn1
theorem f_Arrays_fill4_1_fr {p1 : Int32} {M : im_M} {r : im_M} (h : f_Arrays_fill4_1 p1 M = some r) : fr 1125899906842624 [] M r := by
  replace h : ed (f_Arrays_fill4_1 p1 M) (fun x => x = r) := ⟨r, h, rfl⟩
  unfold f_Arrays_fill4_1 at h
  obtain ⟨Q1, hQ1, h⟩ := bd1_ed h
  have K1 : ∀ (M2 : im_M), fr 1125899906842624 [] M M2 → Q1 M2 → fr 1125899906842624 [] M r := by
    intro M2 hM2 h
    replace h := hQ1 _ h
    exact fr_retV h hM2
  obtain ⟨r1, hr1, hq1⟩ := h
  obtain ⟨n1, hn1⟩ := lp_n hr1
  have I1 : ∀ (n : Nat) (x3 : Int32) (M4 : im_M), fr 1125899906842624 [] M M4 → lpn (uc2 (f_Arrays_fill4_1_L5 p1 31)) n (x3, M4) = some r1 → fr 1125899906842624 [] M r := by
    intro n
    induction n with
    | zero => intro x3 M4 hM4 hn; exact (lpn_0 hn).elim
    | succ n ih =>
      intro x3 M4 hM4 hn
      have h := lpn_ed2 hn
      unfold f_Arrays_fill4_1_L5 at h
      by_cases q7 : 31 ≤ x3
      · replace h := ed_pos q7 h
        exact K1 _ hM4 (lq_r h hq1)
      · replace h := ed_neg q7 h
        obtain ⟨g13, h⟩ := ed_gd h
        exact ih _ _ (fr_I (by decide) hM4) (lq_l h)
  exact I1 n1 _ _ fr_refl hn1
noncomputable def f_Arrays_fill4_2_L5 (v2 : Int32) (v3 : Int32) (x4 : Int32) (M5 : im_M) : Option ((Int32 × im_M) ⊕ (im_M)) := if v3 ≤ x4 then some (.inr M5) else gd (inb x4 31) <| some (.inl ((x4 + 1), (im_setI M5 51 (Int32.toNatClampNeg x4) v2)))
noncomputable def f_Arrays_fill4_2 (p1 : Int32) (M : im_M) : Option (im_M) := bd1 (lp (uc2 (f_Arrays_fill4_2_L5 p1 31)) (0, M)) fun (M6 : im_M) => some M6
theorem f_Arrays_fill4_2_ok {L : Nat} {xs : Nat → Int32} {dep : Nat} {w : Bool} {p1 : Int32} {M : im_M} {Q : im_M → Prop} (hM : lw_S w M) (h : ed (f_Arrays_fill4_2 p1 M) Q) : ia (tb_G L xs) dep J_Arrays_fill4 (rwV w Q) (0, lv_args 0 [.ref 51, .int p1], [], M) := by
  have hS : im_St (tb_G L xs) dep J_Arrays_fill4 (ia (tb_G L xs) dep J_Arrays_fill4 (rwV w Q)) := ia_St
  unfold f_Arrays_fill4_2 at h
  have l0 : im_lk (lv_args 0 [.ref 51, .int p1]) 0 = some (.ref 51) := rfl
  have l1 : im_lk (lv_args 0 [.ref 51, .int p1]) 1 = some (.int p1) := rfl
  refine iq_iconst hS 1 J_Arrays_fill4_d0 (v := 0) (by decide +kernel) rfl ?_
  refine iq_istore_n hS 2 J_Arrays_fill4_d1 (by decide) rfl ?_
  refine iq_aload_n hS 3 J_Arrays_fill4_d2 (lk_1r l0 (by decide)) rfl ?_
  refine iq_alenv hS 4 J_Arrays_fill4_d3 (v := 31) (ka_51 hM) (by decide) (by decide) (kl_51 hM) (by decide +kernel) rfl ?_
  refine iq_istore_n hS 5 J_Arrays_fill4_d4 (by decide) rfl ?_
  obtain ⟨Q1, hQ1, h⟩ := bd1_ed h
  have K1 : ∀ (M2 : im_M) (L' : List (Nat × Value)), lw_S w M2 → Q1 M2 → ia (tb_G L xs) dep J_Arrays_fill4 (rwV w Q) (20, L', [], M2) := by
    intro M2 L' hM2  h
    replace h := hQ1 _ h
    exact iq_ret J_Arrays_fill4_d20 rfl ⟨rfl, hM2, ed_some h⟩
  obtain ⟨r1, hr1, hq1⟩ := h
  obtain ⟨n1, hn1⟩ := lp_n hr1
  have I1 : ∀ (n : Nat) (x3 : Int32) (M4 : im_M) (L' : List (Nat × Value)), lw_S w M4 → im_lk L' 0 = some (.ref 51) → im_lk L' 1 = some (.int p1) → im_lk L' 2 = some (.int x3) → im_lk L' 3 = some (.int 31) → lpn (uc2 (f_Arrays_fill4_2_L5 p1 31)) n (x3, M4) = some r1 → ia (tb_G L xs) dep J_Arrays_fill4 (rwV w Q) (5, L', [], M4) := by
    intro n
    induction n with
    | zero => intro x3 M4 L' hM4 l5 l6 l7 l8 hn; exact (lpn_0 hn).elim
    | succ n ih =>
      intro x3 M4 L' hM4 l5 l6 l7 l8 hn
      have h := lpn_ed2 hn
      unfold f_Arrays_fill4_2_L5 at h
      refine iq_iload_n hS 6 J_Arrays_fill4_d5 l7 rfl ?_
      refine iq_iload_n hS 7 J_Arrays_fill4_d6 l8 rfl ?_
      refine iq_icmp_ge hS 10 J_Arrays_fill4_d7 (t := 20) rfl (fun q7 => ?_) rfl (fun q7 => ?_)
      · replace h := ed_pos q7 h
        exact K1 _ _ hM4  (lq_r h hq1)
      · replace h := ed_neg q7 h
        refine iq_aload_n hS 11 J_Arrays_fill4_d10 l5 rfl ?_
        refine iq_iload_n hS 12 J_Arrays_fill4_d11 l7 rfl ?_
        refine iq_iload_n hS 13 J_Arrays_fill4_d12 l6 rfl ?_
        obtain ⟨g13, h⟩ := ed_gd h
        refine iq_iastore hS 14 J_Arrays_fill4_d13 ⟨(ka_51 hM4).1, (ka_51 hM4).2, g13.1, ix_lt (kl_51 hM4) g13.2⟩ rfl ?_
        refine iq_iincv hS 17 J_Arrays_fill4_d14 (c := 1) (by decide +kernel) l7 (by decide) rfl ?_
        refine iq_goto hS J_Arrays_fill4_d17 (t := 5) rfl ?_
        exact ih _ _ _ (lw_sI hM4) (lk_1r l5 (by decide)) (lk_1i l6 (by decide)) lk_1s (lk_1i l8 (by decide)) (lq_l h)
  exact I1 n1 _ _ _ hM (lk_1r (lk_1r l0 (by decide)) (by decide)) (lk_1i (lk_1i l1 (by decide)) (by decide)) (lk_1i lk_1s (by decide)) lk_1s hn1
theorem f_Arrays_fill4_2_fr {p1 : Int32} {M : im_M} {r : im_M} (h : f_Arrays_fill4_2 p1 M = some r) : fr 2251799813685248 [] M r := by
  replace h : ed (f_Arrays_fill4_2 p1 M) (fun x => x = r) := ⟨r, h, rfl⟩
  unfold f_Arrays_fill4_2 at h
  obtain ⟨Q1, hQ1, h⟩ := bd1_ed h
  have K1 : ∀ (M2 : im_M), fr 2251799813685248 [] M M2 → Q1 M2 → fr 2251799813685248 [] M r := by
    intro M2 hM2 h
    replace h := hQ1 _ h
    exact fr_retV h hM2
  obtain ⟨r1, hr1, hq1⟩ := h
  obtain ⟨n1, hn1⟩ := lp_n hr1
  have I1 : ∀ (n : Nat) (x3 : Int32) (M4 : im_M), fr 2251799813685248 [] M M4 → lpn (uc2 (f_Arrays_fill4_2_L5 p1 31)) n (x3, M4) = some r1 → fr 2251799813685248 [] M r := by
    intro n
    induction n with
    | zero => intro x3 M4 hM4 hn; exact (lpn_0 hn).elim
    | succ n ih =>
      intro x3 M4 hM4 hn
      have h := lpn_ed2 hn
      unfold f_Arrays_fill4_2_L5 at h
      by_cases q7 : 31 ≤ x3
      · replace h := ed_pos q7 h
        exact K1 _ hM4 (lq_r h hq1)
      · replace h := ed_neg q7 h
        obtain ⟨g13, h⟩ := ed_gd h
        exact ih _ _ (fr_I (by decide) hM4) (lq_l h)
  exact I1 n1 _ _ fr_refl hn1
noncomputable def f_HBlocks_over (p0 : Int32) (p1 : Int32) (M : im_M) : Option (Int32) := if ¬ p0 = 0 then gd (inb p0 256) <| gd (inb p1 256) <| gd (inb (((im_i M 46 (Int32.toNatClampNeg p0)) + 255) - (im_i M 46 (Int32.toNatClampNeg p1))) 510) <| some (im_i M 45 (Int32.toNatClampNeg (((im_i M 46 (Int32.toNatClampNeg p0)) + 255) - (im_i M 46 (Int32.toNatClampNeg p1))))) else some 0
theorem J_HBlocks_over_d0 : decode J_HBlocks_over.2.1 0 = .ok (.iload_n 1, 1) := by decide +kernel
theorem J_HBlocks_over_d1 : decode J_HBlocks_over.2.1 1 = .ok (.ifCond .ne 7, 3) := by decide +kernel
theorem J_HBlocks_over_d4 : decode J_HBlocks_over.2.1 4 = .ok (.iconst 0, 1) := by decide +kernel
theorem J_HBlocks_over_d5 : decode J_HBlocks_over.2.1 5 = .ok (.goto 25, 3) := by decide +kernel
theorem J_HBlocks_over_d8 : decode J_HBlocks_over.2.1 8 = .ok (.aload_n 0, 1) := by decide +kernel
theorem J_HBlocks_over_d9 : decode J_HBlocks_over.2.1 9 = .ok (.getfield 15, 3) := by decide +kernel
theorem J_HBlocks_over_d12 : decode J_HBlocks_over.2.1 12 = .ok (.aload_n 0, 1) := by decide +kernel
theorem J_HBlocks_over_d13 : decode J_HBlocks_over.2.1 13 = .ok (.getfield 19, 3) := by decide +kernel
theorem J_HBlocks_over_d16 : decode J_HBlocks_over.2.1 16 = .ok (.iload_n 1, 1) := by decide +kernel
theorem J_HBlocks_over_d17 : decode J_HBlocks_over.2.1 17 = .ok (.iaload, 1) := by decide +kernel
theorem J_HBlocks_over_d18 : decode J_HBlocks_over.2.1 18 = .ok (.sipush 255, 3) := by decide +kernel
theorem J_HBlocks_over_d21 : decode J_HBlocks_over.2.1 21 = .ok (.iadd, 1) := by decide +kernel
theorem J_HBlocks_over_d22 : decode J_HBlocks_over.2.1 22 = .ok (.aload_n 0, 1) := by decide +kernel
theorem J_HBlocks_over_d23 : decode J_HBlocks_over.2.1 23 = .ok (.getfield 19, 3) := by decide +kernel
theorem J_HBlocks_over_d26 : decode J_HBlocks_over.2.1 26 = .ok (.iload_n 2, 1) := by decide +kernel
theorem J_HBlocks_over_d27 : decode J_HBlocks_over.2.1 27 = .ok (.iaload, 1) := by decide +kernel
theorem J_HBlocks_over_d28 : decode J_HBlocks_over.2.1 28 = .ok (.isub, 1) := by decide +kernel
theorem J_HBlocks_over_d29 : decode J_HBlocks_over.2.1 29 = .ok (.iaload, 1) := by decide +kernel
theorem J_HBlocks_over_d30 : decode J_HBlocks_over.2.1 30 = .ok (.ireturn, 1) := by decide +kernel
theorem f_HBlocks_over_ok {L : Nat} {xs : Nat → Int32} {dep : Nat} {w : Bool} {p0 : Int32} {p1 : Int32} {M : im_M} {Q : Int32 → Prop} (hM : lw_S w M) (h : ed (f_HBlocks_over p0 p1 M) Q) : ia (tb_G L xs) dep J_HBlocks_over (rpI M Q) (0, lv_args 0 [.ref 43, .int p0, .int p1], [], M) := by
  have hS : im_St (tb_G L xs) dep J_HBlocks_over (ia (tb_G L xs) dep J_HBlocks_over (rpI M Q)) := ia_St
  unfold f_HBlocks_over at h
  have l0 : im_lk (lv_args 0 [.ref 43, .int p0, .int p1]) 0 = some (.ref 43) := rfl
  have l1 : im_lk (lv_args 0 [.ref 43, .int p0, .int p1]) 1 = some (.int p0) := rfl
  have l2 : im_lk (lv_args 0 [.ref 43, .int p0, .int p1]) 2 = some (.int p1) := rfl
  refine iq_iload_n hS 1 J_HBlocks_over_d0 l1 rfl ?_
  refine iq_if_ne hS 4 J_HBlocks_over_d1 (t := 8) rfl (fun q1 => ?_) rfl (fun q1 => ?_)
  · replace h := ed_pos q1 h
    refine iq_aload_n hS 9 J_HBlocks_over_d8 l0 rfl ?_
    refine iq_getR hS 12 J_HBlocks_over_d9 lf_1_15 (Or.inr ⟨_, rfl⟩) (ka_43 hM) (ra_43_1 hM) rfl ?_
    refine iq_aload_n hS 13 J_HBlocks_over_d12 l0 rfl ?_
    refine iq_getR hS 16 J_HBlocks_over_d13 lf_1_19 (Or.inr ⟨_, rfl⟩) (ka_43 hM) (ra_43_2 hM) rfl ?_
    refine iq_iload_n hS 17 J_HBlocks_over_d16 l1 rfl ?_
    obtain ⟨g17, h⟩ := ed_gd h
    refine iq_iaload hS 18 J_HBlocks_over_d17 ⟨(ka_46 hM).1, (ka_46 hM).2, g17.1, ix_lt (kl_46 hM) g17.2⟩ rfl ?_
    refine iq_sipush hS 21 J_HBlocks_over_d18 (v := 255) (by decide +kernel) rfl ?_
    refine iq_iadd hS 22 J_HBlocks_over_d21 rfl ?_
    refine iq_aload_n hS 23 J_HBlocks_over_d22 l0 rfl ?_
    refine iq_getR hS 26 J_HBlocks_over_d23 lf_1_19 (Or.inr ⟨_, rfl⟩) (ka_43 hM) (ra_43_2 hM) rfl ?_
    refine iq_iload_n hS 27 J_HBlocks_over_d26 l2 rfl ?_
    obtain ⟨g27, h⟩ := ed_gd h
    refine iq_iaload hS 28 J_HBlocks_over_d27 ⟨(ka_46 hM).1, (ka_46 hM).2, g27.1, ix_lt (kl_46 hM) g27.2⟩ rfl ?_
    refine iq_isub hS 29 J_HBlocks_over_d28 rfl ?_
    obtain ⟨g29, h⟩ := ed_gd h
    refine iq_iaload hS 30 J_HBlocks_over_d29 ⟨(ka_45 hM).1, (ka_45 hM).2, g29.1, ix_lt (kl_45 hM) g29.2⟩ rfl ?_
    exact iq_iret J_HBlocks_over_d30 rfl rfl ⟨_, rfl, rfl, ed_some h⟩
  · replace h := ed_neg q1 h
    refine iq_iconst hS 5 J_HBlocks_over_d4 (v := 0) (by decide +kernel) rfl ?_
    refine iq_goto hS J_HBlocks_over_d5 (t := 30) rfl ?_
    exact iq_iret J_HBlocks_over_d30 rfl rfl ⟨_, rfl, rfl, ed_some h⟩
noncomputable def f_HBlocks_findLocator_L60 (v10 : Int32) (v11 : Int32) (v12 : Int32) (v13 : Int32) (M16 : im_M) (x14 : Int32) (x15 : Int32) : Option ((Int32 × Int32) ⊕ (Int32)) := if v10 < x15 then some (.inr x14) else if v13 < x15 then some (.inr x14) else gd (inb x15 31) <| gd (inb (v13 - x15) 30) <| bd1 (f_HBlocks_times (im_i M16 50 (Int32.toNatClampNeg x15)) (im_i M16 49 (Int32.toNatClampNeg (v13 - x15))) M16) fun (x17 : Int32) => some (.inl ((x14 ^^^ x17), (x15 + 1)))
noncomputable def f_HBlocks_findLocator_L137 (v22 : Int32) (v23 : Int32) (v24 : Int32) (v25 : Int32) (v26 : Int32) (v27 : Int32) (x28 : Int32) (M29 : im_M) : Option ((Int32 × im_M) ⊕ (im_M)) := if 30 < x28 then some (.inr M29) else gd (inb x28 31) <| gd (inb (x28 - v23) 31) <| bd1 (f_HBlocks_times v27 (im_i M29 51 (Int32.toNatClampNeg (x28 - v23))) M29) fun (x30 : Int32) => gd (inb x28 31) <| some (.inl ((x28 + 1), (im_setI M29 50 (Int32.toNatClampNeg x28) ((im_i M29 50 (Int32.toNatClampNeg x28)) ^^^ x30))))
noncomputable def f_HBlocks_findLocator_L39 (x4 : Int32) (x5 : Int32) (x6 : Int32) (x7 : Int32) (M8 : im_M) : Option ((Int32 × Int32 × Int32 × Int32 × im_M) ⊕ (Int32 × im_M)) := if (im_i M8 43 12) ≤ x7 then some (.inr (x4, M8)) else gd (inb x7 30) <| bd1 (lp (uc2 (f_HBlocks_findLocator_L60 x4 x5 x6 x7 M8)) ((im_i M8 49 (Int32.toNatClampNeg x7)), 1)) fun (y18 : Int32) => bd4 (if y18 = 0 then some (x4, x5, x6, M8) else gd (cpy 0 31 0 31 31) <| bd1 (f_HBlocks_over y18 x6 (im_setA M8 52 (va_cpy (im_i M8 50) (im_i M8 52) (Int32.toNatClampNeg 0) (Int32.toNatClampNeg 0) (Int32.toNatClampNeg 31)))) fun (x20 : Int32) => bd1 (lp (uc2 (f_HBlocks_findLocator_L137 x4 x5 x6 x7 y18 x20)) (x5, (im_setA M8 52 (va_cpy (im_i M8 50) (im_i M8 52) (Int32.toNatClampNeg 0) (Int32.toNatClampNeg 0) (Int32.toNatClampNeg 31))))) fun (M31 : im_M) => if x7 < ((2 : Int32) * x4) then some (x4, x5, x6, M31) else gd (cpy 0 31 0 31 31) <| some (((x7 + 1) - x4), 0, y18, (im_setA M31 51 (va_cpy (im_i M31 52) (im_i M31 51) (Int32.toNatClampNeg 0) (Int32.toNatClampNeg 0) (Int32.toNatClampNeg 31))))) fun (y32 : Int32) (y33 : Int32) (y34 : Int32) (M35 : im_M) => some (.inl (y32, (y33 + 1), y34, (x7 + 1), M35))
noncomputable def f_HBlocks_findLocator (M : im_M) : Option (Int32 × im_M) := bd1 (f_Arrays_fill4_1 0 M) fun (M1 : im_M) => bd1 (f_Arrays_fill4_2 0 M1) fun (M2 : im_M) => gd (inb 0 31) <| gd (inb 0 31) <| bd2 (lp (uc5 (f_HBlocks_findLocator_L39)) (0, 1, 1, 0, (im_setI (im_setI M2 50 (Int32.toNatClampNeg 0) 1) 51 (Int32.toNatClampNeg 0) 1))) fun (y41 : Int32) (M42 : im_M) => some (y41, M42)
theorem J_HBlocks_findLocator_d0 : decode J_HBlocks_findLocator.2.1 0 = .ok (.aload_n 0, 1) := by decide +kernel
theorem J_HBlocks_findLocator_d1 : decode J_HBlocks_findLocator.2.1 1 = .ok (.getfield 31, 3) := by decide +kernel
theorem J_HBlocks_findLocator_d4 : decode J_HBlocks_findLocator.2.1 4 = .ok (.iconst 0, 1) := by decide +kernel
theorem J_HBlocks_findLocator_d5 : decode J_HBlocks_findLocator.2.1 5 = .ok (.invokestatic 87, 3) := by decide +kernel
theorem J_HBlocks_findLocator_d8 : decode J_HBlocks_findLocator.2.1 8 = .ok (.aload_n 0, 1) := by decide +kernel
theorem J_HBlocks_findLocator_d9 : decode J_HBlocks_findLocator.2.1 9 = .ok (.getfield 34, 3) := by decide +kernel
theorem J_HBlocks_findLocator_d12 : decode J_HBlocks_findLocator.2.1 12 = .ok (.iconst 0, 1) := by decide +kernel
theorem J_HBlocks_findLocator_d13 : decode J_HBlocks_findLocator.2.1 13 = .ok (.invokestatic 87, 3) := by decide +kernel
theorem J_HBlocks_findLocator_d16 : decode J_HBlocks_findLocator.2.1 16 = .ok (.aload_n 0, 1) := by decide +kernel
theorem J_HBlocks_findLocator_d17 : decode J_HBlocks_findLocator.2.1 17 = .ok (.getfield 31, 3) := by decide +kernel
theorem J_HBlocks_findLocator_d20 : decode J_HBlocks_findLocator.2.1 20 = .ok (.iconst 0, 1) := by decide +kernel
theorem J_HBlocks_findLocator_d21 : decode J_HBlocks_findLocator.2.1 21 = .ok (.iconst 1, 1) := by decide +kernel
theorem J_HBlocks_findLocator_d22 : decode J_HBlocks_findLocator.2.1 22 = .ok (.iastore, 1) := by decide +kernel
theorem J_HBlocks_findLocator_d23 : decode J_HBlocks_findLocator.2.1 23 = .ok (.aload_n 0, 1) := by decide +kernel
theorem J_HBlocks_findLocator_d24 : decode J_HBlocks_findLocator.2.1 24 = .ok (.getfield 34, 3) := by decide +kernel
theorem J_HBlocks_findLocator_d27 : decode J_HBlocks_findLocator.2.1 27 = .ok (.iconst 0, 1) := by decide +kernel
theorem J_HBlocks_findLocator_d28 : decode J_HBlocks_findLocator.2.1 28 = .ok (.iconst 1, 1) := by decide +kernel
theorem J_HBlocks_findLocator_d29 : decode J_HBlocks_findLocator.2.1 29 = .ok (.iastore, 1) := by decide +kernel
theorem J_HBlocks_findLocator_d30 : decode J_HBlocks_findLocator.2.1 30 = .ok (.iconst 0, 1) := by decide +kernel
theorem J_HBlocks_findLocator_d31 : decode J_HBlocks_findLocator.2.1 31 = .ok (.istore_n 1, 1) := by decide +kernel
theorem J_HBlocks_findLocator_d32 : decode J_HBlocks_findLocator.2.1 32 = .ok (.iconst 1, 1) := by decide +kernel
theorem J_HBlocks_findLocator_d33 : decode J_HBlocks_findLocator.2.1 33 = .ok (.istore_n 2, 1) := by decide +kernel
theorem J_HBlocks_findLocator_d34 : decode J_HBlocks_findLocator.2.1 34 = .ok (.iconst 1, 1) := by decide +kernel
theorem J_HBlocks_findLocator_d35 : decode J_HBlocks_findLocator.2.1 35 = .ok (.istore_n 3, 1) := by decide +kernel
theorem J_HBlocks_findLocator_d36 : decode J_HBlocks_findLocator.2.1 36 = .ok (.iconst 0, 1) := by decide +kernel
theorem J_HBlocks_findLocator_d37 : decode J_HBlocks_findLocator.2.1 37 = .ok (.istore 4, 2) := by decide +kernel
theorem J_HBlocks_findLocator_d39 : decode J_HBlocks_findLocator.2.1 39 = .ok (.iload 4, 2) := by decide +kernel
theorem J_HBlocks_findLocator_d41 : decode J_HBlocks_findLocator.2.1 41 = .ok (.aload_n 0, 1) := by decide +kernel
theorem J_HBlocks_findLocator_d42 : decode J_HBlocks_findLocator.2.1 42 = .ok (.getfield 57, 3) := by decide +kernel
theorem J_HBlocks_findLocator_d45 : decode J_HBlocks_findLocator.2.1 45 = .ok (.if_icmp .ge 174, 3) := by decide +kernel
theorem J_HBlocks_findLocator_d48 : decode J_HBlocks_findLocator.2.1 48 = .ok (.aload_n 0, 1) := by decide +kernel
theorem J_HBlocks_findLocator_d49 : decode J_HBlocks_findLocator.2.1 49 = .ok (.getfield 28, 3) := by decide +kernel
theorem J_HBlocks_findLocator_d52 : decode J_HBlocks_findLocator.2.1 52 = .ok (.iload 4, 2) := by decide +kernel
theorem J_HBlocks_findLocator_d54 : decode J_HBlocks_findLocator.2.1 54 = .ok (.iaload, 1) := by decide +kernel
theorem J_HBlocks_findLocator_d55 : decode J_HBlocks_findLocator.2.1 55 = .ok (.istore 5, 2) := by decide +kernel
theorem J_HBlocks_findLocator_d57 : decode J_HBlocks_findLocator.2.1 57 = .ok (.iconst 1, 1) := by decide +kernel
theorem J_HBlocks_findLocator_d58 : decode J_HBlocks_findLocator.2.1 58 = .ok (.istore 6, 2) := by decide +kernel
theorem J_HBlocks_findLocator_d60 : decode J_HBlocks_findLocator.2.1 60 = .ok (.iload 6, 2) := by decide +kernel
theorem J_HBlocks_findLocator_d62 : decode J_HBlocks_findLocator.2.1 62 = .ok (.iload_n 1, 1) := by decide +kernel
theorem J_HBlocks_findLocator_d63 : decode J_HBlocks_findLocator.2.1 63 = .ok (.if_icmp .gt 42, 3) := by decide +kernel
theorem J_HBlocks_findLocator_d66 : decode J_HBlocks_findLocator.2.1 66 = .ok (.iload 6, 2) := by decide +kernel
theorem J_HBlocks_findLocator_d68 : decode J_HBlocks_findLocator.2.1 68 = .ok (.iload 4, 2) := by decide +kernel
theorem J_HBlocks_findLocator_d70 : decode J_HBlocks_findLocator.2.1 70 = .ok (.if_icmp .gt 35, 3) := by decide +kernel
theorem J_HBlocks_findLocator_d73 : decode J_HBlocks_findLocator.2.1 73 = .ok (.iload 5, 2) := by decide +kernel
theorem J_HBlocks_findLocator_d75 : decode J_HBlocks_findLocator.2.1 75 = .ok (.aload_n 0, 1) := by decide +kernel
theorem J_HBlocks_findLocator_d76 : decode J_HBlocks_findLocator.2.1 76 = .ok (.aload_n 0, 1) := by decide +kernel
theorem J_HBlocks_findLocator_d77 : decode J_HBlocks_findLocator.2.1 77 = .ok (.getfield 31, 3) := by decide +kernel
theorem J_HBlocks_findLocator_d80 : decode J_HBlocks_findLocator.2.1 80 = .ok (.iload 6, 2) := by decide +kernel
theorem J_HBlocks_findLocator_d82 : decode J_HBlocks_findLocator.2.1 82 = .ok (.iaload, 1) := by decide +kernel
theorem J_HBlocks_findLocator_d83 : decode J_HBlocks_findLocator.2.1 83 = .ok (.aload_n 0, 1) := by decide +kernel
theorem J_HBlocks_findLocator_d84 : decode J_HBlocks_findLocator.2.1 84 = .ok (.getfield 28, 3) := by decide +kernel
theorem J_HBlocks_findLocator_d87 : decode J_HBlocks_findLocator.2.1 87 = .ok (.iload 4, 2) := by decide +kernel
theorem J_HBlocks_findLocator_d89 : decode J_HBlocks_findLocator.2.1 89 = .ok (.iload 6, 2) := by decide +kernel
theorem J_HBlocks_findLocator_d91 : decode J_HBlocks_findLocator.2.1 91 = .ok (.isub, 1) := by decide +kernel
theorem J_HBlocks_findLocator_d92 : decode J_HBlocks_findLocator.2.1 92 = .ok (.iaload, 1) := by decide +kernel
theorem J_HBlocks_findLocator_d93 : decode J_HBlocks_findLocator.2.1 93 = .ok (.invokevirtual 93, 3) := by decide +kernel
theorem J_HBlocks_findLocator_d96 : decode J_HBlocks_findLocator.2.1 96 = .ok (.ixor, 1) := by decide +kernel
theorem J_HBlocks_findLocator_d97 : decode J_HBlocks_findLocator.2.1 97 = .ok (.istore 5, 2) := by decide +kernel
theorem J_HBlocks_findLocator_d99 : decode J_HBlocks_findLocator.2.1 99 = .ok (.iinc 6 1, 3) := by decide +kernel
theorem J_HBlocks_findLocator_d102 : decode J_HBlocks_findLocator.2.1 102 = .ok (.goto (-42), 3) := by decide +kernel
theorem J_HBlocks_findLocator_d105 : decode J_HBlocks_findLocator.2.1 105 = .ok (.iload 5, 2) := by decide +kernel
theorem J_HBlocks_findLocator_d107 : decode J_HBlocks_findLocator.2.1 107 = .ok (.ifCond .eq 103, 3) := by decide +kernel
theorem J_HBlocks_findLocator_d110 : decode J_HBlocks_findLocator.2.1 110 = .ok (.aload_n 0, 1) := by decide +kernel
theorem J_HBlocks_findLocator_d111 : decode J_HBlocks_findLocator.2.1 111 = .ok (.getfield 31, 3) := by decide +kernel
theorem J_HBlocks_findLocator_d114 : decode J_HBlocks_findLocator.2.1 114 = .ok (.iconst 0, 1) := by decide +kernel
theorem J_HBlocks_findLocator_d115 : decode J_HBlocks_findLocator.2.1 115 = .ok (.aload_n 0, 1) := by decide +kernel
theorem J_HBlocks_findLocator_d116 : decode J_HBlocks_findLocator.2.1 116 = .ok (.getfield 37, 3) := by decide +kernel
theorem J_HBlocks_findLocator_d119 : decode J_HBlocks_findLocator.2.1 119 = .ok (.iconst 0, 1) := by decide +kernel
theorem J_HBlocks_findLocator_d120 : decode J_HBlocks_findLocator.2.1 120 = .ok (.bipush 31, 2) := by decide +kernel
theorem J_HBlocks_findLocator_d122 : decode J_HBlocks_findLocator.2.1 122 = .ok (.invokestatic 126, 3) := by decide +kernel
theorem J_HBlocks_findLocator_d125 : decode J_HBlocks_findLocator.2.1 125 = .ok (.aload_n 0, 1) := by decide +kernel
theorem J_HBlocks_findLocator_d126 : decode J_HBlocks_findLocator.2.1 126 = .ok (.iload 5, 2) := by decide +kernel
theorem J_HBlocks_findLocator_d128 : decode J_HBlocks_findLocator.2.1 128 = .ok (.iload_n 3, 1) := by decide +kernel
theorem J_HBlocks_findLocator_d129 : decode J_HBlocks_findLocator.2.1 129 = .ok (.invokevirtual 123, 3) := by decide +kernel
theorem J_HBlocks_findLocator_d132 : decode J_HBlocks_findLocator.2.1 132 = .ok (.istore 6, 2) := by decide +kernel
theorem J_HBlocks_findLocator_d134 : decode J_HBlocks_findLocator.2.1 134 = .ok (.iload_n 2, 1) := by decide +kernel
theorem J_HBlocks_findLocator_d135 : decode J_HBlocks_findLocator.2.1 135 = .ok (.istore 7, 2) := by decide +kernel
theorem J_HBlocks_findLocator_d137 : decode J_HBlocks_findLocator.2.1 137 = .ok (.iload 7, 2) := by decide +kernel
theorem J_HBlocks_findLocator_d139 : decode J_HBlocks_findLocator.2.1 139 = .ok (.bipush 30, 2) := by decide +kernel
theorem J_HBlocks_findLocator_d141 : decode J_HBlocks_findLocator.2.1 141 = .ok (.if_icmp .gt 34, 3) := by decide +kernel
theorem J_HBlocks_findLocator_d144 : decode J_HBlocks_findLocator.2.1 144 = .ok (.aload_n 0, 1) := by decide +kernel
theorem J_HBlocks_findLocator_d145 : decode J_HBlocks_findLocator.2.1 145 = .ok (.getfield 31, 3) := by decide +kernel
theorem J_HBlocks_findLocator_d148 : decode J_HBlocks_findLocator.2.1 148 = .ok (.iload 7, 2) := by decide +kernel
theorem J_HBlocks_findLocator_d150 : decode J_HBlocks_findLocator.2.1 150 = .ok (.dup2, 1) := by decide +kernel
theorem J_HBlocks_findLocator_d151 : decode J_HBlocks_findLocator.2.1 151 = .ok (.iaload, 1) := by decide +kernel
theorem J_HBlocks_findLocator_d152 : decode J_HBlocks_findLocator.2.1 152 = .ok (.aload_n 0, 1) := by decide +kernel
theorem J_HBlocks_findLocator_d153 : decode J_HBlocks_findLocator.2.1 153 = .ok (.iload 6, 2) := by decide +kernel
theorem J_HBlocks_findLocator_d155 : decode J_HBlocks_findLocator.2.1 155 = .ok (.aload_n 0, 1) := by decide +kernel
theorem J_HBlocks_findLocator_d156 : decode J_HBlocks_findLocator.2.1 156 = .ok (.getfield 34, 3) := by decide +kernel
theorem J_HBlocks_findLocator_d159 : decode J_HBlocks_findLocator.2.1 159 = .ok (.iload 7, 2) := by decide +kernel
theorem J_HBlocks_findLocator_d161 : decode J_HBlocks_findLocator.2.1 161 = .ok (.iload_n 2, 1) := by decide +kernel
theorem J_HBlocks_findLocator_d162 : decode J_HBlocks_findLocator.2.1 162 = .ok (.isub, 1) := by decide +kernel
theorem J_HBlocks_findLocator_d163 : decode J_HBlocks_findLocator.2.1 163 = .ok (.iaload, 1) := by decide +kernel
theorem J_HBlocks_findLocator_d164 : decode J_HBlocks_findLocator.2.1 164 = .ok (.invokevirtual 93, 3) := by decide +kernel
theorem J_HBlocks_findLocator_d167 : decode J_HBlocks_findLocator.2.1 167 = .ok (.ixor, 1) := by decide +kernel
theorem J_HBlocks_findLocator_d168 : decode J_HBlocks_findLocator.2.1 168 = .ok (.iastore, 1) := by decide +kernel
theorem J_HBlocks_findLocator_d169 : decode J_HBlocks_findLocator.2.1 169 = .ok (.iinc 7 1, 3) := by decide +kernel
theorem J_HBlocks_findLocator_d172 : decode J_HBlocks_findLocator.2.1 172 = .ok (.goto (-35), 3) := by decide +kernel
theorem J_HBlocks_findLocator_d175 : decode J_HBlocks_findLocator.2.1 175 = .ok (.iconst 2, 1) := by decide +kernel
theorem J_HBlocks_findLocator_d176 : decode J_HBlocks_findLocator.2.1 176 = .ok (.iload_n 1, 1) := by decide +kernel
theorem J_HBlocks_findLocator_d177 : decode J_HBlocks_findLocator.2.1 177 = .ok (.imul, 1) := by decide +kernel
theorem J_HBlocks_findLocator_d178 : decode J_HBlocks_findLocator.2.1 178 = .ok (.iload 4, 2) := by decide +kernel
theorem J_HBlocks_findLocator_d180 : decode J_HBlocks_findLocator.2.1 180 = .ok (.if_icmp .gt 30, 3) := by decide +kernel
theorem J_HBlocks_findLocator_d183 : decode J_HBlocks_findLocator.2.1 183 = .ok (.iload 4, 2) := by decide +kernel
theorem J_HBlocks_findLocator_d185 : decode J_HBlocks_findLocator.2.1 185 = .ok (.iconst 1, 1) := by decide +kernel
theorem J_HBlocks_findLocator_d186 : decode J_HBlocks_findLocator.2.1 186 = .ok (.iadd, 1) := by decide +kernel
theorem J_HBlocks_findLocator_d187 : decode J_HBlocks_findLocator.2.1 187 = .ok (.iload_n 1, 1) := by decide +kernel
theorem J_HBlocks_findLocator_d188 : decode J_HBlocks_findLocator.2.1 188 = .ok (.isub, 1) := by decide +kernel
theorem J_HBlocks_findLocator_d189 : decode J_HBlocks_findLocator.2.1 189 = .ok (.istore_n 1, 1) := by decide +kernel
theorem J_HBlocks_findLocator_d190 : decode J_HBlocks_findLocator.2.1 190 = .ok (.aload_n 0, 1) := by decide +kernel
theorem J_HBlocks_findLocator_d191 : decode J_HBlocks_findLocator.2.1 191 = .ok (.getfield 37, 3) := by decide +kernel
theorem J_HBlocks_findLocator_d194 : decode J_HBlocks_findLocator.2.1 194 = .ok (.iconst 0, 1) := by decide +kernel
theorem J_HBlocks_findLocator_d195 : decode J_HBlocks_findLocator.2.1 195 = .ok (.aload_n 0, 1) := by decide +kernel
theorem J_HBlocks_findLocator_d196 : decode J_HBlocks_findLocator.2.1 196 = .ok (.getfield 34, 3) := by decide +kernel
theorem J_HBlocks_findLocator_d199 : decode J_HBlocks_findLocator.2.1 199 = .ok (.iconst 0, 1) := by decide +kernel
theorem J_HBlocks_findLocator_d200 : decode J_HBlocks_findLocator.2.1 200 = .ok (.bipush 31, 2) := by decide +kernel
theorem J_HBlocks_findLocator_d202 : decode J_HBlocks_findLocator.2.1 202 = .ok (.invokestatic 126, 3) := by decide +kernel
theorem J_HBlocks_findLocator_d205 : decode J_HBlocks_findLocator.2.1 205 = .ok (.iload 5, 2) := by decide +kernel
theorem J_HBlocks_findLocator_d207 : decode J_HBlocks_findLocator.2.1 207 = .ok (.istore_n 3, 1) := by decide +kernel
theorem J_HBlocks_findLocator_d208 : decode J_HBlocks_findLocator.2.1 208 = .ok (.iconst 0, 1) := by decide +kernel
theorem J_HBlocks_findLocator_d209 : decode J_HBlocks_findLocator.2.1 209 = .ok (.istore_n 2, 1) := by decide +kernel
theorem J_HBlocks_findLocator_d210 : decode J_HBlocks_findLocator.2.1 210 = .ok (.iinc 2 1, 3) := by decide +kernel
theorem J_HBlocks_findLocator_d213 : decode J_HBlocks_findLocator.2.1 213 = .ok (.iinc 4 1, 3) := by decide +kernel
theorem J_HBlocks_findLocator_d216 : decode J_HBlocks_findLocator.2.1 216 = .ok (.goto (-177), 3) := by decide +kernel
theorem J_HBlocks_findLocator_d219 : decode J_HBlocks_findLocator.2.1 219 = .ok (.iload_n 1, 1) := by decide +kernel
theorem J_HBlocks_findLocator_d220 : decode J_HBlocks_findLocator.2.1 220 = .ok (.ireturn, 1) := by decide +kernel
theorem f_HBlocks_findLocator_ok {L : Nat} {xs : Nat → Int32} {dep : Nat} {w : Bool} {M : im_M} {Q : Int32 × im_M → Prop} (hM : lw_S w M) (h : ed (f_HBlocks_findLocator M) Q) : ia (tb_G L xs) (dep + 1) J_HBlocks_findLocator (rwI w Q) (0, lv_args 0 [.ref 43], [], M) := by
  have hS : im_St (tb_G L xs) (dep + 1) J_HBlocks_findLocator (ia (tb_G L xs) (dep + 1) J_HBlocks_findLocator (rwI w Q)) := ia_St
  unfold f_HBlocks_findLocator at h
  have l0 : im_lk (lv_args 0 [.ref 43]) 0 = some (.ref 43) := rfl
  refine iq_aload_n hS 1 J_HBlocks_findLocator_d0 l0 rfl ?_
  refine iq_getR hS 4 J_HBlocks_findLocator_d1 lf_1_31 (Or.inr ⟨_, rfl⟩) (ka_43 hM) (ra_43_6 hM) rfl ?_
  refine iq_iconst hS 5 J_HBlocks_findLocator_d4 (v := 0) (by decide +kernel) rfl ?_
  obtain ⟨Q1, hQ1, h⟩ := bd1_ed h
  refine iq_cwV hS 8 J_HBlocks_findLocator_d5 rfl (pr_stat (vs := [_, _]) lc_1_87 lT_150 rfl rfl (by decide) rfl (Nat.le_of_ble_eq_true rfl) (Nat.le_of_ble_eq_true rfl)) (f_Arrays_fill4_1_ok (dep := dep + 0) hM h) rfl ?_
  intro M1 hM1 h
  replace h := hQ1 _ h
  refine iq_aload_n hS 9 J_HBlocks_findLocator_d8 l0 rfl ?_
  refine iq_getR hS 12 J_HBlocks_findLocator_d9 lf_1_34 (Or.inr ⟨_, rfl⟩) (ka_43 hM1) (ra_43_7 hM1) rfl ?_
  refine iq_iconst hS 13 J_HBlocks_findLocator_d12 (v := 0) (by decide +kernel) rfl ?_
  obtain ⟨Q2, hQ2, h⟩ := bd1_ed h
  refine iq_cwV hS 16 J_HBlocks_findLocator_d13 rfl (pr_stat (vs := [_, _]) lc_1_87 lT_150 rfl rfl (by decide) rfl (Nat.le_of_ble_eq_true rfl) (Nat.le_of_ble_eq_true rfl)) (f_Arrays_fill4_2_ok (dep := dep + 0) hM1 h) rfl ?_
  intro M2 hM2 h
  replace h := hQ2 _ h
  refine iq_aload_n hS 17 J_HBlocks_findLocator_d16 l0 rfl ?_
  refine iq_getR hS 20 J_HBlocks_findLocator_d17 lf_1_31 (Or.inr ⟨_, rfl⟩) (ka_43 hM2) (ra_43_6 hM2) rfl ?_
  refine iq_iconst hS 21 J_HBlocks_findLocator_d20 (v := 0) (by decide +kernel) rfl ?_
  refine iq_iconst hS 22 J_HBlocks_findLocator_d21 (v := 1) (by decide +kernel) rfl ?_
  obtain ⟨g22, h⟩ := ed_gd h
  refine iq_iastore hS 23 J_HBlocks_findLocator_d22 ⟨(ka_50 hM2).1, (ka_50 hM2).2, g22.1, ix_lt (kl_50 hM2) g22.2⟩ rfl ?_
  refine iq_aload_n hS 24 J_HBlocks_findLocator_d23 l0 rfl ?_
  refine iq_getR hS 27 J_HBlocks_findLocator_d24 lf_1_34 (Or.inr ⟨_, rfl⟩) (ka_43 (lw_sI hM2)) (ra_43_7 (lw_sI hM2)) rfl ?_
  refine iq_iconst hS 28 J_HBlocks_findLocator_d27 (v := 0) (by decide +kernel) rfl ?_
  refine iq_iconst hS 29 J_HBlocks_findLocator_d28 (v := 1) (by decide +kernel) rfl ?_
  obtain ⟨g29, h⟩ := ed_gd h
  refine iq_iastore hS 30 J_HBlocks_findLocator_d29 ⟨(ka_51 (lw_sI hM2)).1, (ka_51 (lw_sI hM2)).2, g29.1, ix_lt (kl_51 (lw_sI hM2)) g29.2⟩ rfl ?_
  refine iq_iconst hS 31 J_HBlocks_findLocator_d30 (v := 0) (by decide +kernel) rfl ?_
  refine iq_istore_n hS 32 J_HBlocks_findLocator_d31 (by decide) rfl ?_
  refine iq_iconst hS 33 J_HBlocks_findLocator_d32 (v := 1) (by decide +kernel) rfl ?_
  refine iq_istore_n hS 34 J_HBlocks_findLocator_d33 (by decide) rfl ?_
  refine iq_iconst hS 35 J_HBlocks_findLocator_d34 (v := 1) (by decide +kernel) rfl ?_
  refine iq_istore_n hS 36 J_HBlocks_findLocator_d35 (by decide) rfl ?_
  refine iq_iconst hS 37 J_HBlocks_findLocator_d36 (v := 0) (by decide +kernel) rfl ?_
  refine iq_istore hS 39 J_HBlocks_findLocator_d37 (by decide) rfl ?_
  obtain ⟨Q3, hQ3, h⟩ := bd2_ed h
  have K3 : ∀ (y4 : Int32) (M5 : im_M) (L' : List (Nat × Value)), lw_S w M5 → im_lk L' 1 = some (.int y4) → Q3 (y4, M5) → ia (tb_G L xs) (dep + 1) J_HBlocks_findLocator (rwI w Q) (219, L', [], M5) := by
    intro y4 M5 L' hM5 l6 h
    replace h := hQ3 _ _ h
    refine iq_iload_n hS 220 J_HBlocks_findLocator_d219 l6 rfl ?_
    exact iq_iret J_HBlocks_findLocator_d220 rfl rfl ⟨_, rfl, hM5, ed_some h⟩
  obtain ⟨r3, hr3, hq3⟩ := h
  obtain ⟨n3, hn3⟩ := lp_n hr3
  have I3 : ∀ (n : Nat) (x7 : Int32) (x8 : Int32) (x9 : Int32) (x10 : Int32) (M11 : im_M) (L' : List (Nat × Value)), lw_S w M11 → im_lk L' 0 = some (.ref 43) → im_lk L' 1 = some (.int x7) → im_lk L' 2 = some (.int x8) → im_lk L' 3 = some (.int x9) → im_lk L' 4 = some (.int x10) → lpn (uc5 (f_HBlocks_findLocator_L39)) n (x7, x8, x9, x10, M11) = some r3 → ia (tb_G L xs) (dep + 1) J_HBlocks_findLocator (rwI w Q) (39, L', [], M11) := by
    intro n
    induction n with
    | zero => intro x7 x8 x9 x10 M11 L' hM11 l12 l13 l14 l15 l16 hn; exact (lpn_0 hn).elim
    | succ n ih =>
      intro x7 x8 x9 x10 M11 L' hM11 l12 l13 l14 l15 l16 hn
      have h := lpn_ed5 hn
      unfold f_HBlocks_findLocator_L39 at h
      refine iq_iload hS 41 J_HBlocks_findLocator_d39 l16 rfl ?_
      refine iq_aload_n hS 42 J_HBlocks_findLocator_d41 l12 rfl ?_
      refine iq_getI hS 45 J_HBlocks_findLocator_d42 lf_1_57 (Or.inl rfl) (ka_43 hM11) rfl ?_
      refine iq_icmp_ge hS 48 J_HBlocks_findLocator_d45 (t := 219) rfl (fun q45 => ?_) rfl (fun q45 => ?_)
      · replace h := ed_pos q45 h
        exact K3 _ _ _ hM11 l13 (lq_r h hq3)
      · replace h := ed_neg q45 h
        refine iq_aload_n hS 49 J_HBlocks_findLocator_d48 l12 rfl ?_
        refine iq_getR hS 52 J_HBlocks_findLocator_d49 lf_1_28 (Or.inr ⟨_, rfl⟩) (ka_43 hM11) (ra_43_5 hM11) rfl ?_
        refine iq_iload hS 54 J_HBlocks_findLocator_d52 l16 rfl ?_
        obtain ⟨g54, h⟩ := ed_gd h
        refine iq_iaload hS 55 J_HBlocks_findLocator_d54 ⟨(ka_49 hM11).1, (ka_49 hM11).2, g54.1, ix_lt (kl_49 hM11) g54.2⟩ rfl ?_
        refine iq_istore hS 57 J_HBlocks_findLocator_d55 (by decide) rfl ?_
        refine iq_iconst hS 58 J_HBlocks_findLocator_d57 (v := 1) (by decide +kernel) rfl ?_
        refine iq_istore hS 60 J_HBlocks_findLocator_d58 (by decide) rfl ?_
        obtain ⟨Q17, hQ17, h⟩ := bd1_ed h
        have K17 : ∀ (y18 : Int32) (L' : List (Nat × Value)), im_lk L' 0 = some (.ref 43) → im_lk L' 1 = some (.int x7) → im_lk L' 2 = some (.int x8) → im_lk L' 3 = some (.int x9) → im_lk L' 4 = some (.int x10) → im_lk L' 5 = some (.int y18) → Q17 y18 → ia (tb_G L xs) (dep + 1) J_HBlocks_findLocator (rwI w Q) (105, L', [], M11) := by
          intro y18 L' l19 l20 l21 l22 l23 l24 h
          replace h := hQ17 _ h
          refine iq_iload hS 107 J_HBlocks_findLocator_d105 l24 rfl ?_
          obtain ⟨Q25, hQ25, h⟩ := bd4_ed h
          have J25 : ∀ (y46 : Int32) (y47 : Int32) (y48 : Int32) (M49 : im_M) (L' : List (Nat × Value)), lw_S w M49 → im_lk L' 0 = some (.ref 43) → im_lk L' 1 = some (.int y46) → im_lk L' 2 = some (.int y47) → im_lk L' 3 = some (.int y48) → im_lk L' 4 = some (.int x10) → Q25 (y46, y47, y48, M49) → ia (tb_G L xs) (dep + 1) J_HBlocks_findLocator (rwI w Q) (210, L', [], M49) := by
            intro y46 y47 y48 M49 L' hM49 l50 l51 l52 l53 l54 h
            replace h := hQ25 _ _ _ _ h
            refine iq_iincv hS 213 J_HBlocks_findLocator_d210 (c := 1) (by decide +kernel) l52 (by decide) rfl ?_
            refine iq_iincv hS 216 J_HBlocks_findLocator_d213 (c := 1) (by decide +kernel) (lk_1i l54 (by decide)) (by decide) rfl ?_
            refine iq_goto hS J_HBlocks_findLocator_d216 (t := 39) rfl ?_
            exact ih _ _ _ _ _ _ hM49 (lk_1r (lk_1r l50 (by decide)) (by decide)) (lk_1i (lk_1i l51 (by decide)) (by decide)) (lk_1i lk_1s (by decide)) (lk_1i (lk_1i l53 (by decide)) (by decide)) lk_1s (lq_l h)
          refine iq_if_eq hS 110 J_HBlocks_findLocator_d107 (t := 210) rfl (fun q107 => ?_) rfl (fun q107 => ?_)
          · replace h := ed_pos q107 h
            exact J25 _ _ _ _ _ hM11 l19 l20 l21 l22 l23 (ed_some h)
          · replace h := ed_neg q107 h
            refine iq_aload_n hS 111 J_HBlocks_findLocator_d110 l19 rfl ?_
            refine iq_getR hS 114 J_HBlocks_findLocator_d111 lf_1_31 (Or.inr ⟨_, rfl⟩) (ka_43 hM11) (ra_43_6 hM11) rfl ?_
            refine iq_iconst hS 115 J_HBlocks_findLocator_d114 (v := 0) (by decide +kernel) rfl ?_
            refine iq_aload_n hS 116 J_HBlocks_findLocator_d115 l19 rfl ?_
            refine iq_getR hS 119 J_HBlocks_findLocator_d116 lf_1_37 (Or.inr ⟨_, rfl⟩) (ka_43 hM11) (ra_43_8 hM11) rfl ?_
            refine iq_iconst hS 120 J_HBlocks_findLocator_d119 (v := 0) (by decide +kernel) rfl ?_
            refine iq_bipush hS 122 J_HBlocks_findLocator_d120 (v := 31) (by decide +kernel) rfl ?_
            obtain ⟨g122, h⟩ := ed_gd h
            refine iq_cpy hS 125 J_HBlocks_findLocator_d122 (ga_of (by decide +kernel)) (ka_52 hM11) (ka_50 hM11) (by decide) (kl_50 hM11) (kl_52 hM11) g122 (Nat.le_of_ble_eq_true rfl) rfl ?_
            refine iq_aload_n hS 126 J_HBlocks_findLocator_d125 l19 rfl ?_
            refine iq_iload hS 128 J_HBlocks_findLocator_d126 l24 rfl ?_
            refine iq_iload_n hS 129 J_HBlocks_findLocator_d128 l22 rfl ?_
            obtain ⟨Q26, hQ26, h⟩ := bd1_ed h
            refine iq_cpI hS 132 J_HBlocks_findLocator_d129 rfl (pr_inst (vs := [_, _]) lc_1_123 lT_236 rfl rfl (by decide) (by decide) rfl (Nat.le_of_ble_eq_true rfl) (Nat.le_of_ble_eq_true rfl) (fun _ => Or.inl (pr_b (ka_43 (lw_sA hM11)) (by decide) rfl))) (f_HBlocks_over_ok (dep := dep + 0) (lw_sA hM11) h) rfl ?_
            intro x26 h
            replace h := hQ26 _ h
            refine iq_istore hS 134 J_HBlocks_findLocator_d132 (by decide) rfl ?_
            refine iq_iload_n hS 135 J_HBlocks_findLocator_d134 (lk_1i l21 (by decide)) rfl ?_
            refine iq_istore hS 137 J_HBlocks_findLocator_d135 (by decide) rfl ?_
            obtain ⟨Q27, hQ27, h⟩ := bd1_ed h
            have K27 : ∀ (M28 : im_M) (L' : List (Nat × Value)), lw_S w M28 → im_lk L' 0 = some (.ref 43) → im_lk L' 1 = some (.int x7) → im_lk L' 2 = some (.int x8) → im_lk L' 3 = some (.int x9) → im_lk L' 4 = some (.int x10) → im_lk L' 5 = some (.int y18) → Q27 M28 → ia (tb_G L xs) (dep + 1) J_HBlocks_findLocator (rwI w Q) (175, L', [], M28) := by
              intro M28 L' hM28 l29 l30 l31 l32 l33 l34 h
              replace h := hQ27 _ h
              refine iq_iconst hS 176 J_HBlocks_findLocator_d175 (v := 2) (by decide +kernel) rfl ?_
              refine iq_iload_n hS 177 J_HBlocks_findLocator_d176 l30 rfl ?_
              refine iq_imul hS 178 J_HBlocks_findLocator_d177 rfl ?_
              refine iq_iload hS 180 J_HBlocks_findLocator_d178 l33 rfl ?_
              refine iq_icmp_gt hS 183 J_HBlocks_findLocator_d180 (t := 210) rfl (fun q180 => ?_) rfl (fun q180 => ?_)
              · replace h := ed_pos q180 h
                exact J25 _ _ _ _ _ hM28 l29 l30 l31 l32 l33 (ed_some h)
              · replace h := ed_neg q180 h
                refine iq_iload hS 185 J_HBlocks_findLocator_d183 l33 rfl ?_
                refine iq_iconst hS 186 J_HBlocks_findLocator_d185 (v := 1) (by decide +kernel) rfl ?_
                refine iq_iadd hS 187 J_HBlocks_findLocator_d186 rfl ?_
                refine iq_iload_n hS 188 J_HBlocks_findLocator_d187 l30 rfl ?_
                refine iq_isub hS 189 J_HBlocks_findLocator_d188 rfl ?_
                refine iq_istore_n hS 190 J_HBlocks_findLocator_d189 (by decide) rfl ?_
                refine iq_aload_n hS 191 J_HBlocks_findLocator_d190 (lk_1r l29 (by decide)) rfl ?_
                refine iq_getR hS 194 J_HBlocks_findLocator_d191 lf_1_37 (Or.inr ⟨_, rfl⟩) (ka_43 hM28) (ra_43_8 hM28) rfl ?_
                refine iq_iconst hS 195 J_HBlocks_findLocator_d194 (v := 0) (by decide +kernel) rfl ?_
                refine iq_aload_n hS 196 J_HBlocks_findLocator_d195 (lk_1r l29 (by decide)) rfl ?_
                refine iq_getR hS 199 J_HBlocks_findLocator_d196 lf_1_34 (Or.inr ⟨_, rfl⟩) (ka_43 hM28) (ra_43_7 hM28) rfl ?_
                refine iq_iconst hS 200 J_HBlocks_findLocator_d199 (v := 0) (by decide +kernel) rfl ?_
                refine iq_bipush hS 202 J_HBlocks_findLocator_d200 (v := 31) (by decide +kernel) rfl ?_
                obtain ⟨g202, h⟩ := ed_gd h
                refine iq_cpy hS 205 J_HBlocks_findLocator_d202 (ga_of (by decide +kernel)) (ka_51 hM28) (ka_52 hM28) (by decide) (kl_52 hM28) (kl_51 hM28) g202 (Nat.le_of_ble_eq_true rfl) rfl ?_
                refine iq_iload hS 207 J_HBlocks_findLocator_d205 (lk_1i l34 (by decide)) rfl ?_
                refine iq_istore_n hS 208 J_HBlocks_findLocator_d207 (by decide) rfl ?_
                refine iq_iconst hS 209 J_HBlocks_findLocator_d208 (v := 0) (by decide +kernel) rfl ?_
                refine iq_istore_n hS 210 J_HBlocks_findLocator_d209 (by decide) rfl ?_
                exact J25 _ _ _ _ _ (lw_sA hM28) (lk_1r (lk_1r (lk_1r l29 (by decide)) (by decide)) (by decide)) (lk_1i (lk_1i lk_1s (by decide)) (by decide)) lk_1s (lk_1i lk_1s (by decide)) (lk_1i (lk_1i (lk_1i l33 (by decide)) (by decide)) (by decide)) (ed_some h)
            obtain ⟨r27, hr27, hq27⟩ := h
            obtain ⟨n27, hn27⟩ := lp_n hr27
            have I27 : ∀ (n : Nat) (x35 : Int32) (M36 : im_M) (L' : List (Nat × Value)), lw_S w M36 → im_lk L' 0 = some (.ref 43) → im_lk L' 1 = some (.int x7) → im_lk L' 2 = some (.int x8) → im_lk L' 3 = some (.int x9) → im_lk L' 4 = some (.int x10) → im_lk L' 5 = some (.int y18) → im_lk L' 6 = some (.int x26) → im_lk L' 7 = some (.int x35) → lpn (uc2 (f_HBlocks_findLocator_L137 x7 x8 x9 x10 y18 x26)) n (x35, M36) = some r27 → ia (tb_G L xs) (dep + 1) J_HBlocks_findLocator (rwI w Q) (137, L', [], M36) := by
              intro n
              induction n with
              | zero => intro x35 M36 L' hM36 l37 l38 l39 l40 l41 l42 l43 l44 hn; exact (lpn_0 hn).elim
              | succ n ih =>
                intro x35 M36 L' hM36 l37 l38 l39 l40 l41 l42 l43 l44 hn
                have h := lpn_ed2 hn
                unfold f_HBlocks_findLocator_L137 at h
                refine iq_iload hS 139 J_HBlocks_findLocator_d137 l44 rfl ?_
                refine iq_bipush hS 141 J_HBlocks_findLocator_d139 (v := 30) (by decide +kernel) rfl ?_
                refine iq_icmp_gt hS 144 J_HBlocks_findLocator_d141 (t := 175) rfl (fun q141 => ?_) rfl (fun q141 => ?_)
                · replace h := ed_pos q141 h
                  exact K27 _ _ hM36 l37 l38 l39 l40 l41 l42 (lq_r h hq27)
                · replace h := ed_neg q141 h
                  refine iq_aload_n hS 145 J_HBlocks_findLocator_d144 l37 rfl ?_
                  refine iq_getR hS 148 J_HBlocks_findLocator_d145 lf_1_31 (Or.inr ⟨_, rfl⟩) (ka_43 hM36) (ra_43_6 hM36) rfl ?_
                  refine iq_iload hS 150 J_HBlocks_findLocator_d148 l44 rfl ?_
                  refine iq_dup2 hS 151 J_HBlocks_findLocator_d150 rfl rfl rfl ?_
                  obtain ⟨g151, h⟩ := ed_gd h
                  refine iq_iaload hS 152 J_HBlocks_findLocator_d151 ⟨(ka_50 hM36).1, (ka_50 hM36).2, g151.1, ix_lt (kl_50 hM36) g151.2⟩ rfl ?_
                  refine iq_aload_n hS 153 J_HBlocks_findLocator_d152 l37 rfl ?_
                  refine iq_iload hS 155 J_HBlocks_findLocator_d153 l43 rfl ?_
                  refine iq_aload_n hS 156 J_HBlocks_findLocator_d155 l37 rfl ?_
                  refine iq_getR hS 159 J_HBlocks_findLocator_d156 lf_1_34 (Or.inr ⟨_, rfl⟩) (ka_43 hM36) (ra_43_7 hM36) rfl ?_
                  refine iq_iload hS 161 J_HBlocks_findLocator_d159 l44 rfl ?_
                  refine iq_iload_n hS 162 J_HBlocks_findLocator_d161 l39 rfl ?_
                  refine iq_isub hS 163 J_HBlocks_findLocator_d162 rfl ?_
                  obtain ⟨g163, h⟩ := ed_gd h
                  refine iq_iaload hS 164 J_HBlocks_findLocator_d163 ⟨(ka_51 hM36).1, (ka_51 hM36).2, g163.1, ix_lt (kl_51 hM36) g163.2⟩ rfl ?_
                  obtain ⟨Q45, hQ45, h⟩ := bd1_ed h
                  refine iq_cpI hS 167 J_HBlocks_findLocator_d164 rfl (pr_inst (vs := [_, _]) lc_1_93 lT_151 rfl rfl (by decide) (by decide) rfl (Nat.le_of_ble_eq_true rfl) (Nat.le_of_ble_eq_true rfl) (fun _ => Or.inl (pr_b (ka_43 hM36) (by decide) rfl))) (f_HBlocks_times_ok (dep := dep + 0) hM36 h) rfl ?_
                  intro x45 h
                  replace h := hQ45 _ h
                  refine iq_ixor hS 168 J_HBlocks_findLocator_d167 rfl ?_
                  obtain ⟨g168, h⟩ := ed_gd h
                  refine iq_iastore hS 169 J_HBlocks_findLocator_d168 ⟨(ka_50 hM36).1, (ka_50 hM36).2, g168.1, ix_lt (kl_50 hM36) g168.2⟩ rfl ?_
                  refine iq_iincv hS 172 J_HBlocks_findLocator_d169 (c := 1) (by decide +kernel) l44 (by decide) rfl ?_
                  refine iq_goto hS J_HBlocks_findLocator_d172 (t := 137) rfl ?_
                  exact ih _ _ _ (lw_sI hM36) (lk_1r l37 (by decide)) (lk_1i l38 (by decide)) (lk_1i l39 (by decide)) (lk_1i l40 (by decide)) (lk_1i l41 (by decide)) (lk_1i l42 (by decide)) (lk_1i l43 (by decide)) lk_1s (lq_l h)
            exact I27 n27 _ _ _ (lw_sA hM11) (lk_1r (lk_1r l19 (by decide)) (by decide)) (lk_1i (lk_1i l20 (by decide)) (by decide)) (lk_1i (lk_1i l21 (by decide)) (by decide)) (lk_1i (lk_1i l22 (by decide)) (by decide)) (lk_1i (lk_1i l23 (by decide)) (by decide)) (lk_1i (lk_1i l24 (by decide)) (by decide)) (lk_1i lk_1s (by decide)) lk_1s hn27
        obtain ⟨r17, hr17, hq17⟩ := h
        obtain ⟨n17, hn17⟩ := lp_n hr17
        have I17 : ∀ (n : Nat) (x55 : Int32) (x56 : Int32) (L' : List (Nat × Value)), im_lk L' 0 = some (.ref 43) → im_lk L' 1 = some (.int x7) → im_lk L' 2 = some (.int x8) → im_lk L' 3 = some (.int x9) → im_lk L' 4 = some (.int x10) → im_lk L' 5 = some (.int x55) → im_lk L' 6 = some (.int x56) → lpn (uc2 (f_HBlocks_findLocator_L60 x7 x8 x9 x10 M11)) n (x55, x56) = some r17 → ia (tb_G L xs) (dep + 1) J_HBlocks_findLocator (rwI w Q) (60, L', [], M11) := by
          intro n
          induction n with
          | zero => intro x55 x56 L' l57 l58 l59 l60 l61 l62 l63 hn; exact (lpn_0 hn).elim
          | succ n ih =>
            intro x55 x56 L' l57 l58 l59 l60 l61 l62 l63 hn
            have h := lpn_ed2 hn
            unfold f_HBlocks_findLocator_L60 at h
            refine iq_iload hS 62 J_HBlocks_findLocator_d60 l63 rfl ?_
            refine iq_iload_n hS 63 J_HBlocks_findLocator_d62 l58 rfl ?_
            refine iq_icmp_gt hS 66 J_HBlocks_findLocator_d63 (t := 105) rfl (fun q63 => ?_) rfl (fun q63 => ?_)
            · replace h := ed_pos q63 h
              exact K17 _ _ l57 l58 l59 l60 l61 l62 (lq_r h hq17)
            · replace h := ed_neg q63 h
              refine iq_iload hS 68 J_HBlocks_findLocator_d66 l63 rfl ?_
              refine iq_iload hS 70 J_HBlocks_findLocator_d68 l61 rfl ?_
              refine iq_icmp_gt hS 73 J_HBlocks_findLocator_d70 (t := 105) rfl (fun q70 => ?_) rfl (fun q70 => ?_)
              · replace h := ed_pos q70 h
                exact K17 _ _ l57 l58 l59 l60 l61 l62 (lq_r h hq17)
              · replace h := ed_neg q70 h
                refine iq_iload hS 75 J_HBlocks_findLocator_d73 l62 rfl ?_
                refine iq_aload_n hS 76 J_HBlocks_findLocator_d75 l57 rfl ?_
                refine iq_aload_n hS 77 J_HBlocks_findLocator_d76 l57 rfl ?_
                refine iq_getR hS 80 J_HBlocks_findLocator_d77 lf_1_31 (Or.inr ⟨_, rfl⟩) (ka_43 hM11) (ra_43_6 hM11) rfl ?_
                refine iq_iload hS 82 J_HBlocks_findLocator_d80 l63 rfl ?_
                obtain ⟨g82, h⟩ := ed_gd h
                refine iq_iaload hS 83 J_HBlocks_findLocator_d82 ⟨(ka_50 hM11).1, (ka_50 hM11).2, g82.1, ix_lt (kl_50 hM11) g82.2⟩ rfl ?_
                refine iq_aload_n hS 84 J_HBlocks_findLocator_d83 l57 rfl ?_
                refine iq_getR hS 87 J_HBlocks_findLocator_d84 lf_1_28 (Or.inr ⟨_, rfl⟩) (ka_43 hM11) (ra_43_5 hM11) rfl ?_
                refine iq_iload hS 89 J_HBlocks_findLocator_d87 l61 rfl ?_
                refine iq_iload hS 91 J_HBlocks_findLocator_d89 l63 rfl ?_
                refine iq_isub hS 92 J_HBlocks_findLocator_d91 rfl ?_
                obtain ⟨g92, h⟩ := ed_gd h
                refine iq_iaload hS 93 J_HBlocks_findLocator_d92 ⟨(ka_49 hM11).1, (ka_49 hM11).2, g92.1, ix_lt (kl_49 hM11) g92.2⟩ rfl ?_
                obtain ⟨Q64, hQ64, h⟩ := bd1_ed h
                refine iq_cpI hS 96 J_HBlocks_findLocator_d93 rfl (pr_inst (vs := [_, _]) lc_1_93 lT_151 rfl rfl (by decide) (by decide) rfl (Nat.le_of_ble_eq_true rfl) (Nat.le_of_ble_eq_true rfl) (fun _ => Or.inl (pr_b (ka_43 hM11) (by decide) rfl))) (f_HBlocks_times_ok (dep := dep + 0) hM11 h) rfl ?_
                intro x64 h
                replace h := hQ64 _ h
                refine iq_ixor hS 97 J_HBlocks_findLocator_d96 rfl ?_
                refine iq_istore hS 99 J_HBlocks_findLocator_d97 (by decide) rfl ?_
                refine iq_iincv hS 102 J_HBlocks_findLocator_d99 (c := 1) (by decide +kernel) (lk_1i l63 (by decide)) (by decide) rfl ?_
                refine iq_goto hS J_HBlocks_findLocator_d102 (t := 60) rfl ?_
                exact ih _ _ _ (lk_1r (lk_1r l57 (by decide)) (by decide)) (lk_1i (lk_1i l58 (by decide)) (by decide)) (lk_1i (lk_1i l59 (by decide)) (by decide)) (lk_1i (lk_1i l60 (by decide)) (by decide)) (lk_1i (lk_1i l61 (by decide)) (by decide)) (lk_1i lk_1s (by decide)) lk_1s (lq_l h)
        exact I17 n17 _ _ _ (lk_1r (lk_1r l12 (by decide)) (by decide)) (lk_1i (lk_1i l13 (by decide)) (by decide)) (lk_1i (lk_1i l14 (by decide)) (by decide)) (lk_1i (lk_1i l15 (by decide)) (by decide)) (lk_1i (lk_1i l16 (by decide)) (by decide)) (lk_1i lk_1s (by decide)) lk_1s hn17
  exact I3 n3 _ _ _ _ _ _ (lw_sI (lw_sI hM2)) (lk_1r (lk_1r (lk_1r (lk_1r l0 (by decide)) (by decide)) (by decide)) (by decide)) (lk_1i (lk_1i (lk_1i lk_1s (by decide)) (by decide)) (by decide)) (lk_1i (lk_1i lk_1s (by decide)) (by decide)) (lk_1i lk_1s (by decide)) lk_1s hn3
theorem f_HBlocks_findLocator_fr {M : im_M} {r : Int32 × im_M} (h : f_HBlocks_findLocator M = some r) : fr 7881299347898368 [] M r.2 := by
  replace h : ed (f_HBlocks_findLocator M) (fun x => x = r) := ⟨r, h, rfl⟩
  unfold f_HBlocks_findLocator at h
  obtain ⟨Q1, hQ1, h⟩ := bd1_ed h
  obtain ⟨M1, e1, h⟩ := h
  replace h := hQ1 _ h
  obtain ⟨Q2, hQ2, h⟩ := bd1_ed h
  obtain ⟨M2, e2, h⟩ := h
  replace h := hQ2 _ h
  obtain ⟨g22, h⟩ := ed_gd h
  obtain ⟨g29, h⟩ := ed_gd h
  obtain ⟨Q3, hQ3, h⟩ := bd2_ed h
  have K3 : ∀ (y4 : Int32) (M5 : im_M), fr 7881299347898368 [] M M5 → Q3 (y4, M5) → fr 7881299347898368 [] M r.2 := by
    intro y4 M5 hM5 h
    replace h := hQ3 _ _ h
    exact fr_ret h hM5
  obtain ⟨r3, hr3, hq3⟩ := h
  obtain ⟨n3, hn3⟩ := lp_n hr3
  have I3 : ∀ (n : Nat) (x6 : Int32) (x7 : Int32) (x8 : Int32) (x9 : Int32) (M10 : im_M), fr 7881299347898368 [] M M10 → lpn (uc5 (f_HBlocks_findLocator_L39)) n (x6, x7, x8, x9, M10) = some r3 → fr 7881299347898368 [] M r.2 := by
    intro n
    induction n with
    | zero => intro x6 x7 x8 x9 M10 hM10 hn; exact (lpn_0 hn).elim
    | succ n ih =>
      intro x6 x7 x8 x9 M10 hM10 hn
      have h := lpn_ed5 hn
      unfold f_HBlocks_findLocator_L39 at h
      by_cases q45 : (im_i M10 43 12) ≤ x9
      · replace h := ed_pos q45 h
        exact K3 _ _ hM10 (lq_r h hq3)
      · replace h := ed_neg q45 h
        obtain ⟨g54, h⟩ := ed_gd h
        obtain ⟨Q11, hQ11, h⟩ := bd1_ed h
        have K11 : ∀ (y12 : Int32), Q11 y12 → fr 7881299347898368 [] M r.2 := by
          intro y12 h
          replace h := hQ11 _ h
          obtain ⟨Q13, hQ13, h⟩ := bd4_ed h
          have J13 : ∀ (y20 : Int32) (y21 : Int32) (y22 : Int32) (M23 : im_M), fr 7881299347898368 [] M M23 → Q13 (y20, y21, y22, M23) → fr 7881299347898368 [] M r.2 := by
            intro y20 y21 y22 M23 hM23 h
            replace h := hQ13 _ _ _ _ h
            exact ih _ _ _ _ _ hM23 (lq_l h)
          by_cases q107 : y12 = 0
          · replace h := ed_pos q107 h
            exact J13 _ _ _ _ hM10 (ed_some h)
          · replace h := ed_neg q107 h
            obtain ⟨g122, h⟩ := ed_gd h
            obtain ⟨Q14, hQ14, h⟩ := bd1_ed h
            obtain ⟨x14, e14, h⟩ := h
            replace h := hQ14 _ h
            obtain ⟨Q15, hQ15, h⟩ := bd1_ed h
            have K15 : ∀ (M16 : im_M), fr 7881299347898368 [] M M16 → Q15 M16 → fr 7881299347898368 [] M r.2 := by
              intro M16 hM16 h
              replace h := hQ15 _ h
              by_cases q180 : x9 < ((2 : Int32) * x6)
              · replace h := ed_pos q180 h
                exact J13 _ _ _ _ hM16 (ed_some h)
              · replace h := ed_neg q180 h
                obtain ⟨g202, h⟩ := ed_gd h
                exact J13 _ _ _ _ (fr_A (by decide) hM16) (ed_some h)
            obtain ⟨r15, hr15, hq15⟩ := h
            obtain ⟨n15, hn15⟩ := lp_n hr15
            have I15 : ∀ (n : Nat) (x17 : Int32) (M18 : im_M), fr 7881299347898368 [] M M18 → lpn (uc2 (f_HBlocks_findLocator_L137 x6 x7 x8 x9 y12 x14)) n (x17, M18) = some r15 → fr 7881299347898368 [] M r.2 := by
              intro n
              induction n with
              | zero => intro x17 M18 hM18 hn; exact (lpn_0 hn).elim
              | succ n ih =>
                intro x17 M18 hM18 hn
                have h := lpn_ed2 hn
                unfold f_HBlocks_findLocator_L137 at h
                by_cases q141 : 30 < x17
                · replace h := ed_pos q141 h
                  exact K15 _ hM18 (lq_r h hq15)
                · replace h := ed_neg q141 h
                  obtain ⟨g151, h⟩ := ed_gd h
                  obtain ⟨g163, h⟩ := ed_gd h
                  obtain ⟨Q19, hQ19, h⟩ := bd1_ed h
                  obtain ⟨x19, e19, h⟩ := h
                  replace h := hQ19 _ h
                  obtain ⟨g168, h⟩ := ed_gd h
                  exact ih _ _ (fr_I (by decide) hM18) (lq_l h)
            exact I15 n15 _ _ (fr_A (by decide) hM10) hn15
        obtain ⟨r11, hr11, hq11⟩ := h
        obtain ⟨n11, hn11⟩ := lp_n hr11
        have I11 : ∀ (n : Nat) (x29 : Int32) (x30 : Int32), lpn (uc2 (f_HBlocks_findLocator_L60 x6 x7 x8 x9 M10)) n (x29, x30) = some r11 → fr 7881299347898368 [] M r.2 := by
          intro n
          induction n with
          | zero => intro x29 x30 hn; exact (lpn_0 hn).elim
          | succ n ih =>
            intro x29 x30 hn
            have h := lpn_ed2 hn
            unfold f_HBlocks_findLocator_L60 at h
            by_cases q63 : x6 < x30
            · replace h := ed_pos q63 h
              exact K11 _ (lq_r h hq11)
            · replace h := ed_neg q63 h
              by_cases q70 : x9 < x30
              · replace h := ed_pos q70 h
                exact K11 _ (lq_r h hq11)
              · replace h := ed_neg q70 h
                obtain ⟨g82, h⟩ := ed_gd h
                obtain ⟨g92, h⟩ := ed_gd h
                obtain ⟨Q31, hQ31, h⟩ := bd1_ed h
                obtain ⟨x31, e31, h⟩ := h
                replace h := hQ31 _ h
                exact ih _ _ (lq_l h)
        exact I11 n11 _ _ hn11
  exact I3 n3 _ _ _ _ _ (fr_I (by decide) (fr_I (by decide) (fr_tr (fr_mono (by decide) (by decide +kernel) (f_Arrays_fill4_2_fr e2)) (fr_tr (fr_mono (by decide) (by decide +kernel) (f_Arrays_fill4_1_fr e1)) fr_refl)))) hn3
noncomputable def f_Arrays_fill4_3_L5 (v2 : Int32) (v3 : Int32) (x4 : Int32) (M5 : im_M) : Option ((Int32 × im_M) ⊕ (im_M)) := if v3 ≤ x4 then some (.inr M5) else gd (inb x4 30) <| some (.inl ((x4 + 1), (im_setI M5 53 (Int32.toNatClampNeg x4) v2)))
noncomputable def f_Arrays_fill4_3 (p1 : Int32) (M : im_M) : Option (im_M) := bd1 (lp (uc2 (f_Arrays_fill4_3_L5 p1 30)) (0, M)) fun (M6 : im_M) => some M6
theorem f_Arrays_fill4_3_ok {L : Nat} {xs : Nat → Int32} {dep : Nat} {w : Bool} {p1 : Int32} {M : im_M} {Q : im_M → Prop} (hM : lw_S w M) (h : ed (f_Arrays_fill4_3 p1 M) Q) : ia (tb_G L xs) dep J_Arrays_fill4 (rwV w Q) (0, lv_args 0 [.ref 53, .int p1], [], M) := by
  have hS : im_St (tb_G L xs) dep J_Arrays_fill4 (ia (tb_G L xs) dep J_Arrays_fill4 (rwV w Q)) := ia_St
  unfold f_Arrays_fill4_3 at h
  have l0 : im_lk (lv_args 0 [.ref 53, .int p1]) 0 = some (.ref 53) := rfl
  have l1 : im_lk (lv_args 0 [.ref 53, .int p1]) 1 = some (.int p1) := rfl
  refine iq_iconst hS 1 J_Arrays_fill4_d0 (v := 0) (by decide +kernel) rfl ?_
  refine iq_istore_n hS 2 J_Arrays_fill4_d1 (by decide) rfl ?_
  refine iq_aload_n hS 3 J_Arrays_fill4_d2 (lk_1r l0 (by decide)) rfl ?_
  refine iq_alenv hS 4 J_Arrays_fill4_d3 (v := 30) (ka_53 hM) (by decide) (by decide) (kl_53 hM) (by decide +kernel) rfl ?_
  refine iq_istore_n hS 5 J_Arrays_fill4_d4 (by decide) rfl ?_
  obtain ⟨Q1, hQ1, h⟩ := bd1_ed h
  have K1 : ∀ (M2 : im_M) (L' : List (Nat × Value)), lw_S w M2 → Q1 M2 → ia (tb_G L xs) dep J_Arrays_fill4 (rwV w Q) (20, L', [], M2) := by
    intro M2 L' hM2  h
    replace h := hQ1 _ h
    exact iq_ret J_Arrays_fill4_d20 rfl ⟨rfl, hM2, ed_some h⟩
  obtain ⟨r1, hr1, hq1⟩ := h
  obtain ⟨n1, hn1⟩ := lp_n hr1
  have I1 : ∀ (n : Nat) (x3 : Int32) (M4 : im_M) (L' : List (Nat × Value)), lw_S w M4 → im_lk L' 0 = some (.ref 53) → im_lk L' 1 = some (.int p1) → im_lk L' 2 = some (.int x3) → im_lk L' 3 = some (.int 30) → lpn (uc2 (f_Arrays_fill4_3_L5 p1 30)) n (x3, M4) = some r1 → ia (tb_G L xs) dep J_Arrays_fill4 (rwV w Q) (5, L', [], M4) := by
    intro n
    induction n with
    | zero => intro x3 M4 L' hM4 l5 l6 l7 l8 hn; exact (lpn_0 hn).elim
    | succ n ih =>
      intro x3 M4 L' hM4 l5 l6 l7 l8 hn
      have h := lpn_ed2 hn
      unfold f_Arrays_fill4_3_L5 at h
      refine iq_iload_n hS 6 J_Arrays_fill4_d5 l7 rfl ?_
      refine iq_iload_n hS 7 J_Arrays_fill4_d6 l8 rfl ?_
      refine iq_icmp_ge hS 10 J_Arrays_fill4_d7 (t := 20) rfl (fun q7 => ?_) rfl (fun q7 => ?_)
      · replace h := ed_pos q7 h
        exact K1 _ _ hM4  (lq_r h hq1)
      · replace h := ed_neg q7 h
        refine iq_aload_n hS 11 J_Arrays_fill4_d10 l5 rfl ?_
        refine iq_iload_n hS 12 J_Arrays_fill4_d11 l7 rfl ?_
        refine iq_iload_n hS 13 J_Arrays_fill4_d12 l6 rfl ?_
        obtain ⟨g13, h⟩ := ed_gd h
        refine iq_iastore hS 14 J_Arrays_fill4_d13 ⟨(ka_53 hM4).1, (ka_53 hM4).2, g13.1, ix_lt (kl_53 hM4) g13.2⟩ rfl ?_
        refine iq_iincv hS 17 J_Arrays_fill4_d14 (c := 1) (by decide +kernel) l7 (by decide) rfl ?_
        refine iq_goto hS J_Arrays_fill4_d17 (t := 5) rfl ?_
        exact ih _ _ _ (lw_sI hM4) (lk_1r l5 (by decide)) (lk_1i l6 (by decide)) lk_1s (lk_1i l8 (by decide)) (lq_l h)
  exact I1 n1 _ _ _ hM (lk_1r (lk_1r l0 (by decide)) (by decide)) (lk_1i (lk_1i l1 (by decide)) (by decide)) (lk_1i lk_1s (by decide)) lk_1s hn1
theorem f_Arrays_fill4_3_fr {p1 : Int32} {M : im_M} {r : im_M} (h : f_Arrays_fill4_3 p1 M = some r) : fr 9007199254740992 [] M r := by
  replace h : ed (f_Arrays_fill4_3 p1 M) (fun x => x = r) := ⟨r, h, rfl⟩
  unfold f_Arrays_fill4_3 at h
  obtain ⟨Q1, hQ1, h⟩ := bd1_ed h
  have K1 : ∀ (M2 : im_M), fr 9007199254740992 [] M M2 → Q1 M2 → fr 9007199254740992 [] M r := by
    intro M2 hM2 h
    replace h := hQ1 _ h
    exact fr_retV h hM2
  obtain ⟨r1, hr1, hq1⟩ := h
  obtain ⟨n1, hn1⟩ := lp_n hr1
  have I1 : ∀ (n : Nat) (x3 : Int32) (M4 : im_M), fr 9007199254740992 [] M M4 → lpn (uc2 (f_Arrays_fill4_3_L5 p1 30)) n (x3, M4) = some r1 → fr 9007199254740992 [] M r := by
    intro n
    induction n with
    | zero => intro x3 M4 hM4 hn; exact (lpn_0 hn).elim
    | succ n ih =>
      intro x3 M4 hM4 hn
      have h := lpn_ed2 hn
      unfold f_Arrays_fill4_3_L5 at h
      by_cases q7 : 30 ≤ x3
      · replace h := ed_pos q7 h
        exact K1 _ hM4 (lq_r h hq1)
      · replace h := ed_neg q7 h
        obtain ⟨g13, h⟩ := ed_gd h
        exact ih _ _ (fr_I (by decide) hM4) (lq_l h)
  exact I1 n1 _ _ fr_refl hn1
noncomputable def f_HBlocks_makeEvaluator_L20 (v6 : Int32) (x7 : Int32) (M8 : im_M) : Option ((Int32 × im_M) ⊕ (im_M)) := if v6 < x7 then some (.inr M8) else gd (inb v6 30) <| gd (inb x7 31) <| gd (inb (v6 - x7) 30) <| bd1 (f_HBlocks_times (im_i M8 50 (Int32.toNatClampNeg x7)) (im_i M8 49 (Int32.toNatClampNeg (v6 - x7))) M8) fun (x9 : Int32) => gd (inb v6 30) <| some (.inl ((x7 + 1), (im_setI M8 53 (Int32.toNatClampNeg v6) ((im_i M8 53 (Int32.toNatClampNeg v6)) ^^^ x9))))
noncomputable def f_HBlocks_makeEvaluator_L10 (x3 : Int32) (M4 : im_M) : Option ((Int32 × im_M) ⊕ (im_M)) := if (im_i M4 43 12) ≤ x3 then some (.inr M4) else bd1 (lp (uc2 (f_HBlocks_makeEvaluator_L20 x3)) (0, M4)) fun (M10 : im_M) => some (.inl ((x3 + 1), M10))
noncomputable def f_HBlocks_makeEvaluator (M : im_M) : Option (im_M) := bd1 (f_Arrays_fill4_3 0 M) fun (M1 : im_M) => bd1 (lp (uc2 (f_HBlocks_makeEvaluator_L10)) (0, M1)) fun (M11 : im_M) => some M11
theorem J_HBlocks_makeEvaluator_d0 : decode J_HBlocks_makeEvaluator.2.1 0 = .ok (.aload_n 0, 1) := by decide +kernel
theorem J_HBlocks_makeEvaluator_d1 : decode J_HBlocks_makeEvaluator.2.1 1 = .ok (.getfield 40, 3) := by decide +kernel
theorem J_HBlocks_makeEvaluator_d4 : decode J_HBlocks_makeEvaluator.2.1 4 = .ok (.iconst 0, 1) := by decide +kernel
theorem J_HBlocks_makeEvaluator_d5 : decode J_HBlocks_makeEvaluator.2.1 5 = .ok (.invokestatic 87, 3) := by decide +kernel
theorem J_HBlocks_makeEvaluator_d8 : decode J_HBlocks_makeEvaluator.2.1 8 = .ok (.iconst 0, 1) := by decide +kernel
theorem J_HBlocks_makeEvaluator_d9 : decode J_HBlocks_makeEvaluator.2.1 9 = .ok (.istore_n 1, 1) := by decide +kernel
theorem J_HBlocks_makeEvaluator_d10 : decode J_HBlocks_makeEvaluator.2.1 10 = .ok (.iload_n 1, 1) := by decide +kernel
theorem J_HBlocks_makeEvaluator_d11 : decode J_HBlocks_makeEvaluator.2.1 11 = .ok (.aload_n 0, 1) := by decide +kernel
theorem J_HBlocks_makeEvaluator_d12 : decode J_HBlocks_makeEvaluator.2.1 12 = .ok (.getfield 57, 3) := by decide +kernel
theorem J_HBlocks_makeEvaluator_d15 : decode J_HBlocks_makeEvaluator.2.1 15 = .ok (.if_icmp .ge 49, 3) := by decide +kernel
theorem J_HBlocks_makeEvaluator_d18 : decode J_HBlocks_makeEvaluator.2.1 18 = .ok (.iconst 0, 1) := by decide +kernel
theorem J_HBlocks_makeEvaluator_d19 : decode J_HBlocks_makeEvaluator.2.1 19 = .ok (.istore_n 2, 1) := by decide +kernel
theorem J_HBlocks_makeEvaluator_d20 : decode J_HBlocks_makeEvaluator.2.1 20 = .ok (.iload_n 2, 1) := by decide +kernel
theorem J_HBlocks_makeEvaluator_d21 : decode J_HBlocks_makeEvaluator.2.1 21 = .ok (.iload_n 1, 1) := by decide +kernel
theorem J_HBlocks_makeEvaluator_d22 : decode J_HBlocks_makeEvaluator.2.1 22 = .ok (.if_icmp .gt 36, 3) := by decide +kernel
theorem J_HBlocks_makeEvaluator_d25 : decode J_HBlocks_makeEvaluator.2.1 25 = .ok (.aload_n 0, 1) := by decide +kernel
theorem J_HBlocks_makeEvaluator_d26 : decode J_HBlocks_makeEvaluator.2.1 26 = .ok (.getfield 40, 3) := by decide +kernel
theorem J_HBlocks_makeEvaluator_d29 : decode J_HBlocks_makeEvaluator.2.1 29 = .ok (.iload_n 1, 1) := by decide +kernel
theorem J_HBlocks_makeEvaluator_d30 : decode J_HBlocks_makeEvaluator.2.1 30 = .ok (.dup2, 1) := by decide +kernel
theorem J_HBlocks_makeEvaluator_d31 : decode J_HBlocks_makeEvaluator.2.1 31 = .ok (.iaload, 1) := by decide +kernel
theorem J_HBlocks_makeEvaluator_d32 : decode J_HBlocks_makeEvaluator.2.1 32 = .ok (.aload_n 0, 1) := by decide +kernel
theorem J_HBlocks_makeEvaluator_d33 : decode J_HBlocks_makeEvaluator.2.1 33 = .ok (.aload_n 0, 1) := by decide +kernel
theorem J_HBlocks_makeEvaluator_d34 : decode J_HBlocks_makeEvaluator.2.1 34 = .ok (.getfield 31, 3) := by decide +kernel
theorem J_HBlocks_makeEvaluator_d37 : decode J_HBlocks_makeEvaluator.2.1 37 = .ok (.iload_n 2, 1) := by decide +kernel
theorem J_HBlocks_makeEvaluator_d38 : decode J_HBlocks_makeEvaluator.2.1 38 = .ok (.iaload, 1) := by decide +kernel
theorem J_HBlocks_makeEvaluator_d39 : decode J_HBlocks_makeEvaluator.2.1 39 = .ok (.aload_n 0, 1) := by decide +kernel
theorem J_HBlocks_makeEvaluator_d40 : decode J_HBlocks_makeEvaluator.2.1 40 = .ok (.getfield 28, 3) := by decide +kernel
theorem J_HBlocks_makeEvaluator_d43 : decode J_HBlocks_makeEvaluator.2.1 43 = .ok (.iload_n 1, 1) := by decide +kernel
theorem J_HBlocks_makeEvaluator_d44 : decode J_HBlocks_makeEvaluator.2.1 44 = .ok (.iload_n 2, 1) := by decide +kernel
theorem J_HBlocks_makeEvaluator_d45 : decode J_HBlocks_makeEvaluator.2.1 45 = .ok (.isub, 1) := by decide +kernel
theorem J_HBlocks_makeEvaluator_d46 : decode J_HBlocks_makeEvaluator.2.1 46 = .ok (.iaload, 1) := by decide +kernel
theorem J_HBlocks_makeEvaluator_d47 : decode J_HBlocks_makeEvaluator.2.1 47 = .ok (.invokevirtual 93, 3) := by decide +kernel
theorem J_HBlocks_makeEvaluator_d50 : decode J_HBlocks_makeEvaluator.2.1 50 = .ok (.ixor, 1) := by decide +kernel
theorem J_HBlocks_makeEvaluator_d51 : decode J_HBlocks_makeEvaluator.2.1 51 = .ok (.iastore, 1) := by decide +kernel
theorem J_HBlocks_makeEvaluator_d52 : decode J_HBlocks_makeEvaluator.2.1 52 = .ok (.iinc 2 1, 3) := by decide +kernel
theorem J_HBlocks_makeEvaluator_d55 : decode J_HBlocks_makeEvaluator.2.1 55 = .ok (.goto (-35), 3) := by decide +kernel
theorem J_HBlocks_makeEvaluator_d58 : decode J_HBlocks_makeEvaluator.2.1 58 = .ok (.iinc 1 1, 3) := by decide +kernel
theorem J_HBlocks_makeEvaluator_d61 : decode J_HBlocks_makeEvaluator.2.1 61 = .ok (.goto (-51), 3) := by decide +kernel
theorem J_HBlocks_makeEvaluator_d64 : decode J_HBlocks_makeEvaluator.2.1 64 = .ok (.return_, 1) := by decide +kernel
theorem f_HBlocks_makeEvaluator_ok {L : Nat} {xs : Nat → Int32} {dep : Nat} {w : Bool} {M : im_M} {Q : im_M → Prop} (hM : lw_S w M) (h : ed (f_HBlocks_makeEvaluator M) Q) : ia (tb_G L xs) (dep + 1) J_HBlocks_makeEvaluator (rwV w Q) (0, lv_args 0 [.ref 43], [], M) := by
  have hS : im_St (tb_G L xs) (dep + 1) J_HBlocks_makeEvaluator (ia (tb_G L xs) (dep + 1) J_HBlocks_makeEvaluator (rwV w Q)) := ia_St
  unfold f_HBlocks_makeEvaluator at h
  have l0 : im_lk (lv_args 0 [.ref 43]) 0 = some (.ref 43) := rfl
  refine iq_aload_n hS 1 J_HBlocks_makeEvaluator_d0 l0 rfl ?_
  refine iq_getR hS 4 J_HBlocks_makeEvaluator_d1 lf_1_40 (Or.inr ⟨_, rfl⟩) (ka_43 hM) (ra_43_9 hM) rfl ?_
  refine iq_iconst hS 5 J_HBlocks_makeEvaluator_d4 (v := 0) (by decide +kernel) rfl ?_
  obtain ⟨Q1, hQ1, h⟩ := bd1_ed h
  refine iq_cwV hS 8 J_HBlocks_makeEvaluator_d5 rfl (pr_stat (vs := [_, _]) lc_1_87 lT_150 rfl rfl (by decide) rfl (Nat.le_of_ble_eq_true rfl) (Nat.le_of_ble_eq_true rfl)) (f_Arrays_fill4_3_ok (dep := dep + 0) hM h) rfl ?_
  intro M1 hM1 h
  replace h := hQ1 _ h
  refine iq_iconst hS 9 J_HBlocks_makeEvaluator_d8 (v := 0) (by decide +kernel) rfl ?_
  refine iq_istore_n hS 10 J_HBlocks_makeEvaluator_d9 (by decide) rfl ?_
  obtain ⟨Q2, hQ2, h⟩ := bd1_ed h
  have K2 : ∀ (M3 : im_M) (L' : List (Nat × Value)), lw_S w M3 → Q2 M3 → ia (tb_G L xs) (dep + 1) J_HBlocks_makeEvaluator (rwV w Q) (64, L', [], M3) := by
    intro M3 L' hM3  h
    replace h := hQ2 _ h
    exact iq_ret J_HBlocks_makeEvaluator_d64 rfl ⟨rfl, hM3, ed_some h⟩
  obtain ⟨r2, hr2, hq2⟩ := h
  obtain ⟨n2, hn2⟩ := lp_n hr2
  have I2 : ∀ (n : Nat) (x4 : Int32) (M5 : im_M) (L' : List (Nat × Value)), lw_S w M5 → im_lk L' 0 = some (.ref 43) → im_lk L' 1 = some (.int x4) → lpn (uc2 (f_HBlocks_makeEvaluator_L10)) n (x4, M5) = some r2 → ia (tb_G L xs) (dep + 1) J_HBlocks_makeEvaluator (rwV w Q) (10, L', [], M5) := by
    intro n
    induction n with
    | zero => intro x4 M5 L' hM5 l6 l7 hn; exact (lpn_0 hn).elim
    | succ n ih =>
      intro x4 M5 L' hM5 l6 l7 hn
      have h := lpn_ed2 hn
      unfold f_HBlocks_makeEvaluator_L10 at h
      refine iq_iload_n hS 11 J_HBlocks_makeEvaluator_d10 l7 rfl ?_
      refine iq_aload_n hS 12 J_HBlocks_makeEvaluator_d11 l6 rfl ?_
      refine iq_getI hS 15 J_HBlocks_makeEvaluator_d12 lf_1_57 (Or.inl rfl) (ka_43 hM5) rfl ?_
      refine iq_icmp_ge hS 18 J_HBlocks_makeEvaluator_d15 (t := 64) rfl (fun q15 => ?_) rfl (fun q15 => ?_)
      · replace h := ed_pos q15 h
        exact K2 _ _ hM5  (lq_r h hq2)
      · replace h := ed_neg q15 h
        refine iq_iconst hS 19 J_HBlocks_makeEvaluator_d18 (v := 0) (by decide +kernel) rfl ?_
        refine iq_istore_n hS 20 J_HBlocks_makeEvaluator_d19 (by decide) rfl ?_
        obtain ⟨Q8, hQ8, h⟩ := bd1_ed h
        have K8 : ∀ (M9 : im_M) (L' : List (Nat × Value)), lw_S w M9 → im_lk L' 0 = some (.ref 43) → im_lk L' 1 = some (.int x4) → Q8 M9 → ia (tb_G L xs) (dep + 1) J_HBlocks_makeEvaluator (rwV w Q) (58, L', [], M9) := by
          intro M9 L' hM9 l10 l11 h
          replace h := hQ8 _ h
          refine iq_iincv hS 61 J_HBlocks_makeEvaluator_d58 (c := 1) (by decide +kernel) l11 (by decide) rfl ?_
          refine iq_goto hS J_HBlocks_makeEvaluator_d61 (t := 10) rfl ?_
          exact ih _ _ _ hM9 (lk_1r l10 (by decide)) lk_1s (lq_l h)
        obtain ⟨r8, hr8, hq8⟩ := h
        obtain ⟨n8, hn8⟩ := lp_n hr8
        have I8 : ∀ (n : Nat) (x12 : Int32) (M13 : im_M) (L' : List (Nat × Value)), lw_S w M13 → im_lk L' 0 = some (.ref 43) → im_lk L' 1 = some (.int x4) → im_lk L' 2 = some (.int x12) → lpn (uc2 (f_HBlocks_makeEvaluator_L20 x4)) n (x12, M13) = some r8 → ia (tb_G L xs) (dep + 1) J_HBlocks_makeEvaluator (rwV w Q) (20, L', [], M13) := by
          intro n
          induction n with
          | zero => intro x12 M13 L' hM13 l14 l15 l16 hn; exact (lpn_0 hn).elim
          | succ n ih =>
            intro x12 M13 L' hM13 l14 l15 l16 hn
            have h := lpn_ed2 hn
            unfold f_HBlocks_makeEvaluator_L20 at h
            refine iq_iload_n hS 21 J_HBlocks_makeEvaluator_d20 l16 rfl ?_
            refine iq_iload_n hS 22 J_HBlocks_makeEvaluator_d21 l15 rfl ?_
            refine iq_icmp_gt hS 25 J_HBlocks_makeEvaluator_d22 (t := 58) rfl (fun q22 => ?_) rfl (fun q22 => ?_)
            · replace h := ed_pos q22 h
              exact K8 _ _ hM13 l14 l15 (lq_r h hq8)
            · replace h := ed_neg q22 h
              refine iq_aload_n hS 26 J_HBlocks_makeEvaluator_d25 l14 rfl ?_
              refine iq_getR hS 29 J_HBlocks_makeEvaluator_d26 lf_1_40 (Or.inr ⟨_, rfl⟩) (ka_43 hM13) (ra_43_9 hM13) rfl ?_
              refine iq_iload_n hS 30 J_HBlocks_makeEvaluator_d29 l15 rfl ?_
              refine iq_dup2 hS 31 J_HBlocks_makeEvaluator_d30 rfl rfl rfl ?_
              obtain ⟨g31, h⟩ := ed_gd h
              refine iq_iaload hS 32 J_HBlocks_makeEvaluator_d31 ⟨(ka_53 hM13).1, (ka_53 hM13).2, g31.1, ix_lt (kl_53 hM13) g31.2⟩ rfl ?_
              refine iq_aload_n hS 33 J_HBlocks_makeEvaluator_d32 l14 rfl ?_
              refine iq_aload_n hS 34 J_HBlocks_makeEvaluator_d33 l14 rfl ?_
              refine iq_getR hS 37 J_HBlocks_makeEvaluator_d34 lf_1_31 (Or.inr ⟨_, rfl⟩) (ka_43 hM13) (ra_43_6 hM13) rfl ?_
              refine iq_iload_n hS 38 J_HBlocks_makeEvaluator_d37 l16 rfl ?_
              obtain ⟨g38, h⟩ := ed_gd h
              refine iq_iaload hS 39 J_HBlocks_makeEvaluator_d38 ⟨(ka_50 hM13).1, (ka_50 hM13).2, g38.1, ix_lt (kl_50 hM13) g38.2⟩ rfl ?_
              refine iq_aload_n hS 40 J_HBlocks_makeEvaluator_d39 l14 rfl ?_
              refine iq_getR hS 43 J_HBlocks_makeEvaluator_d40 lf_1_28 (Or.inr ⟨_, rfl⟩) (ka_43 hM13) (ra_43_5 hM13) rfl ?_
              refine iq_iload_n hS 44 J_HBlocks_makeEvaluator_d43 l15 rfl ?_
              refine iq_iload_n hS 45 J_HBlocks_makeEvaluator_d44 l16 rfl ?_
              refine iq_isub hS 46 J_HBlocks_makeEvaluator_d45 rfl ?_
              obtain ⟨g46, h⟩ := ed_gd h
              refine iq_iaload hS 47 J_HBlocks_makeEvaluator_d46 ⟨(ka_49 hM13).1, (ka_49 hM13).2, g46.1, ix_lt (kl_49 hM13) g46.2⟩ rfl ?_
              obtain ⟨Q17, hQ17, h⟩ := bd1_ed h
              refine iq_cpI hS 50 J_HBlocks_makeEvaluator_d47 rfl (pr_inst (vs := [_, _]) lc_1_93 lT_151 rfl rfl (by decide) (by decide) rfl (Nat.le_of_ble_eq_true rfl) (Nat.le_of_ble_eq_true rfl) (fun _ => Or.inl (pr_b (ka_43 hM13) (by decide) rfl))) (f_HBlocks_times_ok (dep := dep + 0) hM13 h) rfl ?_
              intro x17 h
              replace h := hQ17 _ h
              refine iq_ixor hS 51 J_HBlocks_makeEvaluator_d50 rfl ?_
              obtain ⟨g51, h⟩ := ed_gd h
              refine iq_iastore hS 52 J_HBlocks_makeEvaluator_d51 ⟨(ka_53 hM13).1, (ka_53 hM13).2, g51.1, ix_lt (kl_53 hM13) g51.2⟩ rfl ?_
              refine iq_iincv hS 55 J_HBlocks_makeEvaluator_d52 (c := 1) (by decide +kernel) l16 (by decide) rfl ?_
              refine iq_goto hS J_HBlocks_makeEvaluator_d55 (t := 20) rfl ?_
              exact ih _ _ _ (lw_sI hM13) (lk_1r l14 (by decide)) (lk_1i l15 (by decide)) lk_1s (lq_l h)
        exact I8 n8 _ _ _ hM5 (lk_1r l6 (by decide)) (lk_1i l7 (by decide)) lk_1s hn8
  exact I2 n2 _ _ _ hM1 (lk_1r l0 (by decide)) lk_1s hn2
theorem f_HBlocks_makeEvaluator_fr {M : im_M} {r : im_M} (h : f_HBlocks_makeEvaluator M = some r) : fr 9007199254740992 [] M r := by
  replace h : ed (f_HBlocks_makeEvaluator M) (fun x => x = r) := ⟨r, h, rfl⟩
  unfold f_HBlocks_makeEvaluator at h
  obtain ⟨Q1, hQ1, h⟩ := bd1_ed h
  obtain ⟨M1, e1, h⟩ := h
  replace h := hQ1 _ h
  obtain ⟨Q2, hQ2, h⟩ := bd1_ed h
  have K2 : ∀ (M3 : im_M), fr 9007199254740992 [] M M3 → Q2 M3 → fr 9007199254740992 [] M r := by
    intro M3 hM3 h
    replace h := hQ2 _ h
    exact fr_retV h hM3
  obtain ⟨r2, hr2, hq2⟩ := h
  obtain ⟨n2, hn2⟩ := lp_n hr2
  have I2 : ∀ (n : Nat) (x4 : Int32) (M5 : im_M), fr 9007199254740992 [] M M5 → lpn (uc2 (f_HBlocks_makeEvaluator_L10)) n (x4, M5) = some r2 → fr 9007199254740992 [] M r := by
    intro n
    induction n with
    | zero => intro x4 M5 hM5 hn; exact (lpn_0 hn).elim
    | succ n ih =>
      intro x4 M5 hM5 hn
      have h := lpn_ed2 hn
      unfold f_HBlocks_makeEvaluator_L10 at h
      by_cases q15 : (im_i M5 43 12) ≤ x4
      · replace h := ed_pos q15 h
        exact K2 _ hM5 (lq_r h hq2)
      · replace h := ed_neg q15 h
        obtain ⟨Q6, hQ6, h⟩ := bd1_ed h
        have K6 : ∀ (M7 : im_M), fr 9007199254740992 [] M M7 → Q6 M7 → fr 9007199254740992 [] M r := by
          intro M7 hM7 h
          replace h := hQ6 _ h
          exact ih _ _ hM7 (lq_l h)
        obtain ⟨r6, hr6, hq6⟩ := h
        obtain ⟨n6, hn6⟩ := lp_n hr6
        have I6 : ∀ (n : Nat) (x8 : Int32) (M9 : im_M), fr 9007199254740992 [] M M9 → lpn (uc2 (f_HBlocks_makeEvaluator_L20 x4)) n (x8, M9) = some r6 → fr 9007199254740992 [] M r := by
          intro n
          induction n with
          | zero => intro x8 M9 hM9 hn; exact (lpn_0 hn).elim
          | succ n ih =>
            intro x8 M9 hM9 hn
            have h := lpn_ed2 hn
            unfold f_HBlocks_makeEvaluator_L20 at h
            by_cases q22 : x4 < x8
            · replace h := ed_pos q22 h
              exact K6 _ hM9 (lq_r h hq6)
            · replace h := ed_neg q22 h
              obtain ⟨g31, h⟩ := ed_gd h
              obtain ⟨g38, h⟩ := ed_gd h
              obtain ⟨g46, h⟩ := ed_gd h
              obtain ⟨Q10, hQ10, h⟩ := bd1_ed h
              obtain ⟨x10, e10, h⟩ := h
              replace h := hQ10 _ h
              obtain ⟨g51, h⟩ := ed_gd h
              exact ih _ _ (fr_I (by decide) hM9) (lq_l h)
        exact I6 n6 _ _ hM5 hn6
  exact I2 n2 _ _ (fr_tr (fr_mono (by decide) (by decide +kernel) (f_Arrays_fill4_3_fr e1)) fr_refl) hn2
noncomputable def f_HBlocks_valueAt_L8 (v2 : Int32) (M5 : im_M) (x3 : Int32) (x4 : Int32) : Option ((Int32 × Int32) ⊕ (Int32)) := if x4 < 0 then some (.inr x3) else bd1 (f_HBlocks_times x3 v2 M5) fun (x6 : Int32) => gd (inb x4 31) <| some (.inl ((x6 ^^^ (im_i M5 50 (Int32.toNatClampNeg x4))), (x4 + (-1))))
noncomputable def f_HBlocks_valueAt (p1 : Int32) (M : im_M) : Option (Int32) := bd1 (lp (uc2 (f_HBlocks_valueAt_L8 p1 M)) (0, ((31 : Int32) - 1))) fun (y7 : Int32) => some y7
theorem J_HBlocks_valueAt_d0 : decode J_HBlocks_valueAt.2.1 0 = .ok (.iconst 0, 1) := by decide +kernel
theorem J_HBlocks_valueAt_d1 : decode J_HBlocks_valueAt.2.1 1 = .ok (.istore_n 3, 1) := by decide +kernel
theorem J_HBlocks_valueAt_d2 : decode J_HBlocks_valueAt.2.1 2 = .ok (.aload_n 1, 1) := by decide +kernel
theorem J_HBlocks_valueAt_d3 : decode J_HBlocks_valueAt.2.1 3 = .ok (.arraylength, 1) := by decide +kernel
theorem J_HBlocks_valueAt_d4 : decode J_HBlocks_valueAt.2.1 4 = .ok (.iconst 1, 1) := by decide +kernel
theorem J_HBlocks_valueAt_d5 : decode J_HBlocks_valueAt.2.1 5 = .ok (.isub, 1) := by decide +kernel
theorem J_HBlocks_valueAt_d6 : decode J_HBlocks_valueAt.2.1 6 = .ok (.istore 4, 2) := by decide +kernel
theorem J_HBlocks_valueAt_d8 : decode J_HBlocks_valueAt.2.1 8 = .ok (.iload 4, 2) := by decide +kernel
theorem J_HBlocks_valueAt_d10 : decode J_HBlocks_valueAt.2.1 10 = .ok (.ifCond .lt 21, 3) := by decide +kernel
theorem J_HBlocks_valueAt_d13 : decode J_HBlocks_valueAt.2.1 13 = .ok (.aload_n 0, 1) := by decide +kernel
theorem J_HBlocks_valueAt_d14 : decode J_HBlocks_valueAt.2.1 14 = .ok (.iload_n 3, 1) := by decide +kernel
theorem J_HBlocks_valueAt_d15 : decode J_HBlocks_valueAt.2.1 15 = .ok (.iload_n 2, 1) := by decide +kernel
theorem J_HBlocks_valueAt_d16 : decode J_HBlocks_valueAt.2.1 16 = .ok (.invokevirtual 93, 3) := by decide +kernel
theorem J_HBlocks_valueAt_d19 : decode J_HBlocks_valueAt.2.1 19 = .ok (.aload_n 1, 1) := by decide +kernel
theorem J_HBlocks_valueAt_d20 : decode J_HBlocks_valueAt.2.1 20 = .ok (.iload 4, 2) := by decide +kernel
theorem J_HBlocks_valueAt_d22 : decode J_HBlocks_valueAt.2.1 22 = .ok (.iaload, 1) := by decide +kernel
theorem J_HBlocks_valueAt_d23 : decode J_HBlocks_valueAt.2.1 23 = .ok (.ixor, 1) := by decide +kernel
theorem J_HBlocks_valueAt_d24 : decode J_HBlocks_valueAt.2.1 24 = .ok (.istore_n 3, 1) := by decide +kernel
theorem J_HBlocks_valueAt_d25 : decode J_HBlocks_valueAt.2.1 25 = .ok (.iinc 4 (-1), 3) := by decide +kernel
theorem J_HBlocks_valueAt_d28 : decode J_HBlocks_valueAt.2.1 28 = .ok (.goto (-20), 3) := by decide +kernel
theorem J_HBlocks_valueAt_d31 : decode J_HBlocks_valueAt.2.1 31 = .ok (.iload_n 3, 1) := by decide +kernel
theorem J_HBlocks_valueAt_d32 : decode J_HBlocks_valueAt.2.1 32 = .ok (.ireturn, 1) := by decide +kernel
theorem f_HBlocks_valueAt_ok {L : Nat} {xs : Nat → Int32} {dep : Nat} {w : Bool} {p1 : Int32} {M : im_M} {Q : Int32 → Prop} (hM : lw_S w M) (h : ed (f_HBlocks_valueAt p1 M) Q) : ia (tb_G L xs) (dep + 1) J_HBlocks_valueAt (rpI M Q) (0, lv_args 0 [.ref 43, .ref 50, .int p1], [], M) := by
  have hS : im_St (tb_G L xs) (dep + 1) J_HBlocks_valueAt (ia (tb_G L xs) (dep + 1) J_HBlocks_valueAt (rpI M Q)) := ia_St
  unfold f_HBlocks_valueAt at h
  have l0 : im_lk (lv_args 0 [.ref 43, .ref 50, .int p1]) 0 = some (.ref 43) := rfl
  have l1 : im_lk (lv_args 0 [.ref 43, .ref 50, .int p1]) 1 = some (.ref 50) := rfl
  have l2 : im_lk (lv_args 0 [.ref 43, .ref 50, .int p1]) 2 = some (.int p1) := rfl
  refine iq_iconst hS 1 J_HBlocks_valueAt_d0 (v := 0) (by decide +kernel) rfl ?_
  refine iq_istore_n hS 2 J_HBlocks_valueAt_d1 (by decide) rfl ?_
  refine iq_aload_n hS 3 J_HBlocks_valueAt_d2 (lk_1r l1 (by decide)) rfl ?_
  refine iq_alenv hS 4 J_HBlocks_valueAt_d3 (v := 31) (ka_50 hM) (by decide) (by decide) (kl_50 hM) (by decide +kernel) rfl ?_
  refine iq_iconst hS 5 J_HBlocks_valueAt_d4 (v := 1) (by decide +kernel) rfl ?_
  refine iq_isub hS 6 J_HBlocks_valueAt_d5 rfl ?_
  refine iq_istore hS 8 J_HBlocks_valueAt_d6 (by decide) rfl ?_
  obtain ⟨Q1, hQ1, h⟩ := bd1_ed h
  have K1 : ∀ (y2 : Int32) (L' : List (Nat × Value)), im_lk L' 3 = some (.int y2) → Q1 y2 → ia (tb_G L xs) (dep + 1) J_HBlocks_valueAt (rpI M Q) (31, L', [], M) := by
    intro y2 L' l3 h
    replace h := hQ1 _ h
    refine iq_iload_n hS 32 J_HBlocks_valueAt_d31 l3 rfl ?_
    exact iq_iret J_HBlocks_valueAt_d32 rfl rfl ⟨_, rfl, rfl, ed_some h⟩
  obtain ⟨r1, hr1, hq1⟩ := h
  obtain ⟨n1, hn1⟩ := lp_n hr1
  have I1 : ∀ (n : Nat) (x4 : Int32) (x5 : Int32) (L' : List (Nat × Value)), im_lk L' 0 = some (.ref 43) → im_lk L' 1 = some (.ref 50) → im_lk L' 2 = some (.int p1) → im_lk L' 3 = some (.int x4) → im_lk L' 4 = some (.int x5) → lpn (uc2 (f_HBlocks_valueAt_L8 p1 M)) n (x4, x5) = some r1 → ia (tb_G L xs) (dep + 1) J_HBlocks_valueAt (rpI M Q) (8, L', [], M) := by
    intro n
    induction n with
    | zero => intro x4 x5 L' l6 l7 l8 l9 l10 hn; exact (lpn_0 hn).elim
    | succ n ih =>
      intro x4 x5 L' l6 l7 l8 l9 l10 hn
      have h := lpn_ed2 hn
      unfold f_HBlocks_valueAt_L8 at h
      refine iq_iload hS 10 J_HBlocks_valueAt_d8 l10 rfl ?_
      refine iq_if_lt hS 13 J_HBlocks_valueAt_d10 (t := 31) rfl (fun q10 => ?_) rfl (fun q10 => ?_)
      · replace h := ed_pos q10 h
        exact K1 _ _ l9 (lq_r h hq1)
      · replace h := ed_neg q10 h
        refine iq_aload_n hS 14 J_HBlocks_valueAt_d13 l6 rfl ?_
        refine iq_iload_n hS 15 J_HBlocks_valueAt_d14 l9 rfl ?_
        refine iq_iload_n hS 16 J_HBlocks_valueAt_d15 l8 rfl ?_
        obtain ⟨Q11, hQ11, h⟩ := bd1_ed h
        refine iq_cpI hS 19 J_HBlocks_valueAt_d16 rfl (pr_inst (vs := [_, _]) lc_1_93 lT_151 rfl rfl (by decide) (by decide) rfl (Nat.le_of_ble_eq_true rfl) (Nat.le_of_ble_eq_true rfl) (fun _ => Or.inl (pr_b (ka_43 hM) (by decide) rfl))) (f_HBlocks_times_ok (dep := dep + 0) hM h) rfl ?_
        intro x11 h
        replace h := hQ11 _ h
        refine iq_aload_n hS 20 J_HBlocks_valueAt_d19 l7 rfl ?_
        refine iq_iload hS 22 J_HBlocks_valueAt_d20 l10 rfl ?_
        obtain ⟨g22, h⟩ := ed_gd h
        refine iq_iaload hS 23 J_HBlocks_valueAt_d22 ⟨(ka_50 hM).1, (ka_50 hM).2, g22.1, ix_lt (kl_50 hM) g22.2⟩ rfl ?_
        refine iq_ixor hS 24 J_HBlocks_valueAt_d23 rfl ?_
        refine iq_istore_n hS 25 J_HBlocks_valueAt_d24 (by decide) rfl ?_
        refine iq_iincv hS 28 J_HBlocks_valueAt_d25 (c := (-1)) (by decide +kernel) (lk_1i l10 (by decide)) (by decide) rfl ?_
        refine iq_goto hS J_HBlocks_valueAt_d28 (t := 8) rfl ?_
        exact ih _ _ _ (lk_1r (lk_1r l6 (by decide)) (by decide)) (lk_1r (lk_1r l7 (by decide)) (by decide)) (lk_1i (lk_1i l8 (by decide)) (by decide)) (lk_1i lk_1s (by decide)) lk_1s (lq_l h)
  exact I1 n1 _ _ _ (lk_1r (lk_1r l0 (by decide)) (by decide)) (lk_1r (lk_1r l1 (by decide)) (by decide)) (lk_1i (lk_1i l2 (by decide)) (by decide)) (lk_1i lk_1s (by decide)) lk_1s hn1
noncomputable def f_HBlocks_slopeAt_L13 (v3 : Int32) (M6 : im_M) (x4 : Int32) (x5 : Int32) : Option ((Int32 × Int32) ⊕ (Int32)) := if x5 ≤ 0 then some (.inr x4) else bd1 (f_HBlocks_times x4 v3 M6) fun (x7 : Int32) => gd (inb x5 31) <| some (.inl ((x7 ^^^ (im_i M6 50 (Int32.toNatClampNeg x5))), (x5 + (-2))))
noncomputable def f_HBlocks_slopeAt (p0 : Int32) (M : im_M) : Option (Int32) := bd1 (f_HBlocks_times p0 p0 M) fun (x1 : Int32) => bd1 (lp (uc2 (f_HBlocks_slopeAt_L13 x1 M)) (0, 29)) fun (y8 : Int32) => some y8
theorem J_HBlocks_slopeAt_d0 : decode J_HBlocks_slopeAt.2.1 0 = .ok (.iconst 0, 1) := by decide +kernel
theorem J_HBlocks_slopeAt_d1 : decode J_HBlocks_slopeAt.2.1 1 = .ok (.istore_n 2, 1) := by decide +kernel
theorem J_HBlocks_slopeAt_d2 : decode J_HBlocks_slopeAt.2.1 2 = .ok (.aload_n 0, 1) := by decide +kernel
theorem J_HBlocks_slopeAt_d3 : decode J_HBlocks_slopeAt.2.1 3 = .ok (.iload_n 1, 1) := by decide +kernel
theorem J_HBlocks_slopeAt_d4 : decode J_HBlocks_slopeAt.2.1 4 = .ok (.iload_n 1, 1) := by decide +kernel
theorem J_HBlocks_slopeAt_d5 : decode J_HBlocks_slopeAt.2.1 5 = .ok (.invokevirtual 93, 3) := by decide +kernel
theorem J_HBlocks_slopeAt_d8 : decode J_HBlocks_slopeAt.2.1 8 = .ok (.istore_n 3, 1) := by decide +kernel
theorem J_HBlocks_slopeAt_d9 : decode J_HBlocks_slopeAt.2.1 9 = .ok (.bipush 29, 2) := by decide +kernel
theorem J_HBlocks_slopeAt_d11 : decode J_HBlocks_slopeAt.2.1 11 = .ok (.istore 4, 2) := by decide +kernel
theorem J_HBlocks_slopeAt_d13 : decode J_HBlocks_slopeAt.2.1 13 = .ok (.iload 4, 2) := by decide +kernel
theorem J_HBlocks_slopeAt_d15 : decode J_HBlocks_slopeAt.2.1 15 = .ok (.ifCond .le 24, 3) := by decide +kernel
theorem J_HBlocks_slopeAt_d18 : decode J_HBlocks_slopeAt.2.1 18 = .ok (.aload_n 0, 1) := by decide +kernel
theorem J_HBlocks_slopeAt_d19 : decode J_HBlocks_slopeAt.2.1 19 = .ok (.iload_n 2, 1) := by decide +kernel
theorem J_HBlocks_slopeAt_d20 : decode J_HBlocks_slopeAt.2.1 20 = .ok (.iload_n 3, 1) := by decide +kernel
theorem J_HBlocks_slopeAt_d21 : decode J_HBlocks_slopeAt.2.1 21 = .ok (.invokevirtual 93, 3) := by decide +kernel
theorem J_HBlocks_slopeAt_d24 : decode J_HBlocks_slopeAt.2.1 24 = .ok (.aload_n 0, 1) := by decide +kernel
theorem J_HBlocks_slopeAt_d25 : decode J_HBlocks_slopeAt.2.1 25 = .ok (.getfield 31, 3) := by decide +kernel
theorem J_HBlocks_slopeAt_d28 : decode J_HBlocks_slopeAt.2.1 28 = .ok (.iload 4, 2) := by decide +kernel
theorem J_HBlocks_slopeAt_d30 : decode J_HBlocks_slopeAt.2.1 30 = .ok (.iaload, 1) := by decide +kernel
theorem J_HBlocks_slopeAt_d31 : decode J_HBlocks_slopeAt.2.1 31 = .ok (.ixor, 1) := by decide +kernel
theorem J_HBlocks_slopeAt_d32 : decode J_HBlocks_slopeAt.2.1 32 = .ok (.istore_n 2, 1) := by decide +kernel
theorem J_HBlocks_slopeAt_d33 : decode J_HBlocks_slopeAt.2.1 33 = .ok (.iinc 4 (-2), 3) := by decide +kernel
theorem J_HBlocks_slopeAt_d36 : decode J_HBlocks_slopeAt.2.1 36 = .ok (.goto (-23), 3) := by decide +kernel
theorem J_HBlocks_slopeAt_d39 : decode J_HBlocks_slopeAt.2.1 39 = .ok (.iload_n 2, 1) := by decide +kernel
theorem J_HBlocks_slopeAt_d40 : decode J_HBlocks_slopeAt.2.1 40 = .ok (.ireturn, 1) := by decide +kernel
theorem f_HBlocks_slopeAt_ok {L : Nat} {xs : Nat → Int32} {dep : Nat} {w : Bool} {p0 : Int32} {M : im_M} {Q : Int32 → Prop} (hM : lw_S w M) (h : ed (f_HBlocks_slopeAt p0 M) Q) : ia (tb_G L xs) (dep + 1) J_HBlocks_slopeAt (rpI M Q) (0, lv_args 0 [.ref 43, .int p0], [], M) := by
  have hS : im_St (tb_G L xs) (dep + 1) J_HBlocks_slopeAt (ia (tb_G L xs) (dep + 1) J_HBlocks_slopeAt (rpI M Q)) := ia_St
  unfold f_HBlocks_slopeAt at h
  have l0 : im_lk (lv_args 0 [.ref 43, .int p0]) 0 = some (.ref 43) := rfl
  have l1 : im_lk (lv_args 0 [.ref 43, .int p0]) 1 = some (.int p0) := rfl
  refine iq_iconst hS 1 J_HBlocks_slopeAt_d0 (v := 0) (by decide +kernel) rfl ?_
  refine iq_istore_n hS 2 J_HBlocks_slopeAt_d1 (by decide) rfl ?_
  refine iq_aload_n hS 3 J_HBlocks_slopeAt_d2 (lk_1r l0 (by decide)) rfl ?_
  refine iq_iload_n hS 4 J_HBlocks_slopeAt_d3 (lk_1i l1 (by decide)) rfl ?_
  refine iq_iload_n hS 5 J_HBlocks_slopeAt_d4 (lk_1i l1 (by decide)) rfl ?_
  obtain ⟨Q1, hQ1, h⟩ := bd1_ed h
  refine iq_cpI hS 8 J_HBlocks_slopeAt_d5 rfl (pr_inst (vs := [_, _]) lc_1_93 lT_151 rfl rfl (by decide) (by decide) rfl (Nat.le_of_ble_eq_true rfl) (Nat.le_of_ble_eq_true rfl) (fun _ => Or.inl (pr_b (ka_43 hM) (by decide) rfl))) (f_HBlocks_times_ok (dep := dep + 0) hM h) rfl ?_
  intro x1 h
  replace h := hQ1 _ h
  refine iq_istore_n hS 9 J_HBlocks_slopeAt_d8 (by decide) rfl ?_
  refine iq_bipush hS 11 J_HBlocks_slopeAt_d9 (v := 29) (by decide +kernel) rfl ?_
  refine iq_istore hS 13 J_HBlocks_slopeAt_d11 (by decide) rfl ?_
  obtain ⟨Q2, hQ2, h⟩ := bd1_ed h
  have K2 : ∀ (y3 : Int32) (L' : List (Nat × Value)), im_lk L' 2 = some (.int y3) → Q2 y3 → ia (tb_G L xs) (dep + 1) J_HBlocks_slopeAt (rpI M Q) (39, L', [], M) := by
    intro y3 L' l4 h
    replace h := hQ2 _ h
    refine iq_iload_n hS 40 J_HBlocks_slopeAt_d39 l4 rfl ?_
    exact iq_iret J_HBlocks_slopeAt_d40 rfl rfl ⟨_, rfl, rfl, ed_some h⟩
  obtain ⟨r2, hr2, hq2⟩ := h
  obtain ⟨n2, hn2⟩ := lp_n hr2
  have I2 : ∀ (n : Nat) (x5 : Int32) (x6 : Int32) (L' : List (Nat × Value)), im_lk L' 0 = some (.ref 43) → im_lk L' 2 = some (.int x5) → im_lk L' 3 = some (.int x1) → im_lk L' 4 = some (.int x6) → lpn (uc2 (f_HBlocks_slopeAt_L13 x1 M)) n (x5, x6) = some r2 → ia (tb_G L xs) (dep + 1) J_HBlocks_slopeAt (rpI M Q) (13, L', [], M) := by
    intro n
    induction n with
    | zero => intro x5 x6 L' l7 l8 l9 l10 hn; exact (lpn_0 hn).elim
    | succ n ih =>
      intro x5 x6 L' l7 l8 l9 l10 hn
      have h := lpn_ed2 hn
      unfold f_HBlocks_slopeAt_L13 at h
      refine iq_iload hS 15 J_HBlocks_slopeAt_d13 l10 rfl ?_
      refine iq_if_le hS 18 J_HBlocks_slopeAt_d15 (t := 39) rfl (fun q15 => ?_) rfl (fun q15 => ?_)
      · replace h := ed_pos q15 h
        exact K2 _ _ l8 (lq_r h hq2)
      · replace h := ed_neg q15 h
        refine iq_aload_n hS 19 J_HBlocks_slopeAt_d18 l7 rfl ?_
        refine iq_iload_n hS 20 J_HBlocks_slopeAt_d19 l8 rfl ?_
        refine iq_iload_n hS 21 J_HBlocks_slopeAt_d20 l9 rfl ?_
        obtain ⟨Q11, hQ11, h⟩ := bd1_ed h
        refine iq_cpI hS 24 J_HBlocks_slopeAt_d21 rfl (pr_inst (vs := [_, _]) lc_1_93 lT_151 rfl rfl (by decide) (by decide) rfl (Nat.le_of_ble_eq_true rfl) (Nat.le_of_ble_eq_true rfl) (fun _ => Or.inl (pr_b (ka_43 hM) (by decide) rfl))) (f_HBlocks_times_ok (dep := dep + 0) hM h) rfl ?_
        intro x11 h
        replace h := hQ11 _ h
        refine iq_aload_n hS 25 J_HBlocks_slopeAt_d24 l7 rfl ?_
        refine iq_getR hS 28 J_HBlocks_slopeAt_d25 lf_1_31 (Or.inr ⟨_, rfl⟩) (ka_43 hM) (ra_43_6 hM) rfl ?_
        refine iq_iload hS 30 J_HBlocks_slopeAt_d28 l10 rfl ?_
        obtain ⟨g30, h⟩ := ed_gd h
        refine iq_iaload hS 31 J_HBlocks_slopeAt_d30 ⟨(ka_50 hM).1, (ka_50 hM).2, g30.1, ix_lt (kl_50 hM) g30.2⟩ rfl ?_
        refine iq_ixor hS 32 J_HBlocks_slopeAt_d31 rfl ?_
        refine iq_istore_n hS 33 J_HBlocks_slopeAt_d32 (by decide) rfl ?_
        refine iq_iincv hS 36 J_HBlocks_slopeAt_d33 (c := (-2)) (by decide +kernel) (lk_1i l10 (by decide)) (by decide) rfl ?_
        refine iq_goto hS J_HBlocks_slopeAt_d36 (t := 13) rfl ?_
        exact ih _ _ _ (lk_1r (lk_1r l7 (by decide)) (by decide)) (lk_1i lk_1s (by decide)) (lk_1i (lk_1i l9 (by decide)) (by decide)) lk_1s (lq_l h)
  exact I2 n2 _ _ _ (lk_1r (lk_1r (lk_1r l0 (by decide)) (by decide)) (by decide)) (lk_1i (lk_1i lk_1s (by decide)) (by decide)) (lk_1i lk_1s (by decide)) lk_1s hn2
noncomputable def f_HBlocks_valueAt_1_L8 (v2 : Int32) (M5 : im_M) (x3 : Int32) (x4 : Int32) : Option ((Int32 × Int32) ⊕ (Int32)) := if x4 < 0 then some (.inr x3) else bd1 (f_HBlocks_times x3 v2 M5) fun (x6 : Int32) => gd (inb x4 30) <| some (.inl ((x6 ^^^ (im_i M5 53 (Int32.toNatClampNeg x4))), (x4 + (-1))))
noncomputable def f_HBlocks_valueAt_1 (p1 : Int32) (M : im_M) : Option (Int32) := bd1 (lp (uc2 (f_HBlocks_valueAt_1_L8 p1 M)) (0, ((30 : Int32) - 1))) fun (y7 : Int32) => some y7
theorem f_HBlocks_valueAt_1_ok {L : Nat} {xs : Nat → Int32} {dep : Nat} {w : Bool} {p1 : Int32} {M : im_M} {Q : Int32 → Prop} (hM : lw_S w M) (h : ed (f_HBlocks_valueAt_1 p1 M) Q) : ia (tb_G L xs) (dep + 1) J_HBlocks_valueAt (rpI M Q) (0, lv_args 0 [.ref 43, .ref 53, .int p1], [], M) := by
  have hS : im_St (tb_G L xs) (dep + 1) J_HBlocks_valueAt (ia (tb_G L xs) (dep + 1) J_HBlocks_valueAt (rpI M Q)) := ia_St
  unfold f_HBlocks_valueAt_1 at h
  have l0 : im_lk (lv_args 0 [.ref 43, .ref 53, .int p1]) 0 = some (.ref 43) := rfl
  have l1 : im_lk (lv_args 0 [.ref 43, .ref 53, .int p1]) 1 = some (.ref 53) := rfl
  have l2 : im_lk (lv_args 0 [.ref 43, .ref 53, .int p1]) 2 = some (.int p1) := rfl
  refine iq_iconst hS 1 J_HBlocks_valueAt_d0 (v := 0) (by decide +kernel) rfl ?_
  refine iq_istore_n hS 2 J_HBlocks_valueAt_d1 (by decide) rfl ?_
  refine iq_aload_n hS 3 J_HBlocks_valueAt_d2 (lk_1r l1 (by decide)) rfl ?_
  refine iq_alenv hS 4 J_HBlocks_valueAt_d3 (v := 30) (ka_53 hM) (by decide) (by decide) (kl_53 hM) (by decide +kernel) rfl ?_
  refine iq_iconst hS 5 J_HBlocks_valueAt_d4 (v := 1) (by decide +kernel) rfl ?_
  refine iq_isub hS 6 J_HBlocks_valueAt_d5 rfl ?_
  refine iq_istore hS 8 J_HBlocks_valueAt_d6 (by decide) rfl ?_
  obtain ⟨Q1, hQ1, h⟩ := bd1_ed h
  have K1 : ∀ (y2 : Int32) (L' : List (Nat × Value)), im_lk L' 3 = some (.int y2) → Q1 y2 → ia (tb_G L xs) (dep + 1) J_HBlocks_valueAt (rpI M Q) (31, L', [], M) := by
    intro y2 L' l3 h
    replace h := hQ1 _ h
    refine iq_iload_n hS 32 J_HBlocks_valueAt_d31 l3 rfl ?_
    exact iq_iret J_HBlocks_valueAt_d32 rfl rfl ⟨_, rfl, rfl, ed_some h⟩
  obtain ⟨r1, hr1, hq1⟩ := h
  obtain ⟨n1, hn1⟩ := lp_n hr1
  have I1 : ∀ (n : Nat) (x4 : Int32) (x5 : Int32) (L' : List (Nat × Value)), im_lk L' 0 = some (.ref 43) → im_lk L' 1 = some (.ref 53) → im_lk L' 2 = some (.int p1) → im_lk L' 3 = some (.int x4) → im_lk L' 4 = some (.int x5) → lpn (uc2 (f_HBlocks_valueAt_1_L8 p1 M)) n (x4, x5) = some r1 → ia (tb_G L xs) (dep + 1) J_HBlocks_valueAt (rpI M Q) (8, L', [], M) := by
    intro n
    induction n with
    | zero => intro x4 x5 L' l6 l7 l8 l9 l10 hn; exact (lpn_0 hn).elim
    | succ n ih =>
      intro x4 x5 L' l6 l7 l8 l9 l10 hn
      have h := lpn_ed2 hn
      unfold f_HBlocks_valueAt_1_L8 at h
      refine iq_iload hS 10 J_HBlocks_valueAt_d8 l10 rfl ?_
      refine iq_if_lt hS 13 J_HBlocks_valueAt_d10 (t := 31) rfl (fun q10 => ?_) rfl (fun q10 => ?_)
      · replace h := ed_pos q10 h
        exact K1 _ _ l9 (lq_r h hq1)
      · replace h := ed_neg q10 h
        refine iq_aload_n hS 14 J_HBlocks_valueAt_d13 l6 rfl ?_
        refine iq_iload_n hS 15 J_HBlocks_valueAt_d14 l9 rfl ?_
        refine iq_iload_n hS 16 J_HBlocks_valueAt_d15 l8 rfl ?_
        obtain ⟨Q11, hQ11, h⟩ := bd1_ed h
        refine iq_cpI hS 19 J_HBlocks_valueAt_d16 rfl (pr_inst (vs := [_, _]) lc_1_93 lT_151 rfl rfl (by decide) (by decide) rfl (Nat.le_of_ble_eq_true rfl) (Nat.le_of_ble_eq_true rfl) (fun _ => Or.inl (pr_b (ka_43 hM) (by decide) rfl))) (f_HBlocks_times_ok (dep := dep + 0) hM h) rfl ?_
        intro x11 h
        replace h := hQ11 _ h
        refine iq_aload_n hS 20 J_HBlocks_valueAt_d19 l7 rfl ?_
        refine iq_iload hS 22 J_HBlocks_valueAt_d20 l10 rfl ?_
        obtain ⟨g22, h⟩ := ed_gd h
        refine iq_iaload hS 23 J_HBlocks_valueAt_d22 ⟨(ka_53 hM).1, (ka_53 hM).2, g22.1, ix_lt (kl_53 hM) g22.2⟩ rfl ?_
        refine iq_ixor hS 24 J_HBlocks_valueAt_d23 rfl ?_
        refine iq_istore_n hS 25 J_HBlocks_valueAt_d24 (by decide) rfl ?_
        refine iq_iincv hS 28 J_HBlocks_valueAt_d25 (c := (-1)) (by decide +kernel) (lk_1i l10 (by decide)) (by decide) rfl ?_
        refine iq_goto hS J_HBlocks_valueAt_d28 (t := 8) rfl ?_
        exact ih _ _ _ (lk_1r (lk_1r l6 (by decide)) (by decide)) (lk_1r (lk_1r l7 (by decide)) (by decide)) (lk_1i (lk_1i l8 (by decide)) (by decide)) (lk_1i lk_1s (by decide)) lk_1s (lq_l h)
  exact I1 n1 _ _ _ (lk_1r (lk_1r l0 (by decide)) (by decide)) (lk_1r (lk_1r l1 (by decide)) (by decide)) (lk_1i (lk_1i l2 (by decide)) (by decide)) (lk_1i lk_1s (by decide)) lk_1s hn1
noncomputable def f_HBlocks_mendWord_L32 (v5 : Int32) (v6 : Int32) (x7 : Int32) (x8 : Int32) (M9 : im_M) : Option ((Int32 × Int32 × im_M) ⊕ ((Int32 × im_M) ⊕ (Int32 × im_M))) := if v5 ≤ x8 then some (.inr (.inl (x7, M9))) else gd (inb ((255 : Int32) - ((v5 - 1) - x8)) 510) <| bd1 (f_HBlocks_valueAt (im_i M9 45 (Int32.toNatClampNeg ((255 : Int32) - ((v5 - 1) - x8)))) M9) fun (x10 : Int32) => jn2 (fun (y16 : Int32) (M17 : im_M) => some (.inl (y16, (x8 + 1), M17))) fun k11 => if ¬ x10 = 0 then k11 x7 M9 else bd1 (f_HBlocks_slopeAt (im_i M9 45 (Int32.toNatClampNeg ((255 : Int32) - ((v5 - 1) - x8)))) M9) fun (x12 : Int32) => if ¬ x12 = 0 then gd (inb x8 255) <| gd (inb ((v5 - 1) - x8) 510) <| bd1 (f_HBlocks_valueAt_1 (im_i M9 45 (Int32.toNatClampNeg ((255 : Int32) - ((v5 - 1) - x8)))) M9) fun (x13 : Int32) => bd1 (f_HBlocks_over x13 x12 M9) fun (x14 : Int32) => bd1 (f_HBlocks_times (im_i M9 45 (Int32.toNatClampNeg ((v5 - 1) - x8))) x14 M9) fun (x15 : Int32) => gd (inb x8 255) <| k11 (x7 + 1) (im_setI M9 48 (Int32.toNatClampNeg x8) ((im_i M9 48 (Int32.toNatClampNeg x8)) ^^^ x15)) else some (.inr (.inr ((-1), M9)))
noncomputable def f_HBlocks_mendWord (p0 : Int32) (p1 : Int32) (M : im_M) : Option (Int32 × im_M) := bd2 (f_HBlocks_isCodeword p0 M) fun (x1 : Int32) (M1 : im_M) => if x1 = 0 then bd2 (f_HBlocks_findLocator M1) fun (x2 : Int32) (M2 : im_M) => if x2 ≤ p1 then bd1 (f_HBlocks_makeEvaluator M2) fun (M3 : im_M) => bs2 (lp (uc3 (f_HBlocks_mendWord_L32 p0 x2)) (0, 0, M3)) (fun (y23 : Int32) (M24 : im_M) => if ¬ y23 = x2 then some ((-1), M24) else bd2 (f_HBlocks_isCodeword p0 M24) fun (x25 : Int32) (M25 : im_M) => if x25 = 0 then some ((-1), M25) else some (x2, M25)) (fun t => some t) else some ((-1), M2) else some (0, M1)
theorem J_HBlocks_mendWord_d0 : decode J_HBlocks_mendWord.2.1 0 = .ok (.aload_n 0, 1) := by decide +kernel
theorem J_HBlocks_mendWord_d1 : decode J_HBlocks_mendWord.2.1 1 = .ok (.iload_n 1, 1) := by decide +kernel
theorem J_HBlocks_mendWord_d2 : decode J_HBlocks_mendWord.2.1 2 = .ok (.invokevirtual 105, 3) := by decide +kernel
theorem J_HBlocks_mendWord_d5 : decode J_HBlocks_mendWord.2.1 5 = .ok (.ifCond .eq 5, 3) := by decide +kernel
theorem J_HBlocks_mendWord_d8 : decode J_HBlocks_mendWord.2.1 8 = .ok (.iconst 0, 1) := by decide +kernel
theorem J_HBlocks_mendWord_d9 : decode J_HBlocks_mendWord.2.1 9 = .ok (.ireturn, 1) := by decide +kernel
theorem J_HBlocks_mendWord_d10 : decode J_HBlocks_mendWord.2.1 10 = .ok (.aload_n 0, 1) := by decide +kernel
theorem J_HBlocks_mendWord_d11 : decode J_HBlocks_mendWord.2.1 11 = .ok (.invokevirtual 109, 3) := by decide +kernel
theorem J_HBlocks_mendWord_d14 : decode J_HBlocks_mendWord.2.1 14 = .ok (.istore_n 3, 1) := by decide +kernel
theorem J_HBlocks_mendWord_d15 : decode J_HBlocks_mendWord.2.1 15 = .ok (.iload_n 3, 1) := by decide +kernel
theorem J_HBlocks_mendWord_d16 : decode J_HBlocks_mendWord.2.1 16 = .ok (.iload_n 2, 1) := by decide +kernel
theorem J_HBlocks_mendWord_d17 : decode J_HBlocks_mendWord.2.1 17 = .ok (.if_icmp .le 5, 3) := by decide +kernel
theorem J_HBlocks_mendWord_d20 : decode J_HBlocks_mendWord.2.1 20 = .ok (.iconst (-1), 1) := by decide +kernel
theorem J_HBlocks_mendWord_d21 : decode J_HBlocks_mendWord.2.1 21 = .ok (.ireturn, 1) := by decide +kernel
theorem J_HBlocks_mendWord_d22 : decode J_HBlocks_mendWord.2.1 22 = .ok (.aload_n 0, 1) := by decide +kernel
theorem J_HBlocks_mendWord_d23 : decode J_HBlocks_mendWord.2.1 23 = .ok (.invokevirtual 113, 3) := by decide +kernel
theorem J_HBlocks_mendWord_d26 : decode J_HBlocks_mendWord.2.1 26 = .ok (.iconst 0, 1) := by decide +kernel
theorem J_HBlocks_mendWord_d27 : decode J_HBlocks_mendWord.2.1 27 = .ok (.istore 4, 2) := by decide +kernel
theorem J_HBlocks_mendWord_d29 : decode J_HBlocks_mendWord.2.1 29 = .ok (.iconst 0, 1) := by decide +kernel
theorem J_HBlocks_mendWord_d30 : decode J_HBlocks_mendWord.2.1 30 = .ok (.istore 5, 2) := by decide +kernel
theorem J_HBlocks_mendWord_d32 : decode J_HBlocks_mendWord.2.1 32 = .ok (.iload 5, 2) := by decide +kernel
theorem J_HBlocks_mendWord_d34 : decode J_HBlocks_mendWord.2.1 34 = .ok (.iload_n 1, 1) := by decide +kernel
theorem J_HBlocks_mendWord_d35 : decode J_HBlocks_mendWord.2.1 35 = .ok (.if_icmp .ge 98, 3) := by decide +kernel
theorem J_HBlocks_mendWord_d38 : decode J_HBlocks_mendWord.2.1 38 = .ok (.iload_n 1, 1) := by decide +kernel
theorem J_HBlocks_mendWord_d39 : decode J_HBlocks_mendWord.2.1 39 = .ok (.iconst 1, 1) := by decide +kernel
theorem J_HBlocks_mendWord_d40 : decode J_HBlocks_mendWord.2.1 40 = .ok (.isub, 1) := by decide +kernel
theorem J_HBlocks_mendWord_d41 : decode J_HBlocks_mendWord.2.1 41 = .ok (.iload 5, 2) := by decide +kernel
theorem J_HBlocks_mendWord_d43 : decode J_HBlocks_mendWord.2.1 43 = .ok (.isub, 1) := by decide +kernel
theorem J_HBlocks_mendWord_d44 : decode J_HBlocks_mendWord.2.1 44 = .ok (.istore 6, 2) := by decide +kernel
theorem J_HBlocks_mendWord_d46 : decode J_HBlocks_mendWord.2.1 46 = .ok (.aload_n 0, 1) := by decide +kernel
theorem J_HBlocks_mendWord_d47 : decode J_HBlocks_mendWord.2.1 47 = .ok (.getfield 15, 3) := by decide +kernel
theorem J_HBlocks_mendWord_d50 : decode J_HBlocks_mendWord.2.1 50 = .ok (.sipush 255, 3) := by decide +kernel
theorem J_HBlocks_mendWord_d53 : decode J_HBlocks_mendWord.2.1 53 = .ok (.iload 6, 2) := by decide +kernel
theorem J_HBlocks_mendWord_d55 : decode J_HBlocks_mendWord.2.1 55 = .ok (.isub, 1) := by decide +kernel
theorem J_HBlocks_mendWord_d56 : decode J_HBlocks_mendWord.2.1 56 = .ok (.iaload, 1) := by decide +kernel
theorem J_HBlocks_mendWord_d57 : decode J_HBlocks_mendWord.2.1 57 = .ok (.istore 7, 2) := by decide +kernel
theorem J_HBlocks_mendWord_d59 : decode J_HBlocks_mendWord.2.1 59 = .ok (.aload_n 0, 1) := by decide +kernel
theorem J_HBlocks_mendWord_d60 : decode J_HBlocks_mendWord.2.1 60 = .ok (.aload_n 0, 1) := by decide +kernel
theorem J_HBlocks_mendWord_d61 : decode J_HBlocks_mendWord.2.1 61 = .ok (.getfield 31, 3) := by decide +kernel
theorem J_HBlocks_mendWord_d64 : decode J_HBlocks_mendWord.2.1 64 = .ok (.iload 7, 2) := by decide +kernel
theorem J_HBlocks_mendWord_d66 : decode J_HBlocks_mendWord.2.1 66 = .ok (.invokevirtual 116, 3) := by decide +kernel
theorem J_HBlocks_mendWord_d69 : decode J_HBlocks_mendWord.2.1 69 = .ok (.ifCond .ne 58, 3) := by decide +kernel
theorem J_HBlocks_mendWord_d72 : decode J_HBlocks_mendWord.2.1 72 = .ok (.iinc 4 1, 3) := by decide +kernel
theorem J_HBlocks_mendWord_d75 : decode J_HBlocks_mendWord.2.1 75 = .ok (.aload_n 0, 1) := by decide +kernel
theorem J_HBlocks_mendWord_d76 : decode J_HBlocks_mendWord.2.1 76 = .ok (.iload 7, 2) := by decide +kernel
theorem J_HBlocks_mendWord_d78 : decode J_HBlocks_mendWord.2.1 78 = .ok (.invokevirtual 120, 3) := by decide +kernel
theorem J_HBlocks_mendWord_d81 : decode J_HBlocks_mendWord.2.1 81 = .ok (.istore 8, 2) := by decide +kernel
theorem J_HBlocks_mendWord_d83 : decode J_HBlocks_mendWord.2.1 83 = .ok (.iload 8, 2) := by decide +kernel
theorem J_HBlocks_mendWord_d85 : decode J_HBlocks_mendWord.2.1 85 = .ok (.ifCond .ne 5, 3) := by decide +kernel
theorem J_HBlocks_mendWord_d88 : decode J_HBlocks_mendWord.2.1 88 = .ok (.iconst (-1), 1) := by decide +kernel
theorem J_HBlocks_mendWord_d89 : decode J_HBlocks_mendWord.2.1 89 = .ok (.ireturn, 1) := by decide +kernel
theorem J_HBlocks_mendWord_d90 : decode J_HBlocks_mendWord.2.1 90 = .ok (.aload_n 0, 1) := by decide +kernel
theorem J_HBlocks_mendWord_d91 : decode J_HBlocks_mendWord.2.1 91 = .ok (.getfield 25, 3) := by decide +kernel
theorem J_HBlocks_mendWord_d94 : decode J_HBlocks_mendWord.2.1 94 = .ok (.iload 5, 2) := by decide +kernel
theorem J_HBlocks_mendWord_d96 : decode J_HBlocks_mendWord.2.1 96 = .ok (.dup2, 1) := by decide +kernel
theorem J_HBlocks_mendWord_d97 : decode J_HBlocks_mendWord.2.1 97 = .ok (.iaload, 1) := by decide +kernel
theorem J_HBlocks_mendWord_d98 : decode J_HBlocks_mendWord.2.1 98 = .ok (.aload_n 0, 1) := by decide +kernel
theorem J_HBlocks_mendWord_d99 : decode J_HBlocks_mendWord.2.1 99 = .ok (.aload_n 0, 1) := by decide +kernel
theorem J_HBlocks_mendWord_d100 : decode J_HBlocks_mendWord.2.1 100 = .ok (.getfield 15, 3) := by decide +kernel
theorem J_HBlocks_mendWord_d103 : decode J_HBlocks_mendWord.2.1 103 = .ok (.iload 6, 2) := by decide +kernel
theorem J_HBlocks_mendWord_d105 : decode J_HBlocks_mendWord.2.1 105 = .ok (.iaload, 1) := by decide +kernel
theorem J_HBlocks_mendWord_d106 : decode J_HBlocks_mendWord.2.1 106 = .ok (.aload_n 0, 1) := by decide +kernel
theorem J_HBlocks_mendWord_d107 : decode J_HBlocks_mendWord.2.1 107 = .ok (.aload_n 0, 1) := by decide +kernel
theorem J_HBlocks_mendWord_d108 : decode J_HBlocks_mendWord.2.1 108 = .ok (.aload_n 0, 1) := by decide +kernel
theorem J_HBlocks_mendWord_d109 : decode J_HBlocks_mendWord.2.1 109 = .ok (.getfield 40, 3) := by decide +kernel
theorem J_HBlocks_mendWord_d112 : decode J_HBlocks_mendWord.2.1 112 = .ok (.iload 7, 2) := by decide +kernel
theorem J_HBlocks_mendWord_d114 : decode J_HBlocks_mendWord.2.1 114 = .ok (.invokevirtual 116, 3) := by decide +kernel
theorem J_HBlocks_mendWord_d117 : decode J_HBlocks_mendWord.2.1 117 = .ok (.iload 8, 2) := by decide +kernel
theorem J_HBlocks_mendWord_d119 : decode J_HBlocks_mendWord.2.1 119 = .ok (.invokevirtual 123, 3) := by decide +kernel
theorem J_HBlocks_mendWord_d122 : decode J_HBlocks_mendWord.2.1 122 = .ok (.invokevirtual 93, 3) := by decide +kernel
theorem J_HBlocks_mendWord_d125 : decode J_HBlocks_mendWord.2.1 125 = .ok (.ixor, 1) := by decide +kernel
theorem J_HBlocks_mendWord_d126 : decode J_HBlocks_mendWord.2.1 126 = .ok (.iastore, 1) := by decide +kernel
theorem J_HBlocks_mendWord_d127 : decode J_HBlocks_mendWord.2.1 127 = .ok (.iinc 5 1, 3) := by decide +kernel
theorem J_HBlocks_mendWord_d130 : decode J_HBlocks_mendWord.2.1 130 = .ok (.goto (-98), 3) := by decide +kernel
theorem J_HBlocks_mendWord_d133 : decode J_HBlocks_mendWord.2.1 133 = .ok (.iload 4, 2) := by decide +kernel
theorem J_HBlocks_mendWord_d135 : decode J_HBlocks_mendWord.2.1 135 = .ok (.iload_n 3, 1) := by decide +kernel
theorem J_HBlocks_mendWord_d136 : decode J_HBlocks_mendWord.2.1 136 = .ok (.if_icmp .ne 15, 3) := by decide +kernel
theorem J_HBlocks_mendWord_d139 : decode J_HBlocks_mendWord.2.1 139 = .ok (.aload_n 0, 1) := by decide +kernel
theorem J_HBlocks_mendWord_d140 : decode J_HBlocks_mendWord.2.1 140 = .ok (.iload_n 1, 1) := by decide +kernel
theorem J_HBlocks_mendWord_d141 : decode J_HBlocks_mendWord.2.1 141 = .ok (.invokevirtual 105, 3) := by decide +kernel
theorem J_HBlocks_mendWord_d144 : decode J_HBlocks_mendWord.2.1 144 = .ok (.ifCond .eq 7, 3) := by decide +kernel
theorem J_HBlocks_mendWord_d147 : decode J_HBlocks_mendWord.2.1 147 = .ok (.iload_n 3, 1) := by decide +kernel
theorem J_HBlocks_mendWord_d148 : decode J_HBlocks_mendWord.2.1 148 = .ok (.goto 4, 3) := by decide +kernel
theorem J_HBlocks_mendWord_d151 : decode J_HBlocks_mendWord.2.1 151 = .ok (.iconst (-1), 1) := by decide +kernel
theorem J_HBlocks_mendWord_d152 : decode J_HBlocks_mendWord.2.1 152 = .ok (.ireturn, 1) := by decide +kernel
theorem f_HBlocks_mendWord_ok {L : Nat} {xs : Nat → Int32} {dep : Nat} {w : Bool} {p0 : Int32} {p1 : Int32} {M : im_M} {Q : Int32 × im_M → Prop} (hM : lw_S w M) (h : ed (f_HBlocks_mendWord p0 p1 M) Q) : ia (tb_G L xs) (dep + 2) J_HBlocks_mendWord (rwI w Q) (0, lv_args 0 [.ref 43, .int p0, .int p1], [], M) := by
  have hS : im_St (tb_G L xs) (dep + 2) J_HBlocks_mendWord (ia (tb_G L xs) (dep + 2) J_HBlocks_mendWord (rwI w Q)) := ia_St
  unfold f_HBlocks_mendWord at h
  have l0 : im_lk (lv_args 0 [.ref 43, .int p0, .int p1]) 0 = some (.ref 43) := rfl
  have l1 : im_lk (lv_args 0 [.ref 43, .int p0, .int p1]) 1 = some (.int p0) := rfl
  have l2 : im_lk (lv_args 0 [.ref 43, .int p0, .int p1]) 2 = some (.int p1) := rfl
  refine iq_aload_n hS 1 J_HBlocks_mendWord_d0 l0 rfl ?_
  refine iq_iload_n hS 2 J_HBlocks_mendWord_d1 l1 rfl ?_
  obtain ⟨Q1, hQ1, h⟩ := bd2_ed h
  refine iq_cwI hS 5 J_HBlocks_mendWord_d2 rfl (pr_inst (vs := [_]) lc_1_105 lT_234 rfl rfl (by decide) (by decide) rfl (Nat.le_of_ble_eq_true rfl) (Nat.le_of_ble_eq_true rfl) (fun _ => Or.inl (pr_b (ka_43 hM) (by decide) rfl))) (f_HBlocks_isCodeword_ok (dep := dep + 0) hM h) rfl ?_
  intro x1 M1 hM1 h
  replace h := hQ1 _ _ h
  refine iq_if_eq hS 8 J_HBlocks_mendWord_d5 (t := 10) rfl (fun q5 => ?_) rfl (fun q5 => ?_)
  · replace h := ed_pos q5 h
    refine iq_aload_n hS 11 J_HBlocks_mendWord_d10 l0 rfl ?_
    obtain ⟨Q2, hQ2, h⟩ := bd2_ed h
    refine iq_cwI hS 14 J_HBlocks_mendWord_d11 rfl (pr_inst (vs := []) lc_1_109 lT_235 rfl rfl (by decide) (by decide) rfl (Nat.le_of_ble_eq_true rfl) (Nat.le_of_ble_eq_true rfl) (fun _ => Or.inl (pr_b (ka_43 hM1) (by decide) rfl))) (f_HBlocks_findLocator_ok (dep := dep + 0) hM1 h) rfl ?_
    intro x2 M2 hM2 h
    replace h := hQ2 _ _ h
    refine iq_istore_n hS 15 J_HBlocks_mendWord_d14 (by decide) rfl ?_
    refine iq_iload_n hS 16 J_HBlocks_mendWord_d15 lk_1s rfl ?_
    refine iq_iload_n hS 17 J_HBlocks_mendWord_d16 (lk_1i l2 (by decide)) rfl ?_
    refine iq_icmp_le hS 20 J_HBlocks_mendWord_d17 (t := 22) rfl (fun q17 => ?_) rfl (fun q17 => ?_)
    · replace h := ed_pos q17 h
      refine iq_aload_n hS 23 J_HBlocks_mendWord_d22 (lk_1r l0 (by decide)) rfl ?_
      obtain ⟨Q3, hQ3, h⟩ := bd1_ed h
      refine iq_cwV hS 26 J_HBlocks_mendWord_d23 rfl (pr_inst (vs := []) lc_1_113 lT_237 rfl rfl (by decide) (by decide) rfl (Nat.le_of_ble_eq_true rfl) (Nat.le_of_ble_eq_true rfl) (fun _ => Or.inl (pr_b (ka_43 hM2) (by decide) rfl))) (f_HBlocks_makeEvaluator_ok (dep := dep + 0) hM2 h) rfl ?_
      intro M3 hM3 h
      replace h := hQ3 _ h
      refine iq_iconst hS 27 J_HBlocks_mendWord_d26 (v := 0) (by decide +kernel) rfl ?_
      refine iq_istore hS 29 J_HBlocks_mendWord_d27 (by decide) rfl ?_
      refine iq_iconst hS 30 J_HBlocks_mendWord_d29 (v := 0) (by decide +kernel) rfl ?_
      refine iq_istore hS 32 J_HBlocks_mendWord_d30 (by decide) rfl ?_
      obtain ⟨Q4, hQ4, hR4, h⟩ := bs2_ed h
      have K4 : ∀ (y5 : Int32) (M6 : im_M) (L' : List (Nat × Value)), lw_S w M6 → im_lk L' 0 = some (.ref 43) → im_lk L' 1 = some (.int p0) → im_lk L' 3 = some (.int x2) → im_lk L' 4 = some (.int y5) → Q4 (.inl (y5, M6)) → ia (tb_G L xs) (dep + 2) J_HBlocks_mendWord (rwI w Q) (133, L', [], M6) := by
        intro y5 M6 L' hM6 l7 l8 l9 l10 h
        replace h := hQ4 _ _ h
        refine iq_iload hS 135 J_HBlocks_mendWord_d133 l10 rfl ?_
        refine iq_iload_n hS 136 J_HBlocks_mendWord_d135 l9 rfl ?_
        refine iq_icmp_ne hS 139 J_HBlocks_mendWord_d136 (t := 151) rfl (fun q136 => ?_) rfl (fun q136 => ?_)
        · replace h := ed_pos q136 h
          refine iq_iconst hS 152 J_HBlocks_mendWord_d151 (v := (-1)) (by decide +kernel) rfl ?_
          exact iq_iret J_HBlocks_mendWord_d152 rfl rfl ⟨_, rfl, hM6, ed_some h⟩
        · replace h := ed_neg q136 h
          refine iq_aload_n hS 140 J_HBlocks_mendWord_d139 l7 rfl ?_
          refine iq_iload_n hS 141 J_HBlocks_mendWord_d140 l8 rfl ?_
          obtain ⟨Q11, hQ11, h⟩ := bd2_ed h
          refine iq_cwI hS 144 J_HBlocks_mendWord_d141 rfl (pr_inst (vs := [_]) lc_1_105 lT_234 rfl rfl (by decide) (by decide) rfl (Nat.le_of_ble_eq_true rfl) (Nat.le_of_ble_eq_true rfl) (fun _ => Or.inl (pr_b (ka_43 hM6) (by decide) rfl))) (f_HBlocks_isCodeword_ok (dep := dep + 0) hM6 h) rfl ?_
          intro x11 M11 hM11 h
          replace h := hQ11 _ _ h
          refine iq_if_eq hS 147 J_HBlocks_mendWord_d144 (t := 151) rfl (fun q144 => ?_) rfl (fun q144 => ?_)
          · replace h := ed_pos q144 h
            refine iq_iconst hS 152 J_HBlocks_mendWord_d151 (v := (-1)) (by decide +kernel) rfl ?_
            exact iq_iret J_HBlocks_mendWord_d152 rfl rfl ⟨_, rfl, hM11, ed_some h⟩
          · replace h := ed_neg q144 h
            refine iq_iload_n hS 148 J_HBlocks_mendWord_d147 l9 rfl ?_
            refine iq_goto hS J_HBlocks_mendWord_d148 (t := 152) rfl ?_
            exact iq_iret J_HBlocks_mendWord_d152 rfl rfl ⟨_, rfl, hM11, ed_some h⟩
      obtain ⟨r4, hr4, hq4⟩ := h
      obtain ⟨n4, hn4⟩ := lp_n hr4
      have I4 : ∀ (n : Nat) (x12 : Int32) (x13 : Int32) (M14 : im_M) (L' : List (Nat × Value)), lw_S w M14 → im_lk L' 0 = some (.ref 43) → im_lk L' 1 = some (.int p0) → im_lk L' 3 = some (.int x2) → im_lk L' 4 = some (.int x12) → im_lk L' 5 = some (.int x13) → lpn (uc3 (f_HBlocks_mendWord_L32 p0 x2)) n (x12, x13, M14) = some r4 → ia (tb_G L xs) (dep + 2) J_HBlocks_mendWord (rwI w Q) (32, L', [], M14) := by
        intro n
        induction n with
        | zero => intro x12 x13 M14 L' hM14 l15 l16 l17 l18 l19 hn; exact (lpn_0 hn).elim
        | succ n ih =>
          intro x12 x13 M14 L' hM14 l15 l16 l17 l18 l19 hn
          have h := lpn_ed3 hn
          unfold f_HBlocks_mendWord_L32 at h
          refine iq_iload hS 34 J_HBlocks_mendWord_d32 l19 rfl ?_
          refine iq_iload_n hS 35 J_HBlocks_mendWord_d34 l16 rfl ?_
          refine iq_icmp_ge hS 38 J_HBlocks_mendWord_d35 (t := 133) rfl (fun q35 => ?_) rfl (fun q35 => ?_)
          · replace h := ed_pos q35 h
            exact K4 _ _ _ hM14 l15 l16 l17 l18 (lq_r h hq4)
          · replace h := ed_neg q35 h
            refine iq_iload_n hS 39 J_HBlocks_mendWord_d38 l16 rfl ?_
            refine iq_iconst hS 40 J_HBlocks_mendWord_d39 (v := 1) (by decide +kernel) rfl ?_
            refine iq_isub hS 41 J_HBlocks_mendWord_d40 rfl ?_
            refine iq_iload hS 43 J_HBlocks_mendWord_d41 l19 rfl ?_
            refine iq_isub hS 44 J_HBlocks_mendWord_d43 rfl ?_
            refine iq_istore hS 46 J_HBlocks_mendWord_d44 (by decide) rfl ?_
            refine iq_aload_n hS 47 J_HBlocks_mendWord_d46 (lk_1r l15 (by decide)) rfl ?_
            refine iq_getR hS 50 J_HBlocks_mendWord_d47 lf_1_15 (Or.inr ⟨_, rfl⟩) (ka_43 hM14) (ra_43_1 hM14) rfl ?_
            refine iq_sipush hS 53 J_HBlocks_mendWord_d50 (v := 255) (by decide +kernel) rfl ?_
            refine iq_iload hS 55 J_HBlocks_mendWord_d53 lk_1s rfl ?_
            refine iq_isub hS 56 J_HBlocks_mendWord_d55 rfl ?_
            obtain ⟨g56, h⟩ := ed_gd h
            refine iq_iaload hS 57 J_HBlocks_mendWord_d56 ⟨(ka_45 hM14).1, (ka_45 hM14).2, g56.1, ix_lt (kl_45 hM14) g56.2⟩ rfl ?_
            refine iq_istore hS 59 J_HBlocks_mendWord_d57 (by decide) rfl ?_
            refine iq_aload_n hS 60 J_HBlocks_mendWord_d59 (lk_1r (lk_1r l15 (by decide)) (by decide)) rfl ?_
            refine iq_aload_n hS 61 J_HBlocks_mendWord_d60 (lk_1r (lk_1r l15 (by decide)) (by decide)) rfl ?_
            refine iq_getR hS 64 J_HBlocks_mendWord_d61 lf_1_31 (Or.inr ⟨_, rfl⟩) (ka_43 hM14) (ra_43_6 hM14) rfl ?_
            refine iq_iload hS 66 J_HBlocks_mendWord_d64 lk_1s rfl ?_
            obtain ⟨Q20, hQ20, h⟩ := bd1_ed h
            refine iq_cpI hS 69 J_HBlocks_mendWord_d66 rfl (pr_inst (vs := [_, _]) lc_1_116 lT_238 rfl rfl (by decide) (by decide) rfl (Nat.le_of_ble_eq_true rfl) (Nat.le_of_ble_eq_true rfl) (fun _ => Or.inl (pr_b (ka_43 hM14) (by decide) rfl))) (f_HBlocks_valueAt_ok (dep := dep + 0) hM14 h) rfl ?_
            intro x20 h
            replace h := hQ20 _ h
            obtain ⟨k21, Q21, hQ21, hk21, h⟩ := jn2_ed h
            have J21 : ∀ (y26 : Int32) (M27 : im_M) (L' : List (Nat × Value)), lw_S w M27 → im_lk L' 0 = some (.ref 43) → im_lk L' 1 = some (.int p0) → im_lk L' 3 = some (.int x2) → im_lk L' 4 = some (.int y26) → im_lk L' 5 = some (.int x13) → Q21 y26 M27 → ia (tb_G L xs) (dep + 2) J_HBlocks_mendWord (rwI w Q) (127, L', [], M27) := by
              intro y26 M27 L' hM27 l28 l29 l30 l31 l32 h
              replace h := hQ21 _ _ h
              refine iq_iincv hS 130 J_HBlocks_mendWord_d127 (c := 1) (by decide +kernel) l32 (by decide) rfl ?_
              refine iq_goto hS J_HBlocks_mendWord_d130 (t := 32) rfl ?_
              exact ih _ _ _ _ hM27 (lk_1r l28 (by decide)) (lk_1i l29 (by decide)) (lk_1i l30 (by decide)) (lk_1i l31 (by decide)) lk_1s (lq_l h)
            refine iq_if_ne hS 72 J_HBlocks_mendWord_d69 (t := 127) rfl (fun q69 => ?_) rfl (fun q69 => ?_)
            · replace h := ed_pos q69 h
              exact J21 _ _ _ hM14 (lk_1r (lk_1r l15 (by decide)) (by decide)) (lk_1i (lk_1i l16 (by decide)) (by decide)) (lk_1i (lk_1i l17 (by decide)) (by decide)) (lk_1i (lk_1i l18 (by decide)) (by decide)) (lk_1i (lk_1i l19 (by decide)) (by decide)) (hk21 _ _ h)
            · replace h := ed_neg q69 h
              refine iq_iincv hS 75 J_HBlocks_mendWord_d72 (c := 1) (by decide +kernel) (lk_1i (lk_1i l18 (by decide)) (by decide)) (by decide) rfl ?_
              refine iq_aload_n hS 76 J_HBlocks_mendWord_d75 (lk_1r (lk_1r (lk_1r l15 (by decide)) (by decide)) (by decide)) rfl ?_
              refine iq_iload hS 78 J_HBlocks_mendWord_d76 (lk_1i lk_1s (by decide)) rfl ?_
              obtain ⟨Q22, hQ22, h⟩ := bd1_ed h
              refine iq_cpI hS 81 J_HBlocks_mendWord_d78 rfl (pr_inst (vs := [_]) lc_1_120 lT_239 rfl rfl (by decide) (by decide) rfl (Nat.le_of_ble_eq_true rfl) (Nat.le_of_ble_eq_true rfl) (fun _ => Or.inl (pr_b (ka_43 hM14) (by decide) rfl))) (f_HBlocks_slopeAt_ok (dep := dep + 0) hM14 h) rfl ?_
              intro x22 h
              replace h := hQ22 _ h
              refine iq_istore hS 83 J_HBlocks_mendWord_d81 (by decide) rfl ?_
              refine iq_iload hS 85 J_HBlocks_mendWord_d83 lk_1s rfl ?_
              refine iq_if_ne hS 88 J_HBlocks_mendWord_d85 (t := 90) rfl (fun q85 => ?_) rfl (fun q85 => ?_)
              · replace h := ed_pos q85 h
                refine iq_aload_n hS 91 J_HBlocks_mendWord_d90 (lk_1r (lk_1r (lk_1r (lk_1r l15 (by decide)) (by decide)) (by decide)) (by decide)) rfl ?_
                refine iq_getR hS 94 J_HBlocks_mendWord_d91 lf_1_25 (Or.inr ⟨_, rfl⟩) (ka_43 hM14) (ra_43_4 hM14) rfl ?_
                refine iq_iload hS 96 J_HBlocks_mendWord_d94 (lk_1i (lk_1i (lk_1i (lk_1i l19 (by decide)) (by decide)) (by decide)) (by decide)) rfl ?_
                refine iq_dup2 hS 97 J_HBlocks_mendWord_d96 rfl rfl rfl ?_
                obtain ⟨g97, h⟩ := ed_gd h
                refine iq_iaload hS 98 J_HBlocks_mendWord_d97 ⟨(ka_48 hM14).1, (ka_48 hM14).2, g97.1, ix_lt (kl_48 hM14) g97.2⟩ rfl ?_
                refine iq_aload_n hS 99 J_HBlocks_mendWord_d98 (lk_1r (lk_1r (lk_1r (lk_1r l15 (by decide)) (by decide)) (by decide)) (by decide)) rfl ?_
                refine iq_aload_n hS 100 J_HBlocks_mendWord_d99 (lk_1r (lk_1r (lk_1r (lk_1r l15 (by decide)) (by decide)) (by decide)) (by decide)) rfl ?_
                refine iq_getR hS 103 J_HBlocks_mendWord_d100 lf_1_15 (Or.inr ⟨_, rfl⟩) (ka_43 hM14) (ra_43_1 hM14) rfl ?_
                refine iq_iload hS 105 J_HBlocks_mendWord_d103 (lk_1i (lk_1i (lk_1i lk_1s (by decide)) (by decide)) (by decide)) rfl ?_
                obtain ⟨g105, h⟩ := ed_gd h
                refine iq_iaload hS 106 J_HBlocks_mendWord_d105 ⟨(ka_45 hM14).1, (ka_45 hM14).2, g105.1, ix_lt (kl_45 hM14) g105.2⟩ rfl ?_
                refine iq_aload_n hS 107 J_HBlocks_mendWord_d106 (lk_1r (lk_1r (lk_1r (lk_1r l15 (by decide)) (by decide)) (by decide)) (by decide)) rfl ?_
                refine iq_aload_n hS 108 J_HBlocks_mendWord_d107 (lk_1r (lk_1r (lk_1r (lk_1r l15 (by decide)) (by decide)) (by decide)) (by decide)) rfl ?_
                refine iq_aload_n hS 109 J_HBlocks_mendWord_d108 (lk_1r (lk_1r (lk_1r (lk_1r l15 (by decide)) (by decide)) (by decide)) (by decide)) rfl ?_
                refine iq_getR hS 112 J_HBlocks_mendWord_d109 lf_1_40 (Or.inr ⟨_, rfl⟩) (ka_43 hM14) (ra_43_9 hM14) rfl ?_
                refine iq_iload hS 114 J_HBlocks_mendWord_d112 (lk_1i (lk_1i lk_1s (by decide)) (by decide)) rfl ?_
                obtain ⟨Q23, hQ23, h⟩ := bd1_ed h
                refine iq_cpI hS 117 J_HBlocks_mendWord_d114 rfl (pr_inst (vs := [_, _]) lc_1_116 lT_238 rfl rfl (by decide) (by decide) rfl (Nat.le_of_ble_eq_true rfl) (Nat.le_of_ble_eq_true rfl) (fun _ => Or.inl (pr_b (ka_43 hM14) (by decide) rfl))) (f_HBlocks_valueAt_1_ok (dep := dep + 0) hM14 h) rfl ?_
                intro x23 h
                replace h := hQ23 _ h
                refine iq_iload hS 119 J_HBlocks_mendWord_d117 lk_1s rfl ?_
                obtain ⟨Q24, hQ24, h⟩ := bd1_ed h
                refine iq_cpI hS 122 J_HBlocks_mendWord_d119 rfl (pr_inst (vs := [_, _]) lc_1_123 lT_236 rfl rfl (by decide) (by decide) rfl (Nat.le_of_ble_eq_true rfl) (Nat.le_of_ble_eq_true rfl) (fun _ => Or.inl (pr_b (ka_43 hM14) (by decide) rfl))) (f_HBlocks_over_ok (dep := dep + 1) hM14 h) rfl ?_
                intro x24 h
                replace h := hQ24 _ h
                obtain ⟨Q25, hQ25, h⟩ := bd1_ed h
                refine iq_cpI hS 125 J_HBlocks_mendWord_d122 rfl (pr_inst (vs := [_, _]) lc_1_93 lT_151 rfl rfl (by decide) (by decide) rfl (Nat.le_of_ble_eq_true rfl) (Nat.le_of_ble_eq_true rfl) (fun _ => Or.inl (pr_b (ka_43 hM14) (by decide) rfl))) (f_HBlocks_times_ok (dep := dep + 1) hM14 h) rfl ?_
                intro x25 h
                replace h := hQ25 _ h
                refine iq_ixor hS 126 J_HBlocks_mendWord_d125 rfl ?_
                obtain ⟨g126, h⟩ := ed_gd h
                refine iq_iastore hS 127 J_HBlocks_mendWord_d126 ⟨(ka_48 hM14).1, (ka_48 hM14).2, g126.1, ix_lt (kl_48 hM14) g126.2⟩ rfl ?_
                exact J21 _ _ _ (lw_sI hM14) (lk_1r (lk_1r (lk_1r (lk_1r l15 (by decide)) (by decide)) (by decide)) (by decide)) (lk_1i (lk_1i (lk_1i (lk_1i l16 (by decide)) (by decide)) (by decide)) (by decide)) (lk_1i (lk_1i (lk_1i (lk_1i l17 (by decide)) (by decide)) (by decide)) (by decide)) (lk_1i lk_1s (by decide)) (lk_1i (lk_1i (lk_1i (lk_1i l19 (by decide)) (by decide)) (by decide)) (by decide)) (hk21 _ _ h)
              · replace h := ed_neg q85 h
                refine iq_iconst hS 89 J_HBlocks_mendWord_d88 (v := (-1)) (by decide +kernel) rfl ?_
                exact iq_iret J_HBlocks_mendWord_d89 rfl rfl ⟨_, rfl, hM14, ed_some (hR4 _ (lq_r h hq4))⟩
      exact I4 n4 _ _ _ _ hM3 (lk_1r (lk_1r (lk_1r l0 (by decide)) (by decide)) (by decide)) (lk_1i (lk_1i (lk_1i l1 (by decide)) (by decide)) (by decide)) (lk_1i (lk_1i lk_1s (by decide)) (by decide)) (lk_1i lk_1s (by decide)) lk_1s hn4
    · replace h := ed_neg q17 h
      refine iq_iconst hS 21 J_HBlocks_mendWord_d20 (v := (-1)) (by decide +kernel) rfl ?_
      exact iq_iret J_HBlocks_mendWord_d21 rfl rfl ⟨_, rfl, hM2, ed_some h⟩
  · replace h := ed_neg q5 h
    refine iq_iconst hS 9 J_HBlocks_mendWord_d8 (v := 0) (by decide +kernel) rfl ?_
    exact iq_iret J_HBlocks_mendWord_d9 rfl rfl ⟨_, rfl, hM1, ed_some h⟩
theorem f_HBlocks_mendWord_fr {p0 : Int32} {p1 : Int32} {M : im_M} {r : Int32 × im_M} (h : f_HBlocks_mendWord p0 p1 M = some r) : fr 17732923532771328 [] M r.2 := by
  replace h : ed (f_HBlocks_mendWord p0 p1 M) (fun x => x = r) := ⟨r, h, rfl⟩
  unfold f_HBlocks_mendWord at h
  obtain ⟨Q1, hQ1, h⟩ := bd2_ed h
  obtain ⟨⟨x1, M1⟩, e1, h⟩ := h
  replace h := hQ1 _ _ h
  by_cases q5 : x1 = 0
  · replace h := ed_pos q5 h
    obtain ⟨Q2, hQ2, h⟩ := bd2_ed h
    obtain ⟨⟨x2, M2⟩, e2, h⟩ := h
    replace h := hQ2 _ _ h
    by_cases q17 : x2 ≤ p1
    · replace h := ed_pos q17 h
      obtain ⟨Q3, hQ3, h⟩ := bd1_ed h
      obtain ⟨M3, e3, h⟩ := h
      replace h := hQ3 _ h
      obtain ⟨Q4, hQ4, hR4, h⟩ := bs2_ed h
      have K4 : ∀ (y5 : Int32) (M6 : im_M), fr 17732923532771328 [] M M6 → Q4 (.inl (y5, M6)) → fr 17732923532771328 [] M r.2 := by
        intro y5 M6 hM6 h
        replace h := hQ4 _ _ h
        by_cases q136 : ¬ y5 = x2
        · replace h := ed_pos q136 h
          exact fr_ret h hM6
        · replace h := ed_neg q136 h
          obtain ⟨Q7, hQ7, h⟩ := bd2_ed h
          obtain ⟨⟨x7, M7⟩, e7, h⟩ := h
          replace h := hQ7 _ _ h
          by_cases q144 : x7 = 0
          · replace h := ed_pos q144 h
            exact fr_ret h (fr_tr (fr_mono (by decide) (by decide +kernel) (f_HBlocks_isCodeword_fr e7)) hM6)
          · replace h := ed_neg q144 h
            exact fr_ret h (fr_tr (fr_mono (by decide) (by decide +kernel) (f_HBlocks_isCodeword_fr e7)) hM6)
      obtain ⟨r4, hr4, hq4⟩ := h
      obtain ⟨n4, hn4⟩ := lp_n hr4
      have I4 : ∀ (n : Nat) (x8 : Int32) (x9 : Int32) (M10 : im_M), fr 17732923532771328 [] M M10 → lpn (uc3 (f_HBlocks_mendWord_L32 p0 x2)) n (x8, x9, M10) = some r4 → fr 17732923532771328 [] M r.2 := by
        intro n
        induction n with
        | zero => intro x8 x9 M10 hM10 hn; exact (lpn_0 hn).elim
        | succ n ih =>
          intro x8 x9 M10 hM10 hn
          have h := lpn_ed3 hn
          unfold f_HBlocks_mendWord_L32 at h
          by_cases q35 : p0 ≤ x9
          · replace h := ed_pos q35 h
            exact K4 _ _ hM10 (lq_r h hq4)
          · replace h := ed_neg q35 h
            obtain ⟨g56, h⟩ := ed_gd h
            obtain ⟨Q11, hQ11, h⟩ := bd1_ed h
            obtain ⟨x11, e11, h⟩ := h
            replace h := hQ11 _ h
            obtain ⟨k12, Q12, hQ12, hk12, h⟩ := jn2_ed h
            have J12 : ∀ (y17 : Int32) (M18 : im_M), fr 17732923532771328 [] M M18 → Q12 y17 M18 → fr 17732923532771328 [] M r.2 := by
              intro y17 M18 hM18 h
              replace h := hQ12 _ _ h
              exact ih _ _ _ hM18 (lq_l h)
            by_cases q69 : ¬ x11 = 0
            · replace h := ed_pos q69 h
              exact J12 _ _ hM10 (hk12 _ _ h)
            · replace h := ed_neg q69 h
              obtain ⟨Q13, hQ13, h⟩ := bd1_ed h
              obtain ⟨x13, e13, h⟩ := h
              replace h := hQ13 _ h
              by_cases q85 : ¬ x13 = 0
              · replace h := ed_pos q85 h
                obtain ⟨g97, h⟩ := ed_gd h
                obtain ⟨g105, h⟩ := ed_gd h
                obtain ⟨Q14, hQ14, h⟩ := bd1_ed h
                obtain ⟨x14, e14, h⟩ := h
                replace h := hQ14 _ h
                obtain ⟨Q15, hQ15, h⟩ := bd1_ed h
                obtain ⟨x15, e15, h⟩ := h
                replace h := hQ15 _ h
                obtain ⟨Q16, hQ16, h⟩ := bd1_ed h
                obtain ⟨x16, e16, h⟩ := h
                replace h := hQ16 _ h
                obtain ⟨g126, h⟩ := ed_gd h
                exact J12 _ _ (fr_I (by decide) hM10) (hk12 _ _ h)
              · replace h := ed_neg q85 h
                exact fr_ret (hR4 _ (lq_r h hq4)) hM10
      exact I4 n4 _ _ _ (fr_tr (fr_mono (by decide) (by decide +kernel) (f_HBlocks_makeEvaluator_fr e3)) (fr_tr (fr_mono (by decide) (by decide +kernel) (f_HBlocks_findLocator_fr e2)) (fr_tr (fr_mono (by decide) (by decide +kernel) (f_HBlocks_isCodeword_fr e1)) fr_refl))) hn4
    · replace h := ed_neg q17 h
      exact fr_ret h (fr_tr (fr_mono (by decide) (by decide +kernel) (f_HBlocks_findLocator_fr e2)) (fr_tr (fr_mono (by decide) (by decide +kernel) (f_HBlocks_isCodeword_fr e1)) fr_refl))
  · replace h := ed_neg q5 h
    exact fr_ret h (fr_tr (fr_mono (by decide) (by decide +kernel) (f_HBlocks_isCodeword_fr e1)) fr_refl)
noncomputable def f_HBlocks_mend_L49 (v11 : Int32) (v12 : Int32) (v13 : Int32) (v14 : Int32) (v15 : Int32) (x16 : Int32) (M17 : im_M) : Option ((Int32 × im_M) ⊕ (im_M)) := if (v15 + (im_i M17 43 12)) ≤ x16 then some (.inr M17) else bd1 (f_HBlocks_placeOf v14 x16 M17) fun (x18 : Int32) => gd (inb x18 3706) <| gd (inb x16 255) <| some (.inl ((x16 + 1), (im_setI M17 48 (Int32.toNatClampNeg x16) ((im_i M17 44 (Int32.toNatClampNeg x18)) &&& 255))))
noncomputable def f_HBlocks_mend_L124 (v22 : Int32) (v23 : Int32) (v24 : Int32) (v25 : Int32) (v26 : Int32) (x27 : Int32) (M28 : im_M) : Option ((Int32 × im_M) ⊕ (im_M)) := if v26 ≤ x27 then some (.inr M28) else gd (inb x27 255) <| gd (inb (v24 + x27) 2956) <| some (.inl ((x27 + 1), (im_setI M28 40 (Int32.toNatClampNeg (v24 + x27)) (vp_nar .byte ((Int32.toInt8 (im_i M28 48 (Int32.toNatClampNeg x27))).toInt32)))))
noncomputable def f_HBlocks_mend_L29 (v4 : Int32) (x5 : Int32) (x6 : Int32) (x7 : Int32) (M8 : im_M) : Option ((Int32 × Int32 × Int32 × im_M) ⊕ ((Int32 × im_M) ⊕ (Int32 × im_M))) := if (im_i M8 43 11) ≤ x7 then some (.inr (.inl (x5, M8))) else bd1 (f_HBlocks_sizeOf x7 M8) fun (x9 : Int32) => bd1 (lp (uc2 (f_HBlocks_mend_L49 v4 x5 x6 x7 x9)) (0, M8)) fun (M19 : im_M) => bd2 (f_HBlocks_mendWord (x9 + (im_i M19 43 12)) v4 M19) fun (x20 : Int32) (M20 : im_M) => if ¬ x20 = (-1) then bd1 (lp (uc2 (f_HBlocks_mend_L124 v4 (x5 + x20) x6 x7 x9)) (0, M20)) fun (M29 : im_M) => some (.inl ((x5 + x20), (x6 + x9), (x7 + 1), M29)) else some (.inr (.inr ((-1), M20)))
noncomputable def f_HBlocks_mend (p0 : Int32) (p1 : Int32) (M : im_M) : Option (Int32 × im_M) := bd1 (f_HBlocks_begin p0 p1 M) fun (M1 : im_M) => bd1 (f_HBlocks_kept p0 p1 M1) fun (x2 : Int32) => bs2 (lp (uc4 (f_HBlocks_mend_L29 (((im_i M1 43 12) - x2) / 2))) (0, 0, 0, M1)) (fun (y30 : Int32) (M31 : im_M) => some (y30, M31)) (fun t => some t)
theorem J_HBlocks_mend_d0 : decode J_HBlocks_mend.2.1 0 = .ok (.aload_n 0, 1) := by decide +kernel
theorem J_HBlocks_mend_d1 : decode J_HBlocks_mend.2.1 1 = .ok (.iload_n 1, 1) := by decide +kernel
theorem J_HBlocks_mend_d2 : decode J_HBlocks_mend.2.1 2 = .ok (.iload_n 2, 1) := by decide +kernel
theorem J_HBlocks_mend_d3 : decode J_HBlocks_mend.2.1 3 = .ok (.invokevirtual 73, 3) := by decide +kernel
theorem J_HBlocks_mend_d6 : decode J_HBlocks_mend.2.1 6 = .ok (.aload_n 0, 1) := by decide +kernel
theorem J_HBlocks_mend_d7 : decode J_HBlocks_mend.2.1 7 = .ok (.getfield 57, 3) := by decide +kernel
theorem J_HBlocks_mend_d10 : decode J_HBlocks_mend.2.1 10 = .ok (.iload_n 1, 1) := by decide +kernel
theorem J_HBlocks_mend_d11 : decode J_HBlocks_mend.2.1 11 = .ok (.iload_n 2, 1) := by decide +kernel
theorem J_HBlocks_mend_d12 : decode J_HBlocks_mend.2.1 12 = .ok (.invokestatic 99, 3) := by decide +kernel
theorem J_HBlocks_mend_d15 : decode J_HBlocks_mend.2.1 15 = .ok (.isub, 1) := by decide +kernel
theorem J_HBlocks_mend_d16 : decode J_HBlocks_mend.2.1 16 = .ok (.iconst 2, 1) := by decide +kernel
theorem J_HBlocks_mend_d17 : decode J_HBlocks_mend.2.1 17 = .ok (.idiv, 1) := by decide +kernel
theorem J_HBlocks_mend_d18 : decode J_HBlocks_mend.2.1 18 = .ok (.istore 4, 2) := by decide +kernel
theorem J_HBlocks_mend_d20 : decode J_HBlocks_mend.2.1 20 = .ok (.iconst 0, 1) := by decide +kernel
theorem J_HBlocks_mend_d21 : decode J_HBlocks_mend.2.1 21 = .ok (.istore 5, 2) := by decide +kernel
theorem J_HBlocks_mend_d23 : decode J_HBlocks_mend.2.1 23 = .ok (.iconst 0, 1) := by decide +kernel
theorem J_HBlocks_mend_d24 : decode J_HBlocks_mend.2.1 24 = .ok (.istore 6, 2) := by decide +kernel
theorem J_HBlocks_mend_d26 : decode J_HBlocks_mend.2.1 26 = .ok (.iconst 0, 1) := by decide +kernel
theorem J_HBlocks_mend_d27 : decode J_HBlocks_mend.2.1 27 = .ok (.istore 7, 2) := by decide +kernel
theorem J_HBlocks_mend_d29 : decode J_HBlocks_mend.2.1 29 = .ok (.iload 7, 2) := by decide +kernel
theorem J_HBlocks_mend_d31 : decode J_HBlocks_mend.2.1 31 = .ok (.aload_n 0, 1) := by decide +kernel
theorem J_HBlocks_mend_d32 : decode J_HBlocks_mend.2.1 32 = .ok (.getfield 53, 3) := by decide +kernel
theorem J_HBlocks_mend_d35 : decode J_HBlocks_mend.2.1 35 = .ok (.if_icmp .ge 130, 3) := by decide +kernel
theorem J_HBlocks_mend_d38 : decode J_HBlocks_mend.2.1 38 = .ok (.aload_n 0, 1) := by decide +kernel
theorem J_HBlocks_mend_d39 : decode J_HBlocks_mend.2.1 39 = .ok (.iload 7, 2) := by decide +kernel
theorem J_HBlocks_mend_d41 : decode J_HBlocks_mend.2.1 41 = .ok (.invokevirtual 70, 3) := by decide +kernel
theorem J_HBlocks_mend_d44 : decode J_HBlocks_mend.2.1 44 = .ok (.istore 8, 2) := by decide +kernel
theorem J_HBlocks_mend_d46 : decode J_HBlocks_mend.2.1 46 = .ok (.iconst 0, 1) := by decide +kernel
theorem J_HBlocks_mend_d47 : decode J_HBlocks_mend.2.1 47 = .ok (.istore 9, 2) := by decide +kernel
theorem J_HBlocks_mend_d49 : decode J_HBlocks_mend.2.1 49 = .ok (.iload 9, 2) := by decide +kernel
theorem J_HBlocks_mend_d51 : decode J_HBlocks_mend.2.1 51 = .ok (.iload 8, 2) := by decide +kernel
theorem J_HBlocks_mend_d53 : decode J_HBlocks_mend.2.1 53 = .ok (.aload_n 0, 1) := by decide +kernel
theorem J_HBlocks_mend_d54 : decode J_HBlocks_mend.2.1 54 = .ok (.getfield 57, 3) := by decide +kernel
theorem J_HBlocks_mend_d57 : decode J_HBlocks_mend.2.1 57 = .ok (.iadd, 1) := by decide +kernel
theorem J_HBlocks_mend_d58 : decode J_HBlocks_mend.2.1 58 = .ok (.if_icmp .ge 33, 3) := by decide +kernel
theorem J_HBlocks_mend_d61 : decode J_HBlocks_mend.2.1 61 = .ok (.aload_n 0, 1) := by decide +kernel
theorem J_HBlocks_mend_d62 : decode J_HBlocks_mend.2.1 62 = .ok (.getfield 25, 3) := by decide +kernel
theorem J_HBlocks_mend_d65 : decode J_HBlocks_mend.2.1 65 = .ok (.iload 9, 2) := by decide +kernel
theorem J_HBlocks_mend_d67 : decode J_HBlocks_mend.2.1 67 = .ok (.aload_n 0, 1) := by decide +kernel
theorem J_HBlocks_mend_d68 : decode J_HBlocks_mend.2.1 68 = .ok (.getfield 11, 3) := by decide +kernel
theorem J_HBlocks_mend_d71 : decode J_HBlocks_mend.2.1 71 = .ok (.aload_n 0, 1) := by decide +kernel
theorem J_HBlocks_mend_d72 : decode J_HBlocks_mend.2.1 72 = .ok (.iload 7, 2) := by decide +kernel
theorem J_HBlocks_mend_d74 : decode J_HBlocks_mend.2.1 74 = .ok (.iload 9, 2) := by decide +kernel
theorem J_HBlocks_mend_d76 : decode J_HBlocks_mend.2.1 76 = .ok (.invokevirtual 80, 3) := by decide +kernel
theorem J_HBlocks_mend_d79 : decode J_HBlocks_mend.2.1 79 = .ok (.baload, 1) := by decide +kernel
theorem J_HBlocks_mend_d80 : decode J_HBlocks_mend.2.1 80 = .ok (.sipush 255, 3) := by decide +kernel
theorem J_HBlocks_mend_d83 : decode J_HBlocks_mend.2.1 83 = .ok (.iand, 1) := by decide +kernel
theorem J_HBlocks_mend_d84 : decode J_HBlocks_mend.2.1 84 = .ok (.iastore, 1) := by decide +kernel
theorem J_HBlocks_mend_d85 : decode J_HBlocks_mend.2.1 85 = .ok (.iinc 9 1, 3) := by decide +kernel
theorem J_HBlocks_mend_d88 : decode J_HBlocks_mend.2.1 88 = .ok (.goto (-39), 3) := by decide +kernel
theorem J_HBlocks_mend_d91 : decode J_HBlocks_mend.2.1 91 = .ok (.aload_n 0, 1) := by decide +kernel
theorem J_HBlocks_mend_d92 : decode J_HBlocks_mend.2.1 92 = .ok (.iload 8, 2) := by decide +kernel
theorem J_HBlocks_mend_d94 : decode J_HBlocks_mend.2.1 94 = .ok (.aload_n 0, 1) := by decide +kernel
theorem J_HBlocks_mend_d95 : decode J_HBlocks_mend.2.1 95 = .ok (.getfield 57, 3) := by decide +kernel
theorem J_HBlocks_mend_d98 : decode J_HBlocks_mend.2.1 98 = .ok (.iadd, 1) := by decide +kernel
theorem J_HBlocks_mend_d99 : decode J_HBlocks_mend.2.1 99 = .ok (.iload 4, 2) := by decide +kernel
theorem J_HBlocks_mend_d101 : decode J_HBlocks_mend.2.1 101 = .ok (.invokevirtual 102, 3) := by decide +kernel
theorem J_HBlocks_mend_d104 : decode J_HBlocks_mend.2.1 104 = .ok (.istore 9, 2) := by decide +kernel
theorem J_HBlocks_mend_d106 : decode J_HBlocks_mend.2.1 106 = .ok (.iload 9, 2) := by decide +kernel
theorem J_HBlocks_mend_d108 : decode J_HBlocks_mend.2.1 108 = .ok (.iconst (-1), 1) := by decide +kernel
theorem J_HBlocks_mend_d109 : decode J_HBlocks_mend.2.1 109 = .ok (.if_icmp .ne 5, 3) := by decide +kernel
theorem J_HBlocks_mend_d112 : decode J_HBlocks_mend.2.1 112 = .ok (.iconst (-1), 1) := by decide +kernel
theorem J_HBlocks_mend_d113 : decode J_HBlocks_mend.2.1 113 = .ok (.ireturn, 1) := by decide +kernel
theorem J_HBlocks_mend_d114 : decode J_HBlocks_mend.2.1 114 = .ok (.iload 5, 2) := by decide +kernel
theorem J_HBlocks_mend_d116 : decode J_HBlocks_mend.2.1 116 = .ok (.iload 9, 2) := by decide +kernel
theorem J_HBlocks_mend_d118 : decode J_HBlocks_mend.2.1 118 = .ok (.iadd, 1) := by decide +kernel
theorem J_HBlocks_mend_d119 : decode J_HBlocks_mend.2.1 119 = .ok (.istore 5, 2) := by decide +kernel
theorem J_HBlocks_mend_d121 : decode J_HBlocks_mend.2.1 121 = .ok (.iconst 0, 1) := by decide +kernel
theorem J_HBlocks_mend_d122 : decode J_HBlocks_mend.2.1 122 = .ok (.istore 10, 2) := by decide +kernel
theorem J_HBlocks_mend_d124 : decode J_HBlocks_mend.2.1 124 = .ok (.iload 10, 2) := by decide +kernel
theorem J_HBlocks_mend_d126 : decode J_HBlocks_mend.2.1 126 = .ok (.iload 8, 2) := by decide +kernel
theorem J_HBlocks_mend_d128 : decode J_HBlocks_mend.2.1 128 = .ok (.if_icmp .ge 24, 3) := by decide +kernel
theorem J_HBlocks_mend_d131 : decode J_HBlocks_mend.2.1 131 = .ok (.aload_n 3, 1) := by decide +kernel
theorem J_HBlocks_mend_d132 : decode J_HBlocks_mend.2.1 132 = .ok (.iload 6, 2) := by decide +kernel
theorem J_HBlocks_mend_d134 : decode J_HBlocks_mend.2.1 134 = .ok (.iload 10, 2) := by decide +kernel
theorem J_HBlocks_mend_d136 : decode J_HBlocks_mend.2.1 136 = .ok (.iadd, 1) := by decide +kernel
theorem J_HBlocks_mend_d137 : decode J_HBlocks_mend.2.1 137 = .ok (.aload_n 0, 1) := by decide +kernel
theorem J_HBlocks_mend_d138 : decode J_HBlocks_mend.2.1 138 = .ok (.getfield 25, 3) := by decide +kernel
theorem J_HBlocks_mend_d141 : decode J_HBlocks_mend.2.1 141 = .ok (.iload 10, 2) := by decide +kernel
theorem J_HBlocks_mend_d143 : decode J_HBlocks_mend.2.1 143 = .ok (.iaload, 1) := by decide +kernel
theorem J_HBlocks_mend_d144 : decode J_HBlocks_mend.2.1 144 = .ok (.i2b, 1) := by decide +kernel
theorem J_HBlocks_mend_d145 : decode J_HBlocks_mend.2.1 145 = .ok (.bastore, 1) := by decide +kernel
theorem J_HBlocks_mend_d146 : decode J_HBlocks_mend.2.1 146 = .ok (.iinc 10 1, 3) := by decide +kernel
theorem J_HBlocks_mend_d149 : decode J_HBlocks_mend.2.1 149 = .ok (.goto (-25), 3) := by decide +kernel
theorem J_HBlocks_mend_d152 : decode J_HBlocks_mend.2.1 152 = .ok (.iload 6, 2) := by decide +kernel
theorem J_HBlocks_mend_d154 : decode J_HBlocks_mend.2.1 154 = .ok (.iload 8, 2) := by decide +kernel
theorem J_HBlocks_mend_d156 : decode J_HBlocks_mend.2.1 156 = .ok (.iadd, 1) := by decide +kernel
theorem J_HBlocks_mend_d157 : decode J_HBlocks_mend.2.1 157 = .ok (.istore 6, 2) := by decide +kernel
theorem J_HBlocks_mend_d159 : decode J_HBlocks_mend.2.1 159 = .ok (.iinc 7 1, 3) := by decide +kernel
theorem J_HBlocks_mend_d162 : decode J_HBlocks_mend.2.1 162 = .ok (.goto (-133), 3) := by decide +kernel
theorem J_HBlocks_mend_d165 : decode J_HBlocks_mend.2.1 165 = .ok (.iload 5, 2) := by decide +kernel
theorem J_HBlocks_mend_d167 : decode J_HBlocks_mend.2.1 167 = .ok (.ireturn, 1) := by decide +kernel
theorem f_HBlocks_mend_ok {L : Nat} {xs : Nat → Int32} {dep : Nat} {w : Bool} {p0 : Int32} {p1 : Int32} {M : im_M} {Q : Int32 × im_M → Prop} (hM : lw_S w M) (h : ed (f_HBlocks_mend p0 p1 M) Q) : ia (tb_G L xs) (dep + 3) J_HBlocks_mend (rwI w Q) (0, lv_args 0 [.ref 43, .int p0, .int p1, .ref 40], [], M) := by
  have hS : im_St (tb_G L xs) (dep + 3) J_HBlocks_mend (ia (tb_G L xs) (dep + 3) J_HBlocks_mend (rwI w Q)) := ia_St
  unfold f_HBlocks_mend at h
  have l0 : im_lk (lv_args 0 [.ref 43, .int p0, .int p1, .ref 40]) 0 = some (.ref 43) := rfl
  have l1 : im_lk (lv_args 0 [.ref 43, .int p0, .int p1, .ref 40]) 1 = some (.int p0) := rfl
  have l2 : im_lk (lv_args 0 [.ref 43, .int p0, .int p1, .ref 40]) 2 = some (.int p1) := rfl
  have l3 : im_lk (lv_args 0 [.ref 43, .int p0, .int p1, .ref 40]) 3 = some (.ref 40) := rfl
  refine iq_aload_n hS 1 J_HBlocks_mend_d0 l0 rfl ?_
  refine iq_iload_n hS 2 J_HBlocks_mend_d1 l1 rfl ?_
  refine iq_iload_n hS 3 J_HBlocks_mend_d2 l2 rfl ?_
  obtain ⟨Q1, hQ1, h⟩ := bd1_ed h
  refine iq_cwV hS 6 J_HBlocks_mend_d3 rfl (pr_inst (vs := [_, _]) lc_1_73 lT_148 rfl rfl (by decide) (by decide) rfl (Nat.le_of_ble_eq_true rfl) (Nat.le_of_ble_eq_true rfl) (fun _ => Or.inl (pr_b (ka_43 hM) (by decide) rfl))) (f_HBlocks_begin_ok (dep := dep + 0) hM h) rfl ?_
  intro M1 hM1 h
  replace h := hQ1 _ h
  refine iq_aload_n hS 7 J_HBlocks_mend_d6 l0 rfl ?_
  refine iq_getI hS 10 J_HBlocks_mend_d7 lf_1_57 (Or.inl rfl) (ka_43 hM1) rfl ?_
  refine iq_iload_n hS 11 J_HBlocks_mend_d10 l1 rfl ?_
  refine iq_iload_n hS 12 J_HBlocks_mend_d11 l2 rfl ?_
  obtain ⟨Q2, hQ2, h⟩ := bd1_ed h
  refine iq_cpI hS 15 J_HBlocks_mend_d12 rfl (pr_stat (vs := [_, _]) lc_1_99 lT_232 rfl rfl (by decide) rfl (Nat.le_of_ble_eq_true rfl) (Nat.le_of_ble_eq_true rfl)) (f_HBlocks_kept_ok (dep := dep + 2) hM1 h) rfl ?_
  intro x2 h
  replace h := hQ2 _ h
  refine iq_isub hS 16 J_HBlocks_mend_d15 rfl ?_
  refine iq_iconst hS 17 J_HBlocks_mend_d16 (v := 2) (by decide +kernel) rfl ?_
  refine iq_idiv hS 18 J_HBlocks_mend_d17 (by decide) rfl ?_
  refine iq_istore hS 20 J_HBlocks_mend_d18 (by decide) rfl ?_
  refine iq_iconst hS 21 J_HBlocks_mend_d20 (v := 0) (by decide +kernel) rfl ?_
  refine iq_istore hS 23 J_HBlocks_mend_d21 (by decide) rfl ?_
  refine iq_iconst hS 24 J_HBlocks_mend_d23 (v := 0) (by decide +kernel) rfl ?_
  refine iq_istore hS 26 J_HBlocks_mend_d24 (by decide) rfl ?_
  refine iq_iconst hS 27 J_HBlocks_mend_d26 (v := 0) (by decide +kernel) rfl ?_
  refine iq_istore hS 29 J_HBlocks_mend_d27 (by decide) rfl ?_
  obtain ⟨Q3, hQ3, hR3, h⟩ := bs2_ed h
  have K3 : ∀ (y4 : Int32) (M5 : im_M) (L' : List (Nat × Value)), lw_S w M5 → im_lk L' 5 = some (.int y4) → Q3 (.inl (y4, M5)) → ia (tb_G L xs) (dep + 3) J_HBlocks_mend (rwI w Q) (165, L', [], M5) := by
    intro y4 M5 L' hM5 l6 h
    replace h := hQ3 _ _ h
    refine iq_iload hS 167 J_HBlocks_mend_d165 l6 rfl ?_
    exact iq_iret J_HBlocks_mend_d167 rfl rfl ⟨_, rfl, hM5, ed_some h⟩
  obtain ⟨r3, hr3, hq3⟩ := h
  obtain ⟨n3, hn3⟩ := lp_n hr3
  have I3 : ∀ (n : Nat) (x7 : Int32) (x8 : Int32) (x9 : Int32) (M10 : im_M) (L' : List (Nat × Value)), lw_S w M10 → im_lk L' 0 = some (.ref 43) → im_lk L' 3 = some (.ref 40) → im_lk L' 4 = some (.int (((im_i M1 43 12) - x2) / 2)) → im_lk L' 5 = some (.int x7) → im_lk L' 6 = some (.int x8) → im_lk L' 7 = some (.int x9) → lpn (uc4 (f_HBlocks_mend_L29 (((im_i M1 43 12) - x2) / 2))) n (x7, x8, x9, M10) = some r3 → ia (tb_G L xs) (dep + 3) J_HBlocks_mend (rwI w Q) (29, L', [], M10) := by
    intro n
    induction n with
    | zero => intro x7 x8 x9 M10 L' hM10 l11 l12 l13 l14 l15 l16 hn; exact (lpn_0 hn).elim
    | succ n ih =>
      intro x7 x8 x9 M10 L' hM10 l11 l12 l13 l14 l15 l16 hn
      have h := lpn_ed4 hn
      unfold f_HBlocks_mend_L29 at h
      refine iq_iload hS 31 J_HBlocks_mend_d29 l16 rfl ?_
      refine iq_aload_n hS 32 J_HBlocks_mend_d31 l11 rfl ?_
      refine iq_getI hS 35 J_HBlocks_mend_d32 lf_1_53 (Or.inl rfl) (ka_43 hM10) rfl ?_
      refine iq_icmp_ge hS 38 J_HBlocks_mend_d35 (t := 165) rfl (fun q35 => ?_) rfl (fun q35 => ?_)
      · replace h := ed_pos q35 h
        exact K3 _ _ _ hM10 l14 (lq_r h hq3)
      · replace h := ed_neg q35 h
        refine iq_aload_n hS 39 J_HBlocks_mend_d38 l11 rfl ?_
        refine iq_iload hS 41 J_HBlocks_mend_d39 l16 rfl ?_
        obtain ⟨Q17, hQ17, h⟩ := bd1_ed h
        refine iq_cpI hS 44 J_HBlocks_mend_d41 rfl (pr_inst (vs := [_]) lc_1_70 lT_152 rfl rfl (by decide) (by decide) rfl (Nat.le_of_ble_eq_true rfl) (Nat.le_of_ble_eq_true rfl) (fun _ => Or.inl (pr_b (ka_43 hM10) (by decide) rfl))) (f_HBlocks_sizeOf_ok (dep := dep + 2) hM10 h) rfl ?_
        intro x17 h
        replace h := hQ17 _ h
        refine iq_istore hS 46 J_HBlocks_mend_d44 (by decide) rfl ?_
        refine iq_iconst hS 47 J_HBlocks_mend_d46 (v := 0) (by decide +kernel) rfl ?_
        refine iq_istore hS 49 J_HBlocks_mend_d47 (by decide) rfl ?_
        obtain ⟨Q18, hQ18, h⟩ := bd1_ed h
        have K18 : ∀ (M19 : im_M) (L' : List (Nat × Value)), lw_S w M19 → im_lk L' 0 = some (.ref 43) → im_lk L' 3 = some (.ref 40) → im_lk L' 4 = some (.int (((im_i M1 43 12) - x2) / 2)) → im_lk L' 5 = some (.int x7) → im_lk L' 6 = some (.int x8) → im_lk L' 7 = some (.int x9) → im_lk L' 8 = some (.int x17) → Q18 M19 → ia (tb_G L xs) (dep + 3) J_HBlocks_mend (rwI w Q) (91, L', [], M19) := by
          intro M19 L' hM19 l20 l21 l22 l23 l24 l25 l26 h
          replace h := hQ18 _ h
          refine iq_aload_n hS 92 J_HBlocks_mend_d91 l20 rfl ?_
          refine iq_iload hS 94 J_HBlocks_mend_d92 l26 rfl ?_
          refine iq_aload_n hS 95 J_HBlocks_mend_d94 l20 rfl ?_
          refine iq_getI hS 98 J_HBlocks_mend_d95 lf_1_57 (Or.inl rfl) (ka_43 hM19) rfl ?_
          refine iq_iadd hS 99 J_HBlocks_mend_d98 rfl ?_
          refine iq_iload hS 101 J_HBlocks_mend_d99 l22 rfl ?_
          obtain ⟨Q27, hQ27, h⟩ := bd2_ed h
          refine iq_cwI hS 104 J_HBlocks_mend_d101 rfl (pr_inst (vs := [_, _]) lc_1_102 lT_233 rfl rfl (by decide) (by decide) rfl (Nat.le_of_ble_eq_true rfl) (Nat.le_of_ble_eq_true rfl) (fun _ => Or.inl (pr_b (ka_43 hM19) (by decide) rfl))) (f_HBlocks_mendWord_ok (dep := dep + 0) hM19 h) rfl ?_
          intro x27 M27 hM27 h
          replace h := hQ27 _ _ h
          refine iq_istore hS 106 J_HBlocks_mend_d104 (by decide) rfl ?_
          refine iq_iload hS 108 J_HBlocks_mend_d106 lk_1s rfl ?_
          refine iq_iconst hS 109 J_HBlocks_mend_d108 (v := (-1)) (by decide +kernel) rfl ?_
          refine iq_icmp_ne hS 112 J_HBlocks_mend_d109 (t := 114) rfl (fun q109 => ?_) rfl (fun q109 => ?_)
          · replace h := ed_pos q109 h
            refine iq_iload hS 116 J_HBlocks_mend_d114 (lk_1i l23 (by decide)) rfl ?_
            refine iq_iload hS 118 J_HBlocks_mend_d116 lk_1s rfl ?_
            refine iq_iadd hS 119 J_HBlocks_mend_d118 rfl ?_
            refine iq_istore hS 121 J_HBlocks_mend_d119 (by decide) rfl ?_
            refine iq_iconst hS 122 J_HBlocks_mend_d121 (v := 0) (by decide +kernel) rfl ?_
            refine iq_istore hS 124 J_HBlocks_mend_d122 (by decide) rfl ?_
            obtain ⟨Q28, hQ28, h⟩ := bd1_ed h
            have K28 : ∀ (M29 : im_M) (L' : List (Nat × Value)), lw_S w M29 → im_lk L' 0 = some (.ref 43) → im_lk L' 3 = some (.ref 40) → im_lk L' 4 = some (.int (((im_i M1 43 12) - x2) / 2)) → im_lk L' 5 = some (.int (x7 + x27)) → im_lk L' 6 = some (.int x8) → im_lk L' 7 = some (.int x9) → im_lk L' 8 = some (.int x17) → Q28 M29 → ia (tb_G L xs) (dep + 3) J_HBlocks_mend (rwI w Q) (152, L', [], M29) := by
              intro M29 L' hM29 l30 l31 l32 l33 l34 l35 l36 h
              replace h := hQ28 _ h
              refine iq_iload hS 154 J_HBlocks_mend_d152 l34 rfl ?_
              refine iq_iload hS 156 J_HBlocks_mend_d154 l36 rfl ?_
              refine iq_iadd hS 157 J_HBlocks_mend_d156 rfl ?_
              refine iq_istore hS 159 J_HBlocks_mend_d157 (by decide) rfl ?_
              refine iq_iincv hS 162 J_HBlocks_mend_d159 (c := 1) (by decide +kernel) (lk_1i l35 (by decide)) (by decide) rfl ?_
              refine iq_goto hS J_HBlocks_mend_d162 (t := 29) rfl ?_
              exact ih _ _ _ _ _ hM29 (lk_1r (lk_1r l30 (by decide)) (by decide)) (lk_1r (lk_1r l31 (by decide)) (by decide)) (lk_1i (lk_1i l32 (by decide)) (by decide)) (lk_1i (lk_1i l33 (by decide)) (by decide)) (lk_1i lk_1s (by decide)) lk_1s (lq_l h)
            obtain ⟨r28, hr28, hq28⟩ := h
            obtain ⟨n28, hn28⟩ := lp_n hr28
            have I28 : ∀ (n : Nat) (x37 : Int32) (M38 : im_M) (L' : List (Nat × Value)), lw_S w M38 → im_lk L' 0 = some (.ref 43) → im_lk L' 3 = some (.ref 40) → im_lk L' 4 = some (.int (((im_i M1 43 12) - x2) / 2)) → im_lk L' 5 = some (.int (x7 + x27)) → im_lk L' 6 = some (.int x8) → im_lk L' 7 = some (.int x9) → im_lk L' 8 = some (.int x17) → im_lk L' 10 = some (.int x37) → lpn (uc2 (f_HBlocks_mend_L124 (((im_i M1 43 12) - x2) / 2) (x7 + x27) x8 x9 x17)) n (x37, M38) = some r28 → ia (tb_G L xs) (dep + 3) J_HBlocks_mend (rwI w Q) (124, L', [], M38) := by
              intro n
              induction n with
              | zero => intro x37 M38 L' hM38 l39 l40 l41 l42 l43 l44 l45 l46 hn; exact (lpn_0 hn).elim
              | succ n ih =>
                intro x37 M38 L' hM38 l39 l40 l41 l42 l43 l44 l45 l46 hn
                have h := lpn_ed2 hn
                unfold f_HBlocks_mend_L124 at h
                refine iq_iload hS 126 J_HBlocks_mend_d124 l46 rfl ?_
                refine iq_iload hS 128 J_HBlocks_mend_d126 l45 rfl ?_
                refine iq_icmp_ge hS 131 J_HBlocks_mend_d128 (t := 152) rfl (fun q128 => ?_) rfl (fun q128 => ?_)
                · replace h := ed_pos q128 h
                  exact K28 _ _ hM38 l39 l40 l41 l42 l43 l44 l45 (lq_r h hq28)
                · replace h := ed_neg q128 h
                  refine iq_aload_n hS 132 J_HBlocks_mend_d131 l40 rfl ?_
                  refine iq_iload hS 134 J_HBlocks_mend_d132 l43 rfl ?_
                  refine iq_iload hS 136 J_HBlocks_mend_d134 l46 rfl ?_
                  refine iq_iadd hS 137 J_HBlocks_mend_d136 rfl ?_
                  refine iq_aload_n hS 138 J_HBlocks_mend_d137 l39 rfl ?_
                  refine iq_getR hS 141 J_HBlocks_mend_d138 lf_1_25 (Or.inr ⟨_, rfl⟩) (ka_43 hM38) (ra_43_4 hM38) rfl ?_
                  refine iq_iload hS 143 J_HBlocks_mend_d141 l46 rfl ?_
                  obtain ⟨g143, h⟩ := ed_gd h
                  refine iq_iaload hS 144 J_HBlocks_mend_d143 ⟨(ka_48 hM38).1, (ka_48 hM38).2, g143.1, ix_lt (kl_48 hM38) g143.2⟩ rfl ?_
                  refine iq_i2b hS 145 J_HBlocks_mend_d144 rfl ?_
                  obtain ⟨g145, h⟩ := ed_gd h
                  refine iq_bastore hS 146 J_HBlocks_mend_d145 ⟨(ka_40 hM38).1, (ka_40 hM38).2, g145.1, ix_lt (kl_40 hM38) g145.2⟩ rfl ?_
                  refine iq_iincv hS 149 J_HBlocks_mend_d146 (c := 1) (by decide +kernel) l46 (by decide) rfl ?_
                  refine iq_goto hS J_HBlocks_mend_d149 (t := 124) rfl ?_
                  exact ih _ _ _ (lw_sI hM38) (lk_1r l39 (by decide)) (lk_1r l40 (by decide)) (lk_1i l41 (by decide)) (lk_1i l42 (by decide)) (lk_1i l43 (by decide)) (lk_1i l44 (by decide)) (lk_1i l45 (by decide)) lk_1s (lq_l h)
            exact I28 n28 _ _ _ hM27 (lk_1r (lk_1r (lk_1r l20 (by decide)) (by decide)) (by decide)) (lk_1r (lk_1r (lk_1r l21 (by decide)) (by decide)) (by decide)) (lk_1i (lk_1i (lk_1i l22 (by decide)) (by decide)) (by decide)) (lk_1i lk_1s (by decide)) (lk_1i (lk_1i (lk_1i l24 (by decide)) (by decide)) (by decide)) (lk_1i (lk_1i (lk_1i l25 (by decide)) (by decide)) (by decide)) (lk_1i (lk_1i (lk_1i l26 (by decide)) (by decide)) (by decide)) lk_1s hn28
          · replace h := ed_neg q109 h
            refine iq_iconst hS 113 J_HBlocks_mend_d112 (v := (-1)) (by decide +kernel) rfl ?_
            exact iq_iret J_HBlocks_mend_d113 rfl rfl ⟨_, rfl, hM27, ed_some (hR3 _ (lq_r h hq3))⟩
        obtain ⟨r18, hr18, hq18⟩ := h
        obtain ⟨n18, hn18⟩ := lp_n hr18
        have I18 : ∀ (n : Nat) (x47 : Int32) (M48 : im_M) (L' : List (Nat × Value)), lw_S w M48 → im_lk L' 0 = some (.ref 43) → im_lk L' 3 = some (.ref 40) → im_lk L' 4 = some (.int (((im_i M1 43 12) - x2) / 2)) → im_lk L' 5 = some (.int x7) → im_lk L' 6 = some (.int x8) → im_lk L' 7 = some (.int x9) → im_lk L' 8 = some (.int x17) → im_lk L' 9 = some (.int x47) → lpn (uc2 (f_HBlocks_mend_L49 (((im_i M1 43 12) - x2) / 2) x7 x8 x9 x17)) n (x47, M48) = some r18 → ia (tb_G L xs) (dep + 3) J_HBlocks_mend (rwI w Q) (49, L', [], M48) := by
          intro n
          induction n with
          | zero => intro x47 M48 L' hM48 l49 l50 l51 l52 l53 l54 l55 l56 hn; exact (lpn_0 hn).elim
          | succ n ih =>
            intro x47 M48 L' hM48 l49 l50 l51 l52 l53 l54 l55 l56 hn
            have h := lpn_ed2 hn
            unfold f_HBlocks_mend_L49 at h
            refine iq_iload hS 51 J_HBlocks_mend_d49 l56 rfl ?_
            refine iq_iload hS 53 J_HBlocks_mend_d51 l55 rfl ?_
            refine iq_aload_n hS 54 J_HBlocks_mend_d53 l49 rfl ?_
            refine iq_getI hS 57 J_HBlocks_mend_d54 lf_1_57 (Or.inl rfl) (ka_43 hM48) rfl ?_
            refine iq_iadd hS 58 J_HBlocks_mend_d57 rfl ?_
            refine iq_icmp_ge hS 61 J_HBlocks_mend_d58 (t := 91) rfl (fun q58 => ?_) rfl (fun q58 => ?_)
            · replace h := ed_pos q58 h
              exact K18 _ _ hM48 l49 l50 l51 l52 l53 l54 l55 (lq_r h hq18)
            · replace h := ed_neg q58 h
              refine iq_aload_n hS 62 J_HBlocks_mend_d61 l49 rfl ?_
              refine iq_getR hS 65 J_HBlocks_mend_d62 lf_1_25 (Or.inr ⟨_, rfl⟩) (ka_43 hM48) (ra_43_4 hM48) rfl ?_
              refine iq_iload hS 67 J_HBlocks_mend_d65 l56 rfl ?_
              refine iq_aload_n hS 68 J_HBlocks_mend_d67 l49 rfl ?_
              refine iq_getR hS 71 J_HBlocks_mend_d68 lf_1_11 (Or.inr ⟨_, rfl⟩) (ka_43 hM48) (ra_43_0 hM48) rfl ?_
              refine iq_aload_n hS 72 J_HBlocks_mend_d71 l49 rfl ?_
              refine iq_iload hS 74 J_HBlocks_mend_d72 l54 rfl ?_
              refine iq_iload hS 76 J_HBlocks_mend_d74 l56 rfl ?_
              obtain ⟨Q57, hQ57, h⟩ := bd1_ed h
              refine iq_cpI hS 79 J_HBlocks_mend_d76 rfl (pr_inst (vs := [_, _]) lc_1_80 lT_153 rfl rfl (by decide) (by decide) rfl (Nat.le_of_ble_eq_true rfl) (Nat.le_of_ble_eq_true rfl) (fun _ => Or.inl (pr_b (ka_43 hM48) (by decide) rfl))) (f_HBlocks_placeOf_ok (dep := dep + 1) hM48 h) rfl ?_
              intro x57 h
              replace h := hQ57 _ h
              obtain ⟨g79, h⟩ := ed_gd h
              refine iq_baload hS 80 J_HBlocks_mend_d79 ⟨(ka_44 hM48).1, (ka_44 hM48).2, g79.1, ix_lt (kl_44 hM48) g79.2⟩ rfl ?_
              refine iq_sipush hS 83 J_HBlocks_mend_d80 (v := 255) (by decide +kernel) rfl ?_
              refine iq_iand hS 84 J_HBlocks_mend_d83 rfl ?_
              obtain ⟨g84, h⟩ := ed_gd h
              refine iq_iastore hS 85 J_HBlocks_mend_d84 ⟨(ka_48 hM48).1, (ka_48 hM48).2, g84.1, ix_lt (kl_48 hM48) g84.2⟩ rfl ?_
              refine iq_iincv hS 88 J_HBlocks_mend_d85 (c := 1) (by decide +kernel) l56 (by decide) rfl ?_
              refine iq_goto hS J_HBlocks_mend_d88 (t := 49) rfl ?_
              exact ih _ _ _ (lw_sI hM48) (lk_1r l49 (by decide)) (lk_1r l50 (by decide)) (lk_1i l51 (by decide)) (lk_1i l52 (by decide)) (lk_1i l53 (by decide)) (lk_1i l54 (by decide)) (lk_1i l55 (by decide)) lk_1s (lq_l h)
        exact I18 n18 _ _ _ hM10 (lk_1r (lk_1r l11 (by decide)) (by decide)) (lk_1r (lk_1r l12 (by decide)) (by decide)) (lk_1i (lk_1i l13 (by decide)) (by decide)) (lk_1i (lk_1i l14 (by decide)) (by decide)) (lk_1i (lk_1i l15 (by decide)) (by decide)) (lk_1i (lk_1i l16 (by decide)) (by decide)) (lk_1i lk_1s (by decide)) lk_1s hn18
  exact I3 n3 _ _ _ _ _ hM1 (lk_1r (lk_1r (lk_1r (lk_1r l0 (by decide)) (by decide)) (by decide)) (by decide)) (lk_1r (lk_1r (lk_1r (lk_1r l3 (by decide)) (by decide)) (by decide)) (by decide)) (lk_1i (lk_1i (lk_1i lk_1s (by decide)) (by decide)) (by decide)) (lk_1i (lk_1i lk_1s (by decide)) (by decide)) (lk_1i lk_1s (by decide)) lk_1s hn3
theorem f_HBlocks_mend_fr {p0 : Int32} {p1 : Int32} {M : im_M} {r : Int32 × im_M} (h : f_HBlocks_mend p0 p1 M = some r) : fr 17734023044399104 [(43, 10), (43, 11), (43, 12), (43, 13)] M r.2 := by
  replace h : ed (f_HBlocks_mend p0 p1 M) (fun x => x = r) := ⟨r, h, rfl⟩
  unfold f_HBlocks_mend at h
  obtain ⟨Q1, hQ1, h⟩ := bd1_ed h
  obtain ⟨M1, e1, h⟩ := h
  replace h := hQ1 _ h
  obtain ⟨Q2, hQ2, h⟩ := bd1_ed h
  obtain ⟨x2, e2, h⟩ := h
  replace h := hQ2 _ h
  obtain ⟨Q3, hQ3, hR3, h⟩ := bs2_ed h
  have K3 : ∀ (y4 : Int32) (M5 : im_M), fr 17734023044399104 [(43, 10), (43, 11), (43, 12), (43, 13)] M M5 → Q3 (.inl (y4, M5)) → fr 17734023044399104 [(43, 10), (43, 11), (43, 12), (43, 13)] M r.2 := by
    intro y4 M5 hM5 h
    replace h := hQ3 _ _ h
    exact fr_ret h hM5
  obtain ⟨r3, hr3, hq3⟩ := h
  obtain ⟨n3, hn3⟩ := lp_n hr3
  have I3 : ∀ (n : Nat) (x6 : Int32) (x7 : Int32) (x8 : Int32) (M9 : im_M), fr 17734023044399104 [(43, 10), (43, 11), (43, 12), (43, 13)] M M9 → lpn (uc4 (f_HBlocks_mend_L29 (((im_i M1 43 12) - x2) / 2))) n (x6, x7, x8, M9) = some r3 → fr 17734023044399104 [(43, 10), (43, 11), (43, 12), (43, 13)] M r.2 := by
    intro n
    induction n with
    | zero => intro x6 x7 x8 M9 hM9 hn; exact (lpn_0 hn).elim
    | succ n ih =>
      intro x6 x7 x8 M9 hM9 hn
      have h := lpn_ed4 hn
      unfold f_HBlocks_mend_L29 at h
      by_cases q35 : (im_i M9 43 11) ≤ x8
      · replace h := ed_pos q35 h
        exact K3 _ _ hM9 (lq_r h hq3)
      · replace h := ed_neg q35 h
        obtain ⟨Q10, hQ10, h⟩ := bd1_ed h
        obtain ⟨x10, e10, h⟩ := h
        replace h := hQ10 _ h
        obtain ⟨Q11, hQ11, h⟩ := bd1_ed h
        have K11 : ∀ (M12 : im_M), fr 17734023044399104 [(43, 10), (43, 11), (43, 12), (43, 13)] M M12 → Q11 M12 → fr 17734023044399104 [(43, 10), (43, 11), (43, 12), (43, 13)] M r.2 := by
          intro M12 hM12 h
          replace h := hQ11 _ h
          obtain ⟨Q13, hQ13, h⟩ := bd2_ed h
          obtain ⟨⟨x13, M13⟩, e13, h⟩ := h
          replace h := hQ13 _ _ h
          by_cases q109 : ¬ x13 = (-1)
          · replace h := ed_pos q109 h
            obtain ⟨Q14, hQ14, h⟩ := bd1_ed h
            have K14 : ∀ (M15 : im_M), fr 17734023044399104 [(43, 10), (43, 11), (43, 12), (43, 13)] M M15 → Q14 M15 → fr 17734023044399104 [(43, 10), (43, 11), (43, 12), (43, 13)] M r.2 := by
              intro M15 hM15 h
              replace h := hQ14 _ h
              exact ih _ _ _ _ hM15 (lq_l h)
            obtain ⟨r14, hr14, hq14⟩ := h
            obtain ⟨n14, hn14⟩ := lp_n hr14
            have I14 : ∀ (n : Nat) (x16 : Int32) (M17 : im_M), fr 17734023044399104 [(43, 10), (43, 11), (43, 12), (43, 13)] M M17 → lpn (uc2 (f_HBlocks_mend_L124 (((im_i M1 43 12) - x2) / 2) (x6 + x13) x7 x8 x10)) n (x16, M17) = some r14 → fr 17734023044399104 [(43, 10), (43, 11), (43, 12), (43, 13)] M r.2 := by
              intro n
              induction n with
              | zero => intro x16 M17 hM17 hn; exact (lpn_0 hn).elim
              | succ n ih =>
                intro x16 M17 hM17 hn
                have h := lpn_ed2 hn
                unfold f_HBlocks_mend_L124 at h
                by_cases q128 : x10 ≤ x16
                · replace h := ed_pos q128 h
                  exact K14 _ hM17 (lq_r h hq14)
                · replace h := ed_neg q128 h
                  obtain ⟨g143, h⟩ := ed_gd h
                  obtain ⟨g145, h⟩ := ed_gd h
                  exact ih _ _ (fr_I (by decide) hM17) (lq_l h)
            exact I14 n14 _ _ (fr_tr (fr_mono (by decide) (by decide +kernel) (f_HBlocks_mendWord_fr e13)) hM12) hn14
          · replace h := ed_neg q109 h
            exact fr_ret (hR3 _ (lq_r h hq3)) (fr_tr (fr_mono (by decide) (by decide +kernel) (f_HBlocks_mendWord_fr e13)) hM12)
        obtain ⟨r11, hr11, hq11⟩ := h
        obtain ⟨n11, hn11⟩ := lp_n hr11
        have I11 : ∀ (n : Nat) (x18 : Int32) (M19 : im_M), fr 17734023044399104 [(43, 10), (43, 11), (43, 12), (43, 13)] M M19 → lpn (uc2 (f_HBlocks_mend_L49 (((im_i M1 43 12) - x2) / 2) x6 x7 x8 x10)) n (x18, M19) = some r11 → fr 17734023044399104 [(43, 10), (43, 11), (43, 12), (43, 13)] M r.2 := by
          intro n
          induction n with
          | zero => intro x18 M19 hM19 hn; exact (lpn_0 hn).elim
          | succ n ih =>
            intro x18 M19 hM19 hn
            have h := lpn_ed2 hn
            unfold f_HBlocks_mend_L49 at h
            by_cases q58 : (x10 + (im_i M19 43 12)) ≤ x18
            · replace h := ed_pos q58 h
              exact K11 _ hM19 (lq_r h hq11)
            · replace h := ed_neg q58 h
              obtain ⟨Q20, hQ20, h⟩ := bd1_ed h
              obtain ⟨x20, e20, h⟩ := h
              replace h := hQ20 _ h
              obtain ⟨g79, h⟩ := ed_gd h
              obtain ⟨g84, h⟩ := ed_gd h
              exact ih _ _ (fr_I (by decide) hM19) (lq_l h)
        exact I11 n11 _ _ hM9 hn11
  exact I3 n3 _ _ _ _ (fr_tr (fr_mono (by decide) (by decide +kernel) (f_HBlocks_begin_fr e1)) fr_refl) hn3
noncomputable def f_HSegments_take_L4 (v2 : Int32) (x3 : Int32) (x4 : Int32) (M5 : im_M) : Option ((Int32 × Int32 × im_M) ⊕ (Int32 × im_M)) := if v2 ≤ x4 then some (.inr (x3, M5)) else gd (inb ((im_i M5 39 5) / 8) 2956) <| some (.inl (((x3 <<< (1 &&& 31 : Int32) : Int32) ||| (((im_i M5 40 (Int32.toNatClampNeg ((im_i M5 39 5) / 8))) >>> (((7 : Int32) - ((im_i M5 39 5) - (im_i M5 39 5) / 8 * 8)) &&& 31 : Int32) : Int32) &&& 1)), (x4 + 1), (im_setI M5 39 5 ((im_i M5 39 5) + 1))))
noncomputable def f_HSegments_take (p0 : Int32) (M : im_M) : Option (Int32 × im_M) := bd2 (lp (uc3 (f_HSegments_take_L4 p0)) (0, 0, M)) fun (y6 : Int32) (M7 : im_M) => some (y6, M7)
theorem J_HSegments_take_d0 : decode J_HSegments_take.2.1 0 = .ok (.iconst 0, 1) := by decide +kernel
theorem J_HSegments_take_d1 : decode J_HSegments_take.2.1 1 = .ok (.istore_n 2, 1) := by decide +kernel
theorem J_HSegments_take_d2 : decode J_HSegments_take.2.1 2 = .ok (.iconst 0, 1) := by decide +kernel
theorem J_HSegments_take_d3 : decode J_HSegments_take.2.1 3 = .ok (.istore_n 3, 1) := by decide +kernel
theorem J_HSegments_take_d4 : decode J_HSegments_take.2.1 4 = .ok (.iload_n 3, 1) := by decide +kernel
theorem J_HSegments_take_d5 : decode J_HSegments_take.2.1 5 = .ok (.iload_n 1, 1) := by decide +kernel
theorem J_HSegments_take_d6 : decode J_HSegments_take.2.1 6 = .ok (.if_icmp .ge 49, 3) := by decide +kernel
theorem J_HSegments_take_d9 : decode J_HSegments_take.2.1 9 = .ok (.iload_n 2, 1) := by decide +kernel
theorem J_HSegments_take_d10 : decode J_HSegments_take.2.1 10 = .ok (.iconst 1, 1) := by decide +kernel
theorem J_HSegments_take_d11 : decode J_HSegments_take.2.1 11 = .ok (.ishl, 1) := by decide +kernel
theorem J_HSegments_take_d12 : decode J_HSegments_take.2.1 12 = .ok (.aload_n 0, 1) := by decide +kernel
theorem J_HSegments_take_d13 : decode J_HSegments_take.2.1 13 = .ok (.getfield 11, 3) := by decide +kernel
theorem J_HSegments_take_d16 : decode J_HSegments_take.2.1 16 = .ok (.aload_n 0, 1) := by decide +kernel
theorem J_HSegments_take_d17 : decode J_HSegments_take.2.1 17 = .ok (.getfield 81, 3) := by decide +kernel
theorem J_HSegments_take_d20 : decode J_HSegments_take.2.1 20 = .ok (.bipush 8, 2) := by decide +kernel
theorem J_HSegments_take_d22 : decode J_HSegments_take.2.1 22 = .ok (.idiv, 1) := by decide +kernel
theorem J_HSegments_take_d23 : decode J_HSegments_take.2.1 23 = .ok (.baload, 1) := by decide +kernel
theorem J_HSegments_take_d24 : decode J_HSegments_take.2.1 24 = .ok (.bipush 7, 2) := by decide +kernel
theorem J_HSegments_take_d26 : decode J_HSegments_take.2.1 26 = .ok (.aload_n 0, 1) := by decide +kernel
theorem J_HSegments_take_d27 : decode J_HSegments_take.2.1 27 = .ok (.getfield 81, 3) := by decide +kernel
theorem J_HSegments_take_d30 : decode J_HSegments_take.2.1 30 = .ok (.bipush 8, 2) := by decide +kernel
theorem J_HSegments_take_d32 : decode J_HSegments_take.2.1 32 = .ok (.irem, 1) := by decide +kernel
theorem J_HSegments_take_d33 : decode J_HSegments_take.2.1 33 = .ok (.isub, 1) := by decide +kernel
theorem J_HSegments_take_d34 : decode J_HSegments_take.2.1 34 = .ok (.ishr, 1) := by decide +kernel
theorem J_HSegments_take_d35 : decode J_HSegments_take.2.1 35 = .ok (.iconst 1, 1) := by decide +kernel
theorem J_HSegments_take_d36 : decode J_HSegments_take.2.1 36 = .ok (.iand, 1) := by decide +kernel
theorem J_HSegments_take_d37 : decode J_HSegments_take.2.1 37 = .ok (.ior, 1) := by decide +kernel
theorem J_HSegments_take_d38 : decode J_HSegments_take.2.1 38 = .ok (.istore_n 2, 1) := by decide +kernel
theorem J_HSegments_take_d39 : decode J_HSegments_take.2.1 39 = .ok (.aload_n 0, 1) := by decide +kernel
theorem J_HSegments_take_d40 : decode J_HSegments_take.2.1 40 = .ok (.dup, 1) := by decide +kernel
theorem J_HSegments_take_d41 : decode J_HSegments_take.2.1 41 = .ok (.getfield 81, 3) := by decide +kernel
theorem J_HSegments_take_d44 : decode J_HSegments_take.2.1 44 = .ok (.iconst 1, 1) := by decide +kernel
theorem J_HSegments_take_d45 : decode J_HSegments_take.2.1 45 = .ok (.iadd, 1) := by decide +kernel
theorem J_HSegments_take_d46 : decode J_HSegments_take.2.1 46 = .ok (.putfield 81, 3) := by decide +kernel
theorem J_HSegments_take_d49 : decode J_HSegments_take.2.1 49 = .ok (.iinc 3 1, 3) := by decide +kernel
theorem J_HSegments_take_d52 : decode J_HSegments_take.2.1 52 = .ok (.goto (-48), 3) := by decide +kernel
theorem J_HSegments_take_d55 : decode J_HSegments_take.2.1 55 = .ok (.iload_n 2, 1) := by decide +kernel
theorem J_HSegments_take_d56 : decode J_HSegments_take.2.1 56 = .ok (.ireturn, 1) := by decide +kernel
theorem f_HSegments_take_ok {L : Nat} {xs : Nat → Int32} {dep : Nat} {w : Bool} {p0 : Int32} {M : im_M} {Q : Int32 × im_M → Prop} (hM : lw_S w M) (h : ed (f_HSegments_take p0 M) Q) : ia (tb_G L xs) dep J_HSegments_take (rwI w Q) (0, lv_args 0 [.ref 39, .int p0], [], M) := by
  have hS : im_St (tb_G L xs) dep J_HSegments_take (ia (tb_G L xs) dep J_HSegments_take (rwI w Q)) := ia_St
  unfold f_HSegments_take at h
  have l0 : im_lk (lv_args 0 [.ref 39, .int p0]) 0 = some (.ref 39) := rfl
  have l1 : im_lk (lv_args 0 [.ref 39, .int p0]) 1 = some (.int p0) := rfl
  refine iq_iconst hS 1 J_HSegments_take_d0 (v := 0) (by decide +kernel) rfl ?_
  refine iq_istore_n hS 2 J_HSegments_take_d1 (by decide) rfl ?_
  refine iq_iconst hS 3 J_HSegments_take_d2 (v := 0) (by decide +kernel) rfl ?_
  refine iq_istore_n hS 4 J_HSegments_take_d3 (by decide) rfl ?_
  obtain ⟨Q1, hQ1, h⟩ := bd2_ed h
  have K1 : ∀ (y2 : Int32) (M3 : im_M) (L' : List (Nat × Value)), lw_S w M3 → im_lk L' 2 = some (.int y2) → Q1 (y2, M3) → ia (tb_G L xs) dep J_HSegments_take (rwI w Q) (55, L', [], M3) := by
    intro y2 M3 L' hM3 l4 h
    replace h := hQ1 _ _ h
    refine iq_iload_n hS 56 J_HSegments_take_d55 l4 rfl ?_
    exact iq_iret J_HSegments_take_d56 rfl rfl ⟨_, rfl, hM3, ed_some h⟩
  obtain ⟨r1, hr1, hq1⟩ := h
  obtain ⟨n1, hn1⟩ := lp_n hr1
  have I1 : ∀ (n : Nat) (x5 : Int32) (x6 : Int32) (M7 : im_M) (L' : List (Nat × Value)), lw_S w M7 → im_lk L' 0 = some (.ref 39) → im_lk L' 1 = some (.int p0) → im_lk L' 2 = some (.int x5) → im_lk L' 3 = some (.int x6) → lpn (uc3 (f_HSegments_take_L4 p0)) n (x5, x6, M7) = some r1 → ia (tb_G L xs) dep J_HSegments_take (rwI w Q) (4, L', [], M7) := by
    intro n
    induction n with
    | zero => intro x5 x6 M7 L' hM7 l8 l9 l10 l11 hn; exact (lpn_0 hn).elim
    | succ n ih =>
      intro x5 x6 M7 L' hM7 l8 l9 l10 l11 hn
      have h := lpn_ed3 hn
      unfold f_HSegments_take_L4 at h
      refine iq_iload_n hS 5 J_HSegments_take_d4 l11 rfl ?_
      refine iq_iload_n hS 6 J_HSegments_take_d5 l9 rfl ?_
      refine iq_icmp_ge hS 9 J_HSegments_take_d6 (t := 55) rfl (fun q6 => ?_) rfl (fun q6 => ?_)
      · replace h := ed_pos q6 h
        exact K1 _ _ _ hM7 l10 (lq_r h hq1)
      · replace h := ed_neg q6 h
        refine iq_iload_n hS 10 J_HSegments_take_d9 l10 rfl ?_
        refine iq_iconst hS 11 J_HSegments_take_d10 (v := 1) (by decide +kernel) rfl ?_
        refine iq_ishl hS 12 J_HSegments_take_d11 rfl ?_
        refine iq_aload_n hS 13 J_HSegments_take_d12 l8 rfl ?_
        refine iq_getR hS 16 J_HSegments_take_d13 lf_7_11 (Or.inr ⟨_, rfl⟩) (ka_39 hM7) (ra_39_0 hM7) rfl ?_
        refine iq_aload_n hS 17 J_HSegments_take_d16 l8 rfl ?_
        refine iq_getI hS 20 J_HSegments_take_d17 lf_7_81 (Or.inl rfl) (ka_39 hM7) rfl ?_
        refine iq_bipush hS 22 J_HSegments_take_d20 (v := 8) (by decide +kernel) rfl ?_
        refine iq_idiv hS 23 J_HSegments_take_d22 (by decide) rfl ?_
        obtain ⟨g23, h⟩ := ed_gd h
        refine iq_baload hS 24 J_HSegments_take_d23 ⟨(ka_40 hM7).1, (ka_40 hM7).2, g23.1, ix_lt (kl_40 hM7) g23.2⟩ rfl ?_
        refine iq_bipush hS 26 J_HSegments_take_d24 (v := 7) (by decide +kernel) rfl ?_
        refine iq_aload_n hS 27 J_HSegments_take_d26 l8 rfl ?_
        refine iq_getI hS 30 J_HSegments_take_d27 lf_7_81 (Or.inl rfl) (ka_39 hM7) rfl ?_
        refine iq_bipush hS 32 J_HSegments_take_d30 (v := 8) (by decide +kernel) rfl ?_
        refine iq_irem hS 33 J_HSegments_take_d32 (by decide) rfl ?_
        refine iq_isub hS 34 J_HSegments_take_d33 rfl ?_
        refine iq_ishr hS 35 J_HSegments_take_d34 rfl ?_
        refine iq_iconst hS 36 J_HSegments_take_d35 (v := 1) (by decide +kernel) rfl ?_
        refine iq_iand hS 37 J_HSegments_take_d36 rfl ?_
        refine iq_ior hS 38 J_HSegments_take_d37 rfl ?_
        refine iq_istore_n hS 39 J_HSegments_take_d38 (by decide) rfl ?_
        refine iq_aload_n hS 40 J_HSegments_take_d39 (lk_1r l8 (by decide)) rfl ?_
        refine iq_dup hS 41 J_HSegments_take_d40 rfl rfl ?_
        refine iq_getI hS 44 J_HSegments_take_d41 lf_7_81 (Or.inl rfl) (ka_39 hM7) rfl ?_
        refine iq_iconst hS 45 J_HSegments_take_d44 (v := 1) (by decide +kernel) rfl ?_
        refine iq_iadd hS 46 J_HSegments_take_d45 rfl ?_
        refine iq_putI hS 49 J_HSegments_take_d46 lf_7_81 (Or.inl rfl) rfl (ka_39 hM7) rfl ?_
        refine iq_iincv hS 52 J_HSegments_take_d49 (c := 1) (by decide +kernel) (lk_1i l11 (by decide)) (by decide) rfl ?_
        refine iq_goto hS J_HSegments_take_d52 (t := 4) rfl ?_
        exact ih _ _ _ _ (lw_sI hM7) (lk_1r (lk_1r l8 (by decide)) (by decide)) (lk_1i (lk_1i l9 (by decide)) (by decide)) (lk_1i lk_1s (by decide)) lk_1s (lq_l h)
  exact I1 n1 _ _ _ _ hM (lk_1r (lk_1r l0 (by decide)) (by decide)) (lk_1i (lk_1i l1 (by decide)) (by decide)) (lk_1i lk_1s (by decide)) lk_1s hn1
theorem f_HSegments_take_fr {p0 : Int32} {M : im_M} {r : Int32 × im_M} (h : f_HSegments_take p0 M = some r) : fr 0 [(39, 5)] M r.2 := by
  replace h : ed (f_HSegments_take p0 M) (fun x => x = r) := ⟨r, h, rfl⟩
  unfold f_HSegments_take at h
  obtain ⟨Q1, hQ1, h⟩ := bd2_ed h
  have K1 : ∀ (y2 : Int32) (M3 : im_M), fr 0 [(39, 5)] M M3 → Q1 (y2, M3) → fr 0 [(39, 5)] M r.2 := by
    intro y2 M3 hM3 h
    replace h := hQ1 _ _ h
    exact fr_ret h hM3
  obtain ⟨r1, hr1, hq1⟩ := h
  obtain ⟨n1, hn1⟩ := lp_n hr1
  have I1 : ∀ (n : Nat) (x4 : Int32) (x5 : Int32) (M6 : im_M), fr 0 [(39, 5)] M M6 → lpn (uc3 (f_HSegments_take_L4 p0)) n (x4, x5, M6) = some r1 → fr 0 [(39, 5)] M r.2 := by
    intro n
    induction n with
    | zero => intro x4 x5 M6 hM6 hn; exact (lpn_0 hn).elim
    | succ n ih =>
      intro x4 x5 M6 hM6 hn
      have h := lpn_ed3 hn
      unfold f_HSegments_take_L4 at h
      by_cases q6 : p0 ≤ x5
      · replace h := ed_pos q6 h
        exact K1 _ _ hM6 (lq_r h hq1)
      · replace h := ed_neg q6 h
        obtain ⟨g23, h⟩ := ed_gd h
        exact ih _ _ _ (fr_F (by decide) hM6) (lq_l h)
  exact I1 n1 _ _ _ fr_refl hn1
noncomputable def f_HSegments_modeOf (p0 : Int32) (M : im_M) : Option (Int32) := if p0 = 0 then some 3 else if p0 = 1 then some 0 else if p0 = 2 then some 1 else if p0 = 4 then some 2 else some (-1)
theorem J_HSegments_modeOf_d0 : decode J_HSegments_modeOf.2.1 0 = .ok (.iload_n 0, 1) := by decide +kernel
theorem J_HSegments_modeOf_d1 : decode J_HSegments_modeOf.2.1 1 = .ok (.tableswitch 43 0 4 #[35, 37, 39, 43, 41], 35) := by decide +kernel
theorem J_HSegments_modeOf_d36 : decode J_HSegments_modeOf.2.1 36 = .ok (.iconst 3, 1) := by decide +kernel
theorem J_HSegments_modeOf_d37 : decode J_HSegments_modeOf.2.1 37 = .ok (.ireturn, 1) := by decide +kernel
theorem J_HSegments_modeOf_d38 : decode J_HSegments_modeOf.2.1 38 = .ok (.iconst 0, 1) := by decide +kernel
theorem J_HSegments_modeOf_d39 : decode J_HSegments_modeOf.2.1 39 = .ok (.ireturn, 1) := by decide +kernel
theorem J_HSegments_modeOf_d40 : decode J_HSegments_modeOf.2.1 40 = .ok (.iconst 1, 1) := by decide +kernel
theorem J_HSegments_modeOf_d41 : decode J_HSegments_modeOf.2.1 41 = .ok (.ireturn, 1) := by decide +kernel
theorem J_HSegments_modeOf_d42 : decode J_HSegments_modeOf.2.1 42 = .ok (.iconst 2, 1) := by decide +kernel
theorem J_HSegments_modeOf_d43 : decode J_HSegments_modeOf.2.1 43 = .ok (.ireturn, 1) := by decide +kernel
theorem J_HSegments_modeOf_d44 : decode J_HSegments_modeOf.2.1 44 = .ok (.iconst (-1), 1) := by decide +kernel
theorem J_HSegments_modeOf_d45 : decode J_HSegments_modeOf.2.1 45 = .ok (.ireturn, 1) := by decide +kernel
theorem f_HSegments_modeOf_ok {L : Nat} {xs : Nat → Int32} {dep : Nat} {w : Bool} {p0 : Int32} {M : im_M} {Q : Int32 → Prop} (hM : lw_S w M) (h : ed (f_HSegments_modeOf p0 M) Q) : ia (tb_G L xs) dep J_HSegments_modeOf (rpI M Q) (0, lv_args 0 [.int p0], [], M) := by
  have hS : im_St (tb_G L xs) dep J_HSegments_modeOf (ia (tb_G L xs) dep J_HSegments_modeOf (rpI M Q)) := ia_St
  unfold f_HSegments_modeOf at h
  have l0 : im_lk (lv_args 0 [.int p0]) 0 = some (.int p0) := rfl
  refine iq_iload_n hS 1 J_HSegments_modeOf_d0 l0 rfl ?_
  by_cases q1_0 : p0 = 0
  · replace h := ed_pos q1_0 h
    refine iq_tsw hS J_HSegments_modeOf_d1 (t := 36) (sw_v q1_0 (by decide +kernel)) ?_
    refine iq_iconst hS 37 J_HSegments_modeOf_d36 (v := 3) (by decide +kernel) rfl ?_
    exact iq_iret J_HSegments_modeOf_d37 rfl rfl ⟨_, rfl, rfl, ed_some h⟩
  replace h := ed_neg q1_0 h
  by_cases q1_1 : p0 = 1
  · replace h := ed_pos q1_1 h
    refine iq_tsw hS J_HSegments_modeOf_d1 (t := 38) (sw_v q1_1 (by decide +kernel)) ?_
    refine iq_iconst hS 39 J_HSegments_modeOf_d38 (v := 0) (by decide +kernel) rfl ?_
    exact iq_iret J_HSegments_modeOf_d39 rfl rfl ⟨_, rfl, rfl, ed_some h⟩
  replace h := ed_neg q1_1 h
  by_cases q1_2 : p0 = 2
  · replace h := ed_pos q1_2 h
    refine iq_tsw hS J_HSegments_modeOf_d1 (t := 40) (sw_v q1_2 (by decide +kernel)) ?_
    refine iq_iconst hS 41 J_HSegments_modeOf_d40 (v := 1) (by decide +kernel) rfl ?_
    exact iq_iret J_HSegments_modeOf_d41 rfl rfl ⟨_, rfl, rfl, ed_some h⟩
  replace h := ed_neg q1_2 h
  by_cases q1_4 : p0 = 4
  · replace h := ed_pos q1_4 h
    refine iq_tsw hS J_HSegments_modeOf_d1 (t := 42) (sw_v q1_4 (by decide +kernel)) ?_
    refine iq_iconst hS 43 J_HSegments_modeOf_d42 (v := 2) (by decide +kernel) rfl ?_
    exact iq_iret J_HSegments_modeOf_d43 rfl rfl ⟨_, rfl, rfl, ed_some h⟩
  replace h := ed_neg q1_4 h
  refine iq_tsw hS J_HSegments_modeOf_d1 (t := 44) (sw_d [0, 1, 2, 4] (by decide) (by decide) (by decide +kernel) (sw_nc q1_0 (sw_nc q1_1 (sw_nc q1_2 (sw_nc q1_4 sw_nn))))) ?_
  refine iq_iconst hS 45 J_HSegments_modeOf_d44 (v := (-1)) (by decide +kernel) rfl ?_
  exact iq_iret J_HSegments_modeOf_d45 rfl rfl ⟨_, rfl, rfl, ed_some h⟩
noncomputable def f_HBars_widthAt (p0 : Int32) (M : im_M) : Option (Int32) := gd (inb ((if (im_i M 31 4) = 0 then p0 else (((im_i M 31 11) - 1) - p0)) : Int32) 512) <| some (im_i M 32 (Int32.toNatClampNeg ((if (im_i M 31 4) = 0 then p0 else (((im_i M 31 11) - 1) - p0)) : Int32)))
theorem J_HBars_widthAt_d0 : decode J_HBars_widthAt.2.1 0 = .ok (.aload_n 0, 1) := by decide +kernel
theorem J_HBars_widthAt_d1 : decode J_HBars_widthAt.2.1 1 = .ok (.getfield 11, 3) := by decide +kernel
theorem J_HBars_widthAt_d4 : decode J_HBars_widthAt.2.1 4 = .ok (.aload_n 0, 1) := by decide +kernel
theorem J_HBars_widthAt_d5 : decode J_HBars_widthAt.2.1 5 = .ok (.getfield 118, 3) := by decide +kernel
theorem J_HBars_widthAt_d8 : decode J_HBars_widthAt.2.1 8 = .ok (.ifCond .eq 14, 3) := by decide +kernel
theorem J_HBars_widthAt_d11 : decode J_HBars_widthAt.2.1 11 = .ok (.aload_n 0, 1) := by decide +kernel
theorem J_HBars_widthAt_d12 : decode J_HBars_widthAt.2.1 12 = .ok (.getfield 115, 3) := by decide +kernel
theorem J_HBars_widthAt_d15 : decode J_HBars_widthAt.2.1 15 = .ok (.iconst 1, 1) := by decide +kernel
theorem J_HBars_widthAt_d16 : decode J_HBars_widthAt.2.1 16 = .ok (.isub, 1) := by decide +kernel
theorem J_HBars_widthAt_d17 : decode J_HBars_widthAt.2.1 17 = .ok (.iload_n 1, 1) := by decide +kernel
theorem J_HBars_widthAt_d18 : decode J_HBars_widthAt.2.1 18 = .ok (.isub, 1) := by decide +kernel
theorem J_HBars_widthAt_d19 : decode J_HBars_widthAt.2.1 19 = .ok (.goto 4, 3) := by decide +kernel
theorem J_HBars_widthAt_d22 : decode J_HBars_widthAt.2.1 22 = .ok (.iload_n 1, 1) := by decide +kernel
theorem J_HBars_widthAt_d23 : decode J_HBars_widthAt.2.1 23 = .ok (.iaload, 1) := by decide +kernel
theorem J_HBars_widthAt_d24 : decode J_HBars_widthAt.2.1 24 = .ok (.ireturn, 1) := by decide +kernel
theorem f_HBars_widthAt_ok {L : Nat} {xs : Nat → Int32} {dep : Nat} {w : Bool} {p0 : Int32} {M : im_M} {Q : Int32 → Prop} (hM : lw_S w M) (h : ed (f_HBars_widthAt p0 M) Q) : ia (tb_G L xs) dep J_HBars_widthAt (rpI M Q) (0, lv_args 0 [.ref 31, .int p0], [], M) := by
  have hS : im_St (tb_G L xs) dep J_HBars_widthAt (ia (tb_G L xs) dep J_HBars_widthAt (rpI M Q)) := ia_St
  unfold f_HBars_widthAt at h
  have l0 : im_lk (lv_args 0 [.ref 31, .int p0]) 0 = some (.ref 31) := rfl
  have l1 : im_lk (lv_args 0 [.ref 31, .int p0]) 1 = some (.int p0) := rfl
  refine iq_aload_n hS 1 J_HBars_widthAt_d0 l0 rfl ?_
  refine iq_getR hS 4 J_HBars_widthAt_d1 lf_0_11 (Or.inr ⟨_, rfl⟩) (ka_31 hM) (ra_31_0 hM) rfl ?_
  refine iq_aload_n hS 5 J_HBars_widthAt_d4 l0 rfl ?_
  refine iq_getI hS 8 J_HBars_widthAt_d5 lf_0_118 (Or.inr rfl) (ka_31 hM) rfl ?_
  have J1 : ∀ (z2 : Int32) (L' : List (Nat × Value)), z2 = ((if (im_i M 31 4) = 0 then p0 else (((im_i M 31 11) - 1) - p0)) : Int32) → ia (tb_G L xs) dep J_HBars_widthAt (rpI M Q) (23, L', [.int z2, .ref 32], M) := by
    intro z2 L' e3 
    subst e3
    obtain ⟨g23, h⟩ := ed_gd h
    refine iq_iaload hS 24 J_HBars_widthAt_d23 ⟨(ka_32 hM).1, (ka_32 hM).2, g23.1, ix_lt (kl_32 hM) g23.2⟩ rfl ?_
    exact iq_iret J_HBars_widthAt_d24 rfl rfl ⟨_, rfl, rfl, ed_some h⟩
  refine iq_if_eq hS 11 J_HBars_widthAt_d8 (t := 22) rfl (fun q8 => ?_) rfl (fun q8 => ?_)
  · refine iq_iload_n hS 23 J_HBars_widthAt_d22 l1 rfl ?_
    exact J1 _ _ (by simp only [if_pos q8]) 
  · refine iq_aload_n hS 12 J_HBars_widthAt_d11 l0 rfl ?_
    refine iq_getI hS 15 J_HBars_widthAt_d12 lf_0_115 (Or.inl rfl) (ka_31 hM) rfl ?_
    refine iq_iconst hS 16 J_HBars_widthAt_d15 (v := 1) (by decide +kernel) rfl ?_
    refine iq_isub hS 17 J_HBars_widthAt_d16 rfl ?_
    refine iq_iload_n hS 18 J_HBars_widthAt_d17 l1 rfl ?_
    refine iq_isub hS 19 J_HBars_widthAt_d18 rfl ?_
    refine iq_goto hS J_HBars_widthAt_d19 (t := 23) rfl ?_
    exact J1 _ _ (by simp only [if_neg q8]) 
noncomputable def f_HBars_sumOf_L5 (v2 : Int32) (v3 : Int32) (M6 : im_M) (x4 : Int32) (x5 : Int32) : Option ((Int32 × Int32) ⊕ (Int32)) := if (v2 + v3) ≤ x5 then some (.inr x4) else bd1 (f_HBars_widthAt x5 M6) fun (x7 : Int32) => some (.inl ((x4 + x7), (x5 + 1)))
noncomputable def f_HBars_sumOf (p0 : Int32) (p1 : Int32) (M : im_M) : Option (Int32) := bd1 (lp (uc2 (f_HBars_sumOf_L5 p0 p1 M)) (0, p0)) fun (y8 : Int32) => some y8
theorem J_HBars_sumOf_d0 : decode J_HBars_sumOf.2.1 0 = .ok (.iconst 0, 1) := by decide +kernel
theorem J_HBars_sumOf_d1 : decode J_HBars_sumOf.2.1 1 = .ok (.istore_n 3, 1) := by decide +kernel
theorem J_HBars_sumOf_d2 : decode J_HBars_sumOf.2.1 2 = .ok (.iload_n 1, 1) := by decide +kernel
theorem J_HBars_sumOf_d3 : decode J_HBars_sumOf.2.1 3 = .ok (.istore 4, 2) := by decide +kernel
theorem J_HBars_sumOf_d5 : decode J_HBars_sumOf.2.1 5 = .ok (.iload 4, 2) := by decide +kernel
theorem J_HBars_sumOf_d7 : decode J_HBars_sumOf.2.1 7 = .ok (.iload_n 1, 1) := by decide +kernel
theorem J_HBars_sumOf_d8 : decode J_HBars_sumOf.2.1 8 = .ok (.iload_n 2, 1) := by decide +kernel
theorem J_HBars_sumOf_d9 : decode J_HBars_sumOf.2.1 9 = .ok (.iadd, 1) := by decide +kernel
theorem J_HBars_sumOf_d10 : decode J_HBars_sumOf.2.1 10 = .ok (.if_icmp .ge 18, 3) := by decide +kernel
theorem J_HBars_sumOf_d13 : decode J_HBars_sumOf.2.1 13 = .ok (.iload_n 3, 1) := by decide +kernel
theorem J_HBars_sumOf_d14 : decode J_HBars_sumOf.2.1 14 = .ok (.aload_n 0, 1) := by decide +kernel
theorem J_HBars_sumOf_d15 : decode J_HBars_sumOf.2.1 15 = .ok (.iload 4, 2) := by decide +kernel
theorem J_HBars_sumOf_d17 : decode J_HBars_sumOf.2.1 17 = .ok (.invokevirtual 135, 3) := by decide +kernel
theorem J_HBars_sumOf_d20 : decode J_HBars_sumOf.2.1 20 = .ok (.iadd, 1) := by decide +kernel
theorem J_HBars_sumOf_d21 : decode J_HBars_sumOf.2.1 21 = .ok (.istore_n 3, 1) := by decide +kernel
theorem J_HBars_sumOf_d22 : decode J_HBars_sumOf.2.1 22 = .ok (.iinc 4 1, 3) := by decide +kernel
theorem J_HBars_sumOf_d25 : decode J_HBars_sumOf.2.1 25 = .ok (.goto (-20), 3) := by decide +kernel
theorem J_HBars_sumOf_d28 : decode J_HBars_sumOf.2.1 28 = .ok (.iload_n 3, 1) := by decide +kernel
theorem J_HBars_sumOf_d29 : decode J_HBars_sumOf.2.1 29 = .ok (.ireturn, 1) := by decide +kernel
theorem f_HBars_sumOf_ok {L : Nat} {xs : Nat → Int32} {dep : Nat} {w : Bool} {p0 : Int32} {p1 : Int32} {M : im_M} {Q : Int32 → Prop} (hM : lw_S w M) (h : ed (f_HBars_sumOf p0 p1 M) Q) : ia (tb_G L xs) (dep + 1) J_HBars_sumOf (rpI M Q) (0, lv_args 0 [.ref 31, .int p0, .int p1], [], M) := by
  have hS : im_St (tb_G L xs) (dep + 1) J_HBars_sumOf (ia (tb_G L xs) (dep + 1) J_HBars_sumOf (rpI M Q)) := ia_St
  unfold f_HBars_sumOf at h
  have l0 : im_lk (lv_args 0 [.ref 31, .int p0, .int p1]) 0 = some (.ref 31) := rfl
  have l1 : im_lk (lv_args 0 [.ref 31, .int p0, .int p1]) 1 = some (.int p0) := rfl
  have l2 : im_lk (lv_args 0 [.ref 31, .int p0, .int p1]) 2 = some (.int p1) := rfl
  refine iq_iconst hS 1 J_HBars_sumOf_d0 (v := 0) (by decide +kernel) rfl ?_
  refine iq_istore_n hS 2 J_HBars_sumOf_d1 (by decide) rfl ?_
  refine iq_iload_n hS 3 J_HBars_sumOf_d2 (lk_1i l1 (by decide)) rfl ?_
  refine iq_istore hS 5 J_HBars_sumOf_d3 (by decide) rfl ?_
  obtain ⟨Q1, hQ1, h⟩ := bd1_ed h
  have K1 : ∀ (y2 : Int32) (L' : List (Nat × Value)), im_lk L' 3 = some (.int y2) → Q1 y2 → ia (tb_G L xs) (dep + 1) J_HBars_sumOf (rpI M Q) (28, L', [], M) := by
    intro y2 L' l3 h
    replace h := hQ1 _ h
    refine iq_iload_n hS 29 J_HBars_sumOf_d28 l3 rfl ?_
    exact iq_iret J_HBars_sumOf_d29 rfl rfl ⟨_, rfl, rfl, ed_some h⟩
  obtain ⟨r1, hr1, hq1⟩ := h
  obtain ⟨n1, hn1⟩ := lp_n hr1
  have I1 : ∀ (n : Nat) (x4 : Int32) (x5 : Int32) (L' : List (Nat × Value)), im_lk L' 0 = some (.ref 31) → im_lk L' 1 = some (.int p0) → im_lk L' 2 = some (.int p1) → im_lk L' 3 = some (.int x4) → im_lk L' 4 = some (.int x5) → lpn (uc2 (f_HBars_sumOf_L5 p0 p1 M)) n (x4, x5) = some r1 → ia (tb_G L xs) (dep + 1) J_HBars_sumOf (rpI M Q) (5, L', [], M) := by
    intro n
    induction n with
    | zero => intro x4 x5 L' l6 l7 l8 l9 l10 hn; exact (lpn_0 hn).elim
    | succ n ih =>
      intro x4 x5 L' l6 l7 l8 l9 l10 hn
      have h := lpn_ed2 hn
      unfold f_HBars_sumOf_L5 at h
      refine iq_iload hS 7 J_HBars_sumOf_d5 l10 rfl ?_
      refine iq_iload_n hS 8 J_HBars_sumOf_d7 l7 rfl ?_
      refine iq_iload_n hS 9 J_HBars_sumOf_d8 l8 rfl ?_
      refine iq_iadd hS 10 J_HBars_sumOf_d9 rfl ?_
      refine iq_icmp_ge hS 13 J_HBars_sumOf_d10 (t := 28) rfl (fun q10 => ?_) rfl (fun q10 => ?_)
      · replace h := ed_pos q10 h
        exact K1 _ _ l9 (lq_r h hq1)
      · replace h := ed_neg q10 h
        refine iq_iload_n hS 14 J_HBars_sumOf_d13 l9 rfl ?_
        refine iq_aload_n hS 15 J_HBars_sumOf_d14 l6 rfl ?_
        refine iq_iload hS 17 J_HBars_sumOf_d15 l10 rfl ?_
        obtain ⟨Q11, hQ11, h⟩ := bd1_ed h
        refine iq_cpI hS 20 J_HBars_sumOf_d17 rfl (pr_inst (vs := [_]) lc_0_135 lT_253 rfl rfl (by decide) (by decide) rfl (Nat.le_of_ble_eq_true rfl) (Nat.le_of_ble_eq_true rfl) (fun _ => Or.inl (pr_b (ka_31 hM) (by decide) rfl))) (f_HBars_widthAt_ok (dep := dep + 0) hM h) rfl ?_
        intro x11 h
        replace h := hQ11 _ h
        refine iq_iadd hS 21 J_HBars_sumOf_d20 rfl ?_
        refine iq_istore_n hS 22 J_HBars_sumOf_d21 (by decide) rfl ?_
        refine iq_iincv hS 25 J_HBars_sumOf_d22 (c := 1) (by decide +kernel) (lk_1i l10 (by decide)) (by decide) rfl ?_
        refine iq_goto hS J_HBars_sumOf_d25 (t := 5) rfl ?_
        exact ih _ _ _ (lk_1r (lk_1r l6 (by decide)) (by decide)) (lk_1i (lk_1i l7 (by decide)) (by decide)) (lk_1i (lk_1i l8 (by decide)) (by decide)) (lk_1i lk_1s (by decide)) lk_1s (lq_l h)
  exact I1 n1 _ _ _ (lk_1r (lk_1r l0 (by decide)) (by decide)) (lk_1i (lk_1i l1 (by decide)) (by decide)) (lk_1i (lk_1i l2 (by decide)) (by decide)) (lk_1i lk_1s (by decide)) lk_1s hn1
noncomputable def f_HBars_nearest (p0 : Int32) (p1 : Int32) (p2 : Int32) (M : im_M) : Option (Int32) := if 0 < p2 then gd (¬ ((2 : Int32) * p2) = (0 : Int32)) <| some (((((2 : Int32) * p0) * p1) + p2) / ((2 : Int32) * p2)) else some 0
theorem J_HBars_nearest_d0 : decode J_HBars_nearest.2.1 0 = .ok (.iload_n 2, 1) := by decide +kernel
theorem J_HBars_nearest_d1 : decode J_HBars_nearest.2.1 1 = .ok (.ifCond .gt 7, 3) := by decide +kernel
theorem J_HBars_nearest_d4 : decode J_HBars_nearest.2.1 4 = .ok (.iconst 0, 1) := by decide +kernel
theorem J_HBars_nearest_d5 : decode J_HBars_nearest.2.1 5 = .ok (.goto 14, 3) := by decide +kernel
theorem J_HBars_nearest_d8 : decode J_HBars_nearest.2.1 8 = .ok (.iconst 2, 1) := by decide +kernel
theorem J_HBars_nearest_d9 : decode J_HBars_nearest.2.1 9 = .ok (.iload_n 0, 1) := by decide +kernel
theorem J_HBars_nearest_d10 : decode J_HBars_nearest.2.1 10 = .ok (.imul, 1) := by decide +kernel
theorem J_HBars_nearest_d11 : decode J_HBars_nearest.2.1 11 = .ok (.iload_n 1, 1) := by decide +kernel
theorem J_HBars_nearest_d12 : decode J_HBars_nearest.2.1 12 = .ok (.imul, 1) := by decide +kernel
theorem J_HBars_nearest_d13 : decode J_HBars_nearest.2.1 13 = .ok (.iload_n 2, 1) := by decide +kernel
theorem J_HBars_nearest_d14 : decode J_HBars_nearest.2.1 14 = .ok (.iadd, 1) := by decide +kernel
theorem J_HBars_nearest_d15 : decode J_HBars_nearest.2.1 15 = .ok (.iconst 2, 1) := by decide +kernel
theorem J_HBars_nearest_d16 : decode J_HBars_nearest.2.1 16 = .ok (.iload_n 2, 1) := by decide +kernel
theorem J_HBars_nearest_d17 : decode J_HBars_nearest.2.1 17 = .ok (.imul, 1) := by decide +kernel
theorem J_HBars_nearest_d18 : decode J_HBars_nearest.2.1 18 = .ok (.idiv, 1) := by decide +kernel
theorem J_HBars_nearest_d19 : decode J_HBars_nearest.2.1 19 = .ok (.ireturn, 1) := by decide +kernel
theorem f_HBars_nearest_ok {L : Nat} {xs : Nat → Int32} {dep : Nat} {w : Bool} {p0 : Int32} {p1 : Int32} {p2 : Int32} {M : im_M} {Q : Int32 → Prop} (hM : lw_S w M) (h : ed (f_HBars_nearest p0 p1 p2 M) Q) : ia (tb_G L xs) dep J_HBars_nearest (rpI M Q) (0, lv_args 0 [.int p0, .int p1, .int p2], [], M) := by
  have hS : im_St (tb_G L xs) dep J_HBars_nearest (ia (tb_G L xs) dep J_HBars_nearest (rpI M Q)) := ia_St
  unfold f_HBars_nearest at h
  have l0 : im_lk (lv_args 0 [.int p0, .int p1, .int p2]) 0 = some (.int p0) := rfl
  have l1 : im_lk (lv_args 0 [.int p0, .int p1, .int p2]) 1 = some (.int p1) := rfl
  have l2 : im_lk (lv_args 0 [.int p0, .int p1, .int p2]) 2 = some (.int p2) := rfl
  refine iq_iload_n hS 1 J_HBars_nearest_d0 l2 rfl ?_
  refine iq_if_gt hS 4 J_HBars_nearest_d1 (t := 8) rfl (fun q1 => ?_) rfl (fun q1 => ?_)
  · replace h := ed_pos q1 h
    refine iq_iconst hS 9 J_HBars_nearest_d8 (v := 2) (by decide +kernel) rfl ?_
    refine iq_iload_n hS 10 J_HBars_nearest_d9 l0 rfl ?_
    refine iq_imul hS 11 J_HBars_nearest_d10 rfl ?_
    refine iq_iload_n hS 12 J_HBars_nearest_d11 l1 rfl ?_
    refine iq_imul hS 13 J_HBars_nearest_d12 rfl ?_
    refine iq_iload_n hS 14 J_HBars_nearest_d13 l2 rfl ?_
    refine iq_iadd hS 15 J_HBars_nearest_d14 rfl ?_
    refine iq_iconst hS 16 J_HBars_nearest_d15 (v := 2) (by decide +kernel) rfl ?_
    refine iq_iload_n hS 17 J_HBars_nearest_d16 l2 rfl ?_
    refine iq_imul hS 18 J_HBars_nearest_d17 rfl ?_
    obtain ⟨g18, h⟩ := ed_gd h
    refine iq_idiv hS 19 J_HBars_nearest_d18 g18 rfl ?_
    exact iq_iret J_HBars_nearest_d19 rfl rfl ⟨_, rfl, rfl, ed_some h⟩
  · replace h := ed_neg q1 h
    refine iq_iconst hS 5 J_HBars_nearest_d4 (v := 0) (by decide +kernel) rfl ?_
    refine iq_goto hS J_HBars_nearest_d5 (t := 19) rfl ?_
    exact iq_iret J_HBars_nearest_d19 rfl rfl ⟨_, rfl, rfl, ed_some h⟩
noncomputable def f_HBars_hasGuards_L12 (v3 : Int32) (M5 : im_M) (x4 : Int32) : Option ((Int32) ⊕ ((Unit) ⊕ (Int32))) := if (im_i M5 31 11) ≤ x4 then some (.inr (.inl ())) else jn0 (fun (_ : Unit) => some (.inl (x4 + 1))) fun k7 => if ((if x4 < 3 then 1 else (if x4 ≤ 26 then (if x4 ≤ 55 then 0 else 1) else (if x4 < 32 then 1 else (if x4 ≤ 55 then 0 else 1)))) : Int32) = 0 then k7 () else bd1 (f_HBars_widthAt x4 M5) fun (x8 : Int32) => bd1 (f_HBars_nearest x8 95 v3 M5) fun (x9 : Int32) => if x9 = 1 then k7 () else some (.inr (.inr 0))
noncomputable def f_HBars_hasGuards (M : im_M) : Option (Int32) := bd1 (f_HBars_sumOf 0 (im_i M 31 11) M) fun (x1 : Int32) => bs0 (lp (uc1 (f_HBars_hasGuards_L12 x1 M)) 0) (fun (_ : Unit) => some 1) (fun t => some t)
theorem J_HBars_hasGuards_d0 : decode J_HBars_hasGuards.2.1 0 = .ok (.aload_n 0, 1) := by decide +kernel
theorem J_HBars_hasGuards_d1 : decode J_HBars_hasGuards.2.1 1 = .ok (.iconst 0, 1) := by decide +kernel
theorem J_HBars_hasGuards_d2 : decode J_HBars_hasGuards.2.1 2 = .ok (.aload_n 0, 1) := by decide +kernel
theorem J_HBars_hasGuards_d3 : decode J_HBars_hasGuards.2.1 3 = .ok (.getfield 115, 3) := by decide +kernel
theorem J_HBars_hasGuards_d6 : decode J_HBars_hasGuards.2.1 6 = .ok (.invokevirtual 138, 3) := by decide +kernel
theorem J_HBars_hasGuards_d9 : decode J_HBars_hasGuards.2.1 9 = .ok (.istore_n 1, 1) := by decide +kernel
theorem J_HBars_hasGuards_d10 : decode J_HBars_hasGuards.2.1 10 = .ok (.iconst 0, 1) := by decide +kernel
theorem J_HBars_hasGuards_d11 : decode J_HBars_hasGuards.2.1 11 = .ok (.istore_n 2, 1) := by decide +kernel
theorem J_HBars_hasGuards_d12 : decode J_HBars_hasGuards.2.1 12 = .ok (.iload_n 2, 1) := by decide +kernel
theorem J_HBars_hasGuards_d13 : decode J_HBars_hasGuards.2.1 13 = .ok (.aload_n 0, 1) := by decide +kernel
theorem J_HBars_hasGuards_d14 : decode J_HBars_hasGuards.2.1 14 = .ok (.getfield 115, 3) := by decide +kernel
theorem J_HBars_hasGuards_d17 : decode J_HBars_hasGuards.2.1 17 = .ok (.if_icmp .ge 59, 3) := by decide +kernel
theorem J_HBars_hasGuards_d20 : decode J_HBars_hasGuards.2.1 20 = .ok (.iload_n 2, 1) := by decide +kernel
theorem J_HBars_hasGuards_d21 : decode J_HBars_hasGuards.2.1 21 = .ok (.iconst 3, 1) := by decide +kernel
theorem J_HBars_hasGuards_d22 : decode J_HBars_hasGuards.2.1 22 = .ok (.if_icmp .lt 21, 3) := by decide +kernel
theorem J_HBars_hasGuards_d25 : decode J_HBars_hasGuards.2.1 25 = .ok (.iload_n 2, 1) := by decide +kernel
theorem J_HBars_hasGuards_d26 : decode J_HBars_hasGuards.2.1 26 = .ok (.bipush 26, 2) := by decide +kernel
theorem J_HBars_hasGuards_d28 : decode J_HBars_hasGuards.2.1 28 = .ok (.if_icmp .le 9, 3) := by decide +kernel
theorem J_HBars_hasGuards_d31 : decode J_HBars_hasGuards.2.1 31 = .ok (.iload_n 2, 1) := by decide +kernel
theorem J_HBars_hasGuards_d32 : decode J_HBars_hasGuards.2.1 32 = .ok (.bipush 32, 2) := by decide +kernel
theorem J_HBars_hasGuards_d34 : decode J_HBars_hasGuards.2.1 34 = .ok (.if_icmp .lt 9, 3) := by decide +kernel
theorem J_HBars_hasGuards_d37 : decode J_HBars_hasGuards.2.1 37 = .ok (.iload_n 2, 1) := by decide +kernel
theorem J_HBars_hasGuards_d38 : decode J_HBars_hasGuards.2.1 38 = .ok (.bipush 55, 2) := by decide +kernel
theorem J_HBars_hasGuards_d40 : decode J_HBars_hasGuards.2.1 40 = .ok (.if_icmp .le 7, 3) := by decide +kernel
theorem J_HBars_hasGuards_d43 : decode J_HBars_hasGuards.2.1 43 = .ok (.iconst 1, 1) := by decide +kernel
theorem J_HBars_hasGuards_d44 : decode J_HBars_hasGuards.2.1 44 = .ok (.goto 4, 3) := by decide +kernel
theorem J_HBars_hasGuards_d47 : decode J_HBars_hasGuards.2.1 47 = .ok (.iconst 0, 1) := by decide +kernel
theorem J_HBars_hasGuards_d48 : decode J_HBars_hasGuards.2.1 48 = .ok (.istore_n 3, 1) := by decide +kernel
theorem J_HBars_hasGuards_d49 : decode J_HBars_hasGuards.2.1 49 = .ok (.iload_n 3, 1) := by decide +kernel
theorem J_HBars_hasGuards_d50 : decode J_HBars_hasGuards.2.1 50 = .ok (.ifCond .eq 20, 3) := by decide +kernel
theorem J_HBars_hasGuards_d53 : decode J_HBars_hasGuards.2.1 53 = .ok (.aload_n 0, 1) := by decide +kernel
theorem J_HBars_hasGuards_d54 : decode J_HBars_hasGuards.2.1 54 = .ok (.iload_n 2, 1) := by decide +kernel
theorem J_HBars_hasGuards_d55 : decode J_HBars_hasGuards.2.1 55 = .ok (.invokevirtual 135, 3) := by decide +kernel
theorem J_HBars_hasGuards_d58 : decode J_HBars_hasGuards.2.1 58 = .ok (.bipush 95, 2) := by decide +kernel
theorem J_HBars_hasGuards_d60 : decode J_HBars_hasGuards.2.1 60 = .ok (.iload_n 1, 1) := by decide +kernel
theorem J_HBars_hasGuards_d61 : decode J_HBars_hasGuards.2.1 61 = .ok (.invokestatic 141, 3) := by decide +kernel
theorem J_HBars_hasGuards_d64 : decode J_HBars_hasGuards.2.1 64 = .ok (.iconst 1, 1) := by decide +kernel
theorem J_HBars_hasGuards_d65 : decode J_HBars_hasGuards.2.1 65 = .ok (.if_icmp .eq 5, 3) := by decide +kernel
theorem J_HBars_hasGuards_d68 : decode J_HBars_hasGuards.2.1 68 = .ok (.iconst 0, 1) := by decide +kernel
theorem J_HBars_hasGuards_d69 : decode J_HBars_hasGuards.2.1 69 = .ok (.ireturn, 1) := by decide +kernel
theorem J_HBars_hasGuards_d70 : decode J_HBars_hasGuards.2.1 70 = .ok (.iinc 2 1, 3) := by decide +kernel
theorem J_HBars_hasGuards_d73 : decode J_HBars_hasGuards.2.1 73 = .ok (.goto (-61), 3) := by decide +kernel
theorem J_HBars_hasGuards_d76 : decode J_HBars_hasGuards.2.1 76 = .ok (.iconst 1, 1) := by decide +kernel
theorem J_HBars_hasGuards_d77 : decode J_HBars_hasGuards.2.1 77 = .ok (.ireturn, 1) := by decide +kernel
theorem f_HBars_hasGuards_ok {L : Nat} {xs : Nat → Int32} {dep : Nat} {w : Bool} {M : im_M} {Q : Int32 → Prop} (hM : lw_S w M) (h : ed (f_HBars_hasGuards M) Q) : ia (tb_G L xs) (dep + 2) J_HBars_hasGuards (rpI M Q) (0, lv_args 0 [.ref 31], [], M) := by
  have hS : im_St (tb_G L xs) (dep + 2) J_HBars_hasGuards (ia (tb_G L xs) (dep + 2) J_HBars_hasGuards (rpI M Q)) := ia_St
  unfold f_HBars_hasGuards at h
  have l0 : im_lk (lv_args 0 [.ref 31]) 0 = some (.ref 31) := rfl
  refine iq_aload_n hS 1 J_HBars_hasGuards_d0 l0 rfl ?_
  refine iq_iconst hS 2 J_HBars_hasGuards_d1 (v := 0) (by decide +kernel) rfl ?_
  refine iq_aload_n hS 3 J_HBars_hasGuards_d2 l0 rfl ?_
  refine iq_getI hS 6 J_HBars_hasGuards_d3 lf_0_115 (Or.inl rfl) (ka_31 hM) rfl ?_
  obtain ⟨Q1, hQ1, h⟩ := bd1_ed h
  refine iq_cpI hS 9 J_HBars_hasGuards_d6 rfl (pr_inst (vs := [_, _]) lc_0_138 lT_252 rfl rfl (by decide) (by decide) rfl (Nat.le_of_ble_eq_true rfl) (Nat.le_of_ble_eq_true rfl) (fun _ => Or.inl (pr_b (ka_31 hM) (by decide) rfl))) (f_HBars_sumOf_ok (dep := dep + 0) hM h) rfl ?_
  intro x1 h
  replace h := hQ1 _ h
  refine iq_istore_n hS 10 J_HBars_hasGuards_d9 (by decide) rfl ?_
  refine iq_iconst hS 11 J_HBars_hasGuards_d10 (v := 0) (by decide +kernel) rfl ?_
  refine iq_istore_n hS 12 J_HBars_hasGuards_d11 (by decide) rfl ?_
  obtain ⟨Q2, hQ2, hR2, h⟩ := bs0_ed h
  have K2 : ∀  (L' : List (Nat × Value)), Q2 (.inl ()) → ia (tb_G L xs) (dep + 2) J_HBars_hasGuards (rpI M Q) (76, L', [], M) := by
    intro  L'  h
    replace h := hQ2  h
    refine iq_iconst hS 77 J_HBars_hasGuards_d76 (v := 1) (by decide +kernel) rfl ?_
    exact iq_iret J_HBars_hasGuards_d77 rfl rfl ⟨_, rfl, rfl, ed_some h⟩
  obtain ⟨r2, hr2, hq2⟩ := h
  obtain ⟨n2, hn2⟩ := lp_n hr2
  have I2 : ∀ (n : Nat) (x3 : Int32) (L' : List (Nat × Value)), im_lk L' 0 = some (.ref 31) → im_lk L' 1 = some (.int x1) → im_lk L' 2 = some (.int x3) → lpn (uc1 (f_HBars_hasGuards_L12 x1 M)) n x3 = some r2 → ia (tb_G L xs) (dep + 2) J_HBars_hasGuards (rpI M Q) (12, L', [], M) := by
    intro n
    induction n with
    | zero => intro x3 L' l4 l5 l6 hn; exact (lpn_0 hn).elim
    | succ n ih =>
      intro x3 L' l4 l5 l6 hn
      have h := lpn_ed1 hn
      unfold f_HBars_hasGuards_L12 at h
      refine iq_iload_n hS 13 J_HBars_hasGuards_d12 l6 rfl ?_
      refine iq_aload_n hS 14 J_HBars_hasGuards_d13 l4 rfl ?_
      refine iq_getI hS 17 J_HBars_hasGuards_d14 lf_0_115 (Or.inl rfl) (ka_31 hM) rfl ?_
      refine iq_icmp_ge hS 20 J_HBars_hasGuards_d17 (t := 76) rfl (fun q17 => ?_) rfl (fun q17 => ?_)
      · replace h := ed_pos q17 h
        exact K2  _  (lq_r h hq2)
      · replace h := ed_neg q17 h
        refine iq_iload_n hS 21 J_HBars_hasGuards_d20 l6 rfl ?_
        refine iq_iconst hS 22 J_HBars_hasGuards_d21 (v := 3) (by decide +kernel) rfl ?_
        have J7 : ∀ (z8 : Int32) (L' : List (Nat × Value)), z8 = ((if x3 < 3 then 1 else (if x3 ≤ 26 then (if x3 ≤ 55 then 0 else 1) else (if x3 < 32 then 1 else (if x3 ≤ 55 then 0 else 1)))) : Int32) → im_lk L' 0 = some (.ref 31) → im_lk L' 1 = some (.int x1) → im_lk L' 2 = some (.int x3) → ia (tb_G L xs) (dep + 2) J_HBars_hasGuards (rpI M Q) (48, L', [.int z8], M) := by
          intro z8 L' e9 l10 l11 l12
          subst e9
          refine iq_istore_n hS 49 J_HBars_hasGuards_d48 (by decide) rfl ?_
          refine iq_iload_n hS 50 J_HBars_hasGuards_d49 lk_1s rfl ?_
          obtain ⟨k13, Q13, hQ13, hk13, h⟩ := jn0_ed h
          have J13 : ∀  (L' : List (Nat × Value)), im_lk L' 0 = some (.ref 31) → im_lk L' 1 = some (.int x1) → im_lk L' 2 = some (.int x3) → Q13 () → ia (tb_G L xs) (dep + 2) J_HBars_hasGuards (rpI M Q) (70, L', [], M) := by
            intro  L' l16 l17 l18 h
            replace h := hQ13  h
            refine iq_iincv hS 73 J_HBars_hasGuards_d70 (c := 1) (by decide +kernel) l18 (by decide) rfl ?_
            refine iq_goto hS J_HBars_hasGuards_d73 (t := 12) rfl ?_
            exact ih _ _ (lk_1r l16 (by decide)) (lk_1i l17 (by decide)) lk_1s (lq_l h)
          refine iq_if_eq hS 53 J_HBars_hasGuards_d50 (t := 70) rfl (fun q50 => ?_) rfl (fun q50 => ?_)
          · replace h := ed_pos q50 h
            exact J13  _ (lk_1r l10 (by decide)) (lk_1i l11 (by decide)) (lk_1i l12 (by decide)) (hk13  h)
          · replace h := ed_neg q50 h
            refine iq_aload_n hS 54 J_HBars_hasGuards_d53 (lk_1r l10 (by decide)) rfl ?_
            refine iq_iload_n hS 55 J_HBars_hasGuards_d54 (lk_1i l12 (by decide)) rfl ?_
            obtain ⟨Q14, hQ14, h⟩ := bd1_ed h
            refine iq_cpI hS 58 J_HBars_hasGuards_d55 rfl (pr_inst (vs := [_]) lc_0_135 lT_253 rfl rfl (by decide) (by decide) rfl (Nat.le_of_ble_eq_true rfl) (Nat.le_of_ble_eq_true rfl) (fun _ => Or.inl (pr_b (ka_31 hM) (by decide) rfl))) (f_HBars_widthAt_ok (dep := dep + 1) hM h) rfl ?_
            intro x14 h
            replace h := hQ14 _ h
            refine iq_bipush hS 60 J_HBars_hasGuards_d58 (v := 95) (by decide +kernel) rfl ?_
            refine iq_iload_n hS 61 J_HBars_hasGuards_d60 (lk_1i l11 (by decide)) rfl ?_
            obtain ⟨Q15, hQ15, h⟩ := bd1_ed h
            refine iq_cpI hS 64 J_HBars_hasGuards_d61 rfl (pr_stat (vs := [_, _, _]) lc_0_141 lT_254 rfl rfl (by decide) rfl (Nat.le_of_ble_eq_true rfl) (Nat.le_of_ble_eq_true rfl)) (f_HBars_nearest_ok (dep := dep + 1) hM h) rfl ?_
            intro x15 h
            replace h := hQ15 _ h
            refine iq_iconst hS 65 J_HBars_hasGuards_d64 (v := 1) (by decide +kernel) rfl ?_
            refine iq_icmp_eq hS 68 J_HBars_hasGuards_d65 (t := 70) rfl (fun q65 => ?_) rfl (fun q65 => ?_)
            · replace h := ed_pos q65 h
              exact J13  _ (lk_1r l10 (by decide)) (lk_1i l11 (by decide)) (lk_1i l12 (by decide)) (hk13  h)
            · replace h := ed_neg q65 h
              refine iq_iconst hS 69 J_HBars_hasGuards_d68 (v := 0) (by decide +kernel) rfl ?_
              exact iq_iret J_HBars_hasGuards_d69 rfl rfl ⟨_, rfl, rfl, ed_some (hR2 _ (lq_r h hq2))⟩
        refine iq_icmp_lt hS 25 J_HBars_hasGuards_d22 (t := 43) rfl (fun q22 => ?_) rfl (fun q22 => ?_)
        · refine iq_iconst hS 44 J_HBars_hasGuards_d43 (v := 1) (by decide +kernel) rfl ?_
          refine iq_goto hS J_HBars_hasGuards_d44 (t := 48) rfl ?_
          exact J7 _ _ (by simp only [if_pos q22]) l4 l5 l6
        · refine iq_iload_n hS 26 J_HBars_hasGuards_d25 l6 rfl ?_
          refine iq_bipush hS 28 J_HBars_hasGuards_d26 (v := 26) (by decide +kernel) rfl ?_
          refine iq_icmp_le hS 31 J_HBars_hasGuards_d28 (t := 37) rfl (fun q28 => ?_) rfl (fun q28 => ?_)
          · refine iq_iload_n hS 38 J_HBars_hasGuards_d37 l6 rfl ?_
            refine iq_bipush hS 40 J_HBars_hasGuards_d38 (v := 55) (by decide +kernel) rfl ?_
            refine iq_icmp_le hS 43 J_HBars_hasGuards_d40 (t := 47) rfl (fun q40 => ?_) rfl (fun q40 => ?_)
            · refine iq_iconst hS 48 J_HBars_hasGuards_d47 (v := 0) (by decide +kernel) rfl ?_
              exact J7 _ _ (by simp only [if_neg q22, if_pos q28, if_pos q40]) l4 l5 l6
            · refine iq_iconst hS 44 J_HBars_hasGuards_d43 (v := 1) (by decide +kernel) rfl ?_
              refine iq_goto hS J_HBars_hasGuards_d44 (t := 48) rfl ?_
              exact J7 _ _ (by simp only [if_neg q22, if_pos q28, if_neg q40]) l4 l5 l6
          · refine iq_iload_n hS 32 J_HBars_hasGuards_d31 l6 rfl ?_
            refine iq_bipush hS 34 J_HBars_hasGuards_d32 (v := 32) (by decide +kernel) rfl ?_
            refine iq_icmp_lt hS 37 J_HBars_hasGuards_d34 (t := 43) rfl (fun q34 => ?_) rfl (fun q34 => ?_)
            · refine iq_iconst hS 44 J_HBars_hasGuards_d43 (v := 1) (by decide +kernel) rfl ?_
              refine iq_goto hS J_HBars_hasGuards_d44 (t := 48) rfl ?_
              exact J7 _ _ (by simp only [if_neg q22, if_neg q28, if_pos q34]) l4 l5 l6
            · refine iq_iload_n hS 38 J_HBars_hasGuards_d37 l6 rfl ?_
              refine iq_bipush hS 40 J_HBars_hasGuards_d38 (v := 55) (by decide +kernel) rfl ?_
              refine iq_icmp_le hS 43 J_HBars_hasGuards_d40 (t := 47) rfl (fun q40 => ?_) rfl (fun q40 => ?_)
              · refine iq_iconst hS 48 J_HBars_hasGuards_d47 (v := 0) (by decide +kernel) rfl ?_
                exact J7 _ _ (by simp only [if_neg q22, if_neg q28, if_neg q34, if_pos q40]) l4 l5 l6
              · refine iq_iconst hS 44 J_HBars_hasGuards_d43 (v := 1) (by decide +kernel) rfl ?_
                refine iq_goto hS J_HBars_hasGuards_d44 (t := 48) rfl ?_
                exact J7 _ _ (by simp only [if_neg q22, if_neg q28, if_neg q34, if_neg q40]) l4 l5 l6
  exact I2 n2 _ _ (lk_1r (lk_1r l0 (by decide)) (by decide)) (lk_1i lk_1s (by decide)) lk_1s hn2
noncomputable def f_HBars_patternAt_L14 (v3 : Int32) (v4 : Int32) (v5 : Int32) (v6 : Int32) (M9 : im_M) (x7 : Int32) (x8 : Int32) : Option ((Int32 × Int32) ⊕ ((Int32) ⊕ (Int32))) := if (v3 + v4) ≤ x8 then some (.inr (.inl x7)) else bd1 (f_HBars_widthAt x8 M9) fun (x10 : Int32) => bd1 (f_HBars_nearest x10 v5 v6 M9) fun (x11 : Int32) => if x11 < 1 then some (.inr (.inr (-1))) else if x11 ≤ 9 then some (.inl ((((10 : Int32) * x7) + x11), (x8 + 1))) else some (.inr (.inr (-1)))
noncomputable def f_HBars_patternAt (p0 : Int32) (p1 : Int32) (p2 : Int32) (M : im_M) : Option (Int32) := bd1 (f_HBars_sumOf p0 p1 M) fun (x1 : Int32) => bs1 (lp (uc2 (f_HBars_patternAt_L14 p0 p1 p2 x1 M)) (0, p0)) (fun (y12 : Int32) => some y12) (fun t => some t)
theorem J_HBars_patternAt_d0 : decode J_HBars_patternAt.2.1 0 = .ok (.aload_n 0, 1) := by decide +kernel
theorem J_HBars_patternAt_d1 : decode J_HBars_patternAt.2.1 1 = .ok (.iload_n 1, 1) := by decide +kernel
theorem J_HBars_patternAt_d2 : decode J_HBars_patternAt.2.1 2 = .ok (.iload_n 2, 1) := by decide +kernel
theorem J_HBars_patternAt_d3 : decode J_HBars_patternAt.2.1 3 = .ok (.invokevirtual 138, 3) := by decide +kernel
theorem J_HBars_patternAt_d6 : decode J_HBars_patternAt.2.1 6 = .ok (.istore 4, 2) := by decide +kernel
theorem J_HBars_patternAt_d8 : decode J_HBars_patternAt.2.1 8 = .ok (.iconst 0, 1) := by decide +kernel
theorem J_HBars_patternAt_d9 : decode J_HBars_patternAt.2.1 9 = .ok (.istore 5, 2) := by decide +kernel
theorem J_HBars_patternAt_d11 : decode J_HBars_patternAt.2.1 11 = .ok (.iload_n 1, 1) := by decide +kernel
theorem J_HBars_patternAt_d12 : decode J_HBars_patternAt.2.1 12 = .ok (.istore 6, 2) := by decide +kernel
theorem J_HBars_patternAt_d14 : decode J_HBars_patternAt.2.1 14 = .ok (.iload 6, 2) := by decide +kernel
theorem J_HBars_patternAt_d16 : decode J_HBars_patternAt.2.1 16 = .ok (.iload_n 1, 1) := by decide +kernel
theorem J_HBars_patternAt_d17 : decode J_HBars_patternAt.2.1 17 = .ok (.iload_n 2, 1) := by decide +kernel
theorem J_HBars_patternAt_d18 : decode J_HBars_patternAt.2.1 18 = .ok (.iadd, 1) := by decide +kernel
theorem J_HBars_patternAt_d19 : decode J_HBars_patternAt.2.1 19 = .ok (.if_icmp .ge 48, 3) := by decide +kernel
theorem J_HBars_patternAt_d22 : decode J_HBars_patternAt.2.1 22 = .ok (.aload_n 0, 1) := by decide +kernel
theorem J_HBars_patternAt_d23 : decode J_HBars_patternAt.2.1 23 = .ok (.iload 6, 2) := by decide +kernel
theorem J_HBars_patternAt_d25 : decode J_HBars_patternAt.2.1 25 = .ok (.invokevirtual 135, 3) := by decide +kernel
theorem J_HBars_patternAt_d28 : decode J_HBars_patternAt.2.1 28 = .ok (.iload_n 3, 1) := by decide +kernel
theorem J_HBars_patternAt_d29 : decode J_HBars_patternAt.2.1 29 = .ok (.iload 4, 2) := by decide +kernel
theorem J_HBars_patternAt_d31 : decode J_HBars_patternAt.2.1 31 = .ok (.invokestatic 141, 3) := by decide +kernel
theorem J_HBars_patternAt_d34 : decode J_HBars_patternAt.2.1 34 = .ok (.istore 7, 2) := by decide +kernel
theorem J_HBars_patternAt_d36 : decode J_HBars_patternAt.2.1 36 = .ok (.iload 7, 2) := by decide +kernel
theorem J_HBars_patternAt_d38 : decode J_HBars_patternAt.2.1 38 = .ok (.iconst 1, 1) := by decide +kernel
theorem J_HBars_patternAt_d39 : decode J_HBars_patternAt.2.1 39 = .ok (.if_icmp .lt 10, 3) := by decide +kernel
theorem J_HBars_patternAt_d42 : decode J_HBars_patternAt.2.1 42 = .ok (.iload 7, 2) := by decide +kernel
theorem J_HBars_patternAt_d44 : decode J_HBars_patternAt.2.1 44 = .ok (.bipush 9, 2) := by decide +kernel
theorem J_HBars_patternAt_d46 : decode J_HBars_patternAt.2.1 46 = .ok (.if_icmp .le 5, 3) := by decide +kernel
theorem J_HBars_patternAt_d49 : decode J_HBars_patternAt.2.1 49 = .ok (.iconst (-1), 1) := by decide +kernel
theorem J_HBars_patternAt_d50 : decode J_HBars_patternAt.2.1 50 = .ok (.ireturn, 1) := by decide +kernel
theorem J_HBars_patternAt_d51 : decode J_HBars_patternAt.2.1 51 = .ok (.bipush 10, 2) := by decide +kernel
theorem J_HBars_patternAt_d53 : decode J_HBars_patternAt.2.1 53 = .ok (.iload 5, 2) := by decide +kernel
theorem J_HBars_patternAt_d55 : decode J_HBars_patternAt.2.1 55 = .ok (.imul, 1) := by decide +kernel
theorem J_HBars_patternAt_d56 : decode J_HBars_patternAt.2.1 56 = .ok (.iload 7, 2) := by decide +kernel
theorem J_HBars_patternAt_d58 : decode J_HBars_patternAt.2.1 58 = .ok (.iadd, 1) := by decide +kernel
theorem J_HBars_patternAt_d59 : decode J_HBars_patternAt.2.1 59 = .ok (.istore 5, 2) := by decide +kernel
theorem J_HBars_patternAt_d61 : decode J_HBars_patternAt.2.1 61 = .ok (.iinc 6 1, 3) := by decide +kernel
theorem J_HBars_patternAt_d64 : decode J_HBars_patternAt.2.1 64 = .ok (.goto (-50), 3) := by decide +kernel
theorem J_HBars_patternAt_d67 : decode J_HBars_patternAt.2.1 67 = .ok (.iload 5, 2) := by decide +kernel
theorem J_HBars_patternAt_d69 : decode J_HBars_patternAt.2.1 69 = .ok (.ireturn, 1) := by decide +kernel
theorem f_HBars_patternAt_ok {L : Nat} {xs : Nat → Int32} {dep : Nat} {w : Bool} {p0 : Int32} {p1 : Int32} {p2 : Int32} {M : im_M} {Q : Int32 → Prop} (hM : lw_S w M) (h : ed (f_HBars_patternAt p0 p1 p2 M) Q) : ia (tb_G L xs) (dep + 2) J_HBars_patternAt (rpI M Q) (0, lv_args 0 [.ref 31, .int p0, .int p1, .int p2], [], M) := by
  have hS : im_St (tb_G L xs) (dep + 2) J_HBars_patternAt (ia (tb_G L xs) (dep + 2) J_HBars_patternAt (rpI M Q)) := ia_St
  unfold f_HBars_patternAt at h
  have l0 : im_lk (lv_args 0 [.ref 31, .int p0, .int p1, .int p2]) 0 = some (.ref 31) := rfl
  have l1 : im_lk (lv_args 0 [.ref 31, .int p0, .int p1, .int p2]) 1 = some (.int p0) := rfl
  have l2 : im_lk (lv_args 0 [.ref 31, .int p0, .int p1, .int p2]) 2 = some (.int p1) := rfl
  have l3 : im_lk (lv_args 0 [.ref 31, .int p0, .int p1, .int p2]) 3 = some (.int p2) := rfl
  refine iq_aload_n hS 1 J_HBars_patternAt_d0 l0 rfl ?_
  refine iq_iload_n hS 2 J_HBars_patternAt_d1 l1 rfl ?_
  refine iq_iload_n hS 3 J_HBars_patternAt_d2 l2 rfl ?_
  obtain ⟨Q1, hQ1, h⟩ := bd1_ed h
  refine iq_cpI hS 6 J_HBars_patternAt_d3 rfl (pr_inst (vs := [_, _]) lc_0_138 lT_252 rfl rfl (by decide) (by decide) rfl (Nat.le_of_ble_eq_true rfl) (Nat.le_of_ble_eq_true rfl) (fun _ => Or.inl (pr_b (ka_31 hM) (by decide) rfl))) (f_HBars_sumOf_ok (dep := dep + 0) hM h) rfl ?_
  intro x1 h
  replace h := hQ1 _ h
  refine iq_istore hS 8 J_HBars_patternAt_d6 (by decide) rfl ?_
  refine iq_iconst hS 9 J_HBars_patternAt_d8 (v := 0) (by decide +kernel) rfl ?_
  refine iq_istore hS 11 J_HBars_patternAt_d9 (by decide) rfl ?_
  refine iq_iload_n hS 12 J_HBars_patternAt_d11 (lk_1i (lk_1i l1 (by decide)) (by decide)) rfl ?_
  refine iq_istore hS 14 J_HBars_patternAt_d12 (by decide) rfl ?_
  obtain ⟨Q2, hQ2, hR2, h⟩ := bs1_ed h
  have K2 : ∀ (y3 : Int32) (L' : List (Nat × Value)), im_lk L' 5 = some (.int y3) → Q2 (.inl y3) → ia (tb_G L xs) (dep + 2) J_HBars_patternAt (rpI M Q) (67, L', [], M) := by
    intro y3 L' l4 h
    replace h := hQ2 _ h
    refine iq_iload hS 69 J_HBars_patternAt_d67 l4 rfl ?_
    exact iq_iret J_HBars_patternAt_d69 rfl rfl ⟨_, rfl, rfl, ed_some h⟩
  obtain ⟨r2, hr2, hq2⟩ := h
  obtain ⟨n2, hn2⟩ := lp_n hr2
  have I2 : ∀ (n : Nat) (x5 : Int32) (x6 : Int32) (L' : List (Nat × Value)), im_lk L' 0 = some (.ref 31) → im_lk L' 1 = some (.int p0) → im_lk L' 2 = some (.int p1) → im_lk L' 3 = some (.int p2) → im_lk L' 4 = some (.int x1) → im_lk L' 5 = some (.int x5) → im_lk L' 6 = some (.int x6) → lpn (uc2 (f_HBars_patternAt_L14 p0 p1 p2 x1 M)) n (x5, x6) = some r2 → ia (tb_G L xs) (dep + 2) J_HBars_patternAt (rpI M Q) (14, L', [], M) := by
    intro n
    induction n with
    | zero => intro x5 x6 L' l7 l8 l9 l10 l11 l12 l13 hn; exact (lpn_0 hn).elim
    | succ n ih =>
      intro x5 x6 L' l7 l8 l9 l10 l11 l12 l13 hn
      have h := lpn_ed2 hn
      unfold f_HBars_patternAt_L14 at h
      refine iq_iload hS 16 J_HBars_patternAt_d14 l13 rfl ?_
      refine iq_iload_n hS 17 J_HBars_patternAt_d16 l8 rfl ?_
      refine iq_iload_n hS 18 J_HBars_patternAt_d17 l9 rfl ?_
      refine iq_iadd hS 19 J_HBars_patternAt_d18 rfl ?_
      refine iq_icmp_ge hS 22 J_HBars_patternAt_d19 (t := 67) rfl (fun q19 => ?_) rfl (fun q19 => ?_)
      · replace h := ed_pos q19 h
        exact K2 _ _ l12 (lq_r h hq2)
      · replace h := ed_neg q19 h
        refine iq_aload_n hS 23 J_HBars_patternAt_d22 l7 rfl ?_
        refine iq_iload hS 25 J_HBars_patternAt_d23 l13 rfl ?_
        obtain ⟨Q14, hQ14, h⟩ := bd1_ed h
        refine iq_cpI hS 28 J_HBars_patternAt_d25 rfl (pr_inst (vs := [_]) lc_0_135 lT_253 rfl rfl (by decide) (by decide) rfl (Nat.le_of_ble_eq_true rfl) (Nat.le_of_ble_eq_true rfl) (fun _ => Or.inl (pr_b (ka_31 hM) (by decide) rfl))) (f_HBars_widthAt_ok (dep := dep + 1) hM h) rfl ?_
        intro x14 h
        replace h := hQ14 _ h
        refine iq_iload_n hS 29 J_HBars_patternAt_d28 l10 rfl ?_
        refine iq_iload hS 31 J_HBars_patternAt_d29 l11 rfl ?_
        obtain ⟨Q15, hQ15, h⟩ := bd1_ed h
        refine iq_cpI hS 34 J_HBars_patternAt_d31 rfl (pr_stat (vs := [_, _, _]) lc_0_141 lT_254 rfl rfl (by decide) rfl (Nat.le_of_ble_eq_true rfl) (Nat.le_of_ble_eq_true rfl)) (f_HBars_nearest_ok (dep := dep + 1) hM h) rfl ?_
        intro x15 h
        replace h := hQ15 _ h
        refine iq_istore hS 36 J_HBars_patternAt_d34 (by decide) rfl ?_
        refine iq_iload hS 38 J_HBars_patternAt_d36 lk_1s rfl ?_
        refine iq_iconst hS 39 J_HBars_patternAt_d38 (v := 1) (by decide +kernel) rfl ?_
        refine iq_icmp_lt hS 42 J_HBars_patternAt_d39 (t := 49) rfl (fun q39 => ?_) rfl (fun q39 => ?_)
        · replace h := ed_pos q39 h
          refine iq_iconst hS 50 J_HBars_patternAt_d49 (v := (-1)) (by decide +kernel) rfl ?_
          exact iq_iret J_HBars_patternAt_d50 rfl rfl ⟨_, rfl, rfl, ed_some (hR2 _ (lq_r h hq2))⟩
        · replace h := ed_neg q39 h
          refine iq_iload hS 44 J_HBars_patternAt_d42 lk_1s rfl ?_
          refine iq_bipush hS 46 J_HBars_patternAt_d44 (v := 9) (by decide +kernel) rfl ?_
          refine iq_icmp_le hS 49 J_HBars_patternAt_d46 (t := 51) rfl (fun q46 => ?_) rfl (fun q46 => ?_)
          · replace h := ed_pos q46 h
            refine iq_bipush hS 53 J_HBars_patternAt_d51 (v := 10) (by decide +kernel) rfl ?_
            refine iq_iload hS 55 J_HBars_patternAt_d53 (lk_1i l12 (by decide)) rfl ?_
            refine iq_imul hS 56 J_HBars_patternAt_d55 rfl ?_
            refine iq_iload hS 58 J_HBars_patternAt_d56 lk_1s rfl ?_
            refine iq_iadd hS 59 J_HBars_patternAt_d58 rfl ?_
            refine iq_istore hS 61 J_HBars_patternAt_d59 (by decide) rfl ?_
            refine iq_iincv hS 64 J_HBars_patternAt_d61 (c := 1) (by decide +kernel) (lk_1i (lk_1i l13 (by decide)) (by decide)) (by decide) rfl ?_
            refine iq_goto hS J_HBars_patternAt_d64 (t := 14) rfl ?_
            exact ih _ _ _ (lk_1r (lk_1r (lk_1r l7 (by decide)) (by decide)) (by decide)) (lk_1i (lk_1i (lk_1i l8 (by decide)) (by decide)) (by decide)) (lk_1i (lk_1i (lk_1i l9 (by decide)) (by decide)) (by decide)) (lk_1i (lk_1i (lk_1i l10 (by decide)) (by decide)) (by decide)) (lk_1i (lk_1i (lk_1i l11 (by decide)) (by decide)) (by decide)) (lk_1i lk_1s (by decide)) lk_1s (lq_l h)
          · replace h := ed_neg q46 h
            refine iq_iconst hS 50 J_HBars_patternAt_d49 (v := (-1)) (by decide +kernel) rfl ?_
            exact iq_iret J_HBars_patternAt_d50 rfl rfl ⟨_, rfl, rfl, ed_some (hR2 _ (lq_r h hq2))⟩
  exact I2 n2 _ _ _ (lk_1r (lk_1r (lk_1r l0 (by decide)) (by decide)) (by decide)) (lk_1i (lk_1i (lk_1i l1 (by decide)) (by decide)) (by decide)) (lk_1i (lk_1i (lk_1i l2 (by decide)) (by decide)) (by decide)) (lk_1i (lk_1i (lk_1i l3 (by decide)) (by decide)) (by decide)) (lk_1i (lk_1i lk_1s (by decide)) (by decide)) (lk_1i lk_1s (by decide)) lk_1s hn2
noncomputable def f_HBars_indexOf_L2 (v2 : Int32) (M4 : im_M) (x3 : Int32) : Option ((Int32) ⊕ ((Unit) ⊕ (Int32))) := if (Int32.ofNat 10) ≤ x3 then some (.inr (.inl ())) else gd (inb x3 10) <| if ¬ (xa_6 x3) = v2 then some (.inl (x3 + 1)) else some (.inr (.inr x3))
noncomputable def f_HBars_indexOf (p1 : Int32) (M : im_M) : Option (Int32) := bs0 (lp (uc1 (f_HBars_indexOf_L2 p1 M)) 0) (fun (_ : Unit) => some (-1)) (fun t => some t)
theorem J_HBars_indexOf_d0 : decode J_HBars_indexOf.2.1 0 = .ok (.iconst 0, 1) := by decide +kernel
theorem J_HBars_indexOf_d1 : decode J_HBars_indexOf.2.1 1 = .ok (.istore_n 2, 1) := by decide +kernel
theorem J_HBars_indexOf_d2 : decode J_HBars_indexOf.2.1 2 = .ok (.iload_n 2, 1) := by decide +kernel
theorem J_HBars_indexOf_d3 : decode J_HBars_indexOf.2.1 3 = .ok (.aload_n 0, 1) := by decide +kernel
theorem J_HBars_indexOf_d4 : decode J_HBars_indexOf.2.1 4 = .ok (.arraylength, 1) := by decide +kernel
theorem J_HBars_indexOf_d5 : decode J_HBars_indexOf.2.1 5 = .ok (.if_icmp .ge 18, 3) := by decide +kernel
theorem J_HBars_indexOf_d8 : decode J_HBars_indexOf.2.1 8 = .ok (.aload_n 0, 1) := by decide +kernel
theorem J_HBars_indexOf_d9 : decode J_HBars_indexOf.2.1 9 = .ok (.iload_n 2, 1) := by decide +kernel
theorem J_HBars_indexOf_d10 : decode J_HBars_indexOf.2.1 10 = .ok (.iaload, 1) := by decide +kernel
theorem J_HBars_indexOf_d11 : decode J_HBars_indexOf.2.1 11 = .ok (.iload_n 1, 1) := by decide +kernel
theorem J_HBars_indexOf_d12 : decode J_HBars_indexOf.2.1 12 = .ok (.if_icmp .ne 5, 3) := by decide +kernel
theorem J_HBars_indexOf_d15 : decode J_HBars_indexOf.2.1 15 = .ok (.iload_n 2, 1) := by decide +kernel
theorem J_HBars_indexOf_d16 : decode J_HBars_indexOf.2.1 16 = .ok (.ireturn, 1) := by decide +kernel
theorem J_HBars_indexOf_d17 : decode J_HBars_indexOf.2.1 17 = .ok (.iinc 2 1, 3) := by decide +kernel
theorem J_HBars_indexOf_d20 : decode J_HBars_indexOf.2.1 20 = .ok (.goto (-18), 3) := by decide +kernel
theorem J_HBars_indexOf_d23 : decode J_HBars_indexOf.2.1 23 = .ok (.iconst (-1), 1) := by decide +kernel
theorem J_HBars_indexOf_d24 : decode J_HBars_indexOf.2.1 24 = .ok (.ireturn, 1) := by decide +kernel
theorem f_HBars_indexOf_ok {L : Nat} {xs : Nat → Int32} {dep : Nat} {w : Bool} {p1 : Int32} {M : im_M} {Q : Int32 → Prop} (hM : lw_S w M) (h : ed (f_HBars_indexOf p1 M) Q) : ia (tb_G L xs) dep J_HBars_indexOf (rpI M Q) (0, lv_args 0 [.ref 1000006, .int p1], [], M) := by
  have hS : im_St (tb_G L xs) dep J_HBars_indexOf (ia (tb_G L xs) dep J_HBars_indexOf (rpI M Q)) := ia_St
  unfold f_HBars_indexOf at h
  have l0 : im_lk (lv_args 0 [.ref 1000006, .int p1]) 0 = some (.ref 1000006) := rfl
  have l1 : im_lk (lv_args 0 [.ref 1000006, .int p1]) 1 = some (.int p1) := rfl
  refine iq_iconst hS 1 J_HBars_indexOf_d0 (v := 0) (by decide +kernel) rfl ?_
  refine iq_istore_n hS 2 J_HBars_indexOf_d1 (by decide) rfl ?_
  obtain ⟨Q1, hQ1, hR1, h⟩ := bs0_ed h
  have K1 : ∀  (L' : List (Nat × Value)), Q1 (.inl ()) → ia (tb_G L xs) dep J_HBars_indexOf (rpI M Q) (23, L', [], M) := by
    intro  L'  h
    replace h := hQ1  h
    refine iq_iconst hS 24 J_HBars_indexOf_d23 (v := (-1)) (by decide +kernel) rfl ?_
    exact iq_iret J_HBars_indexOf_d24 rfl rfl ⟨_, rfl, rfl, ed_some h⟩
  obtain ⟨r1, hr1, hq1⟩ := h
  obtain ⟨n1, hn1⟩ := lp_n hr1
  have I1 : ∀ (n : Nat) (x2 : Int32) (L' : List (Nat × Value)), im_lk L' 0 = some (.ref 1000006) → im_lk L' 1 = some (.int p1) → im_lk L' 2 = some (.int x2) → lpn (uc1 (f_HBars_indexOf_L2 p1 M)) n x2 = some r1 → ia (tb_G L xs) dep J_HBars_indexOf (rpI M Q) (2, L', [], M) := by
    intro n
    induction n with
    | zero => intro x2 L' l3 l4 l5 hn; exact (lpn_0 hn).elim
    | succ n ih =>
      intro x2 L' l3 l4 l5 hn
      have h := lpn_ed1 hn
      unfold f_HBars_indexOf_L2 at h
      refine iq_iload_n hS 3 J_HBars_indexOf_d2 l5 rfl ?_
      refine iq_aload_n hS 4 J_HBars_indexOf_d3 l3 rfl ?_
      refine iq_xalen hS 5 J_HBars_indexOf_d4 (by rw [(hM).1]; decide) (Or.inl (by rw [xk_6])) rfl ?_
      rw [xk_6]
      refine iq_icmp_ge hS 8 J_HBars_indexOf_d5 (t := 23) rfl (fun q5 => ?_) rfl (fun q5 => ?_)
      · replace h := ed_pos q5 h
        exact K1  _  (lq_r h hq1)
      · replace h := ed_neg q5 h
        refine iq_aload_n hS 9 J_HBars_indexOf_d8 l3 rfl ?_
        refine iq_iload_n hS 10 J_HBars_indexOf_d9 l5 rfl ?_
        obtain ⟨g10, h⟩ := ed_gd h
        refine iq_xl_6 hS 11 J_HBars_indexOf_d10 hM g10 rfl ?_
        refine iq_iload_n hS 12 J_HBars_indexOf_d11 l4 rfl ?_
        refine iq_icmp_ne hS 15 J_HBars_indexOf_d12 (t := 17) rfl (fun q12 => ?_) rfl (fun q12 => ?_)
        · replace h := ed_pos q12 h
          refine iq_iincv hS 20 J_HBars_indexOf_d17 (c := 1) (by decide +kernel) l5 (by decide) rfl ?_
          refine iq_goto hS J_HBars_indexOf_d20 (t := 2) rfl ?_
          exact ih _ _ (lk_1r l3 (by decide)) (lk_1i l4 (by decide)) lk_1s (lq_l h)
        · replace h := ed_neg q12 h
          refine iq_iload_n hS 16 J_HBars_indexOf_d15 l5 rfl ?_
          exact iq_iret J_HBars_indexOf_d16 rfl rfl ⟨_, rfl, rfl, ed_some (hR1 _ (lq_r h hq1))⟩
  exact I1 n1 _ _ (lk_1r l0 (by decide)) (lk_1i l1 (by decide)) lk_1s hn1
noncomputable def f_HBars_indexOf_1_L2 (v2 : Int32) (M4 : im_M) (x3 : Int32) : Option ((Int32) ⊕ ((Unit) ⊕ (Int32))) := if (Int32.ofNat 10) ≤ x3 then some (.inr (.inl ())) else gd (inb x3 10) <| if ¬ (xa_5 x3) = v2 then some (.inl (x3 + 1)) else some (.inr (.inr x3))
noncomputable def f_HBars_indexOf_1 (p1 : Int32) (M : im_M) : Option (Int32) := bs0 (lp (uc1 (f_HBars_indexOf_1_L2 p1 M)) 0) (fun (_ : Unit) => some (-1)) (fun t => some t)
theorem f_HBars_indexOf_1_ok {L : Nat} {xs : Nat → Int32} {dep : Nat} {w : Bool} {p1 : Int32} {M : im_M} {Q : Int32 → Prop} (hM : lw_S w M) (h : ed (f_HBars_indexOf_1 p1 M) Q) : ia (tb_G L xs) dep J_HBars_indexOf (rpI M Q) (0, lv_args 0 [.ref 1000005, .int p1], [], M) := by
  have hS : im_St (tb_G L xs) dep J_HBars_indexOf (ia (tb_G L xs) dep J_HBars_indexOf (rpI M Q)) := ia_St
  unfold f_HBars_indexOf_1 at h
  have l0 : im_lk (lv_args 0 [.ref 1000005, .int p1]) 0 = some (.ref 1000005) := rfl
  have l1 : im_lk (lv_args 0 [.ref 1000005, .int p1]) 1 = some (.int p1) := rfl
  refine iq_iconst hS 1 J_HBars_indexOf_d0 (v := 0) (by decide +kernel) rfl ?_
  refine iq_istore_n hS 2 J_HBars_indexOf_d1 (by decide) rfl ?_
  obtain ⟨Q1, hQ1, hR1, h⟩ := bs0_ed h
  have K1 : ∀  (L' : List (Nat × Value)), Q1 (.inl ()) → ia (tb_G L xs) dep J_HBars_indexOf (rpI M Q) (23, L', [], M) := by
    intro  L'  h
    replace h := hQ1  h
    refine iq_iconst hS 24 J_HBars_indexOf_d23 (v := (-1)) (by decide +kernel) rfl ?_
    exact iq_iret J_HBars_indexOf_d24 rfl rfl ⟨_, rfl, rfl, ed_some h⟩
  obtain ⟨r1, hr1, hq1⟩ := h
  obtain ⟨n1, hn1⟩ := lp_n hr1
  have I1 : ∀ (n : Nat) (x2 : Int32) (L' : List (Nat × Value)), im_lk L' 0 = some (.ref 1000005) → im_lk L' 1 = some (.int p1) → im_lk L' 2 = some (.int x2) → lpn (uc1 (f_HBars_indexOf_1_L2 p1 M)) n x2 = some r1 → ia (tb_G L xs) dep J_HBars_indexOf (rpI M Q) (2, L', [], M) := by
    intro n
    induction n with
    | zero => intro x2 L' l3 l4 l5 hn; exact (lpn_0 hn).elim
    | succ n ih =>
      intro x2 L' l3 l4 l5 hn
      have h := lpn_ed1 hn
      unfold f_HBars_indexOf_1_L2 at h
      refine iq_iload_n hS 3 J_HBars_indexOf_d2 l5 rfl ?_
      refine iq_aload_n hS 4 J_HBars_indexOf_d3 l3 rfl ?_
      refine iq_xalen hS 5 J_HBars_indexOf_d4 (by rw [(hM).1]; decide) (Or.inl (by rw [xk_5])) rfl ?_
      rw [xk_5]
      refine iq_icmp_ge hS 8 J_HBars_indexOf_d5 (t := 23) rfl (fun q5 => ?_) rfl (fun q5 => ?_)
      · replace h := ed_pos q5 h
        exact K1  _  (lq_r h hq1)
      · replace h := ed_neg q5 h
        refine iq_aload_n hS 9 J_HBars_indexOf_d8 l3 rfl ?_
        refine iq_iload_n hS 10 J_HBars_indexOf_d9 l5 rfl ?_
        obtain ⟨g10, h⟩ := ed_gd h
        refine iq_xl_5 hS 11 J_HBars_indexOf_d10 hM g10 rfl ?_
        refine iq_iload_n hS 12 J_HBars_indexOf_d11 l4 rfl ?_
        refine iq_icmp_ne hS 15 J_HBars_indexOf_d12 (t := 17) rfl (fun q12 => ?_) rfl (fun q12 => ?_)
        · replace h := ed_pos q12 h
          refine iq_iincv hS 20 J_HBars_indexOf_d17 (c := 1) (by decide +kernel) l5 (by decide) rfl ?_
          refine iq_goto hS J_HBars_indexOf_d20 (t := 2) rfl ?_
          exact ih _ _ (lk_1r l3 (by decide)) (lk_1i l4 (by decide)) lk_1s (lq_l h)
        · replace h := ed_neg q12 h
          refine iq_iload_n hS 16 J_HBars_indexOf_d15 l5 rfl ?_
          exact iq_iret J_HBars_indexOf_d16 rfl rfl ⟨_, rfl, rfl, ed_some (hR1 _ (lq_r h hq1))⟩
  exact I1 n1 _ _ (lk_1r l0 (by decide)) (lk_1i l1 (by decide)) lk_1s hn1
noncomputable def f_HBars_indexOf_2_L2 (v2 : Int32) (M4 : im_M) (x3 : Int32) : Option ((Int32) ⊕ ((Unit) ⊕ (Int32))) := if (Int32.ofNat 10) ≤ x3 then some (.inr (.inl ())) else gd (inb x3 10) <| if ¬ (xa_4 x3) = v2 then some (.inl (x3 + 1)) else some (.inr (.inr x3))
noncomputable def f_HBars_indexOf_2 (p1 : Int32) (M : im_M) : Option (Int32) := bs0 (lp (uc1 (f_HBars_indexOf_2_L2 p1 M)) 0) (fun (_ : Unit) => some (-1)) (fun t => some t)
theorem f_HBars_indexOf_2_ok {L : Nat} {xs : Nat → Int32} {dep : Nat} {w : Bool} {p1 : Int32} {M : im_M} {Q : Int32 → Prop} (hM : lw_S w M) (h : ed (f_HBars_indexOf_2 p1 M) Q) : ia (tb_G L xs) dep J_HBars_indexOf (rpI M Q) (0, lv_args 0 [.ref 1000004, .int p1], [], M) := by
  have hS : im_St (tb_G L xs) dep J_HBars_indexOf (ia (tb_G L xs) dep J_HBars_indexOf (rpI M Q)) := ia_St
  unfold f_HBars_indexOf_2 at h
  have l0 : im_lk (lv_args 0 [.ref 1000004, .int p1]) 0 = some (.ref 1000004) := rfl
  have l1 : im_lk (lv_args 0 [.ref 1000004, .int p1]) 1 = some (.int p1) := rfl
  refine iq_iconst hS 1 J_HBars_indexOf_d0 (v := 0) (by decide +kernel) rfl ?_
  refine iq_istore_n hS 2 J_HBars_indexOf_d1 (by decide) rfl ?_
  obtain ⟨Q1, hQ1, hR1, h⟩ := bs0_ed h
  have K1 : ∀  (L' : List (Nat × Value)), Q1 (.inl ()) → ia (tb_G L xs) dep J_HBars_indexOf (rpI M Q) (23, L', [], M) := by
    intro  L'  h
    replace h := hQ1  h
    refine iq_iconst hS 24 J_HBars_indexOf_d23 (v := (-1)) (by decide +kernel) rfl ?_
    exact iq_iret J_HBars_indexOf_d24 rfl rfl ⟨_, rfl, rfl, ed_some h⟩
  obtain ⟨r1, hr1, hq1⟩ := h
  obtain ⟨n1, hn1⟩ := lp_n hr1
  have I1 : ∀ (n : Nat) (x2 : Int32) (L' : List (Nat × Value)), im_lk L' 0 = some (.ref 1000004) → im_lk L' 1 = some (.int p1) → im_lk L' 2 = some (.int x2) → lpn (uc1 (f_HBars_indexOf_2_L2 p1 M)) n x2 = some r1 → ia (tb_G L xs) dep J_HBars_indexOf (rpI M Q) (2, L', [], M) := by
    intro n
    induction n with
    | zero => intro x2 L' l3 l4 l5 hn; exact (lpn_0 hn).elim
    | succ n ih =>
      intro x2 L' l3 l4 l5 hn
      have h := lpn_ed1 hn
      unfold f_HBars_indexOf_2_L2 at h
      refine iq_iload_n hS 3 J_HBars_indexOf_d2 l5 rfl ?_
      refine iq_aload_n hS 4 J_HBars_indexOf_d3 l3 rfl ?_
      refine iq_xalen hS 5 J_HBars_indexOf_d4 (by rw [(hM).1]; decide) (Or.inl (by rw [xk_4])) rfl ?_
      rw [xk_4]
      refine iq_icmp_ge hS 8 J_HBars_indexOf_d5 (t := 23) rfl (fun q5 => ?_) rfl (fun q5 => ?_)
      · replace h := ed_pos q5 h
        exact K1  _  (lq_r h hq1)
      · replace h := ed_neg q5 h
        refine iq_aload_n hS 9 J_HBars_indexOf_d8 l3 rfl ?_
        refine iq_iload_n hS 10 J_HBars_indexOf_d9 l5 rfl ?_
        obtain ⟨g10, h⟩ := ed_gd h
        refine iq_xl_4 hS 11 J_HBars_indexOf_d10 hM g10 rfl ?_
        refine iq_iload_n hS 12 J_HBars_indexOf_d11 l4 rfl ?_
        refine iq_icmp_ne hS 15 J_HBars_indexOf_d12 (t := 17) rfl (fun q12 => ?_) rfl (fun q12 => ?_)
        · replace h := ed_pos q12 h
          refine iq_iincv hS 20 J_HBars_indexOf_d17 (c := 1) (by decide +kernel) l5 (by decide) rfl ?_
          refine iq_goto hS J_HBars_indexOf_d20 (t := 2) rfl ?_
          exact ih _ _ (lk_1r l3 (by decide)) (lk_1i l4 (by decide)) lk_1s (lq_l h)
        · replace h := ed_neg q12 h
          refine iq_iload_n hS 16 J_HBars_indexOf_d15 l5 rfl ?_
          exact iq_iret J_HBars_indexOf_d16 rfl rfl ⟨_, rfl, rfl, ed_some (hR1 _ (lq_r h hq1))⟩
  exact I1 n1 _ _ (lk_1r l0 (by decide)) (lk_1i l1 (by decide)) lk_1s hn1
noncomputable def f_HBars_readFigures_L13 (x3 : Int32) (x4 : Int32) (M5 : im_M) : Option ((Int32 × Int32 × im_M) ⊕ ((Int32 × im_M) ⊕ (Int32 × im_M))) := if 13 ≤ x4 then some (.inr (.inl (x3, M5))) else bd1 (f_HBars_patternAt ((if 7 ≤ x4 then (((4 : Int32) * x4) + 4) else (((4 : Int32) * x4) - 1)) : Int32) 4 7 M5) fun (x7 : Int32) => bd1 (f_HBars_indexOf x7 M5) fun (x8 : Int32) => gd (inb x4 13) <| gd (inb x4 13) <| bd2 (if ¬ (im_i (im_setI M5 37 (Int32.toNatClampNeg x4) x8) 37 (Int32.toNatClampNeg x4)) = (-1) then some (x3, (im_setI M5 37 (Int32.toNatClampNeg x4) x8)) else if 7 ≤ x4 then some (x3, (im_setI M5 37 (Int32.toNatClampNeg x4) x8)) else bd1 (f_HBars_indexOf_1 x7 (im_setI M5 37 (Int32.toNatClampNeg x4) x8)) fun (x10 : Int32) => gd (inb x4 13) <| some ((x3 ||| ((1 : Int32) <<< (((6 : Int32) - x4) &&& 31 : Int32) : Int32)), (im_setI (im_setI M5 37 (Int32.toNatClampNeg x4) x8) 37 (Int32.toNatClampNeg x4) x10))) fun (y11 : Int32) (M12 : im_M) => gd (inb x4 13) <| if ¬ (im_i M12 37 (Int32.toNatClampNeg x4)) = (-1) then some (.inl (y11, (x4 + 1), M12)) else some (.inr (.inr (0, M12)))
noncomputable def f_HBars_readFigures_L159 (x22 : Int32) (M23 : im_M) : Option ((Int32 × im_M) ⊕ (im_M)) := if 13 ≤ x22 then some (.inr M23) else gd (inb x22 13) <| gd (inb x22 3000) <| some (.inl ((x22 + 1), (im_setI M23 68 (Int32.toNatClampNeg x22) (vp_nar .byte ((Int32.toInt8 ((48 : Int32) + (im_i M23 37 (Int32.toNatClampNeg x22)))).toInt32)))))
noncomputable def f_HBars_readFigures (M : im_M) : Option (Int32 × im_M) := bd1 (f_HBars_hasGuards M) fun (x1 : Int32) => if ¬ x1 = 0 then bs2 (lp (uc3 (f_HBars_readFigures_L13)) (0, 1, M)) (fun (y17 : Int32) (M18 : im_M) => bd1 (f_HBars_indexOf_2 y17 M18) fun (x19 : Int32) => gd (inb 0 13) <| gd (inb 0 13) <| if (im_i (im_setI M18 37 (Int32.toNatClampNeg 0) x19) 37 (Int32.toNatClampNeg 0)) = (-1) then some (0, (im_setI M18 37 (Int32.toNatClampNeg 0) x19)) else gd (inb 12 13) <| bd1 (f_HBars_checkFigure (im_setI M18 37 (Int32.toNatClampNeg 0) x19)) fun (x20 : Int32) => if (im_i (im_setI M18 37 (Int32.toNatClampNeg 0) x19) 37 (Int32.toNatClampNeg 12)) = x20 then bd1 (lp (uc2 (f_HBars_readFigures_L159)) (0, (im_setI M18 37 (Int32.toNatClampNeg 0) x19))) fun (M24 : im_M) => some (1, M24) else some (0, (im_setI M18 37 (Int32.toNatClampNeg 0) x19))) (fun t => some t) else some (0, M)
theorem J_HBars_readFigures_d0 : decode J_HBars_readFigures.2.1 0 = .ok (.aload_n 0, 1) := by decide +kernel
theorem J_HBars_readFigures_d1 : decode J_HBars_readFigures.2.1 1 = .ok (.invokevirtual 145, 3) := by decide +kernel
theorem J_HBars_readFigures_d4 : decode J_HBars_readFigures.2.1 4 = .ok (.ifCond .ne 5, 3) := by decide +kernel
theorem J_HBars_readFigures_d7 : decode J_HBars_readFigures.2.1 7 = .ok (.iconst 0, 1) := by decide +kernel
theorem J_HBars_readFigures_d8 : decode J_HBars_readFigures.2.1 8 = .ok (.ireturn, 1) := by decide +kernel
theorem J_HBars_readFigures_d9 : decode J_HBars_readFigures.2.1 9 = .ok (.iconst 0, 1) := by decide +kernel
theorem J_HBars_readFigures_d10 : decode J_HBars_readFigures.2.1 10 = .ok (.istore_n 2, 1) := by decide +kernel
theorem J_HBars_readFigures_d11 : decode J_HBars_readFigures.2.1 11 = .ok (.iconst 1, 1) := by decide +kernel
theorem J_HBars_readFigures_d12 : decode J_HBars_readFigures.2.1 12 = .ok (.istore_n 3, 1) := by decide +kernel
theorem J_HBars_readFigures_d13 : decode J_HBars_readFigures.2.1 13 = .ok (.iload_n 3, 1) := by decide +kernel
theorem J_HBars_readFigures_d14 : decode J_HBars_readFigures.2.1 14 = .ok (.bipush 13, 2) := by decide +kernel
theorem J_HBars_readFigures_d16 : decode J_HBars_readFigures.2.1 16 = .ok (.if_icmp .ge 102, 3) := by decide +kernel
theorem J_HBars_readFigures_d19 : decode J_HBars_readFigures.2.1 19 = .ok (.aload_n 0, 1) := by decide +kernel
theorem J_HBars_readFigures_d20 : decode J_HBars_readFigures.2.1 20 = .ok (.iload_n 3, 1) := by decide +kernel
theorem J_HBars_readFigures_d21 : decode J_HBars_readFigures.2.1 21 = .ok (.bipush 7, 2) := by decide +kernel
theorem J_HBars_readFigures_d23 : decode J_HBars_readFigures.2.1 23 = .ok (.if_icmp .ge 11, 3) := by decide +kernel
theorem J_HBars_readFigures_d26 : decode J_HBars_readFigures.2.1 26 = .ok (.iconst 4, 1) := by decide +kernel
theorem J_HBars_readFigures_d27 : decode J_HBars_readFigures.2.1 27 = .ok (.iload_n 3, 1) := by decide +kernel
theorem J_HBars_readFigures_d28 : decode J_HBars_readFigures.2.1 28 = .ok (.imul, 1) := by decide +kernel
theorem J_HBars_readFigures_d29 : decode J_HBars_readFigures.2.1 29 = .ok (.iconst 1, 1) := by decide +kernel
theorem J_HBars_readFigures_d30 : decode J_HBars_readFigures.2.1 30 = .ok (.isub, 1) := by decide +kernel
theorem J_HBars_readFigures_d31 : decode J_HBars_readFigures.2.1 31 = .ok (.goto 8, 3) := by decide +kernel
theorem J_HBars_readFigures_d34 : decode J_HBars_readFigures.2.1 34 = .ok (.iconst 4, 1) := by decide +kernel
theorem J_HBars_readFigures_d35 : decode J_HBars_readFigures.2.1 35 = .ok (.iload_n 3, 1) := by decide +kernel
theorem J_HBars_readFigures_d36 : decode J_HBars_readFigures.2.1 36 = .ok (.imul, 1) := by decide +kernel
theorem J_HBars_readFigures_d37 : decode J_HBars_readFigures.2.1 37 = .ok (.iconst 4, 1) := by decide +kernel
theorem J_HBars_readFigures_d38 : decode J_HBars_readFigures.2.1 38 = .ok (.iadd, 1) := by decide +kernel
theorem J_HBars_readFigures_d39 : decode J_HBars_readFigures.2.1 39 = .ok (.iconst 4, 1) := by decide +kernel
theorem J_HBars_readFigures_d40 : decode J_HBars_readFigures.2.1 40 = .ok (.bipush 7, 2) := by decide +kernel
theorem J_HBars_readFigures_d42 : decode J_HBars_readFigures.2.1 42 = .ok (.invokevirtual 149, 3) := by decide +kernel
theorem J_HBars_readFigures_d45 : decode J_HBars_readFigures.2.1 45 = .ok (.istore 4, 2) := by decide +kernel
theorem J_HBars_readFigures_d47 : decode J_HBars_readFigures.2.1 47 = .ok (.aload_n 0, 1) := by decide +kernel
theorem J_HBars_readFigures_d48 : decode J_HBars_readFigures.2.1 48 = .ok (.getfield 29, 3) := by decide +kernel
theorem J_HBars_readFigures_d51 : decode J_HBars_readFigures.2.1 51 = .ok (.iload_n 3, 1) := by decide +kernel
theorem J_HBars_readFigures_d52 : decode J_HBars_readFigures.2.1 52 = .ok (.getstatic 112, 3) := by decide +kernel
theorem J_HBars_readFigures_d55 : decode J_HBars_readFigures.2.1 55 = .ok (.iload 4, 2) := by decide +kernel
theorem J_HBars_readFigures_d57 : decode J_HBars_readFigures.2.1 57 = .ok (.invokestatic 152, 3) := by decide +kernel
theorem J_HBars_readFigures_d60 : decode J_HBars_readFigures.2.1 60 = .ok (.iastore, 1) := by decide +kernel
theorem J_HBars_readFigures_d61 : decode J_HBars_readFigures.2.1 61 = .ok (.aload_n 0, 1) := by decide +kernel
theorem J_HBars_readFigures_d62 : decode J_HBars_readFigures.2.1 62 = .ok (.getfield 29, 3) := by decide +kernel
theorem J_HBars_readFigures_d65 : decode J_HBars_readFigures.2.1 65 = .ok (.iload_n 3, 1) := by decide +kernel
theorem J_HBars_readFigures_d66 : decode J_HBars_readFigures.2.1 66 = .ok (.iaload, 1) := by decide +kernel
theorem J_HBars_readFigures_d67 : decode J_HBars_readFigures.2.1 67 = .ok (.iconst (-1), 1) := by decide +kernel
theorem J_HBars_readFigures_d68 : decode J_HBars_readFigures.2.1 68 = .ok (.if_icmp .ne 32, 3) := by decide +kernel
theorem J_HBars_readFigures_d71 : decode J_HBars_readFigures.2.1 71 = .ok (.iload_n 3, 1) := by decide +kernel
theorem J_HBars_readFigures_d72 : decode J_HBars_readFigures.2.1 72 = .ok (.bipush 7, 2) := by decide +kernel
theorem J_HBars_readFigures_d74 : decode J_HBars_readFigures.2.1 74 = .ok (.if_icmp .ge 26, 3) := by decide +kernel
theorem J_HBars_readFigures_d77 : decode J_HBars_readFigures.2.1 77 = .ok (.aload_n 0, 1) := by decide +kernel
theorem J_HBars_readFigures_d78 : decode J_HBars_readFigures.2.1 78 = .ok (.getfield 29, 3) := by decide +kernel
theorem J_HBars_readFigures_d81 : decode J_HBars_readFigures.2.1 81 = .ok (.iload_n 3, 1) := by decide +kernel
theorem J_HBars_readFigures_d82 : decode J_HBars_readFigures.2.1 82 = .ok (.getstatic 109, 3) := by decide +kernel
theorem J_HBars_readFigures_d85 : decode J_HBars_readFigures.2.1 85 = .ok (.iload 4, 2) := by decide +kernel
theorem J_HBars_readFigures_d87 : decode J_HBars_readFigures.2.1 87 = .ok (.invokestatic 152, 3) := by decide +kernel
theorem J_HBars_readFigures_d90 : decode J_HBars_readFigures.2.1 90 = .ok (.iastore, 1) := by decide +kernel
theorem J_HBars_readFigures_d91 : decode J_HBars_readFigures.2.1 91 = .ok (.iload_n 2, 1) := by decide +kernel
theorem J_HBars_readFigures_d92 : decode J_HBars_readFigures.2.1 92 = .ok (.iconst 1, 1) := by decide +kernel
theorem J_HBars_readFigures_d93 : decode J_HBars_readFigures.2.1 93 = .ok (.bipush 6, 2) := by decide +kernel
theorem J_HBars_readFigures_d95 : decode J_HBars_readFigures.2.1 95 = .ok (.iload_n 3, 1) := by decide +kernel
theorem J_HBars_readFigures_d96 : decode J_HBars_readFigures.2.1 96 = .ok (.isub, 1) := by decide +kernel
theorem J_HBars_readFigures_d97 : decode J_HBars_readFigures.2.1 97 = .ok (.ishl, 1) := by decide +kernel
theorem J_HBars_readFigures_d98 : decode J_HBars_readFigures.2.1 98 = .ok (.ior, 1) := by decide +kernel
theorem J_HBars_readFigures_d99 : decode J_HBars_readFigures.2.1 99 = .ok (.istore_n 2, 1) := by decide +kernel
theorem J_HBars_readFigures_d100 : decode J_HBars_readFigures.2.1 100 = .ok (.aload_n 0, 1) := by decide +kernel
theorem J_HBars_readFigures_d101 : decode J_HBars_readFigures.2.1 101 = .ok (.getfield 29, 3) := by decide +kernel
theorem J_HBars_readFigures_d104 : decode J_HBars_readFigures.2.1 104 = .ok (.iload_n 3, 1) := by decide +kernel
theorem J_HBars_readFigures_d105 : decode J_HBars_readFigures.2.1 105 = .ok (.iaload, 1) := by decide +kernel
theorem J_HBars_readFigures_d106 : decode J_HBars_readFigures.2.1 106 = .ok (.iconst (-1), 1) := by decide +kernel
theorem J_HBars_readFigures_d107 : decode J_HBars_readFigures.2.1 107 = .ok (.if_icmp .ne 5, 3) := by decide +kernel
theorem J_HBars_readFigures_d110 : decode J_HBars_readFigures.2.1 110 = .ok (.iconst 0, 1) := by decide +kernel
theorem J_HBars_readFigures_d111 : decode J_HBars_readFigures.2.1 111 = .ok (.ireturn, 1) := by decide +kernel
theorem J_HBars_readFigures_d112 : decode J_HBars_readFigures.2.1 112 = .ok (.iinc 3 1, 3) := by decide +kernel
theorem J_HBars_readFigures_d115 : decode J_HBars_readFigures.2.1 115 = .ok (.goto (-102), 3) := by decide +kernel
theorem J_HBars_readFigures_d118 : decode J_HBars_readFigures.2.1 118 = .ok (.aload_n 0, 1) := by decide +kernel
theorem J_HBars_readFigures_d119 : decode J_HBars_readFigures.2.1 119 = .ok (.getfield 29, 3) := by decide +kernel
theorem J_HBars_readFigures_d122 : decode J_HBars_readFigures.2.1 122 = .ok (.iconst 0, 1) := by decide +kernel
theorem J_HBars_readFigures_d123 : decode J_HBars_readFigures.2.1 123 = .ok (.getstatic 106, 3) := by decide +kernel
theorem J_HBars_readFigures_d126 : decode J_HBars_readFigures.2.1 126 = .ok (.iload_n 2, 1) := by decide +kernel
theorem J_HBars_readFigures_d127 : decode J_HBars_readFigures.2.1 127 = .ok (.invokestatic 152, 3) := by decide +kernel
theorem J_HBars_readFigures_d130 : decode J_HBars_readFigures.2.1 130 = .ok (.iastore, 1) := by decide +kernel
theorem J_HBars_readFigures_d131 : decode J_HBars_readFigures.2.1 131 = .ok (.aload_n 0, 1) := by decide +kernel
theorem J_HBars_readFigures_d132 : decode J_HBars_readFigures.2.1 132 = .ok (.getfield 29, 3) := by decide +kernel
theorem J_HBars_readFigures_d135 : decode J_HBars_readFigures.2.1 135 = .ok (.iconst 0, 1) := by decide +kernel
theorem J_HBars_readFigures_d136 : decode J_HBars_readFigures.2.1 136 = .ok (.iaload, 1) := by decide +kernel
theorem J_HBars_readFigures_d137 : decode J_HBars_readFigures.2.1 137 = .ok (.iconst (-1), 1) := by decide +kernel
theorem J_HBars_readFigures_d138 : decode J_HBars_readFigures.2.1 138 = .ok (.if_icmp .eq 17, 3) := by decide +kernel
theorem J_HBars_readFigures_d141 : decode J_HBars_readFigures.2.1 141 = .ok (.aload_n 0, 1) := by decide +kernel
theorem J_HBars_readFigures_d142 : decode J_HBars_readFigures.2.1 142 = .ok (.getfield 29, 3) := by decide +kernel
theorem J_HBars_readFigures_d145 : decode J_HBars_readFigures.2.1 145 = .ok (.bipush 12, 2) := by decide +kernel
theorem J_HBars_readFigures_d147 : decode J_HBars_readFigures.2.1 147 = .ok (.iaload, 1) := by decide +kernel
theorem J_HBars_readFigures_d148 : decode J_HBars_readFigures.2.1 148 = .ok (.aload_n 0, 1) := by decide +kernel
theorem J_HBars_readFigures_d149 : decode J_HBars_readFigures.2.1 149 = .ok (.invokevirtual 102, 3) := by decide +kernel
theorem J_HBars_readFigures_d152 : decode J_HBars_readFigures.2.1 152 = .ok (.if_icmp .eq 5, 3) := by decide +kernel
theorem J_HBars_readFigures_d155 : decode J_HBars_readFigures.2.1 155 = .ok (.iconst 0, 1) := by decide +kernel
theorem J_HBars_readFigures_d156 : decode J_HBars_readFigures.2.1 156 = .ok (.ireturn, 1) := by decide +kernel
theorem J_HBars_readFigures_d157 : decode J_HBars_readFigures.2.1 157 = .ok (.iconst 0, 1) := by decide +kernel
theorem J_HBars_readFigures_d158 : decode J_HBars_readFigures.2.1 158 = .ok (.istore_n 3, 1) := by decide +kernel
theorem J_HBars_readFigures_d159 : decode J_HBars_readFigures.2.1 159 = .ok (.iload_n 3, 1) := by decide +kernel
theorem J_HBars_readFigures_d160 : decode J_HBars_readFigures.2.1 160 = .ok (.bipush 13, 2) := by decide +kernel
theorem J_HBars_readFigures_d162 : decode J_HBars_readFigures.2.1 162 = .ok (.if_icmp .ge 22, 3) := by decide +kernel
theorem J_HBars_readFigures_d165 : decode J_HBars_readFigures.2.1 165 = .ok (.aload_n 1, 1) := by decide +kernel
theorem J_HBars_readFigures_d166 : decode J_HBars_readFigures.2.1 166 = .ok (.iload_n 3, 1) := by decide +kernel
theorem J_HBars_readFigures_d167 : decode J_HBars_readFigures.2.1 167 = .ok (.bipush 48, 2) := by decide +kernel
theorem J_HBars_readFigures_d169 : decode J_HBars_readFigures.2.1 169 = .ok (.aload_n 0, 1) := by decide +kernel
theorem J_HBars_readFigures_d170 : decode J_HBars_readFigures.2.1 170 = .ok (.getfield 29, 3) := by decide +kernel
theorem J_HBars_readFigures_d173 : decode J_HBars_readFigures.2.1 173 = .ok (.iload_n 3, 1) := by decide +kernel
theorem J_HBars_readFigures_d174 : decode J_HBars_readFigures.2.1 174 = .ok (.iaload, 1) := by decide +kernel
theorem J_HBars_readFigures_d175 : decode J_HBars_readFigures.2.1 175 = .ok (.iadd, 1) := by decide +kernel
theorem J_HBars_readFigures_d176 : decode J_HBars_readFigures.2.1 176 = .ok (.i2b, 1) := by decide +kernel
theorem J_HBars_readFigures_d177 : decode J_HBars_readFigures.2.1 177 = .ok (.bastore, 1) := by decide +kernel
theorem J_HBars_readFigures_d178 : decode J_HBars_readFigures.2.1 178 = .ok (.iinc 3 1, 3) := by decide +kernel
theorem J_HBars_readFigures_d181 : decode J_HBars_readFigures.2.1 181 = .ok (.goto (-22), 3) := by decide +kernel
theorem J_HBars_readFigures_d184 : decode J_HBars_readFigures.2.1 184 = .ok (.iconst 1, 1) := by decide +kernel
theorem J_HBars_readFigures_d185 : decode J_HBars_readFigures.2.1 185 = .ok (.ireturn, 1) := by decide +kernel
theorem f_HBars_readFigures_ok {L : Nat} {xs : Nat → Int32} {dep : Nat} {w : Bool} {M : im_M} {Q : Int32 × im_M → Prop} (hM : lw_S w M) (h : ed (f_HBars_readFigures M) Q) : ia (tb_G L xs) (dep + 3) J_HBars_readFigures (rwI w Q) (0, lv_args 0 [.ref 31, .ref 68], [], M) := by
  have hS : im_St (tb_G L xs) (dep + 3) J_HBars_readFigures (ia (tb_G L xs) (dep + 3) J_HBars_readFigures (rwI w Q)) := ia_St
  unfold f_HBars_readFigures at h
  have l0 : im_lk (lv_args 0 [.ref 31, .ref 68]) 0 = some (.ref 31) := rfl
  have l1 : im_lk (lv_args 0 [.ref 31, .ref 68]) 1 = some (.ref 68) := rfl
  refine iq_aload_n hS 1 J_HBars_readFigures_d0 l0 rfl ?_
  obtain ⟨Q1, hQ1, h⟩ := bd1_ed h
  refine iq_cpI hS 4 J_HBars_readFigures_d1 rfl (pr_inst (vs := []) lc_0_145 lT_251 rfl rfl (by decide) (by decide) rfl (Nat.le_of_ble_eq_true rfl) (Nat.le_of_ble_eq_true rfl) (fun _ => Or.inl (pr_b (ka_31 hM) (by decide) rfl))) (f_HBars_hasGuards_ok (dep := dep + 0) hM h) rfl ?_
  intro x1 h
  replace h := hQ1 _ h
  refine iq_if_ne hS 7 J_HBars_readFigures_d4 (t := 9) rfl (fun q4 => ?_) rfl (fun q4 => ?_)
  · replace h := ed_pos q4 h
    refine iq_iconst hS 10 J_HBars_readFigures_d9 (v := 0) (by decide +kernel) rfl ?_
    refine iq_istore_n hS 11 J_HBars_readFigures_d10 (by decide) rfl ?_
    refine iq_iconst hS 12 J_HBars_readFigures_d11 (v := 1) (by decide +kernel) rfl ?_
    refine iq_istore_n hS 13 J_HBars_readFigures_d12 (by decide) rfl ?_
    obtain ⟨Q2, hQ2, hR2, h⟩ := bs2_ed h
    have K2 : ∀ (y3 : Int32) (M4 : im_M) (L' : List (Nat × Value)), lw_S w M4 → im_lk L' 0 = some (.ref 31) → im_lk L' 1 = some (.ref 68) → im_lk L' 2 = some (.int y3) → Q2 (.inl (y3, M4)) → ia (tb_G L xs) (dep + 3) J_HBars_readFigures (rwI w Q) (118, L', [], M4) := by
      intro y3 M4 L' hM4 l5 l6 l7 h
      replace h := hQ2 _ _ h
      refine iq_aload_n hS 119 J_HBars_readFigures_d118 l5 rfl ?_
      refine iq_getR hS 122 J_HBars_readFigures_d119 lf_0_29 (Or.inr ⟨_, rfl⟩) (ka_31 hM4) (ra_31_10 hM4) rfl ?_
      refine iq_iconst hS 123 J_HBars_readFigures_d122 (v := 0) (by decide +kernel) rfl ?_
      refine iq_getstatic hS 126 J_HBars_readFigures_d123 gs_0_106 rfl ?_
      refine iq_iload_n hS 127 J_HBars_readFigures_d126 l7 rfl ?_
      obtain ⟨Q8, hQ8, h⟩ := bd1_ed h
      refine iq_cpI hS 130 J_HBars_readFigures_d127 rfl (pr_stat (vs := [_, _]) lc_0_152 lT_256 rfl rfl (by decide) rfl (Nat.le_of_ble_eq_true rfl) (Nat.le_of_ble_eq_true rfl)) (f_HBars_indexOf_2_ok (dep := dep + 2) hM4 h) rfl ?_
      intro x8 h
      replace h := hQ8 _ h
      obtain ⟨g130, h⟩ := ed_gd h
      refine iq_iastore hS 131 J_HBars_readFigures_d130 ⟨(ka_37 hM4).1, (ka_37 hM4).2, g130.1, ix_lt (kl_37 hM4) g130.2⟩ rfl ?_
      refine iq_aload_n hS 132 J_HBars_readFigures_d131 l5 rfl ?_
      refine iq_getR hS 135 J_HBars_readFigures_d132 lf_0_29 (Or.inr ⟨_, rfl⟩) (ka_31 (lw_sI hM4)) (ra_31_10 (lw_sI hM4)) rfl ?_
      refine iq_iconst hS 136 J_HBars_readFigures_d135 (v := 0) (by decide +kernel) rfl ?_
      obtain ⟨g136, h⟩ := ed_gd h
      refine iq_iaload hS 137 J_HBars_readFigures_d136 ⟨(ka_37 (lw_sI hM4)).1, (ka_37 (lw_sI hM4)).2, g136.1, ix_lt (kl_37 (lw_sI hM4)) g136.2⟩ rfl ?_
      refine iq_iconst hS 138 J_HBars_readFigures_d137 (v := (-1)) (by decide +kernel) rfl ?_
      refine iq_icmp_eq hS 141 J_HBars_readFigures_d138 (t := 155) rfl (fun q138 => ?_) rfl (fun q138 => ?_)
      · replace h := ed_pos q138 h
        refine iq_iconst hS 156 J_HBars_readFigures_d155 (v := 0) (by decide +kernel) rfl ?_
        exact iq_iret J_HBars_readFigures_d156 rfl rfl ⟨_, rfl, (lw_sI hM4), ed_some h⟩
      · replace h := ed_neg q138 h
        refine iq_aload_n hS 142 J_HBars_readFigures_d141 l5 rfl ?_
        refine iq_getR hS 145 J_HBars_readFigures_d142 lf_0_29 (Or.inr ⟨_, rfl⟩) (ka_31 (lw_sI hM4)) (ra_31_10 (lw_sI hM4)) rfl ?_
        refine iq_bipush hS 147 J_HBars_readFigures_d145 (v := 12) (by decide +kernel) rfl ?_
        obtain ⟨g147, h⟩ := ed_gd h
        refine iq_iaload hS 148 J_HBars_readFigures_d147 ⟨(ka_37 (lw_sI hM4)).1, (ka_37 (lw_sI hM4)).2, g147.1, ix_lt (kl_37 (lw_sI hM4)) g147.2⟩ rfl ?_
        refine iq_aload_n hS 149 J_HBars_readFigures_d148 l5 rfl ?_
        obtain ⟨Q9, hQ9, h⟩ := bd1_ed h
        refine iq_cpI hS 152 J_HBars_readFigures_d149 rfl (pr_inst (vs := []) lc_0_102 lT_131 rfl rfl (by decide) (by decide) rfl (Nat.le_of_ble_eq_true rfl) (Nat.le_of_ble_eq_true rfl) (fun _ => Or.inl (pr_b (ka_31 (lw_sI hM4)) (by decide) rfl))) (f_HBars_checkFigure_ok (dep := dep + 2) (lw_sI hM4) h) rfl ?_
        intro x9 h
        replace h := hQ9 _ h
        refine iq_icmp_eq hS 155 J_HBars_readFigures_d152 (t := 157) rfl (fun q152 => ?_) rfl (fun q152 => ?_)
        · replace h := ed_pos q152 h
          refine iq_iconst hS 158 J_HBars_readFigures_d157 (v := 0) (by decide +kernel) rfl ?_
          refine iq_istore_n hS 159 J_HBars_readFigures_d158 (by decide) rfl ?_
          obtain ⟨Q10, hQ10, h⟩ := bd1_ed h
          have K10 : ∀ (M11 : im_M) (L' : List (Nat × Value)), lw_S w M11 → Q10 M11 → ia (tb_G L xs) (dep + 3) J_HBars_readFigures (rwI w Q) (184, L', [], M11) := by
            intro M11 L' hM11  h
            replace h := hQ10 _ h
            refine iq_iconst hS 185 J_HBars_readFigures_d184 (v := 1) (by decide +kernel) rfl ?_
            exact iq_iret J_HBars_readFigures_d185 rfl rfl ⟨_, rfl, hM11, ed_some h⟩
          obtain ⟨r10, hr10, hq10⟩ := h
          obtain ⟨n10, hn10⟩ := lp_n hr10
          have I10 : ∀ (n : Nat) (x12 : Int32) (M13 : im_M) (L' : List (Nat × Value)), lw_S w M13 → im_lk L' 0 = some (.ref 31) → im_lk L' 1 = some (.ref 68) → im_lk L' 3 = some (.int x12) → lpn (uc2 (f_HBars_readFigures_L159)) n (x12, M13) = some r10 → ia (tb_G L xs) (dep + 3) J_HBars_readFigures (rwI w Q) (159, L', [], M13) := by
            intro n
            induction n with
            | zero => intro x12 M13 L' hM13 l14 l15 l16 hn; exact (lpn_0 hn).elim
            | succ n ih =>
              intro x12 M13 L' hM13 l14 l15 l16 hn
              have h := lpn_ed2 hn
              unfold f_HBars_readFigures_L159 at h
              refine iq_iload_n hS 160 J_HBars_readFigures_d159 l16 rfl ?_
              refine iq_bipush hS 162 J_HBars_readFigures_d160 (v := 13) (by decide +kernel) rfl ?_
              refine iq_icmp_ge hS 165 J_HBars_readFigures_d162 (t := 184) rfl (fun q162 => ?_) rfl (fun q162 => ?_)
              · replace h := ed_pos q162 h
                exact K10 _ _ hM13  (lq_r h hq10)
              · replace h := ed_neg q162 h
                refine iq_aload_n hS 166 J_HBars_readFigures_d165 l15 rfl ?_
                refine iq_iload_n hS 167 J_HBars_readFigures_d166 l16 rfl ?_
                refine iq_bipush hS 169 J_HBars_readFigures_d167 (v := 48) (by decide +kernel) rfl ?_
                refine iq_aload_n hS 170 J_HBars_readFigures_d169 l14 rfl ?_
                refine iq_getR hS 173 J_HBars_readFigures_d170 lf_0_29 (Or.inr ⟨_, rfl⟩) (ka_31 hM13) (ra_31_10 hM13) rfl ?_
                refine iq_iload_n hS 174 J_HBars_readFigures_d173 l16 rfl ?_
                obtain ⟨g174, h⟩ := ed_gd h
                refine iq_iaload hS 175 J_HBars_readFigures_d174 ⟨(ka_37 hM13).1, (ka_37 hM13).2, g174.1, ix_lt (kl_37 hM13) g174.2⟩ rfl ?_
                refine iq_iadd hS 176 J_HBars_readFigures_d175 rfl ?_
                refine iq_i2b hS 177 J_HBars_readFigures_d176 rfl ?_
                obtain ⟨g177, h⟩ := ed_gd h
                refine iq_bastore hS 178 J_HBars_readFigures_d177 ⟨(ka_68 hM13).1, (ka_68 hM13).2, g177.1, ix_lt (kl_68 hM13) g177.2⟩ rfl ?_
                refine iq_iincv hS 181 J_HBars_readFigures_d178 (c := 1) (by decide +kernel) l16 (by decide) rfl ?_
                refine iq_goto hS J_HBars_readFigures_d181 (t := 159) rfl ?_
                exact ih _ _ _ (lw_sI hM13) (lk_1r l14 (by decide)) (lk_1r l15 (by decide)) lk_1s (lq_l h)
          exact I10 n10 _ _ _ (lw_sI hM4) (lk_1r l5 (by decide)) (lk_1r l6 (by decide)) lk_1s hn10
        · replace h := ed_neg q152 h
          refine iq_iconst hS 156 J_HBars_readFigures_d155 (v := 0) (by decide +kernel) rfl ?_
          exact iq_iret J_HBars_readFigures_d156 rfl rfl ⟨_, rfl, (lw_sI hM4), ed_some h⟩
    obtain ⟨r2, hr2, hq2⟩ := h
    obtain ⟨n2, hn2⟩ := lp_n hr2
    have I2 : ∀ (n : Nat) (x17 : Int32) (x18 : Int32) (M19 : im_M) (L' : List (Nat × Value)), lw_S w M19 → im_lk L' 0 = some (.ref 31) → im_lk L' 1 = some (.ref 68) → im_lk L' 2 = some (.int x17) → im_lk L' 3 = some (.int x18) → lpn (uc3 (f_HBars_readFigures_L13)) n (x17, x18, M19) = some r2 → ia (tb_G L xs) (dep + 3) J_HBars_readFigures (rwI w Q) (13, L', [], M19) := by
      intro n
      induction n with
      | zero => intro x17 x18 M19 L' hM19 l20 l21 l22 l23 hn; exact (lpn_0 hn).elim
      | succ n ih =>
        intro x17 x18 M19 L' hM19 l20 l21 l22 l23 hn
        have h := lpn_ed3 hn
        unfold f_HBars_readFigures_L13 at h
        refine iq_iload_n hS 14 J_HBars_readFigures_d13 l23 rfl ?_
        refine iq_bipush hS 16 J_HBars_readFigures_d14 (v := 13) (by decide +kernel) rfl ?_
        refine iq_icmp_ge hS 19 J_HBars_readFigures_d16 (t := 118) rfl (fun q16 => ?_) rfl (fun q16 => ?_)
        · replace h := ed_pos q16 h
          exact K2 _ _ _ hM19 l20 l21 l22 (lq_r h hq2)
        · replace h := ed_neg q16 h
          refine iq_aload_n hS 20 J_HBars_readFigures_d19 l20 rfl ?_
          refine iq_iload_n hS 21 J_HBars_readFigures_d20 l23 rfl ?_
          refine iq_bipush hS 23 J_HBars_readFigures_d21 (v := 7) (by decide +kernel) rfl ?_
          have J24 : ∀ (z25 : Int32) (L' : List (Nat × Value)), z25 = ((if 7 ≤ x18 then (((4 : Int32) * x18) + 4) else (((4 : Int32) * x18) - 1)) : Int32) → im_lk L' 0 = some (.ref 31) → im_lk L' 1 = some (.ref 68) → im_lk L' 2 = some (.int x17) → im_lk L' 3 = some (.int x18) → ia (tb_G L xs) (dep + 3) J_HBars_readFigures (rwI w Q) (39, L', [.int z25, .ref 31], M19) := by
            intro z25 L' e26 l27 l28 l29 l30
            subst e26
            refine iq_iconst hS 40 J_HBars_readFigures_d39 (v := 4) (by decide +kernel) rfl ?_
            refine iq_bipush hS 42 J_HBars_readFigures_d40 (v := 7) (by decide +kernel) rfl ?_
            obtain ⟨Q31, hQ31, h⟩ := bd1_ed h
            refine iq_cpI hS 45 J_HBars_readFigures_d42 rfl (pr_inst (vs := [_, _, _]) lc_0_149 lT_255 rfl rfl (by decide) (by decide) rfl (Nat.le_of_ble_eq_true rfl) (Nat.le_of_ble_eq_true rfl) (fun _ => Or.inl (pr_b (ka_31 hM19) (by decide) rfl))) (f_HBars_patternAt_ok (dep := dep + 0) hM19 h) rfl ?_
            intro x31 h
            replace h := hQ31 _ h
            refine iq_istore hS 47 J_HBars_readFigures_d45 (by decide) rfl ?_
            refine iq_aload_n hS 48 J_HBars_readFigures_d47 (lk_1r l27 (by decide)) rfl ?_
            refine iq_getR hS 51 J_HBars_readFigures_d48 lf_0_29 (Or.inr ⟨_, rfl⟩) (ka_31 hM19) (ra_31_10 hM19) rfl ?_
            refine iq_iload_n hS 52 J_HBars_readFigures_d51 (lk_1i l30 (by decide)) rfl ?_
            refine iq_getstatic hS 55 J_HBars_readFigures_d52 gs_0_112 rfl ?_
            refine iq_iload hS 57 J_HBars_readFigures_d55 lk_1s rfl ?_
            obtain ⟨Q32, hQ32, h⟩ := bd1_ed h
            refine iq_cpI hS 60 J_HBars_readFigures_d57 rfl (pr_stat (vs := [_, _]) lc_0_152 lT_256 rfl rfl (by decide) rfl (Nat.le_of_ble_eq_true rfl) (Nat.le_of_ble_eq_true rfl)) (f_HBars_indexOf_ok (dep := dep + 2) hM19 h) rfl ?_
            intro x32 h
            replace h := hQ32 _ h
            obtain ⟨g60, h⟩ := ed_gd h
            refine iq_iastore hS 61 J_HBars_readFigures_d60 ⟨(ka_37 hM19).1, (ka_37 hM19).2, g60.1, ix_lt (kl_37 hM19) g60.2⟩ rfl ?_
            refine iq_aload_n hS 62 J_HBars_readFigures_d61 (lk_1r l27 (by decide)) rfl ?_
            refine iq_getR hS 65 J_HBars_readFigures_d62 lf_0_29 (Or.inr ⟨_, rfl⟩) (ka_31 (lw_sI hM19)) (ra_31_10 (lw_sI hM19)) rfl ?_
            refine iq_iload_n hS 66 J_HBars_readFigures_d65 (lk_1i l30 (by decide)) rfl ?_
            obtain ⟨g66, h⟩ := ed_gd h
            refine iq_iaload hS 67 J_HBars_readFigures_d66 ⟨(ka_37 (lw_sI hM19)).1, (ka_37 (lw_sI hM19)).2, g66.1, ix_lt (kl_37 (lw_sI hM19)) g66.2⟩ rfl ?_
            refine iq_iconst hS 68 J_HBars_readFigures_d67 (v := (-1)) (by decide +kernel) rfl ?_
            obtain ⟨Q33, hQ33, h⟩ := bd2_ed h
            have J33 : ∀ (y35 : Int32) (M36 : im_M) (L' : List (Nat × Value)), lw_S w M36 → im_lk L' 0 = some (.ref 31) → im_lk L' 1 = some (.ref 68) → im_lk L' 2 = some (.int y35) → im_lk L' 3 = some (.int x18) → Q33 (y35, M36) → ia (tb_G L xs) (dep + 3) J_HBars_readFigures (rwI w Q) (100, L', [], M36) := by
              intro y35 M36 L' hM36 l37 l38 l39 l40 h
              replace h := hQ33 _ _ h
              refine iq_aload_n hS 101 J_HBars_readFigures_d100 l37 rfl ?_
              refine iq_getR hS 104 J_HBars_readFigures_d101 lf_0_29 (Or.inr ⟨_, rfl⟩) (ka_31 hM36) (ra_31_10 hM36) rfl ?_
              refine iq_iload_n hS 105 J_HBars_readFigures_d104 l40 rfl ?_
              obtain ⟨g105, h⟩ := ed_gd h
              refine iq_iaload hS 106 J_HBars_readFigures_d105 ⟨(ka_37 hM36).1, (ka_37 hM36).2, g105.1, ix_lt (kl_37 hM36) g105.2⟩ rfl ?_
              refine iq_iconst hS 107 J_HBars_readFigures_d106 (v := (-1)) (by decide +kernel) rfl ?_
              refine iq_icmp_ne hS 110 J_HBars_readFigures_d107 (t := 112) rfl (fun q107 => ?_) rfl (fun q107 => ?_)
              · replace h := ed_pos q107 h
                refine iq_iincv hS 115 J_HBars_readFigures_d112 (c := 1) (by decide +kernel) l40 (by decide) rfl ?_
                refine iq_goto hS J_HBars_readFigures_d115 (t := 13) rfl ?_
                exact ih _ _ _ _ hM36 (lk_1r l37 (by decide)) (lk_1r l38 (by decide)) (lk_1i l39 (by decide)) lk_1s (lq_l h)
              · replace h := ed_neg q107 h
                refine iq_iconst hS 111 J_HBars_readFigures_d110 (v := 0) (by decide +kernel) rfl ?_
                exact iq_iret J_HBars_readFigures_d111 rfl rfl ⟨_, rfl, hM36, ed_some (hR2 _ (lq_r h hq2))⟩
            refine iq_icmp_ne hS 71 J_HBars_readFigures_d68 (t := 100) rfl (fun q68 => ?_) rfl (fun q68 => ?_)
            · replace h := ed_pos q68 h
              exact J33 _ _ _ (lw_sI hM19) (lk_1r l27 (by decide)) (lk_1r l28 (by decide)) (lk_1i l29 (by decide)) (lk_1i l30 (by decide)) (ed_some h)
            · replace h := ed_neg q68 h
              refine iq_iload_n hS 72 J_HBars_readFigures_d71 (lk_1i l30 (by decide)) rfl ?_
              refine iq_bipush hS 74 J_HBars_readFigures_d72 (v := 7) (by decide +kernel) rfl ?_
              refine iq_icmp_ge hS 77 J_HBars_readFigures_d74 (t := 100) rfl (fun q74 => ?_) rfl (fun q74 => ?_)
              · replace h := ed_pos q74 h
                exact J33 _ _ _ (lw_sI hM19) (lk_1r l27 (by decide)) (lk_1r l28 (by decide)) (lk_1i l29 (by decide)) (lk_1i l30 (by decide)) (ed_some h)
              · replace h := ed_neg q74 h
                refine iq_aload_n hS 78 J_HBars_readFigures_d77 (lk_1r l27 (by decide)) rfl ?_
                refine iq_getR hS 81 J_HBars_readFigures_d78 lf_0_29 (Or.inr ⟨_, rfl⟩) (ka_31 (lw_sI hM19)) (ra_31_10 (lw_sI hM19)) rfl ?_
                refine iq_iload_n hS 82 J_HBars_readFigures_d81 (lk_1i l30 (by decide)) rfl ?_
                refine iq_getstatic hS 85 J_HBars_readFigures_d82 gs_0_109 rfl ?_
                refine iq_iload hS 87 J_HBars_readFigures_d85 lk_1s rfl ?_
                obtain ⟨Q34, hQ34, h⟩ := bd1_ed h
                refine iq_cpI hS 90 J_HBars_readFigures_d87 rfl (pr_stat (vs := [_, _]) lc_0_152 lT_256 rfl rfl (by decide) rfl (Nat.le_of_ble_eq_true rfl) (Nat.le_of_ble_eq_true rfl)) (f_HBars_indexOf_1_ok (dep := dep + 2) (lw_sI hM19) h) rfl ?_
                intro x34 h
                replace h := hQ34 _ h
                obtain ⟨g90, h⟩ := ed_gd h
                refine iq_iastore hS 91 J_HBars_readFigures_d90 ⟨(ka_37 (lw_sI hM19)).1, (ka_37 (lw_sI hM19)).2, g90.1, ix_lt (kl_37 (lw_sI hM19)) g90.2⟩ rfl ?_
                refine iq_iload_n hS 92 J_HBars_readFigures_d91 (lk_1i l29 (by decide)) rfl ?_
                refine iq_iconst hS 93 J_HBars_readFigures_d92 (v := 1) (by decide +kernel) rfl ?_
                refine iq_bipush hS 95 J_HBars_readFigures_d93 (v := 6) (by decide +kernel) rfl ?_
                refine iq_iload_n hS 96 J_HBars_readFigures_d95 (lk_1i l30 (by decide)) rfl ?_
                refine iq_isub hS 97 J_HBars_readFigures_d96 rfl ?_
                refine iq_ishl hS 98 J_HBars_readFigures_d97 rfl ?_
                refine iq_ior hS 99 J_HBars_readFigures_d98 rfl ?_
                refine iq_istore_n hS 100 J_HBars_readFigures_d99 (by decide) rfl ?_
                exact J33 _ _ _ (lw_sI (lw_sI hM19)) (lk_1r (lk_1r l27 (by decide)) (by decide)) (lk_1r (lk_1r l28 (by decide)) (by decide)) lk_1s (lk_1i (lk_1i l30 (by decide)) (by decide)) (ed_some h)
          refine iq_icmp_ge hS 26 J_HBars_readFigures_d23 (t := 34) rfl (fun q23 => ?_) rfl (fun q23 => ?_)
          · refine iq_iconst hS 35 J_HBars_readFigures_d34 (v := 4) (by decide +kernel) rfl ?_
            refine iq_iload_n hS 36 J_HBars_readFigures_d35 l23 rfl ?_
            refine iq_imul hS 37 J_HBars_readFigures_d36 rfl ?_
            refine iq_iconst hS 38 J_HBars_readFigures_d37 (v := 4) (by decide +kernel) rfl ?_
            refine iq_iadd hS 39 J_HBars_readFigures_d38 rfl ?_
            exact J24 _ _ (by simp only [if_pos q23]) l20 l21 l22 l23
          · refine iq_iconst hS 27 J_HBars_readFigures_d26 (v := 4) (by decide +kernel) rfl ?_
            refine iq_iload_n hS 28 J_HBars_readFigures_d27 l23 rfl ?_
            refine iq_imul hS 29 J_HBars_readFigures_d28 rfl ?_
            refine iq_iconst hS 30 J_HBars_readFigures_d29 (v := 1) (by decide +kernel) rfl ?_
            refine iq_isub hS 31 J_HBars_readFigures_d30 rfl ?_
            refine iq_goto hS J_HBars_readFigures_d31 (t := 39) rfl ?_
            exact J24 _ _ (by simp only [if_neg q23]) l20 l21 l22 l23
    exact I2 n2 _ _ _ _ hM (lk_1r (lk_1r l0 (by decide)) (by decide)) (lk_1r (lk_1r l1 (by decide)) (by decide)) (lk_1i lk_1s (by decide)) lk_1s hn2
  · replace h := ed_neg q4 h
    refine iq_iconst hS 8 J_HBars_readFigures_d7 (v := 0) (by decide +kernel) rfl ?_
    exact iq_iret J_HBars_readFigures_d8 rfl rfl ⟨_, rfl, hM, ed_some h⟩
theorem f_HBars_readFigures_fr {M : im_M} {r : Int32 × im_M} (h : f_HBars_readFigures M = some r) : fr 295147905316791779328 [] M r.2 := by
  replace h : ed (f_HBars_readFigures M) (fun x => x = r) := ⟨r, h, rfl⟩
  unfold f_HBars_readFigures at h
  obtain ⟨Q1, hQ1, h⟩ := bd1_ed h
  obtain ⟨x1, e1, h⟩ := h
  replace h := hQ1 _ h
  by_cases q4 : ¬ x1 = 0
  · replace h := ed_pos q4 h
    obtain ⟨Q2, hQ2, hR2, h⟩ := bs2_ed h
    have K2 : ∀ (y3 : Int32) (M4 : im_M), fr 295147905316791779328 [] M M4 → Q2 (.inl (y3, M4)) → fr 295147905316791779328 [] M r.2 := by
      intro y3 M4 hM4 h
      replace h := hQ2 _ _ h
      obtain ⟨Q5, hQ5, h⟩ := bd1_ed h
      obtain ⟨x5, e5, h⟩ := h
      replace h := hQ5 _ h
      obtain ⟨g130, h⟩ := ed_gd h
      obtain ⟨g136, h⟩ := ed_gd h
      by_cases q138 : (im_i (im_setI M4 37 (Int32.toNatClampNeg 0) x5) 37 (Int32.toNatClampNeg 0)) = (-1)
      · replace h := ed_pos q138 h
        exact fr_ret h (fr_I (by decide) hM4)
      · replace h := ed_neg q138 h
        obtain ⟨g147, h⟩ := ed_gd h
        obtain ⟨Q6, hQ6, h⟩ := bd1_ed h
        obtain ⟨x6, e6, h⟩ := h
        replace h := hQ6 _ h
        by_cases q152 : (im_i (im_setI M4 37 (Int32.toNatClampNeg 0) x5) 37 (Int32.toNatClampNeg 12)) = x6
        · replace h := ed_pos q152 h
          obtain ⟨Q7, hQ7, h⟩ := bd1_ed h
          have K7 : ∀ (M8 : im_M), fr 295147905316791779328 [] M M8 → Q7 M8 → fr 295147905316791779328 [] M r.2 := by
            intro M8 hM8 h
            replace h := hQ7 _ h
            exact fr_ret h hM8
          obtain ⟨r7, hr7, hq7⟩ := h
          obtain ⟨n7, hn7⟩ := lp_n hr7
          have I7 : ∀ (n : Nat) (x9 : Int32) (M10 : im_M), fr 295147905316791779328 [] M M10 → lpn (uc2 (f_HBars_readFigures_L159)) n (x9, M10) = some r7 → fr 295147905316791779328 [] M r.2 := by
            intro n
            induction n with
            | zero => intro x9 M10 hM10 hn; exact (lpn_0 hn).elim
            | succ n ih =>
              intro x9 M10 hM10 hn
              have h := lpn_ed2 hn
              unfold f_HBars_readFigures_L159 at h
              by_cases q162 : 13 ≤ x9
              · replace h := ed_pos q162 h
                exact K7 _ hM10 (lq_r h hq7)
              · replace h := ed_neg q162 h
                obtain ⟨g174, h⟩ := ed_gd h
                obtain ⟨g177, h⟩ := ed_gd h
                exact ih _ _ (fr_I (by decide) hM10) (lq_l h)
          exact I7 n7 _ _ (fr_I (by decide) hM4) hn7
        · replace h := ed_neg q152 h
          exact fr_ret h (fr_I (by decide) hM4)
    obtain ⟨r2, hr2, hq2⟩ := h
    obtain ⟨n2, hn2⟩ := lp_n hr2
    have I2 : ∀ (n : Nat) (x11 : Int32) (x12 : Int32) (M13 : im_M), fr 295147905316791779328 [] M M13 → lpn (uc3 (f_HBars_readFigures_L13)) n (x11, x12, M13) = some r2 → fr 295147905316791779328 [] M r.2 := by
      intro n
      induction n with
      | zero => intro x11 x12 M13 hM13 hn; exact (lpn_0 hn).elim
      | succ n ih =>
        intro x11 x12 M13 hM13 hn
        have h := lpn_ed3 hn
        unfold f_HBars_readFigures_L13 at h
        by_cases q16 : 13 ≤ x12
        · replace h := ed_pos q16 h
          exact K2 _ _ hM13 (lq_r h hq2)
        · replace h := ed_neg q16 h
          obtain ⟨Q15, hQ15, h⟩ := bd1_ed h
          obtain ⟨x15, e15, h⟩ := h
          replace h := hQ15 _ h
          obtain ⟨Q16, hQ16, h⟩ := bd1_ed h
          obtain ⟨x16, e16, h⟩ := h
          replace h := hQ16 _ h
          obtain ⟨g60, h⟩ := ed_gd h
          obtain ⟨g66, h⟩ := ed_gd h
          obtain ⟨Q17, hQ17, h⟩ := bd2_ed h
          have J17 : ∀ (y19 : Int32) (M20 : im_M), fr 295147905316791779328 [] M M20 → Q17 (y19, M20) → fr 295147905316791779328 [] M r.2 := by
            intro y19 M20 hM20 h
            replace h := hQ17 _ _ h
            obtain ⟨g105, h⟩ := ed_gd h
            by_cases q107 : ¬ (im_i M20 37 (Int32.toNatClampNeg x12)) = (-1)
            · replace h := ed_pos q107 h
              exact ih _ _ _ hM20 (lq_l h)
            · replace h := ed_neg q107 h
              exact fr_ret (hR2 _ (lq_r h hq2)) hM20
          by_cases q68 : ¬ (im_i (im_setI M13 37 (Int32.toNatClampNeg x12) x16) 37 (Int32.toNatClampNeg x12)) = (-1)
          · replace h := ed_pos q68 h
            exact J17 _ _ (fr_I (by decide) hM13) (ed_some h)
          · replace h := ed_neg q68 h
            by_cases q74 : 7 ≤ x12
            · replace h := ed_pos q74 h
              exact J17 _ _ (fr_I (by decide) hM13) (ed_some h)
            · replace h := ed_neg q74 h
              obtain ⟨Q18, hQ18, h⟩ := bd1_ed h
              obtain ⟨x18, e18, h⟩ := h
              replace h := hQ18 _ h
              obtain ⟨g90, h⟩ := ed_gd h
              exact J17 _ _ (fr_I (by decide) (fr_I (by decide) hM13)) (ed_some h)
    exact I2 n2 _ _ _ fr_refl hn2
  · replace h := ed_neg q4 h
    exact fr_ret h fr_refl
noncomputable def f_HBars_indexOf_3_L2 (v2 : Int32) (M4 : im_M) (x3 : Int32) : Option ((Int32) ⊕ ((Unit) ⊕ (Int32))) := if (Int32.ofNat 106) ≤ x3 then some (.inr (.inl ())) else gd (inb x3 106) <| if ¬ (xa_3 x3) = v2 then some (.inl (x3 + 1)) else some (.inr (.inr x3))
noncomputable def f_HBars_indexOf_3 (p1 : Int32) (M : im_M) : Option (Int32) := bs0 (lp (uc1 (f_HBars_indexOf_3_L2 p1 M)) 0) (fun (_ : Unit) => some (-1)) (fun t => some t)
theorem f_HBars_indexOf_3_ok {L : Nat} {xs : Nat → Int32} {dep : Nat} {w : Bool} {p1 : Int32} {M : im_M} {Q : Int32 → Prop} (hM : lw_S w M) (h : ed (f_HBars_indexOf_3 p1 M) Q) : ia (tb_G L xs) dep J_HBars_indexOf (rpI M Q) (0, lv_args 0 [.ref 1000003, .int p1], [], M) := by
  have hS : im_St (tb_G L xs) dep J_HBars_indexOf (ia (tb_G L xs) dep J_HBars_indexOf (rpI M Q)) := ia_St
  unfold f_HBars_indexOf_3 at h
  have l0 : im_lk (lv_args 0 [.ref 1000003, .int p1]) 0 = some (.ref 1000003) := rfl
  have l1 : im_lk (lv_args 0 [.ref 1000003, .int p1]) 1 = some (.int p1) := rfl
  refine iq_iconst hS 1 J_HBars_indexOf_d0 (v := 0) (by decide +kernel) rfl ?_
  refine iq_istore_n hS 2 J_HBars_indexOf_d1 (by decide) rfl ?_
  obtain ⟨Q1, hQ1, hR1, h⟩ := bs0_ed h
  have K1 : ∀  (L' : List (Nat × Value)), Q1 (.inl ()) → ia (tb_G L xs) dep J_HBars_indexOf (rpI M Q) (23, L', [], M) := by
    intro  L'  h
    replace h := hQ1  h
    refine iq_iconst hS 24 J_HBars_indexOf_d23 (v := (-1)) (by decide +kernel) rfl ?_
    exact iq_iret J_HBars_indexOf_d24 rfl rfl ⟨_, rfl, rfl, ed_some h⟩
  obtain ⟨r1, hr1, hq1⟩ := h
  obtain ⟨n1, hn1⟩ := lp_n hr1
  have I1 : ∀ (n : Nat) (x2 : Int32) (L' : List (Nat × Value)), im_lk L' 0 = some (.ref 1000003) → im_lk L' 1 = some (.int p1) → im_lk L' 2 = some (.int x2) → lpn (uc1 (f_HBars_indexOf_3_L2 p1 M)) n x2 = some r1 → ia (tb_G L xs) dep J_HBars_indexOf (rpI M Q) (2, L', [], M) := by
    intro n
    induction n with
    | zero => intro x2 L' l3 l4 l5 hn; exact (lpn_0 hn).elim
    | succ n ih =>
      intro x2 L' l3 l4 l5 hn
      have h := lpn_ed1 hn
      unfold f_HBars_indexOf_3_L2 at h
      refine iq_iload_n hS 3 J_HBars_indexOf_d2 l5 rfl ?_
      refine iq_aload_n hS 4 J_HBars_indexOf_d3 l3 rfl ?_
      refine iq_xalen hS 5 J_HBars_indexOf_d4 (by rw [(hM).1]; decide) (Or.inl (by rw [xk_3])) rfl ?_
      rw [xk_3]
      refine iq_icmp_ge hS 8 J_HBars_indexOf_d5 (t := 23) rfl (fun q5 => ?_) rfl (fun q5 => ?_)
      · replace h := ed_pos q5 h
        exact K1  _  (lq_r h hq1)
      · replace h := ed_neg q5 h
        refine iq_aload_n hS 9 J_HBars_indexOf_d8 l3 rfl ?_
        refine iq_iload_n hS 10 J_HBars_indexOf_d9 l5 rfl ?_
        obtain ⟨g10, h⟩ := ed_gd h
        refine iq_xl_3 hS 11 J_HBars_indexOf_d10 hM g10 rfl ?_
        refine iq_iload_n hS 12 J_HBars_indexOf_d11 l4 rfl ?_
        refine iq_icmp_ne hS 15 J_HBars_indexOf_d12 (t := 17) rfl (fun q12 => ?_) rfl (fun q12 => ?_)
        · replace h := ed_pos q12 h
          refine iq_iincv hS 20 J_HBars_indexOf_d17 (c := 1) (by decide +kernel) l5 (by decide) rfl ?_
          refine iq_goto hS J_HBars_indexOf_d20 (t := 2) rfl ?_
          exact ih _ _ (lk_1r l3 (by decide)) (lk_1i l4 (by decide)) lk_1s (lq_l h)
        · replace h := ed_neg q12 h
          refine iq_iload_n hS 16 J_HBars_indexOf_d15 l5 rfl ?_
          exact iq_iret J_HBars_indexOf_d16 rfl rfl ⟨_, rfl, rfl, ed_some (hR1 _ (lq_r h hq1))⟩
  exact I1 n1 _ _ (lk_1r l0 (by decide)) (lk_1i l1 (by decide)) lk_1s hn1
noncomputable def f_HBars_write (p0 : Int32) (M : im_M) : Option (im_M) := gd (inb (im_i M 31 12) 3000) <| some (im_setI (im_setI M 68 (Int32.toNatClampNeg (im_i M 31 12)) (vp_nar .byte ((Int32.toInt8 p0).toInt32))) 31 12 ((im_i (im_setI M 68 (Int32.toNatClampNeg (im_i M 31 12)) (vp_nar .byte ((Int32.toInt8 p0).toInt32))) 31 12) + 1))
theorem J_HBars_write_d0 : decode J_HBars_write.2.1 0 = .ok (.aload_n 2, 1) := by decide +kernel
theorem J_HBars_write_d1 : decode J_HBars_write.2.1 1 = .ok (.aload_n 0, 1) := by decide +kernel
theorem J_HBars_write_d2 : decode J_HBars_write.2.1 2 = .ok (.getfield 132, 3) := by decide +kernel
theorem J_HBars_write_d5 : decode J_HBars_write.2.1 5 = .ok (.iload_n 1, 1) := by decide +kernel
theorem J_HBars_write_d6 : decode J_HBars_write.2.1 6 = .ok (.i2b, 1) := by decide +kernel
theorem J_HBars_write_d7 : decode J_HBars_write.2.1 7 = .ok (.bastore, 1) := by decide +kernel
theorem J_HBars_write_d8 : decode J_HBars_write.2.1 8 = .ok (.aload_n 0, 1) := by decide +kernel
theorem J_HBars_write_d9 : decode J_HBars_write.2.1 9 = .ok (.dup, 1) := by decide +kernel
theorem J_HBars_write_d10 : decode J_HBars_write.2.1 10 = .ok (.getfield 132, 3) := by decide +kernel
theorem J_HBars_write_d13 : decode J_HBars_write.2.1 13 = .ok (.iconst 1, 1) := by decide +kernel
theorem J_HBars_write_d14 : decode J_HBars_write.2.1 14 = .ok (.iadd, 1) := by decide +kernel
theorem J_HBars_write_d15 : decode J_HBars_write.2.1 15 = .ok (.putfield 132, 3) := by decide +kernel
theorem J_HBars_write_d18 : decode J_HBars_write.2.1 18 = .ok (.return_, 1) := by decide +kernel
theorem f_HBars_write_ok {L : Nat} {xs : Nat → Int32} {dep : Nat} {w : Bool} {p0 : Int32} {M : im_M} {Q : im_M → Prop} (hM : lw_S w M) (h : ed (f_HBars_write p0 M) Q) : ia (tb_G L xs) dep J_HBars_write (rwV w Q) (0, lv_args 0 [.ref 31, .int p0, .ref 68], [], M) := by
  have hS : im_St (tb_G L xs) dep J_HBars_write (ia (tb_G L xs) dep J_HBars_write (rwV w Q)) := ia_St
  unfold f_HBars_write at h
  have l0 : im_lk (lv_args 0 [.ref 31, .int p0, .ref 68]) 0 = some (.ref 31) := rfl
  have l1 : im_lk (lv_args 0 [.ref 31, .int p0, .ref 68]) 1 = some (.int p0) := rfl
  have l2 : im_lk (lv_args 0 [.ref 31, .int p0, .ref 68]) 2 = some (.ref 68) := rfl
  refine iq_aload_n hS 1 J_HBars_write_d0 l2 rfl ?_
  refine iq_aload_n hS 2 J_HBars_write_d1 l0 rfl ?_
  refine iq_getI hS 5 J_HBars_write_d2 lf_0_132 (Or.inl rfl) (ka_31 hM) rfl ?_
  refine iq_iload_n hS 6 J_HBars_write_d5 l1 rfl ?_
  refine iq_i2b hS 7 J_HBars_write_d6 rfl ?_
  obtain ⟨g7, h⟩ := ed_gd h
  refine iq_bastore hS 8 J_HBars_write_d7 ⟨(ka_68 hM).1, (ka_68 hM).2, g7.1, ix_lt (kl_68 hM) g7.2⟩ rfl ?_
  refine iq_aload_n hS 9 J_HBars_write_d8 l0 rfl ?_
  refine iq_dup hS 10 J_HBars_write_d9 rfl rfl ?_
  refine iq_getI hS 13 J_HBars_write_d10 lf_0_132 (Or.inl rfl) (ka_31 (lw_sI hM)) rfl ?_
  refine iq_iconst hS 14 J_HBars_write_d13 (v := 1) (by decide +kernel) rfl ?_
  refine iq_iadd hS 15 J_HBars_write_d14 rfl ?_
  refine iq_putI hS 18 J_HBars_write_d15 lf_0_132 (Or.inl rfl) rfl (ka_31 (lw_sI hM)) rfl ?_
  exact iq_ret J_HBars_write_d18 rfl ⟨rfl, (lw_sI (lw_sI hM)), ed_some h⟩
theorem f_HBars_write_fr {p0 : Int32} {M : im_M} {r : im_M} (h : f_HBars_write p0 M = some r) : fr 295147905179352825856 [(31, 12)] M r := by
  replace h : ed (f_HBars_write p0 M) (fun x => x = r) := ⟨r, h, rfl⟩
  unfold f_HBars_write at h
  obtain ⟨g7, h⟩ := ed_gd h
  exact fr_retV h (fr_F (by decide) (fr_I (by decide) fr_refl))
noncomputable def f_HBars_signOf (p0 : Int32) (p1 : Int32) (M : im_M) : Option (Int32) := jn0 (fun (_ : Unit) => some (p0 + 32)) fun k1 => if ¬ p1 = 0 then k1 () else if p0 ≤ 63 then k1 () else some (p0 - 64)
theorem J_HBars_signOf_d0 : decode J_HBars_signOf.2.1 0 = .ok (.iload_n 1, 1) := by decide +kernel
theorem J_HBars_signOf_d1 : decode J_HBars_signOf.2.1 1 = .ok (.ifCond .ne 16, 3) := by decide +kernel
theorem J_HBars_signOf_d4 : decode J_HBars_signOf.2.1 4 = .ok (.iload_n 0, 1) := by decide +kernel
theorem J_HBars_signOf_d5 : decode J_HBars_signOf.2.1 5 = .ok (.bipush 63, 2) := by decide +kernel
theorem J_HBars_signOf_d7 : decode J_HBars_signOf.2.1 7 = .ok (.if_icmp .le 10, 3) := by decide +kernel
theorem J_HBars_signOf_d10 : decode J_HBars_signOf.2.1 10 = .ok (.iload_n 0, 1) := by decide +kernel
theorem J_HBars_signOf_d11 : decode J_HBars_signOf.2.1 11 = .ok (.bipush 64, 2) := by decide +kernel
theorem J_HBars_signOf_d13 : decode J_HBars_signOf.2.1 13 = .ok (.isub, 1) := by decide +kernel
theorem J_HBars_signOf_d14 : decode J_HBars_signOf.2.1 14 = .ok (.goto 7, 3) := by decide +kernel
theorem J_HBars_signOf_d17 : decode J_HBars_signOf.2.1 17 = .ok (.iload_n 0, 1) := by decide +kernel
theorem J_HBars_signOf_d18 : decode J_HBars_signOf.2.1 18 = .ok (.bipush 32, 2) := by decide +kernel
theorem J_HBars_signOf_d20 : decode J_HBars_signOf.2.1 20 = .ok (.iadd, 1) := by decide +kernel
theorem J_HBars_signOf_d21 : decode J_HBars_signOf.2.1 21 = .ok (.ireturn, 1) := by decide +kernel
theorem f_HBars_signOf_ok {L : Nat} {xs : Nat → Int32} {dep : Nat} {w : Bool} {p0 : Int32} {p1 : Int32} {M : im_M} {Q : Int32 → Prop} (hM : lw_S w M) (h : ed (f_HBars_signOf p0 p1 M) Q) : ia (tb_G L xs) dep J_HBars_signOf (rpI M Q) (0, lv_args 0 [.int p0, .int p1], [], M) := by
  have hS : im_St (tb_G L xs) dep J_HBars_signOf (ia (tb_G L xs) dep J_HBars_signOf (rpI M Q)) := ia_St
  unfold f_HBars_signOf at h
  have l0 : im_lk (lv_args 0 [.int p0, .int p1]) 0 = some (.int p0) := rfl
  have l1 : im_lk (lv_args 0 [.int p0, .int p1]) 1 = some (.int p1) := rfl
  refine iq_iload_n hS 1 J_HBars_signOf_d0 l1 rfl ?_
  obtain ⟨k1, Q1, hQ1, hk1, h⟩ := jn0_ed h
  have J1 : ∀  (L' : List (Nat × Value)), im_lk L' 0 = some (.int p0) → Q1 () → ia (tb_G L xs) dep J_HBars_signOf (rpI M Q) (17, L', [], M) := by
    intro  L' l2 h
    replace h := hQ1  h
    refine iq_iload_n hS 18 J_HBars_signOf_d17 l2 rfl ?_
    refine iq_bipush hS 20 J_HBars_signOf_d18 (v := 32) (by decide +kernel) rfl ?_
    refine iq_iadd hS 21 J_HBars_signOf_d20 rfl ?_
    exact iq_iret J_HBars_signOf_d21 rfl rfl ⟨_, rfl, rfl, ed_some h⟩
  refine iq_if_ne hS 4 J_HBars_signOf_d1 (t := 17) rfl (fun q1 => ?_) rfl (fun q1 => ?_)
  · replace h := ed_pos q1 h
    exact J1  _ l0 (hk1  h)
  · replace h := ed_neg q1 h
    refine iq_iload_n hS 5 J_HBars_signOf_d4 l0 rfl ?_
    refine iq_bipush hS 7 J_HBars_signOf_d5 (v := 63) (by decide +kernel) rfl ?_
    refine iq_icmp_le hS 10 J_HBars_signOf_d7 (t := 17) rfl (fun q7 => ?_) rfl (fun q7 => ?_)
    · replace h := ed_pos q7 h
      exact J1  _ l0 (hk1  h)
    · replace h := ed_neg q7 h
      refine iq_iload_n hS 11 J_HBars_signOf_d10 l0 rfl ?_
      refine iq_bipush hS 13 J_HBars_signOf_d11 (v := 64) (by decide +kernel) rfl ?_
      refine iq_isub hS 14 J_HBars_signOf_d13 rfl ?_
      refine iq_goto hS J_HBars_signOf_d14 (t := 21) rfl ?_
      exact iq_iret J_HBars_signOf_d21 rfl rfl ⟨_, rfl, rfl, ed_some h⟩
noncomputable def f_HBars_tell_L18 (v2 : Int32) (x3 : Int32) (x4 : Int32) (M5 : im_M) : Option ((Int32 × Int32 × im_M) ⊕ ((im_M) ⊕ (Int32 × im_M))) := if v2 ≤ x4 then some (.inr (.inl M5)) else gd (inb x4 140) <| jn3 (fun (y32 : Int32) (y33 : Int32) (M34 : im_M) => some (.inl (y32, (y33 + 1), M34))) fun k7 => if ¬ (im_i M5 36 (Int32.toNatClampNeg x4)) = 102 then if ((if 101 < (im_i M5 36 (Int32.toNatClampNeg x4)) then 0 else (if ¬ x3 = 2 then (if (im_i M5 36 (Int32.toNatClampNeg x4)) < 99 then 0 else 1) else (if (im_i M5 36 (Int32.toNatClampNeg x4)) < 100 then 0 else 1))) : Int32) = 0 then jn1 (fun (M11 : im_M) => jn2 (fun (y21 : Int32) (M22 : im_M) => if 96 ≤ (im_i M5 36 (Int32.toNatClampNeg x4)) then some (.inr (.inr (0, M22))) else bd1 (f_HBars_signOf (im_i M5 36 (Int32.toNatClampNeg x4)) x3 M22) fun (x29 : Int32) => bd1 (f_HBars_write x29 M22) fun (M30 : im_M) => k7 x3 y21 M30) fun k18 => if ¬ (im_i M5 36 (Int32.toNatClampNeg x4)) = 98 then k18 x4 M11 else if v2 ≤ (x4 + 1) then k18 x4 M11 else gd (inb (x4 + 1) 140) <| if 96 ≤ (im_i M11 36 (Int32.toNatClampNeg (x4 + 1))) then k18 x4 M11 else gd (inb (x4 + 1) 140) <| bd1 (f_HBars_signOf (im_i M11 36 (Int32.toNatClampNeg (x4 + 1))) ((1 : Int32) - x3) M11) fun (x19 : Int32) => bd1 (f_HBars_write x19 M11) fun (M20 : im_M) => k7 x3 (x4 + 1) M20) fun k8 => if ¬ x3 = 2 then k8 M5 else if 100 ≤ (im_i M5 36 (Int32.toNatClampNeg x4)) then k8 M5 else bd1 (f_HBars_write ((48 : Int32) + ((im_i M5 36 (Int32.toNatClampNeg x4)) / 10)) M5) fun (M9 : im_M) => bd1 (f_HBars_write ((48 : Int32) + ((im_i M5 36 (Int32.toNatClampNeg x4)) - (im_i M5 36 (Int32.toNatClampNeg x4)) / 10 * 10)) M9) fun (M10 : im_M) => k7 x3 x4 M10 else if ¬ ((101 : Int32) - (im_i M5 36 (Int32.toNatClampNeg x4))) = x3 then k7 ((101 : Int32) - (im_i M5 36 (Int32.toNatClampNeg x4))) x4 M5 else some (.inr (.inr (0, M5))) else bd1 (f_HBars_write 128 M5) fun (M31 : im_M) => k7 x3 x4 M31
noncomputable def f_HBars_tell (p0 : Int32) (M : im_M) : Option (Int32 × im_M) := gd (inb 0 140) <| bs1 (lp (uc3 (f_HBars_tell_L18 p0)) (((im_i M 36 (Int32.toNatClampNeg 0)) - 103), 1, (im_setI M 31 12 0))) (fun (M40 : im_M) => some (1, M40)) (fun t => some t)
theorem J_HBars_tell_d0 : decode J_HBars_tell.2.1 0 = .ok (.aload_n 0, 1) := by decide +kernel
theorem J_HBars_tell_d1 : decode J_HBars_tell.2.1 1 = .ok (.getfield 26, 3) := by decide +kernel
theorem J_HBars_tell_d4 : decode J_HBars_tell.2.1 4 = .ok (.iconst 0, 1) := by decide +kernel
theorem J_HBars_tell_d5 : decode J_HBars_tell.2.1 5 = .ok (.iaload, 1) := by decide +kernel
theorem J_HBars_tell_d6 : decode J_HBars_tell.2.1 6 = .ok (.bipush 103, 2) := by decide +kernel
theorem J_HBars_tell_d8 : decode J_HBars_tell.2.1 8 = .ok (.isub, 1) := by decide +kernel
theorem J_HBars_tell_d9 : decode J_HBars_tell.2.1 9 = .ok (.istore_n 3, 1) := by decide +kernel
theorem J_HBars_tell_d10 : decode J_HBars_tell.2.1 10 = .ok (.aload_n 0, 1) := by decide +kernel
theorem J_HBars_tell_d11 : decode J_HBars_tell.2.1 11 = .ok (.iconst 0, 1) := by decide +kernel
theorem J_HBars_tell_d12 : decode J_HBars_tell.2.1 12 = .ok (.putfield 132, 3) := by decide +kernel
theorem J_HBars_tell_d15 : decode J_HBars_tell.2.1 15 = .ok (.iconst 1, 1) := by decide +kernel
theorem J_HBars_tell_d16 : decode J_HBars_tell.2.1 16 = .ok (.istore 4, 2) := by decide +kernel
theorem J_HBars_tell_d18 : decode J_HBars_tell.2.1 18 = .ok (.iload 4, 2) := by decide +kernel
theorem J_HBars_tell_d20 : decode J_HBars_tell.2.1 20 = .ok (.iload_n 1, 1) := by decide +kernel
theorem J_HBars_tell_d21 : decode J_HBars_tell.2.1 21 = .ok (.if_icmp .ge 209, 3) := by decide +kernel
theorem J_HBars_tell_d24 : decode J_HBars_tell.2.1 24 = .ok (.aload_n 0, 1) := by decide +kernel
theorem J_HBars_tell_d25 : decode J_HBars_tell.2.1 25 = .ok (.getfield 26, 3) := by decide +kernel
theorem J_HBars_tell_d28 : decode J_HBars_tell.2.1 28 = .ok (.iload 4, 2) := by decide +kernel
theorem J_HBars_tell_d30 : decode J_HBars_tell.2.1 30 = .ok (.iaload, 1) := by decide +kernel
theorem J_HBars_tell_d31 : decode J_HBars_tell.2.1 31 = .ok (.istore 5, 2) := by decide +kernel
theorem J_HBars_tell_d33 : decode J_HBars_tell.2.1 33 = .ok (.iload 5, 2) := by decide +kernel
theorem J_HBars_tell_d35 : decode J_HBars_tell.2.1 35 = .ok (.bipush 101, 2) := by decide +kernel
theorem J_HBars_tell_d37 : decode J_HBars_tell.2.1 37 = .ok (.if_icmp .gt 24, 3) := by decide +kernel
theorem J_HBars_tell_d40 : decode J_HBars_tell.2.1 40 = .ok (.iload 5, 2) := by decide +kernel
theorem J_HBars_tell_d42 : decode J_HBars_tell.2.1 42 = .ok (.iload_n 3, 1) := by decide +kernel
theorem J_HBars_tell_d43 : decode J_HBars_tell.2.1 43 = .ok (.iconst 2, 1) := by decide +kernel
theorem J_HBars_tell_d44 : decode J_HBars_tell.2.1 44 = .ok (.if_icmp .ne 8, 3) := by decide +kernel
theorem J_HBars_tell_d47 : decode J_HBars_tell.2.1 47 = .ok (.bipush 100, 2) := by decide +kernel
theorem J_HBars_tell_d49 : decode J_HBars_tell.2.1 49 = .ok (.goto 5, 3) := by decide +kernel
theorem J_HBars_tell_d52 : decode J_HBars_tell.2.1 52 = .ok (.bipush 99, 2) := by decide +kernel
theorem J_HBars_tell_d54 : decode J_HBars_tell.2.1 54 = .ok (.if_icmp .lt 7, 3) := by decide +kernel
theorem J_HBars_tell_d57 : decode J_HBars_tell.2.1 57 = .ok (.iconst 1, 1) := by decide +kernel
theorem J_HBars_tell_d58 : decode J_HBars_tell.2.1 58 = .ok (.goto 4, 3) := by decide +kernel
theorem J_HBars_tell_d61 : decode J_HBars_tell.2.1 61 = .ok (.iconst 0, 1) := by decide +kernel
theorem J_HBars_tell_d62 : decode J_HBars_tell.2.1 62 = .ok (.istore 6, 2) := by decide +kernel
theorem J_HBars_tell_d64 : decode J_HBars_tell.2.1 64 = .ok (.iload 5, 2) := by decide +kernel
theorem J_HBars_tell_d66 : decode J_HBars_tell.2.1 66 = .ok (.bipush 102, 2) := by decide +kernel
theorem J_HBars_tell_d68 : decode J_HBars_tell.2.1 68 = .ok (.if_icmp .ne 14, 3) := by decide +kernel
theorem J_HBars_tell_d71 : decode J_HBars_tell.2.1 71 = .ok (.aload_n 0, 1) := by decide +kernel
theorem J_HBars_tell_d72 : decode J_HBars_tell.2.1 72 = .ok (.sipush 128, 3) := by decide +kernel
theorem J_HBars_tell_d75 : decode J_HBars_tell.2.1 75 = .ok (.aload_n 2, 1) := by decide +kernel
theorem J_HBars_tell_d76 : decode J_HBars_tell.2.1 76 = .ok (.invokevirtual 160, 3) := by decide +kernel
theorem J_HBars_tell_d79 : decode J_HBars_tell.2.1 79 = .ok (.goto 145, 3) := by decide +kernel
theorem J_HBars_tell_d82 : decode J_HBars_tell.2.1 82 = .ok (.iload 6, 2) := by decide +kernel
theorem J_HBars_tell_d84 : decode J_HBars_tell.2.1 84 = .ok (.ifCond .eq 23, 3) := by decide +kernel
theorem J_HBars_tell_d87 : decode J_HBars_tell.2.1 87 = .ok (.bipush 101, 2) := by decide +kernel
theorem J_HBars_tell_d89 : decode J_HBars_tell.2.1 89 = .ok (.iload 5, 2) := by decide +kernel
theorem J_HBars_tell_d91 : decode J_HBars_tell.2.1 91 = .ok (.isub, 1) := by decide +kernel
theorem J_HBars_tell_d92 : decode J_HBars_tell.2.1 92 = .ok (.iload_n 3, 1) := by decide +kernel
theorem J_HBars_tell_d93 : decode J_HBars_tell.2.1 93 = .ok (.if_icmp .ne 5, 3) := by decide +kernel
theorem J_HBars_tell_d96 : decode J_HBars_tell.2.1 96 = .ok (.iconst 0, 1) := by decide +kernel
theorem J_HBars_tell_d97 : decode J_HBars_tell.2.1 97 = .ok (.ireturn, 1) := by decide +kernel
theorem J_HBars_tell_d98 : decode J_HBars_tell.2.1 98 = .ok (.bipush 101, 2) := by decide +kernel
theorem J_HBars_tell_d100 : decode J_HBars_tell.2.1 100 = .ok (.iload 5, 2) := by decide +kernel
theorem J_HBars_tell_d102 : decode J_HBars_tell.2.1 102 = .ok (.isub, 1) := by decide +kernel
theorem J_HBars_tell_d103 : decode J_HBars_tell.2.1 103 = .ok (.istore_n 3, 1) := by decide +kernel
theorem J_HBars_tell_d104 : decode J_HBars_tell.2.1 104 = .ok (.goto 120, 3) := by decide +kernel
theorem J_HBars_tell_d107 : decode J_HBars_tell.2.1 107 = .ok (.iload_n 3, 1) := by decide +kernel
theorem J_HBars_tell_d108 : decode J_HBars_tell.2.1 108 = .ok (.iconst 2, 1) := by decide +kernel
theorem J_HBars_tell_d109 : decode J_HBars_tell.2.1 109 = .ok (.if_icmp .ne 39, 3) := by decide +kernel
theorem J_HBars_tell_d112 : decode J_HBars_tell.2.1 112 = .ok (.iload 5, 2) := by decide +kernel
theorem J_HBars_tell_d114 : decode J_HBars_tell.2.1 114 = .ok (.bipush 100, 2) := by decide +kernel
theorem J_HBars_tell_d116 : decode J_HBars_tell.2.1 116 = .ok (.if_icmp .ge 32, 3) := by decide +kernel
theorem J_HBars_tell_d119 : decode J_HBars_tell.2.1 119 = .ok (.aload_n 0, 1) := by decide +kernel
theorem J_HBars_tell_d120 : decode J_HBars_tell.2.1 120 = .ok (.bipush 48, 2) := by decide +kernel
theorem J_HBars_tell_d122 : decode J_HBars_tell.2.1 122 = .ok (.iload 5, 2) := by decide +kernel
theorem J_HBars_tell_d124 : decode J_HBars_tell.2.1 124 = .ok (.bipush 10, 2) := by decide +kernel
theorem J_HBars_tell_d126 : decode J_HBars_tell.2.1 126 = .ok (.idiv, 1) := by decide +kernel
theorem J_HBars_tell_d127 : decode J_HBars_tell.2.1 127 = .ok (.iadd, 1) := by decide +kernel
theorem J_HBars_tell_d128 : decode J_HBars_tell.2.1 128 = .ok (.aload_n 2, 1) := by decide +kernel
theorem J_HBars_tell_d129 : decode J_HBars_tell.2.1 129 = .ok (.invokevirtual 160, 3) := by decide +kernel
theorem J_HBars_tell_d132 : decode J_HBars_tell.2.1 132 = .ok (.aload_n 0, 1) := by decide +kernel
theorem J_HBars_tell_d133 : decode J_HBars_tell.2.1 133 = .ok (.bipush 48, 2) := by decide +kernel
theorem J_HBars_tell_d135 : decode J_HBars_tell.2.1 135 = .ok (.iload 5, 2) := by decide +kernel
theorem J_HBars_tell_d137 : decode J_HBars_tell.2.1 137 = .ok (.bipush 10, 2) := by decide +kernel
theorem J_HBars_tell_d139 : decode J_HBars_tell.2.1 139 = .ok (.irem, 1) := by decide +kernel
theorem J_HBars_tell_d140 : decode J_HBars_tell.2.1 140 = .ok (.iadd, 1) := by decide +kernel
theorem J_HBars_tell_d141 : decode J_HBars_tell.2.1 141 = .ok (.aload_n 2, 1) := by decide +kernel
theorem J_HBars_tell_d142 : decode J_HBars_tell.2.1 142 = .ok (.invokevirtual 160, 3) := by decide +kernel
theorem J_HBars_tell_d145 : decode J_HBars_tell.2.1 145 = .ok (.goto 79, 3) := by decide +kernel
theorem J_HBars_tell_d148 : decode J_HBars_tell.2.1 148 = .ok (.iload 5, 2) := by decide +kernel
theorem J_HBars_tell_d150 : decode J_HBars_tell.2.1 150 = .ok (.bipush 98, 2) := by decide +kernel
theorem J_HBars_tell_d152 : decode J_HBars_tell.2.1 152 = .ok (.if_icmp .ne 49, 3) := by decide +kernel
theorem J_HBars_tell_d155 : decode J_HBars_tell.2.1 155 = .ok (.iload 4, 2) := by decide +kernel
theorem J_HBars_tell_d157 : decode J_HBars_tell.2.1 157 = .ok (.iconst 1, 1) := by decide +kernel
theorem J_HBars_tell_d158 : decode J_HBars_tell.2.1 158 = .ok (.iadd, 1) := by decide +kernel
theorem J_HBars_tell_d159 : decode J_HBars_tell.2.1 159 = .ok (.iload_n 1, 1) := by decide +kernel
theorem J_HBars_tell_d160 : decode J_HBars_tell.2.1 160 = .ok (.if_icmp .ge 41, 3) := by decide +kernel
theorem J_HBars_tell_d163 : decode J_HBars_tell.2.1 163 = .ok (.aload_n 0, 1) := by decide +kernel
theorem J_HBars_tell_d164 : decode J_HBars_tell.2.1 164 = .ok (.getfield 26, 3) := by decide +kernel
theorem J_HBars_tell_d167 : decode J_HBars_tell.2.1 167 = .ok (.iload 4, 2) := by decide +kernel
theorem J_HBars_tell_d169 : decode J_HBars_tell.2.1 169 = .ok (.iconst 1, 1) := by decide +kernel
theorem J_HBars_tell_d170 : decode J_HBars_tell.2.1 170 = .ok (.iadd, 1) := by decide +kernel
theorem J_HBars_tell_d171 : decode J_HBars_tell.2.1 171 = .ok (.iaload, 1) := by decide +kernel
theorem J_HBars_tell_d172 : decode J_HBars_tell.2.1 172 = .ok (.bipush 96, 2) := by decide +kernel
theorem J_HBars_tell_d174 : decode J_HBars_tell.2.1 174 = .ok (.if_icmp .ge 27, 3) := by decide +kernel
theorem J_HBars_tell_d177 : decode J_HBars_tell.2.1 177 = .ok (.iinc 4 1, 3) := by decide +kernel
theorem J_HBars_tell_d180 : decode J_HBars_tell.2.1 180 = .ok (.aload_n 0, 1) := by decide +kernel
theorem J_HBars_tell_d181 : decode J_HBars_tell.2.1 181 = .ok (.aload_n 0, 1) := by decide +kernel
theorem J_HBars_tell_d182 : decode J_HBars_tell.2.1 182 = .ok (.getfield 26, 3) := by decide +kernel
theorem J_HBars_tell_d185 : decode J_HBars_tell.2.1 185 = .ok (.iload 4, 2) := by decide +kernel
theorem J_HBars_tell_d187 : decode J_HBars_tell.2.1 187 = .ok (.iaload, 1) := by decide +kernel
theorem J_HBars_tell_d188 : decode J_HBars_tell.2.1 188 = .ok (.iconst 1, 1) := by decide +kernel
theorem J_HBars_tell_d189 : decode J_HBars_tell.2.1 189 = .ok (.iload_n 3, 1) := by decide +kernel
theorem J_HBars_tell_d190 : decode J_HBars_tell.2.1 190 = .ok (.isub, 1) := by decide +kernel
theorem J_HBars_tell_d191 : decode J_HBars_tell.2.1 191 = .ok (.invokestatic 164, 3) := by decide +kernel
theorem J_HBars_tell_d194 : decode J_HBars_tell.2.1 194 = .ok (.aload_n 2, 1) := by decide +kernel
theorem J_HBars_tell_d195 : decode J_HBars_tell.2.1 195 = .ok (.invokevirtual 160, 3) := by decide +kernel
theorem J_HBars_tell_d198 : decode J_HBars_tell.2.1 198 = .ok (.goto 26, 3) := by decide +kernel
theorem J_HBars_tell_d201 : decode J_HBars_tell.2.1 201 = .ok (.iload 5, 2) := by decide +kernel
theorem J_HBars_tell_d203 : decode J_HBars_tell.2.1 203 = .ok (.bipush 96, 2) := by decide +kernel
theorem J_HBars_tell_d205 : decode J_HBars_tell.2.1 205 = .ok (.if_icmp .ge 17, 3) := by decide +kernel
theorem J_HBars_tell_d208 : decode J_HBars_tell.2.1 208 = .ok (.aload_n 0, 1) := by decide +kernel
theorem J_HBars_tell_d209 : decode J_HBars_tell.2.1 209 = .ok (.iload 5, 2) := by decide +kernel
theorem J_HBars_tell_d211 : decode J_HBars_tell.2.1 211 = .ok (.iload_n 3, 1) := by decide +kernel
theorem J_HBars_tell_d212 : decode J_HBars_tell.2.1 212 = .ok (.invokestatic 164, 3) := by decide +kernel
theorem J_HBars_tell_d215 : decode J_HBars_tell.2.1 215 = .ok (.aload_n 2, 1) := by decide +kernel
theorem J_HBars_tell_d216 : decode J_HBars_tell.2.1 216 = .ok (.invokevirtual 160, 3) := by decide +kernel
theorem J_HBars_tell_d219 : decode J_HBars_tell.2.1 219 = .ok (.goto 5, 3) := by decide +kernel
theorem J_HBars_tell_d222 : decode J_HBars_tell.2.1 222 = .ok (.iconst 0, 1) := by decide +kernel
theorem J_HBars_tell_d223 : decode J_HBars_tell.2.1 223 = .ok (.ireturn, 1) := by decide +kernel
theorem J_HBars_tell_d224 : decode J_HBars_tell.2.1 224 = .ok (.iinc 4 1, 3) := by decide +kernel
theorem J_HBars_tell_d227 : decode J_HBars_tell.2.1 227 = .ok (.goto (-209), 3) := by decide +kernel
theorem J_HBars_tell_d230 : decode J_HBars_tell.2.1 230 = .ok (.iconst 1, 1) := by decide +kernel
theorem J_HBars_tell_d231 : decode J_HBars_tell.2.1 231 = .ok (.ireturn, 1) := by decide +kernel
theorem f_HBars_tell_ok {L : Nat} {xs : Nat → Int32} {dep : Nat} {w : Bool} {p0 : Int32} {M : im_M} {Q : Int32 × im_M → Prop} (hM : lw_S w M) (h : ed (f_HBars_tell p0 M) Q) : ia (tb_G L xs) (dep + 1) J_HBars_tell (rwI w Q) (0, lv_args 0 [.ref 31, .int p0, .ref 68], [], M) := by
  have hS : im_St (tb_G L xs) (dep + 1) J_HBars_tell (ia (tb_G L xs) (dep + 1) J_HBars_tell (rwI w Q)) := ia_St
  unfold f_HBars_tell at h
  have l0 : im_lk (lv_args 0 [.ref 31, .int p0, .ref 68]) 0 = some (.ref 31) := rfl
  have l1 : im_lk (lv_args 0 [.ref 31, .int p0, .ref 68]) 1 = some (.int p0) := rfl
  have l2 : im_lk (lv_args 0 [.ref 31, .int p0, .ref 68]) 2 = some (.ref 68) := rfl
  refine iq_aload_n hS 1 J_HBars_tell_d0 l0 rfl ?_
  refine iq_getR hS 4 J_HBars_tell_d1 lf_0_26 (Or.inr ⟨_, rfl⟩) (ka_31 hM) (ra_31_8 hM) rfl ?_
  refine iq_iconst hS 5 J_HBars_tell_d4 (v := 0) (by decide +kernel) rfl ?_
  obtain ⟨g5, h⟩ := ed_gd h
  refine iq_iaload hS 6 J_HBars_tell_d5 ⟨(ka_36 hM).1, (ka_36 hM).2, g5.1, ix_lt (kl_36 hM) g5.2⟩ rfl ?_
  refine iq_bipush hS 8 J_HBars_tell_d6 (v := 103) (by decide +kernel) rfl ?_
  refine iq_isub hS 9 J_HBars_tell_d8 rfl ?_
  refine iq_istore_n hS 10 J_HBars_tell_d9 (by decide) rfl ?_
  refine iq_aload_n hS 11 J_HBars_tell_d10 (lk_1r l0 (by decide)) rfl ?_
  refine iq_iconst hS 12 J_HBars_tell_d11 (v := 0) (by decide +kernel) rfl ?_
  refine iq_putI hS 15 J_HBars_tell_d12 lf_0_132 (Or.inl rfl) rfl (ka_31 hM) rfl ?_
  refine iq_iconst hS 16 J_HBars_tell_d15 (v := 1) (by decide +kernel) rfl ?_
  refine iq_istore hS 18 J_HBars_tell_d16 (by decide) rfl ?_
  obtain ⟨Q1, hQ1, hR1, h⟩ := bs1_ed h
  have K1 : ∀ (M2 : im_M) (L' : List (Nat × Value)), lw_S w M2 → Q1 (.inl M2) → ia (tb_G L xs) (dep + 1) J_HBars_tell (rwI w Q) (230, L', [], M2) := by
    intro M2 L' hM2  h
    replace h := hQ1 _ h
    refine iq_iconst hS 231 J_HBars_tell_d230 (v := 1) (by decide +kernel) rfl ?_
    exact iq_iret J_HBars_tell_d231 rfl rfl ⟨_, rfl, hM2, ed_some h⟩
  obtain ⟨r1, hr1, hq1⟩ := h
  obtain ⟨n1, hn1⟩ := lp_n hr1
  have I1 : ∀ (n : Nat) (x3 : Int32) (x4 : Int32) (M5 : im_M) (L' : List (Nat × Value)), lw_S w M5 → im_lk L' 0 = some (.ref 31) → im_lk L' 1 = some (.int p0) → im_lk L' 2 = some (.ref 68) → im_lk L' 3 = some (.int x3) → im_lk L' 4 = some (.int x4) → lpn (uc3 (f_HBars_tell_L18 p0)) n (x3, x4, M5) = some r1 → ia (tb_G L xs) (dep + 1) J_HBars_tell (rwI w Q) (18, L', [], M5) := by
    intro n
    induction n with
    | zero => intro x3 x4 M5 L' hM5 l6 l7 l8 l9 l10 hn; exact (lpn_0 hn).elim
    | succ n ih =>
      intro x3 x4 M5 L' hM5 l6 l7 l8 l9 l10 hn
      have h := lpn_ed3 hn
      unfold f_HBars_tell_L18 at h
      refine iq_iload hS 20 J_HBars_tell_d18 l10 rfl ?_
      refine iq_iload_n hS 21 J_HBars_tell_d20 l7 rfl ?_
      refine iq_icmp_ge hS 24 J_HBars_tell_d21 (t := 230) rfl (fun q21 => ?_) rfl (fun q21 => ?_)
      · replace h := ed_pos q21 h
        exact K1 _ _ hM5  (lq_r h hq1)
      · replace h := ed_neg q21 h
        refine iq_aload_n hS 25 J_HBars_tell_d24 l6 rfl ?_
        refine iq_getR hS 28 J_HBars_tell_d25 lf_0_26 (Or.inr ⟨_, rfl⟩) (ka_31 hM5) (ra_31_8 hM5) rfl ?_
        refine iq_iload hS 30 J_HBars_tell_d28 l10 rfl ?_
        obtain ⟨g30, h⟩ := ed_gd h
        refine iq_iaload hS 31 J_HBars_tell_d30 ⟨(ka_36 hM5).1, (ka_36 hM5).2, g30.1, ix_lt (kl_36 hM5) g30.2⟩ rfl ?_
        refine iq_istore hS 33 J_HBars_tell_d31 (by decide) rfl ?_
        refine iq_iload hS 35 J_HBars_tell_d33 lk_1s rfl ?_
        refine iq_bipush hS 37 J_HBars_tell_d35 (v := 101) (by decide +kernel) rfl ?_
        have J11 : ∀ (z12 : Int32) (L' : List (Nat × Value)), z12 = ((if 101 < (im_i M5 36 (Int32.toNatClampNeg x4)) then 0 else (if ¬ x3 = 2 then (if (im_i M5 36 (Int32.toNatClampNeg x4)) < 99 then 0 else 1) else (if (im_i M5 36 (Int32.toNatClampNeg x4)) < 100 then 0 else 1))) : Int32) → im_lk L' 0 = some (.ref 31) → im_lk L' 1 = some (.int p0) → im_lk L' 2 = some (.ref 68) → im_lk L' 3 = some (.int x3) → im_lk L' 4 = some (.int x4) → im_lk L' 5 = some (.int (im_i M5 36 (Int32.toNatClampNeg x4))) → ia (tb_G L xs) (dep + 1) J_HBars_tell (rwI w Q) (62, L', [.int z12], M5) := by
          intro z12 L' e13 l14 l15 l16 l17 l18 l19
          subst e13
          refine iq_istore hS 64 J_HBars_tell_d62 (by decide) rfl ?_
          refine iq_iload hS 66 J_HBars_tell_d64 (lk_1i l19 (by decide)) rfl ?_
          refine iq_bipush hS 68 J_HBars_tell_d66 (v := 102) (by decide +kernel) rfl ?_
          obtain ⟨k20, Q20, hQ20, hk20, h⟩ := jn3_ed h
          have J20 : ∀ (y45 : Int32) (y46 : Int32) (M47 : im_M) (L' : List (Nat × Value)), lw_S w M47 → im_lk L' 0 = some (.ref 31) → im_lk L' 1 = some (.int p0) → im_lk L' 2 = some (.ref 68) → im_lk L' 3 = some (.int y45) → im_lk L' 4 = some (.int y46) → Q20 y45 y46 M47 → ia (tb_G L xs) (dep + 1) J_HBars_tell (rwI w Q) (224, L', [], M47) := by
            intro y45 y46 M47 L' hM47 l48 l49 l50 l51 l52 h
            replace h := hQ20 _ _ _ h
            refine iq_iincv hS 227 J_HBars_tell_d224 (c := 1) (by decide +kernel) l52 (by decide) rfl ?_
            refine iq_goto hS J_HBars_tell_d227 (t := 18) rfl ?_
            exact ih _ _ _ _ hM47 (lk_1r l48 (by decide)) (lk_1i l49 (by decide)) (lk_1r l50 (by decide)) (lk_1i l51 (by decide)) lk_1s (lq_l h)
          refine iq_icmp_ne hS 71 J_HBars_tell_d68 (t := 82) rfl (fun q68 => ?_) rfl (fun q68 => ?_)
          · replace h := ed_pos q68 h
            refine iq_iload hS 84 J_HBars_tell_d82 lk_1s rfl ?_
            refine iq_if_eq hS 87 J_HBars_tell_d84 (t := 107) rfl (fun q84 => ?_) rfl (fun q84 => ?_)
            · replace h := ed_pos q84 h
              refine iq_iload_n hS 108 J_HBars_tell_d107 (lk_1i l17 (by decide)) rfl ?_
              refine iq_iconst hS 109 J_HBars_tell_d108 (v := 2) (by decide +kernel) rfl ?_
              obtain ⟨k21, Q21, hQ21, hk21, h⟩ := jn1_ed h
              have J21 : ∀ (M24 : im_M) (L' : List (Nat × Value)), lw_S w M24 → im_lk L' 0 = some (.ref 31) → im_lk L' 1 = some (.int p0) → im_lk L' 2 = some (.ref 68) → im_lk L' 3 = some (.int x3) → im_lk L' 4 = some (.int x4) → im_lk L' 5 = some (.int (im_i M5 36 (Int32.toNatClampNeg x4))) → Q21 M24 → ia (tb_G L xs) (dep + 1) J_HBars_tell (rwI w Q) (148, L', [], M24) := by
                intro M24 L' hM24 l25 l26 l27 l28 l29 l30 h
                replace h := hQ21 _ h
                refine iq_iload hS 150 J_HBars_tell_d148 l30 rfl ?_
                refine iq_bipush hS 152 J_HBars_tell_d150 (v := 98) (by decide +kernel) rfl ?_
                obtain ⟨k31, Q31, hQ31, hk31, h⟩ := jn2_ed h
                have J31 : ∀ (y34 : Int32) (M35 : im_M) (L' : List (Nat × Value)), lw_S w M35 → im_lk L' 0 = some (.ref 31) → im_lk L' 1 = some (.int p0) → im_lk L' 2 = some (.ref 68) → im_lk L' 3 = some (.int x3) → im_lk L' 4 = some (.int y34) → im_lk L' 5 = some (.int (im_i M5 36 (Int32.toNatClampNeg x4))) → Q31 y34 M35 → ia (tb_G L xs) (dep + 1) J_HBars_tell (rwI w Q) (201, L', [], M35) := by
                  intro y34 M35 L' hM35 l36 l37 l38 l39 l40 l41 h
                  replace h := hQ31 _ _ h
                  refine iq_iload hS 203 J_HBars_tell_d201 l41 rfl ?_
                  refine iq_bipush hS 205 J_HBars_tell_d203 (v := 96) (by decide +kernel) rfl ?_
                  refine iq_icmp_ge hS 208 J_HBars_tell_d205 (t := 222) rfl (fun q205 => ?_) rfl (fun q205 => ?_)
                  · replace h := ed_pos q205 h
                    refine iq_iconst hS 223 J_HBars_tell_d222 (v := 0) (by decide +kernel) rfl ?_
                    exact iq_iret J_HBars_tell_d223 rfl rfl ⟨_, rfl, hM35, ed_some (hR1 _ (lq_r h hq1))⟩
                  · replace h := ed_neg q205 h
                    refine iq_aload_n hS 209 J_HBars_tell_d208 l36 rfl ?_
                    refine iq_iload hS 211 J_HBars_tell_d209 l41 rfl ?_
                    refine iq_iload_n hS 212 J_HBars_tell_d211 l39 rfl ?_
                    obtain ⟨Q42, hQ42, h⟩ := bd1_ed h
                    refine iq_cpI hS 215 J_HBars_tell_d212 rfl (pr_stat (vs := [_, _]) lc_0_164 lT_260 rfl rfl (by decide) rfl (Nat.le_of_ble_eq_true rfl) (Nat.le_of_ble_eq_true rfl)) (f_HBars_signOf_ok (dep := dep + 0) hM35 h) rfl ?_
                    intro x42 h
                    replace h := hQ42 _ h
                    refine iq_aload_n hS 216 J_HBars_tell_d215 l38 rfl ?_
                    obtain ⟨Q43, hQ43, h⟩ := bd1_ed h
                    refine iq_cwV hS 219 J_HBars_tell_d216 rfl (pr_inst (vs := [_, _]) lc_0_160 lT_259 rfl rfl (by decide) (by decide) rfl (Nat.le_of_ble_eq_true rfl) (Nat.le_of_ble_eq_true rfl) (fun _ => Or.inl (pr_b (ka_31 hM35) (by decide) rfl))) (f_HBars_write_ok (dep := dep + 0) hM35 h) rfl ?_
                    intro M43 hM43 h
                    replace h := hQ43 _ h
                    refine iq_goto hS J_HBars_tell_d219 (t := 224) rfl ?_
                    exact J20 _ _ _ _ hM43 l36 l37 l38 l39 l40 (hk20 _ _ _ h)
                refine iq_icmp_ne hS 155 J_HBars_tell_d152 (t := 201) rfl (fun q152 => ?_) rfl (fun q152 => ?_)
                · replace h := ed_pos q152 h
                  exact J31 _ _ _ hM24 l25 l26 l27 l28 l29 l30 (hk31 _ _ h)
                · replace h := ed_neg q152 h
                  refine iq_iload hS 157 J_HBars_tell_d155 l29 rfl ?_
                  refine iq_iconst hS 158 J_HBars_tell_d157 (v := 1) (by decide +kernel) rfl ?_
                  refine iq_iadd hS 159 J_HBars_tell_d158 rfl ?_
                  refine iq_iload_n hS 160 J_HBars_tell_d159 l26 rfl ?_
                  refine iq_icmp_ge hS 163 J_HBars_tell_d160 (t := 201) rfl (fun q160 => ?_) rfl (fun q160 => ?_)
                  · replace h := ed_pos q160 h
                    exact J31 _ _ _ hM24 l25 l26 l27 l28 l29 l30 (hk31 _ _ h)
                  · replace h := ed_neg q160 h
                    refine iq_aload_n hS 164 J_HBars_tell_d163 l25 rfl ?_
                    refine iq_getR hS 167 J_HBars_tell_d164 lf_0_26 (Or.inr ⟨_, rfl⟩) (ka_31 hM24) (ra_31_8 hM24) rfl ?_
                    refine iq_iload hS 169 J_HBars_tell_d167 l29 rfl ?_
                    refine iq_iconst hS 170 J_HBars_tell_d169 (v := 1) (by decide +kernel) rfl ?_
                    refine iq_iadd hS 171 J_HBars_tell_d170 rfl ?_
                    obtain ⟨g171, h⟩ := ed_gd h
                    refine iq_iaload hS 172 J_HBars_tell_d171 ⟨(ka_36 hM24).1, (ka_36 hM24).2, g171.1, ix_lt (kl_36 hM24) g171.2⟩ rfl ?_
                    refine iq_bipush hS 174 J_HBars_tell_d172 (v := 96) (by decide +kernel) rfl ?_
                    refine iq_icmp_ge hS 177 J_HBars_tell_d174 (t := 201) rfl (fun q174 => ?_) rfl (fun q174 => ?_)
                    · replace h := ed_pos q174 h
                      exact J31 _ _ _ hM24 l25 l26 l27 l28 l29 l30 (hk31 _ _ h)
                    · replace h := ed_neg q174 h
                      refine iq_iincv hS 180 J_HBars_tell_d177 (c := 1) (by decide +kernel) l29 (by decide) rfl ?_
                      refine iq_aload_n hS 181 J_HBars_tell_d180 (lk_1r l25 (by decide)) rfl ?_
                      refine iq_aload_n hS 182 J_HBars_tell_d181 (lk_1r l25 (by decide)) rfl ?_
                      refine iq_getR hS 185 J_HBars_tell_d182 lf_0_26 (Or.inr ⟨_, rfl⟩) (ka_31 hM24) (ra_31_8 hM24) rfl ?_
                      refine iq_iload hS 187 J_HBars_tell_d185 lk_1s rfl ?_
                      obtain ⟨g187, h⟩ := ed_gd h
                      refine iq_iaload hS 188 J_HBars_tell_d187 ⟨(ka_36 hM24).1, (ka_36 hM24).2, g187.1, ix_lt (kl_36 hM24) g187.2⟩ rfl ?_
                      refine iq_iconst hS 189 J_HBars_tell_d188 (v := 1) (by decide +kernel) rfl ?_
                      refine iq_iload_n hS 190 J_HBars_tell_d189 (lk_1i l28 (by decide)) rfl ?_
                      refine iq_isub hS 191 J_HBars_tell_d190 rfl ?_
                      obtain ⟨Q32, hQ32, h⟩ := bd1_ed h
                      refine iq_cpI hS 194 J_HBars_tell_d191 rfl (pr_stat (vs := [_, _]) lc_0_164 lT_260 rfl rfl (by decide) rfl (Nat.le_of_ble_eq_true rfl) (Nat.le_of_ble_eq_true rfl)) (f_HBars_signOf_ok (dep := dep + 0) hM24 h) rfl ?_
                      intro x32 h
                      replace h := hQ32 _ h
                      refine iq_aload_n hS 195 J_HBars_tell_d194 (lk_1r l27 (by decide)) rfl ?_
                      obtain ⟨Q33, hQ33, h⟩ := bd1_ed h
                      refine iq_cwV hS 198 J_HBars_tell_d195 rfl (pr_inst (vs := [_, _]) lc_0_160 lT_259 rfl rfl (by decide) (by decide) rfl (Nat.le_of_ble_eq_true rfl) (Nat.le_of_ble_eq_true rfl) (fun _ => Or.inl (pr_b (ka_31 hM24) (by decide) rfl))) (f_HBars_write_ok (dep := dep + 0) hM24 h) rfl ?_
                      intro M33 hM33 h
                      replace h := hQ33 _ h
                      refine iq_goto hS J_HBars_tell_d198 (t := 224) rfl ?_
                      exact J20 _ _ _ _ hM33 (lk_1r l25 (by decide)) (lk_1i l26 (by decide)) (lk_1r l27 (by decide)) (lk_1i l28 (by decide)) lk_1s (hk20 _ _ _ h)
              refine iq_icmp_ne hS 112 J_HBars_tell_d109 (t := 148) rfl (fun q109 => ?_) rfl (fun q109 => ?_)
              · replace h := ed_pos q109 h
                exact J21 _ _ hM5 (lk_1r l14 (by decide)) (lk_1i l15 (by decide)) (lk_1r l16 (by decide)) (lk_1i l17 (by decide)) (lk_1i l18 (by decide)) (lk_1i l19 (by decide)) (hk21 _ h)
              · replace h := ed_neg q109 h
                refine iq_iload hS 114 J_HBars_tell_d112 (lk_1i l19 (by decide)) rfl ?_
                refine iq_bipush hS 116 J_HBars_tell_d114 (v := 100) (by decide +kernel) rfl ?_
                refine iq_icmp_ge hS 119 J_HBars_tell_d116 (t := 148) rfl (fun q116 => ?_) rfl (fun q116 => ?_)
                · replace h := ed_pos q116 h
                  exact J21 _ _ hM5 (lk_1r l14 (by decide)) (lk_1i l15 (by decide)) (lk_1r l16 (by decide)) (lk_1i l17 (by decide)) (lk_1i l18 (by decide)) (lk_1i l19 (by decide)) (hk21 _ h)
                · replace h := ed_neg q116 h
                  refine iq_aload_n hS 120 J_HBars_tell_d119 (lk_1r l14 (by decide)) rfl ?_
                  refine iq_bipush hS 122 J_HBars_tell_d120 (v := 48) (by decide +kernel) rfl ?_
                  refine iq_iload hS 124 J_HBars_tell_d122 (lk_1i l19 (by decide)) rfl ?_
                  refine iq_bipush hS 126 J_HBars_tell_d124 (v := 10) (by decide +kernel) rfl ?_
                  refine iq_idiv hS 127 J_HBars_tell_d126 (by decide) rfl ?_
                  refine iq_iadd hS 128 J_HBars_tell_d127 rfl ?_
                  refine iq_aload_n hS 129 J_HBars_tell_d128 (lk_1r l16 (by decide)) rfl ?_
                  obtain ⟨Q22, hQ22, h⟩ := bd1_ed h
                  refine iq_cwV hS 132 J_HBars_tell_d129 rfl (pr_inst (vs := [_, _]) lc_0_160 lT_259 rfl rfl (by decide) (by decide) rfl (Nat.le_of_ble_eq_true rfl) (Nat.le_of_ble_eq_true rfl) (fun _ => Or.inl (pr_b (ka_31 hM5) (by decide) rfl))) (f_HBars_write_ok (dep := dep + 0) hM5 h) rfl ?_
                  intro M22 hM22 h
                  replace h := hQ22 _ h
                  refine iq_aload_n hS 133 J_HBars_tell_d132 (lk_1r l14 (by decide)) rfl ?_
                  refine iq_bipush hS 135 J_HBars_tell_d133 (v := 48) (by decide +kernel) rfl ?_
                  refine iq_iload hS 137 J_HBars_tell_d135 (lk_1i l19 (by decide)) rfl ?_
                  refine iq_bipush hS 139 J_HBars_tell_d137 (v := 10) (by decide +kernel) rfl ?_
                  refine iq_irem hS 140 J_HBars_tell_d139 (by decide) rfl ?_
                  refine iq_iadd hS 141 J_HBars_tell_d140 rfl ?_
                  refine iq_aload_n hS 142 J_HBars_tell_d141 (lk_1r l16 (by decide)) rfl ?_
                  obtain ⟨Q23, hQ23, h⟩ := bd1_ed h
                  refine iq_cwV hS 145 J_HBars_tell_d142 rfl (pr_inst (vs := [_, _]) lc_0_160 lT_259 rfl rfl (by decide) (by decide) rfl (Nat.le_of_ble_eq_true rfl) (Nat.le_of_ble_eq_true rfl) (fun _ => Or.inl (pr_b (ka_31 hM22) (by decide) rfl))) (f_HBars_write_ok (dep := dep + 0) hM22 h) rfl ?_
                  intro M23 hM23 h
                  replace h := hQ23 _ h
                  refine iq_goto hS J_HBars_tell_d145 (t := 224) rfl ?_
                  exact J20 _ _ _ _ hM23 (lk_1r l14 (by decide)) (lk_1i l15 (by decide)) (lk_1r l16 (by decide)) (lk_1i l17 (by decide)) (lk_1i l18 (by decide)) (hk20 _ _ _ h)
            · replace h := ed_neg q84 h
              refine iq_bipush hS 89 J_HBars_tell_d87 (v := 101) (by decide +kernel) rfl ?_
              refine iq_iload hS 91 J_HBars_tell_d89 (lk_1i l19 (by decide)) rfl ?_
              refine iq_isub hS 92 J_HBars_tell_d91 rfl ?_
              refine iq_iload_n hS 93 J_HBars_tell_d92 (lk_1i l17 (by decide)) rfl ?_
              refine iq_icmp_ne hS 96 J_HBars_tell_d93 (t := 98) rfl (fun q93 => ?_) rfl (fun q93 => ?_)
              · replace h := ed_pos q93 h
                refine iq_bipush hS 100 J_HBars_tell_d98 (v := 101) (by decide +kernel) rfl ?_
                refine iq_iload hS 102 J_HBars_tell_d100 (lk_1i l19 (by decide)) rfl ?_
                refine iq_isub hS 103 J_HBars_tell_d102 rfl ?_
                refine iq_istore_n hS 104 J_HBars_tell_d103 (by decide) rfl ?_
                refine iq_goto hS J_HBars_tell_d104 (t := 224) rfl ?_
                exact J20 _ _ _ _ hM5 (lk_1r (lk_1r l14 (by decide)) (by decide)) (lk_1i (lk_1i l15 (by decide)) (by decide)) (lk_1r (lk_1r l16 (by decide)) (by decide)) lk_1s (lk_1i (lk_1i l18 (by decide)) (by decide)) (hk20 _ _ _ h)
              · replace h := ed_neg q93 h
                refine iq_iconst hS 97 J_HBars_tell_d96 (v := 0) (by decide +kernel) rfl ?_
                exact iq_iret J_HBars_tell_d97 rfl rfl ⟨_, rfl, hM5, ed_some (hR1 _ (lq_r h hq1))⟩
          · replace h := ed_neg q68 h
            refine iq_aload_n hS 72 J_HBars_tell_d71 (lk_1r l14 (by decide)) rfl ?_
            refine iq_sipush hS 75 J_HBars_tell_d72 (v := 128) (by decide +kernel) rfl ?_
            refine iq_aload_n hS 76 J_HBars_tell_d75 (lk_1r l16 (by decide)) rfl ?_
            obtain ⟨Q44, hQ44, h⟩ := bd1_ed h
            refine iq_cwV hS 79 J_HBars_tell_d76 rfl (pr_inst (vs := [_, _]) lc_0_160 lT_259 rfl rfl (by decide) (by decide) rfl (Nat.le_of_ble_eq_true rfl) (Nat.le_of_ble_eq_true rfl) (fun _ => Or.inl (pr_b (ka_31 hM5) (by decide) rfl))) (f_HBars_write_ok (dep := dep + 0) hM5 h) rfl ?_
            intro M44 hM44 h
            replace h := hQ44 _ h
            refine iq_goto hS J_HBars_tell_d79 (t := 224) rfl ?_
            exact J20 _ _ _ _ hM44 (lk_1r l14 (by decide)) (lk_1i l15 (by decide)) (lk_1r l16 (by decide)) (lk_1i l17 (by decide)) (lk_1i l18 (by decide)) (hk20 _ _ _ h)
        refine iq_icmp_gt hS 40 J_HBars_tell_d37 (t := 61) rfl (fun q37 => ?_) rfl (fun q37 => ?_)
        · refine iq_iconst hS 62 J_HBars_tell_d61 (v := 0) (by decide +kernel) rfl ?_
          exact J11 _ _ (by simp only [if_pos q37]) (lk_1r l6 (by decide)) (lk_1i l7 (by decide)) (lk_1r l8 (by decide)) (lk_1i l9 (by decide)) (lk_1i l10 (by decide)) lk_1s
        · refine iq_iload hS 42 J_HBars_tell_d40 lk_1s rfl ?_
          refine iq_iload_n hS 43 J_HBars_tell_d42 (lk_1i l9 (by decide)) rfl ?_
          refine iq_iconst hS 44 J_HBars_tell_d43 (v := 2) (by decide +kernel) rfl ?_
          refine iq_icmp_ne hS 47 J_HBars_tell_d44 (t := 52) rfl (fun q44 => ?_) rfl (fun q44 => ?_)
          · refine iq_bipush hS 54 J_HBars_tell_d52 (v := 99) (by decide +kernel) rfl ?_
            refine iq_icmp_lt hS 57 J_HBars_tell_d54 (t := 61) rfl (fun q54 => ?_) rfl (fun q54 => ?_)
            · refine iq_iconst hS 62 J_HBars_tell_d61 (v := 0) (by decide +kernel) rfl ?_
              exact J11 _ _ (by simp only [if_neg q37, if_pos q44, if_pos q54]) (lk_1r l6 (by decide)) (lk_1i l7 (by decide)) (lk_1r l8 (by decide)) (lk_1i l9 (by decide)) (lk_1i l10 (by decide)) lk_1s
            · refine iq_iconst hS 58 J_HBars_tell_d57 (v := 1) (by decide +kernel) rfl ?_
              refine iq_goto hS J_HBars_tell_d58 (t := 62) rfl ?_
              exact J11 _ _ (by simp only [if_neg q37, if_pos q44, if_neg q54]) (lk_1r l6 (by decide)) (lk_1i l7 (by decide)) (lk_1r l8 (by decide)) (lk_1i l9 (by decide)) (lk_1i l10 (by decide)) lk_1s
          · refine iq_bipush hS 49 J_HBars_tell_d47 (v := 100) (by decide +kernel) rfl ?_
            refine iq_goto hS J_HBars_tell_d49 (t := 54) rfl ?_
            refine iq_icmp_lt hS 57 J_HBars_tell_d54 (t := 61) rfl (fun q54 => ?_) rfl (fun q54 => ?_)
            · refine iq_iconst hS 62 J_HBars_tell_d61 (v := 0) (by decide +kernel) rfl ?_
              exact J11 _ _ (by simp only [if_neg q37, if_neg q44, if_pos q54]) (lk_1r l6 (by decide)) (lk_1i l7 (by decide)) (lk_1r l8 (by decide)) (lk_1i l9 (by decide)) (lk_1i l10 (by decide)) lk_1s
            · refine iq_iconst hS 58 J_HBars_tell_d57 (v := 1) (by decide +kernel) rfl ?_
              refine iq_goto hS J_HBars_tell_d58 (t := 62) rfl ?_
              exact J11 _ _ (by simp only [if_neg q37, if_neg q44, if_neg q54]) (lk_1r l6 (by decide)) (lk_1i l7 (by decide)) (lk_1r l8 (by decide)) (lk_1i l9 (by decide)) (lk_1i l10 (by decide)) lk_1s
  exact I1 n1 _ _ _ _ (lw_sI hM) (lk_1r (lk_1r l0 (by decide)) (by decide)) (lk_1i (lk_1i l1 (by decide)) (by decide)) (lk_1r (lk_1r l2 (by decide)) (by decide)) (lk_1i lk_1s (by decide)) lk_1s hn1
theorem f_HBars_tell_fr {p0 : Int32} {M : im_M} {r : Int32 × im_M} (h : f_HBars_tell p0 M = some r) : fr 295147905179352825856 [(31, 12)] M r.2 := by
  replace h : ed (f_HBars_tell p0 M) (fun x => x = r) := ⟨r, h, rfl⟩
  unfold f_HBars_tell at h
  obtain ⟨g5, h⟩ := ed_gd h
  obtain ⟨Q1, hQ1, hR1, h⟩ := bs1_ed h
  have K1 : ∀ (M2 : im_M), fr 295147905179352825856 [(31, 12)] M M2 → Q1 (.inl M2) → fr 295147905179352825856 [(31, 12)] M r.2 := by
    intro M2 hM2 h
    replace h := hQ1 _ h
    exact fr_ret h hM2
  obtain ⟨r1, hr1, hq1⟩ := h
  obtain ⟨n1, hn1⟩ := lp_n hr1
  have I1 : ∀ (n : Nat) (x3 : Int32) (x4 : Int32) (M5 : im_M), fr 295147905179352825856 [(31, 12)] M M5 → lpn (uc3 (f_HBars_tell_L18 p0)) n (x3, x4, M5) = some r1 → fr 295147905179352825856 [(31, 12)] M r.2 := by
    intro n
    induction n with
    | zero => intro x3 x4 M5 hM5 hn; exact (lpn_0 hn).elim
    | succ n ih =>
      intro x3 x4 M5 hM5 hn
      have h := lpn_ed3 hn
      unfold f_HBars_tell_L18 at h
      by_cases q21 : p0 ≤ x4
      · replace h := ed_pos q21 h
        exact K1 _ hM5 (lq_r h hq1)
      · replace h := ed_neg q21 h
        obtain ⟨g30, h⟩ := ed_gd h
        obtain ⟨k7, Q7, hQ7, hk7, h⟩ := jn3_ed h
        have J7 : ∀ (y32 : Int32) (y33 : Int32) (M34 : im_M), fr 295147905179352825856 [(31, 12)] M M34 → Q7 y32 y33 M34 → fr 295147905179352825856 [(31, 12)] M r.2 := by
          intro y32 y33 M34 hM34 h
          replace h := hQ7 _ _ _ h
          exact ih _ _ _ hM34 (lq_l h)
        by_cases q68 : ¬ (im_i M5 36 (Int32.toNatClampNeg x4)) = 102
        · replace h := ed_pos q68 h
          by_cases q84 : ((if 101 < (im_i M5 36 (Int32.toNatClampNeg x4)) then 0 else (if ¬ x3 = 2 then (if (im_i M5 36 (Int32.toNatClampNeg x4)) < 99 then 0 else 1) else (if (im_i M5 36 (Int32.toNatClampNeg x4)) < 100 then 0 else 1))) : Int32) = 0
          · replace h := ed_pos q84 h
            obtain ⟨k8, Q8, hQ8, hk8, h⟩ := jn1_ed h
            have J8 : ∀ (M11 : im_M), fr 295147905179352825856 [(31, 12)] M M11 → Q8 M11 → fr 295147905179352825856 [(31, 12)] M r.2 := by
              intro M11 hM11 h
              replace h := hQ8 _ h
              obtain ⟨k18, Q18, hQ18, hk18, h⟩ := jn2_ed h
              have J18 : ∀ (y21 : Int32) (M22 : im_M), fr 295147905179352825856 [(31, 12)] M M22 → Q18 y21 M22 → fr 295147905179352825856 [(31, 12)] M r.2 := by
                intro y21 M22 hM22 h
                replace h := hQ18 _ _ h
                by_cases q205 : 96 ≤ (im_i M5 36 (Int32.toNatClampNeg x4))
                · replace h := ed_pos q205 h
                  exact fr_ret (hR1 _ (lq_r h hq1)) hM22
                · replace h := ed_neg q205 h
                  obtain ⟨Q29, hQ29, h⟩ := bd1_ed h
                  obtain ⟨x29, e29, h⟩ := h
                  replace h := hQ29 _ h
                  obtain ⟨Q30, hQ30, h⟩ := bd1_ed h
                  obtain ⟨M30, e30, h⟩ := h
                  replace h := hQ30 _ h
                  exact J7 _ _ _ (fr_tr (fr_mono (by decide) (by decide +kernel) (f_HBars_write_fr e30)) hM22) (hk7 _ _ _ h)
              by_cases q152 : ¬ (im_i M5 36 (Int32.toNatClampNeg x4)) = 98
              · replace h := ed_pos q152 h
                exact J18 _ _ hM11 (hk18 _ _ h)
              · replace h := ed_neg q152 h
                by_cases q160 : p0 ≤ (x4 + 1)
                · replace h := ed_pos q160 h
                  exact J18 _ _ hM11 (hk18 _ _ h)
                · replace h := ed_neg q160 h
                  obtain ⟨g171, h⟩ := ed_gd h
                  by_cases q174 : 96 ≤ (im_i M11 36 (Int32.toNatClampNeg (x4 + 1)))
                  · replace h := ed_pos q174 h
                    exact J18 _ _ hM11 (hk18 _ _ h)
                  · replace h := ed_neg q174 h
                    obtain ⟨g187, h⟩ := ed_gd h
                    obtain ⟨Q19, hQ19, h⟩ := bd1_ed h
                    obtain ⟨x19, e19, h⟩ := h
                    replace h := hQ19 _ h
                    obtain ⟨Q20, hQ20, h⟩ := bd1_ed h
                    obtain ⟨M20, e20, h⟩ := h
                    replace h := hQ20 _ h
                    exact J7 _ _ _ (fr_tr (fr_mono (by decide) (by decide +kernel) (f_HBars_write_fr e20)) hM11) (hk7 _ _ _ h)
            by_cases q109 : ¬ x3 = 2
            · replace h := ed_pos q109 h
              exact J8 _ hM5 (hk8 _ h)
            · replace h := ed_neg q109 h
              by_cases q116 : 100 ≤ (im_i M5 36 (Int32.toNatClampNeg x4))
              · replace h := ed_pos q116 h
                exact J8 _ hM5 (hk8 _ h)
              · replace h := ed_neg q116 h
                obtain ⟨Q9, hQ9, h⟩ := bd1_ed h
                obtain ⟨M9, e9, h⟩ := h
                replace h := hQ9 _ h
                obtain ⟨Q10, hQ10, h⟩ := bd1_ed h
                obtain ⟨M10, e10, h⟩ := h
                replace h := hQ10 _ h
                exact J7 _ _ _ (fr_tr (fr_mono (by decide) (by decide +kernel) (f_HBars_write_fr e10)) (fr_tr (fr_mono (by decide) (by decide +kernel) (f_HBars_write_fr e9)) hM5)) (hk7 _ _ _ h)
          · replace h := ed_neg q84 h
            by_cases q93 : ¬ ((101 : Int32) - (im_i M5 36 (Int32.toNatClampNeg x4))) = x3
            · replace h := ed_pos q93 h
              exact J7 _ _ _ hM5 (hk7 _ _ _ h)
            · replace h := ed_neg q93 h
              exact fr_ret (hR1 _ (lq_r h hq1)) hM5
        · replace h := ed_neg q68 h
          obtain ⟨Q31, hQ31, h⟩ := bd1_ed h
          obtain ⟨M31, e31, h⟩ := h
          replace h := hQ31 _ h
          exact J7 _ _ _ (fr_tr (fr_mono (by decide) (by decide +kernel) (f_HBars_write_fr e31)) hM5) (hk7 _ _ _ h)
  exact I1 n1 _ _ _ (fr_F (by decide) fr_refl) hn1
