/-! AT THE START ALL OF IT HOLDS -/
set_option maxRecDepth 100000 in
theorem st_a : im_i mm_341 58 = (fun _ => 0) ∧ im_i mm_341 94 = (fun _ => 0) ∧ im_i mm_341 4 = (fun _ => 0) ∧ im_i mm_341 74 = (fun _ => 0) ∧ im_i mm_341 6 = (fun _ => 0) ∧ im_i mm_341 76 = (fun _ => 0) ∧ im_i mm_341 90 = (fun _ => 0) ∧ im_i mm_341 131 = (fun _ => 0) := ⟨rfl, rfl, rfl, rfl, rfl, rfl, rfl, rfl⟩
set_option maxRecDepth 100000 in
theorem st_l : im_l mm_341 29 = (fun _ => 0) := rfl
set_option maxRecDepth 100000 in
theorem st_s : im_i mm_341 60 = (fun _ => 0) ∧ im_i mm_341 132 = (fun _ => 0) := ⟨rfl, rfl⟩
set_option maxRecDepth 100000 in
theorem st_8 : im_i mm_341 120 = (fun _ => 0) := rfl
theorem st_f : im_i mm_341 1 1 = 0 ∧ im_i mm_341 69 2 = 0 ∧ im_i mm_341 71 13 = 0 ∧ im_i mm_341 15 6 = 0 ∧ im_i mm_341 71 14 = -1 ∧ im_i mm_341 15 7 = -1 ∧ im_i mm_341 15 4 = 0 ∧ im_i mm_341 71 35 = 0 ∧ im_i mm_341 11 3 = 0 ∧ im_i mm_341 71 37 = 0 := by decide +kernel
theorem st_d : im_i mm_341 28 0 = 64 ∧ im_i mm_341 28 1 = 64 ∧ im_i mm_341 89 1 = 64 ∧ im_i mm_341 89 2 = 64 ∧ im_i mm_341 130 1 = 64 ∧ im_i mm_341 130 2 = 64 ∧ im_i mm_341 59 0 = 0 ∧ im_i mm_341 130 10 = 0 ∧ im_i mm_341 0 9 = 0 ∧ im_i mm_341 69 9 = 0 ∧ im_i mm_341 0 12 = 0 ∧ im_i mm_341 69 12 = 0 ∧ im_i mm_341 69 10 = -1 ∧ im_i mm_341 108 31 = 0 := by decide +kernel
theorem st_z : (∀ k : Fin 12, im_i mm_341 93 k.val = im_i mm_341 57 k.val) ∧ (∀ f : Fin 4, im_i mm_341 57 (3 * f.val) = nI 8 ∧ im_i mm_341 57 (3 * f.val + 1) = nI 8 ∧ im_i mm_341 57 (3 * f.val + 2) = nI 0) := by decide +kernel
theorem st_r : im_i mm_341 67 0 = -1 ∧ im_i mm_341 67 1 = -1 ∧ im_i mm_341 67 2 = -1 ∧ im_i mm_341 67 3 = -1 ∧ im_i mm_341 67 4 = -1 ∧ im_i mm_341 67 5 = -1 ∧ im_i mm_341 67 6 = 0 := by decide +kernel
theorem RL_start : RL false mm_341 := by
  obtain ⟨a58, a94, a4, a74, a6, a76, a90, a131⟩ := st_a
  obtain ⟨f1, f2, f3, f4, f5, f6, f7, f8, f9, f10⟩ := st_f
  obtain ⟨d1, d2, d3, d4, d5, d6, d7, d8, d9, d10, d11, d12, d13, d14⟩ := st_d
  obtain ⟨r0, r1, r2, r3, r4, r5, r6⟩ := st_r
  refine ⟨?_, ?_, ?_, ?_, ?_, ?_, ?_, ?_, ?_, ⟨rfl, rfl, rfl, rfl, rfl, rfl, rfl, (by rw [st_s.1]; exact fun _ _ => ⟨rfl, rfl⟩), (by rw [st_s.2]; exact fun _ _ => ⟨rfl, rfl⟩)⟩⟩
  · unfold QT
    rw [f1, f2]
    exact ⟨0, by omega, rfl, rfl, fun k hk => absurd hk (by omega)⟩
  · unfold QF
    rw [a58, a94]
    refine ⟨fun k hk => st_z.1 ⟨k, hk⟩, fun k hk => rfl, fun f hf => ?_⟩
    have := st_z.2 ⟨f, hf⟩
    exact ⟨8, 8, 0, this.1, this.2.1, this.2.2, by omega, by omega, by omega, by omega, by omega⟩
  · unfold QS
    rw [f3, f4, f5, f6]
    exact ⟨rfl, rfl⟩
  · unfold QB
    rw [f7, f8]
    exact ⟨0, by omega, rfl, rfl, fun k hk => absurd hk (by omega)⟩
  · unfold QO
    rw [f9, f10, f7]
    exact ⟨⟨0, by omega, rfl, rfl, fun k hk => absurd hk (by omega)⟩, 0, 0, rfl, by omega, rfl, by omega, fun k hk => absurd hk (by omega), fun k hk => absurd hk (by omega)⟩
  · unfold QV
    rw [a4, a74, a6, a76]
    exact ⟨fun k hk => ⟨0, by omega, rfl, rfl, fun i hi => absurd hi (by omega)⟩, fun k hk => ⟨0, by omega, rfl, rfl, fun i hi => absurd hi (by omega)⟩⟩
  · unfold QD
    have e : im_l mm_341 (sw false) = (fun _ => 0) := st_l
    rw [d1, d2, d3, d4, d5, d6, d7, d8, a90, a131, e]
    refine ⟨64, 64, fun _ _ => false, ⟨by omega, ⟨rfl, rfl, rfl, rfl, rfl, rfl⟩, fun x y h => (by cases h), fun y j b _ _ _ => lb_0, fun y j b _ _ _ => ib_0, fun x y _ _ => rfl⟩, ⟨0, by omega, rfl, rfl, fun k hk => absurd hk (by omega)⟩⟩
  · unfold QW
    rw [d9, d10, st_8]
    exact ⟨⟨0, by omega, rfl, rfl, fun k hk => absurd hk (by omega)⟩, fun k => ⟨0, by omega, rfl⟩⟩
  · unfold QG
    rw [d11, d12, d13, d14]
    exact ⟨⟨0, by omega, rfl, rfl, fun k hk => absurd hk (by omega)⟩, r0, r6, Or.inl ⟨rfl, r1, r2, r3, r4, r5⟩⟩
/-! THROWS OF RUN AND BARS -/
theorem J_H_run_d12 : decode J_H_run.2.1 12 = .ok (.new 103, 3) := by decide +kernel
theorem J_H_run_d15 : decode J_H_run.2.1 15 = .ok (.dup, 1) := by decide +kernel
theorem J_H_run_d16 : decode J_H_run.2.1 16 = .ok (.invokespecial 105, 3) := by decide +kernel
theorem J_H_run_d19 : decode J_H_run.2.1 19 = .ok (.athrow, 1) := by decide +kernel
theorem J_H_bars_d12 : decode J_H_bars.2.1 12 = .ok (.new 103, 3) := by decide +kernel
theorem J_H_bars_d15 : decode J_H_bars.2.1 15 = .ok (.dup, 1) := by decide +kernel
theorem J_H_bars_d16 : decode J_H_bars.2.1 16 = .ok (.invokespecial 105, 3) := by decide +kernel
theorem J_H_bars_d19 : decode J_H_bars.2.1 19 = .ok (.athrow, 1) := by decide +kernel
theorem H_run_1 {L : Nat} {xs : Nat → Int32} {dep : Nat} {w : Bool} {M : im_M} {p0 p1 p2 p3 : Int32} (h : f_HSheet_has p0 p1 M = some 0) (hM : lw_S w M) : it (tb_G L xs) tb_X (dep + 6) J_H_run (fun E M1 => E = 1 ∧ M1 = im_noX M) (0, lv_args 0 [.ref 0, .int p0, .int p1, .int p2, .int p3], [], M) := by
  have hS : im_St (tb_G L xs) (dep + 6) J_H_run (it (tb_G L xs) tb_X (dep + 6) J_H_run (fun E M1 => E = 1 ∧ M1 = im_noX M)) := it_St
  have l0 : im_lk (lv_args 0 [.ref 0, .int p0, .int p1, .int p2, .int p3]) 0 = some (.ref 0) := rfl
  have l1 : im_lk (lv_args 0 [.ref 0, .int p0, .int p1, .int p2, .int p3]) 1 = some (.int p0) := rfl
  have l2 : im_lk (lv_args 0 [.ref 0, .int p0, .int p1, .int p2, .int p3]) 2 = some (.int p1) := rfl
  refine iq_aload_n hS 1 J_H_run_d0 l0 rfl ?_
  refine iq_getR hS 4 J_H_run_d1 lf_11_37 (Or.inl ⟨_, rfl⟩) (ka_0 hM) (ra_0_3 hM) rfl ?_
  refine iq_iload_n hS 5 J_H_run_d4 l1 rfl ?_
  refine iq_iload_n hS 6 J_H_run_d5 l2 rfl ?_
  refine iq_cpI hS 9 J_H_run_d6 rfl (pr_inst (vs := [_, _]) lc_11_182 lT_198 rfl rfl (by decide) (by decide) rfl (Nat.le_of_ble_eq_true rfl) (Nat.le_of_ble_eq_true rfl) (fun _ => Or.inl (pr_b (ka_28 hM) (by decide) rfl))) (f_HSheet_has_ok (dep := dep + 5) hM (Q := fun x => x = 0) ⟨_, h, rfl⟩) rfl ?_
  rintro _ rfl
  refine iq_if_ne hS 12 J_H_run_d9 (t := 20) rfl (fun q => absurd rfl q) rfl (fun _ => ?_)
  exact it_now J_H_run_d12 gx_103 J_H_run_d15 J_H_run_d16 J_H_run_d19 (Nat.le_of_ble_eq_true rfl) (by omega) ⟨rfl, rfl⟩
theorem H_bars_1 {L : Nat} {xs : Nat → Int32} {dep : Nat} {w : Bool} {M : im_M} {p0 p1 p2 : Int32} (h : f_HSheet_has p0 p1 M = some 0) (hM : lw_S w M) : it (tb_G L xs) tb_X (dep + 6) J_H_bars (fun E M1 => E = 1 ∧ M1 = im_noX M) (0, lv_args 0 [.ref 0, .int p0, .int p1, .int p2], [], M) := by
  have hS : im_St (tb_G L xs) (dep + 6) J_H_bars (it (tb_G L xs) tb_X (dep + 6) J_H_bars (fun E M1 => E = 1 ∧ M1 = im_noX M)) := it_St
  have l0 : im_lk (lv_args 0 [.ref 0, .int p0, .int p1, .int p2]) 0 = some (.ref 0) := rfl
  have l1 : im_lk (lv_args 0 [.ref 0, .int p0, .int p1, .int p2]) 1 = some (.int p0) := rfl
  have l2 : im_lk (lv_args 0 [.ref 0, .int p0, .int p1, .int p2]) 2 = some (.int p1) := rfl
  refine iq_aload_n hS 1 J_H_bars_d0 l0 rfl ?_
  refine iq_getR hS 4 J_H_bars_d1 lf_11_37 (Or.inl ⟨_, rfl⟩) (ka_0 hM) (ra_0_3 hM) rfl ?_
  refine iq_iload_n hS 5 J_H_bars_d4 l1 rfl ?_
  refine iq_iload_n hS 6 J_H_bars_d5 l2 rfl ?_
  refine iq_cpI hS 9 J_H_bars_d6 rfl (pr_inst (vs := [_, _]) lc_11_182 lT_198 rfl rfl (by decide) (by decide) rfl (Nat.le_of_ble_eq_true rfl) (Nat.le_of_ble_eq_true rfl) (fun _ => Or.inl (pr_b (ka_28 hM) (by decide) rfl))) (f_HSheet_has_ok (dep := dep + 5) hM (Q := fun x => x = 0) ⟨_, h, rfl⟩) rfl ?_
  rintro _ rfl
  refine iq_if_ne hS 12 J_H_bars_d9 (t := 20) rfl (fun q => absurd rfl q) rfl (fun _ => ?_)
  exact it_now J_H_bars_d12 gx_103 J_H_bars_d15 J_H_bars_d16 J_H_bars_d19 (Nat.le_of_ble_eq_true rfl) (by omega) ⟨rfl, rfl⟩
