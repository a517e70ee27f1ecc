/-! METHODS AS FUNCTIONS -/
noncomputable def f_MDotRows_ellipse (p0 : Int32) (p1 : Int32) (p2 : Int32) (p3 : Int32) (p4 : Int32) (M : im_M) : Option (Int32 × im_M) := bd1 (f_MDotRows_noPlace p0 p1 M) fun (x1 : Int32) => bd1 (jn0 (fun (_ : Unit) => some 1) fun k3 => if ¬ x1 = 0 then k3 () else bd1 (f_MDotRows_noRing p2 p3 p4 M) fun (x4 : Int32) => if x4 = 0 then some 0 else k3 ()) fun (y11 : Int32) => if (im_i (im_setI M 89 0 y11) 89 0) ≤ 0 then bd1 (f_MDotRows_at p0 p1 p2 p3 p4 (im_setI M 89 0 y11)) fun (M18 : im_M) => bd2 (f_MDotRows_draw 2 M18) fun (x19 : Int32) (M19 : im_M) => some (x19, M19) else some (0, (im_setI M 89 0 y11))
theorem J_MDotRows_ellipse_d0 : decode J_MDotRows_ellipse.2.1 0 = .ok (.aload_n 0, 1) := by decide +kernel
theorem J_MDotRows_ellipse_d1 : decode J_MDotRows_ellipse.2.1 1 = .ok (.iload_n 1, 1) := by decide +kernel
theorem J_MDotRows_ellipse_d2 : decode J_MDotRows_ellipse.2.1 2 = .ok (.iload_n 2, 1) := by decide +kernel
theorem J_MDotRows_ellipse_d3 : decode J_MDotRows_ellipse.2.1 3 = .ok (.invokestatic 124, 3) := by decide +kernel
theorem J_MDotRows_ellipse_d6 : decode J_MDotRows_ellipse.2.1 6 = .ok (.ifCond .ne 14, 3) := by decide +kernel
theorem J_MDotRows_ellipse_d9 : decode J_MDotRows_ellipse.2.1 9 = .ok (.iload_n 3, 1) := by decide +kernel
theorem J_MDotRows_ellipse_d10 : decode J_MDotRows_ellipse.2.1 10 = .ok (.iload 4, 2) := by decide +kernel
theorem J_MDotRows_ellipse_d12 : decode J_MDotRows_ellipse.2.1 12 = .ok (.iload 5, 2) := by decide +kernel
theorem J_MDotRows_ellipse_d14 : decode J_MDotRows_ellipse.2.1 14 = .ok (.invokestatic 127, 3) := by decide +kernel
theorem J_MDotRows_ellipse_d17 : decode J_MDotRows_ellipse.2.1 17 = .ok (.ifCond .eq 7, 3) := by decide +kernel
theorem J_MDotRows_ellipse_d20 : decode J_MDotRows_ellipse.2.1 20 = .ok (.iconst 1, 1) := by decide +kernel
theorem J_MDotRows_ellipse_d21 : decode J_MDotRows_ellipse.2.1 21 = .ok (.goto 4, 3) := by decide +kernel
theorem J_MDotRows_ellipse_d24 : decode J_MDotRows_ellipse.2.1 24 = .ok (.iconst 0, 1) := by decide +kernel
theorem J_MDotRows_ellipse_d25 : decode J_MDotRows_ellipse.2.1 25 = .ok (.putfield 37, 3) := by decide +kernel
theorem J_MDotRows_ellipse_d28 : decode J_MDotRows_ellipse.2.1 28 = .ok (.aload_n 0, 1) := by decide +kernel
theorem J_MDotRows_ellipse_d29 : decode J_MDotRows_ellipse.2.1 29 = .ok (.getfield 37, 3) := by decide +kernel
theorem J_MDotRows_ellipse_d32 : decode J_MDotRows_ellipse.2.1 32 = .ok (.ifCond .le 5, 3) := by decide +kernel
theorem J_MDotRows_ellipse_d35 : decode J_MDotRows_ellipse.2.1 35 = .ok (.iconst 0, 1) := by decide +kernel
theorem J_MDotRows_ellipse_d36 : decode J_MDotRows_ellipse.2.1 36 = .ok (.ireturn, 1) := by decide +kernel
theorem J_MDotRows_ellipse_d37 : decode J_MDotRows_ellipse.2.1 37 = .ok (.aload_n 0, 1) := by decide +kernel
theorem J_MDotRows_ellipse_d38 : decode J_MDotRows_ellipse.2.1 38 = .ok (.iload_n 1, 1) := by decide +kernel
theorem J_MDotRows_ellipse_d39 : decode J_MDotRows_ellipse.2.1 39 = .ok (.iload_n 2, 1) := by decide +kernel
theorem J_MDotRows_ellipse_d40 : decode J_MDotRows_ellipse.2.1 40 = .ok (.iload_n 3, 1) := by decide +kernel
theorem J_MDotRows_ellipse_d41 : decode J_MDotRows_ellipse.2.1 41 = .ok (.iload 4, 2) := by decide +kernel
theorem J_MDotRows_ellipse_d43 : decode J_MDotRows_ellipse.2.1 43 = .ok (.iload 5, 2) := by decide +kernel
theorem J_MDotRows_ellipse_d45 : decode J_MDotRows_ellipse.2.1 45 = .ok (.invokevirtual 130, 3) := by decide +kernel
theorem J_MDotRows_ellipse_d48 : decode J_MDotRows_ellipse.2.1 48 = .ok (.aload_n 0, 1) := by decide +kernel
theorem J_MDotRows_ellipse_d49 : decode J_MDotRows_ellipse.2.1 49 = .ok (.iconst 2, 1) := by decide +kernel
theorem J_MDotRows_ellipse_d50 : decode J_MDotRows_ellipse.2.1 50 = .ok (.invokevirtual 134, 3) := by decide +kernel
theorem J_MDotRows_ellipse_d53 : decode J_MDotRows_ellipse.2.1 53 = .ok (.ireturn, 1) := by decide +kernel
theorem f_MDotRows_ellipse_ok {L : Nat} {xs : Nat → Int32} {dep : Nat} {w : Bool} {p0 : Int32} {p1 : Int32} {p2 : Int32} {p3 : Int32} {p4 : Int32} {M : im_M} {Q : Int32 × im_M → Prop} (hM : lw_S w M) (h : ed (f_MDotRows_ellipse p0 p1 p2 p3 p4 M) Q) : ia (tb_G L xs) (dep + 4) J_MDotRows_ellipse (rwI w Q) (0, lv_args 0 [.ref 89, .int p0, .int p1, .int p2, .int p3, .int p4], [], M) := by
  have hS : im_St (tb_G L xs) (dep + 4) J_MDotRows_ellipse (ia (tb_G L xs) (dep + 4) J_MDotRows_ellipse (rwI w Q)) := ia_St
  unfold f_MDotRows_ellipse at h
  have l0 : im_lk (lv_args 0 [.ref 89, .int p0, .int p1, .int p2, .int p3, .int p4]) 0 = some (.ref 89) := rfl
  have l1 : im_lk (lv_args 0 [.ref 89, .int p0, .int p1, .int p2, .int p3, .int p4]) 1 = some (.int p0) := rfl
  have l2 : im_lk (lv_args 0 [.ref 89, .int p0, .int p1, .int p2, .int p3, .int p4]) 2 = some (.int p1) := rfl
  have l3 : im_lk (lv_args 0 [.ref 89, .int p0, .int p1, .int p2, .int p3, .int p4]) 3 = some (.int p2) := rfl
  have l4 : im_lk (lv_args 0 [.ref 89, .int p0, .int p1, .int p2, .int p3, .int p4]) 4 = some (.int p3) := rfl
  have l5 : im_lk (lv_args 0 [.ref 89, .int p0, .int p1, .int p2, .int p3, .int p4]) 5 = some (.int p4) := rfl
  refine iq_aload_n hS 1 J_MDotRows_ellipse_d0 l0 rfl ?_
  refine iq_iload_n hS 2 J_MDotRows_ellipse_d1 l1 rfl ?_
  refine iq_iload_n hS 3 J_MDotRows_ellipse_d2 l2 rfl ?_
  obtain ⟨Q1, hQ1, h⟩ := bd1_ed h
  refine iq_cpI hS 6 J_MDotRows_ellipse_d3 rfl (pr_stat (vs := [_, _]) lc_12_124 lT_340 rfl rfl (by decide) rfl (Nat.le_of_ble_eq_true rfl) (Nat.le_of_ble_eq_true rfl)) (f_MDotRows_noPlace_ok (dep := dep + 3) hM h) rfl ?_
  intro x1 h
  replace h := hQ1 _ h
  obtain ⟨Q2, hQ2, h⟩ := bd1_ed h
  have J2 : ∀ (y11 : Int32) (L' : List (Nat × Value)), im_lk L' 0 = some (.ref 89) → im_lk L' 1 = some (.int p0) → im_lk L' 2 = some (.int p1) → im_lk L' 3 = some (.int p2) → im_lk L' 4 = some (.int p3) → im_lk L' 5 = some (.int p4) → Q2 y11 → ia (tb_G L xs) (dep + 4) J_MDotRows_ellipse (rwI w Q) (25, L', [.int y11, .ref 89], M) := by
    intro y11 L' l12 l13 l14 l15 l16 l17 h
    replace h := hQ2 _ h
    refine iq_putI hS 28 J_MDotRows_ellipse_d25 lf_12_37 (Or.inl rfl) rfl (ka_89 hM) rfl ?_
    refine iq_aload_n hS 29 J_MDotRows_ellipse_d28 l12 rfl ?_
    refine iq_getI hS 32 J_MDotRows_ellipse_d29 lf_12_37 (Or.inl rfl) (ka_89 (lw_sI hM)) rfl ?_
    refine iq_if_le hS 35 J_MDotRows_ellipse_d32 (t := 37) rfl (fun q32 => ?_) rfl (fun q32 => ?_)
    · replace h := ed_pos q32 h
      refine iq_aload_n hS 38 J_MDotRows_ellipse_d37 l12 rfl ?_
      refine iq_iload_n hS 39 J_MDotRows_ellipse_d38 l13 rfl ?_
      refine iq_iload_n hS 40 J_MDotRows_ellipse_d39 l14 rfl ?_
      refine iq_iload_n hS 41 J_MDotRows_ellipse_d40 l15 rfl ?_
      refine iq_iload hS 43 J_MDotRows_ellipse_d41 l16 rfl ?_
      refine iq_iload hS 45 J_MDotRows_ellipse_d43 l17 rfl ?_
      obtain ⟨Q18, hQ18, h⟩ := bd1_ed h
      refine iq_cwV hS 48 J_MDotRows_ellipse_d45 rfl (pr_inst (vs := [_, _, _, _, _]) lc_12_130 lT_341 rfl rfl (by decide) (by decide) rfl (Nat.le_of_ble_eq_true rfl) (Nat.le_of_ble_eq_true rfl) (fun _ => Or.inl (pr_b (ka_89 (lw_sI hM)) (by decide) rfl))) (f_MDotRows_at_ok (dep := dep + 3) (lw_sI hM) h) rfl ?_
      intro M18 hM18 h
      replace h := hQ18 _ h
      refine iq_aload_n hS 49 J_MDotRows_ellipse_d48 l12 rfl ?_
      refine iq_iconst hS 50 J_MDotRows_ellipse_d49 (v := 2) (by decide +kernel) rfl ?_
      obtain ⟨Q19, hQ19, h⟩ := bd2_ed h
      refine iq_cwI hS 53 J_MDotRows_ellipse_d50 rfl (pr_inst (vs := [_]) lc_12_134 lT_342 rfl rfl (by decide) (by decide) rfl (Nat.le_of_ble_eq_true rfl) (Nat.le_of_ble_eq_true rfl) (fun _ => Or.inl (pr_b (ka_89 hM18) (by decide) rfl))) (f_MDotRows_draw_ok (dep := dep + 0) hM18 h) rfl ?_
      intro x19 M19 hM19 h
      replace h := hQ19 _ _ h
      exact iq_iret J_MDotRows_ellipse_d53 rfl rfl ⟨_, rfl, hM19, ed_some h⟩
    · replace h := ed_neg q32 h
      refine iq_iconst hS 36 J_MDotRows_ellipse_d35 (v := 0) (by decide +kernel) rfl ?_
      exact iq_iret J_MDotRows_ellipse_d36 rfl rfl ⟨_, rfl, (lw_sI hM), ed_some h⟩
  obtain ⟨k3, Q3, hQ3, hk3, h⟩ := jn0_ed h
  have J3 : ∀  (L' : List (Nat × Value)), im_lk L' 0 = some (.ref 89) → im_lk L' 1 = some (.int p0) → im_lk L' 2 = some (.int p1) → im_lk L' 3 = some (.int p2) → im_lk L' 4 = some (.int p3) → im_lk L' 5 = some (.int p4) → Q3 () → ia (tb_G L xs) (dep + 4) J_MDotRows_ellipse (rwI w Q) (20, L', [.ref 89], M) := by
    intro  L' l5 l6 l7 l8 l9 l10 h
    replace h := hQ3  h
    refine iq_iconst hS 21 J_MDotRows_ellipse_d20 (v := 1) (by decide +kernel) rfl ?_
    refine iq_goto hS J_MDotRows_ellipse_d21 (t := 25) rfl ?_
    exact J2 _ _ l5 l6 l7 l8 l9 l10 (ed_some h)
  refine iq_if_ne hS 9 J_MDotRows_ellipse_d6 (t := 20) rfl (fun q6 => ?_) rfl (fun q6 => ?_)
  · replace h := ed_pos q6 h
    exact J3  _ l0 l1 l2 l3 l4 l5 (hk3  h)
  · replace h := ed_neg q6 h
    refine iq_iload_n hS 10 J_MDotRows_ellipse_d9 l3 rfl ?_
    refine iq_iload hS 12 J_MDotRows_ellipse_d10 l4 rfl ?_
    refine iq_iload hS 14 J_MDotRows_ellipse_d12 l5 rfl ?_
    obtain ⟨Q4, hQ4, h⟩ := bd1_ed h
    refine iq_cpI hS 17 J_MDotRows_ellipse_d14 rfl (pr_stat (vs := [_, _, _]) lc_12_127 lT_436 rfl rfl (by decide) rfl (Nat.le_of_ble_eq_true rfl) (Nat.le_of_ble_eq_true rfl)) (f_MDotRows_noRing_ok (dep := dep + 2) hM h) rfl ?_
    intro x4 h
    replace h := hQ4 _ h
    refine iq_if_eq hS 20 J_MDotRows_ellipse_d17 (t := 24) rfl (fun q17 => ?_) rfl (fun q17 => ?_)
    · replace h := ed_pos q17 h
      refine iq_iconst hS 25 J_MDotRows_ellipse_d24 (v := 0) (by decide +kernel) rfl ?_
      exact J2 _ _ l0 l1 l2 l3 l4 l5 (ed_some h)
    · replace h := ed_neg q17 h
      exact J3  _ l0 l1 l2 l3 l4 l5 (hk3  h)
theorem f_MDotRows_ellipse_fr {p0 : Int32} {p1 : Int32} {p2 : Int32} {p3 : Int32} {p4 : Int32} {M : im_M} {r : Int32 × im_M} (h : f_MDotRows_ellipse p0 p1 p2 p3 p4 M = some r) : fr 1237940039285380274899124224 [(89, 0), (89, 10), (89, 11), (89, 12), (89, 13), (89, 14)] M r.2 := by
  replace h : ed (f_MDotRows_ellipse p0 p1 p2 p3 p4 M) (fun x => x = r) := ⟨r, h, rfl⟩
  unfold f_MDotRows_ellipse at h
  obtain ⟨Q1, hQ1, h⟩ := bd1_ed h
  obtain ⟨x1, e1, h⟩ := h
  replace h := hQ1 _ h
  obtain ⟨Q2, hQ2, h⟩ := bd1_ed h
  have J2 : ∀ (y11 : Int32), Q2 y11 → fr 1237940039285380274899124224 [(89, 0), (89, 10), (89, 11), (89, 12), (89, 13), (89, 14)] M r.2 := by
    intro y11 h
    replace h := hQ2 _ h
    by_cases q32 : (im_i (im_setI M 89 0 y11) 89 0) ≤ 0
    · replace h := ed_pos q32 h
      obtain ⟨Q18, hQ18, h⟩ := bd1_ed h
      obtain ⟨M18, e18, h⟩ := h
      replace h := hQ18 _ h
      obtain ⟨Q19, hQ19, h⟩ := bd2_ed h
      obtain ⟨⟨x19, M19⟩, e19, h⟩ := h
      replace h := hQ19 _ _ h
      exact fr_ret h (fr_tr (fr_mono (by decide) (by decide +kernel) (f_MDotRows_draw_fr e19)) (fr_tr (fr_mono (by decide) (by decide +kernel) (f_MDotRows_at_fr e18)) (fr_F (by decide) fr_refl)))
    · replace h := ed_neg q32 h
      exact fr_ret h (fr_F (by decide) fr_refl)
  obtain ⟨k3, Q3, hQ3, hk3, h⟩ := jn0_ed h
  have J3 : Q3 () → fr 1237940039285380274899124224 [(89, 0), (89, 10), (89, 11), (89, 12), (89, 13), (89, 14)] M r.2 := by
    intro  h
    replace h := hQ3  h
    exact J2 _ (ed_some h)
  by_cases q6 : ¬ x1 = 0
  · replace h := ed_pos q6 h
    exact J3  (hk3  h)
  · replace h := ed_neg q6 h
    obtain ⟨Q4, hQ4, h⟩ := bd1_ed h
    obtain ⟨x4, e4, h⟩ := h
    replace h := hQ4 _ h
    by_cases q17 : x4 = 0
    · replace h := ed_pos q17 h
      exact J2 _ (ed_some h)
    · replace h := ed_neg q17 h
      exact J3  (hk3  h)
noncomputable def f_MDotRows_line (p0 : Int32) (p1 : Int32) (p2 : Int32) (p3 : Int32) (p4 : Int32) (M : im_M) : Option (Int32 × im_M) := bd1 (f_MDotRows_noPlace p0 p1 M) fun (x1 : Int32) => bd1 (jn0 (fun (_ : Unit) => some 1) fun k3 => if ¬ x1 = 0 then k3 () else bd1 (f_MDotRows_noPlace p2 p3 M) fun (x4 : Int32) => if ¬ x4 = 0 then k3 () else bd1 (f_MDotRows_isNot p4 1 200 M) fun (x5 : Int32) => if x5 = 0 then some 0 else k3 ()) fun (y12 : Int32) => if (im_i (im_setI M 89 0 y12) 89 0) ≤ 0 then bd1 (f_MDotRows_at p0 p1 p2 p3 p4 (im_setI M 89 0 y12)) fun (M19 : im_M) => bd2 (f_MDotRows_draw 1 M19) fun (x20 : Int32) (M20 : im_M) => some (x20, M20) else some (0, (im_setI M 89 0 y12))
theorem J_MDotRows_line_d0 : decode J_MDotRows_line.2.1 0 = .ok (.aload_n 0, 1) := by decide +kernel
theorem J_MDotRows_line_d1 : decode J_MDotRows_line.2.1 1 = .ok (.iload_n 1, 1) := by decide +kernel
theorem J_MDotRows_line_d2 : decode J_MDotRows_line.2.1 2 = .ok (.iload_n 2, 1) := by decide +kernel
theorem J_MDotRows_line_d3 : decode J_MDotRows_line.2.1 3 = .ok (.invokestatic 124, 3) := by decide +kernel
theorem J_MDotRows_line_d6 : decode J_MDotRows_line.2.1 6 = .ok (.ifCond .ne 24, 3) := by decide +kernel
theorem J_MDotRows_line_d9 : decode J_MDotRows_line.2.1 9 = .ok (.iload_n 3, 1) := by decide +kernel
theorem J_MDotRows_line_d10 : decode J_MDotRows_line.2.1 10 = .ok (.iload 4, 2) := by decide +kernel
theorem J_MDotRows_line_d12 : decode J_MDotRows_line.2.1 12 = .ok (.invokestatic 124, 3) := by decide +kernel
theorem J_MDotRows_line_d15 : decode J_MDotRows_line.2.1 15 = .ok (.ifCond .ne 15, 3) := by decide +kernel
theorem J_MDotRows_line_d18 : decode J_MDotRows_line.2.1 18 = .ok (.iload 5, 2) := by decide +kernel
theorem J_MDotRows_line_d20 : decode J_MDotRows_line.2.1 20 = .ok (.iconst 1, 1) := by decide +kernel
theorem J_MDotRows_line_d21 : decode J_MDotRows_line.2.1 21 = .ok (.sipush 200, 3) := by decide +kernel
theorem J_MDotRows_line_d24 : decode J_MDotRows_line.2.1 24 = .ok (.invokestatic 121, 3) := by decide +kernel
theorem J_MDotRows_line_d27 : decode J_MDotRows_line.2.1 27 = .ok (.ifCond .eq 7, 3) := by decide +kernel
theorem J_MDotRows_line_d30 : decode J_MDotRows_line.2.1 30 = .ok (.iconst 1, 1) := by decide +kernel
theorem J_MDotRows_line_d31 : decode J_MDotRows_line.2.1 31 = .ok (.goto 4, 3) := by decide +kernel
theorem J_MDotRows_line_d34 : decode J_MDotRows_line.2.1 34 = .ok (.iconst 0, 1) := by decide +kernel
theorem J_MDotRows_line_d35 : decode J_MDotRows_line.2.1 35 = .ok (.putfield 37, 3) := by decide +kernel
theorem J_MDotRows_line_d38 : decode J_MDotRows_line.2.1 38 = .ok (.aload_n 0, 1) := by decide +kernel
theorem J_MDotRows_line_d39 : decode J_MDotRows_line.2.1 39 = .ok (.getfield 37, 3) := by decide +kernel
theorem J_MDotRows_line_d42 : decode J_MDotRows_line.2.1 42 = .ok (.ifCond .le 5, 3) := by decide +kernel
theorem J_MDotRows_line_d45 : decode J_MDotRows_line.2.1 45 = .ok (.iconst 0, 1) := by decide +kernel
theorem J_MDotRows_line_d46 : decode J_MDotRows_line.2.1 46 = .ok (.ireturn, 1) := by decide +kernel
theorem J_MDotRows_line_d47 : decode J_MDotRows_line.2.1 47 = .ok (.aload_n 0, 1) := by decide +kernel
theorem J_MDotRows_line_d48 : decode J_MDotRows_line.2.1 48 = .ok (.iload_n 1, 1) := by decide +kernel
theorem J_MDotRows_line_d49 : decode J_MDotRows_line.2.1 49 = .ok (.iload_n 2, 1) := by decide +kernel
theorem J_MDotRows_line_d50 : decode J_MDotRows_line.2.1 50 = .ok (.iload_n 3, 1) := by decide +kernel
theorem J_MDotRows_line_d51 : decode J_MDotRows_line.2.1 51 = .ok (.iload 4, 2) := by decide +kernel
theorem J_MDotRows_line_d53 : decode J_MDotRows_line.2.1 53 = .ok (.iload 5, 2) := by decide +kernel
theorem J_MDotRows_line_d55 : decode J_MDotRows_line.2.1 55 = .ok (.invokevirtual 130, 3) := by decide +kernel
theorem J_MDotRows_line_d58 : decode J_MDotRows_line.2.1 58 = .ok (.aload_n 0, 1) := by decide +kernel
theorem J_MDotRows_line_d59 : decode J_MDotRows_line.2.1 59 = .ok (.iconst 1, 1) := by decide +kernel
theorem J_MDotRows_line_d60 : decode J_MDotRows_line.2.1 60 = .ok (.invokevirtual 134, 3) := by decide +kernel
theorem J_MDotRows_line_d63 : decode J_MDotRows_line.2.1 63 = .ok (.ireturn, 1) := by decide +kernel
theorem f_MDotRows_line_ok {L : Nat} {xs : Nat → Int32} {dep : Nat} {w : Bool} {p0 : Int32} {p1 : Int32} {p2 : Int32} {p3 : Int32} {p4 : Int32} {M : im_M} {Q : Int32 × im_M → Prop} (hM : lw_S w M) (h : ed (f_MDotRows_line p0 p1 p2 p3 p4 M) Q) : ia (tb_G L xs) (dep + 4) J_MDotRows_line (rwI w Q) (0, lv_args 0 [.ref 89, .int p0, .int p1, .int p2, .int p3, .int p4], [], M) := by
  have hS : im_St (tb_G L xs) (dep + 4) J_MDotRows_line (ia (tb_G L xs) (dep + 4) J_MDotRows_line (rwI w Q)) := ia_St
  unfold f_MDotRows_line at h
  have l0 : im_lk (lv_args 0 [.ref 89, .int p0, .int p1, .int p2, .int p3, .int p4]) 0 = some (.ref 89) := rfl
  have l1 : im_lk (lv_args 0 [.ref 89, .int p0, .int p1, .int p2, .int p3, .int p4]) 1 = some (.int p0) := rfl
  have l2 : im_lk (lv_args 0 [.ref 89, .int p0, .int p1, .int p2, .int p3, .int p4]) 2 = some (.int p1) := rfl
  have l3 : im_lk (lv_args 0 [.ref 89, .int p0, .int p1, .int p2, .int p3, .int p4]) 3 = some (.int p2) := rfl
  have l4 : im_lk (lv_args 0 [.ref 89, .int p0, .int p1, .int p2, .int p3, .int p4]) 4 = some (.int p3) := rfl
  have l5 : im_lk (lv_args 0 [.ref 89, .int p0, .int p1, .int p2, .int p3, .int p4]) 5 = some (.int p4) := rfl
  refine iq_aload_n hS 1 J_MDotRows_line_d0 l0 rfl ?_
  refine iq_iload_n hS 2 J_MDotRows_line_d1 l1 rfl ?_
  refine iq_iload_n hS 3 J_MDotRows_line_d2 l2 rfl ?_
  obtain ⟨Q1, hQ1, h⟩ := bd1_ed h
  refine iq_cpI hS 6 J_MDotRows_line_d3 rfl (pr_stat (vs := [_, _]) lc_12_124 lT_340 rfl rfl (by decide) rfl (Nat.le_of_ble_eq_true rfl) (Nat.le_of_ble_eq_true rfl)) (f_MDotRows_noPlace_ok (dep := dep + 3) hM h) rfl ?_
  intro x1 h
  replace h := hQ1 _ h
  obtain ⟨Q2, hQ2, h⟩ := bd1_ed h
  have J2 : ∀ (y12 : Int32) (L' : List (Nat × Value)), im_lk L' 0 = some (.ref 89) → im_lk L' 1 = some (.int p0) → im_lk L' 2 = some (.int p1) → im_lk L' 3 = some (.int p2) → im_lk L' 4 = some (.int p3) → im_lk L' 5 = some (.int p4) → Q2 y12 → ia (tb_G L xs) (dep + 4) J_MDotRows_line (rwI w Q) (35, L', [.int y12, .ref 89], M) := by
    intro y12 L' l13 l14 l15 l16 l17 l18 h
    replace h := hQ2 _ h
    refine iq_putI hS 38 J_MDotRows_line_d35 lf_12_37 (Or.inl rfl) rfl (ka_89 hM) rfl ?_
    refine iq_aload_n hS 39 J_MDotRows_line_d38 l13 rfl ?_
    refine iq_getI hS 42 J_MDotRows_line_d39 lf_12_37 (Or.inl rfl) (ka_89 (lw_sI hM)) rfl ?_
    refine iq_if_le hS 45 J_MDotRows_line_d42 (t := 47) rfl (fun q42 => ?_) rfl (fun q42 => ?_)
    · replace h := ed_pos q42 h
      refine iq_aload_n hS 48 J_MDotRows_line_d47 l13 rfl ?_
      refine iq_iload_n hS 49 J_MDotRows_line_d48 l14 rfl ?_
      refine iq_iload_n hS 50 J_MDotRows_line_d49 l15 rfl ?_
      refine iq_iload_n hS 51 J_MDotRows_line_d50 l16 rfl ?_
      refine iq_iload hS 53 J_MDotRows_line_d51 l17 rfl ?_
      refine iq_iload hS 55 J_MDotRows_line_d53 l18 rfl ?_
      obtain ⟨Q19, hQ19, h⟩ := bd1_ed h
      refine iq_cwV hS 58 J_MDotRows_line_d55 rfl (pr_inst (vs := [_, _, _, _, _]) lc_12_130 lT_341 rfl rfl (by decide) (by decide) rfl (Nat.le_of_ble_eq_true rfl) (Nat.le_of_ble_eq_true rfl) (fun _ => Or.inl (pr_b (ka_89 (lw_sI hM)) (by decide) rfl))) (f_MDotRows_at_ok (dep := dep + 3) (lw_sI hM) h) rfl ?_
      intro M19 hM19 h
      replace h := hQ19 _ h
      refine iq_aload_n hS 59 J_MDotRows_line_d58 l13 rfl ?_
      refine iq_iconst hS 60 J_MDotRows_line_d59 (v := 1) (by decide +kernel) rfl ?_
      obtain ⟨Q20, hQ20, h⟩ := bd2_ed h
      refine iq_cwI hS 63 J_MDotRows_line_d60 rfl (pr_inst (vs := [_]) lc_12_134 lT_342 rfl rfl (by decide) (by decide) rfl (Nat.le_of_ble_eq_true rfl) (Nat.le_of_ble_eq_true rfl) (fun _ => Or.inl (pr_b (ka_89 hM19) (by decide) rfl))) (f_MDotRows_draw_ok (dep := dep + 0) hM19 h) rfl ?_
      intro x20 M20 hM20 h
      replace h := hQ20 _ _ h
      exact iq_iret J_MDotRows_line_d63 rfl rfl ⟨_, rfl, hM20, ed_some h⟩
    · replace h := ed_neg q42 h
      refine iq_iconst hS 46 J_MDotRows_line_d45 (v := 0) (by decide +kernel) rfl ?_
      exact iq_iret J_MDotRows_line_d46 rfl rfl ⟨_, rfl, (lw_sI hM), ed_some h⟩
  obtain ⟨k3, Q3, hQ3, hk3, h⟩ := jn0_ed h
  have J3 : ∀  (L' : List (Nat × Value)), im_lk L' 0 = some (.ref 89) → im_lk L' 1 = some (.int p0) → im_lk L' 2 = some (.int p1) → im_lk L' 3 = some (.int p2) → im_lk L' 4 = some (.int p3) → im_lk L' 5 = some (.int p4) → Q3 () → ia (tb_G L xs) (dep + 4) J_MDotRows_line (rwI w Q) (30, L', [.ref 89], M) := by
    intro  L' l6 l7 l8 l9 l10 l11 h
    replace h := hQ3  h
    refine iq_iconst hS 31 J_MDotRows_line_d30 (v := 1) (by decide +kernel) rfl ?_
    refine iq_goto hS J_MDotRows_line_d31 (t := 35) rfl ?_
    exact J2 _ _ l6 l7 l8 l9 l10 l11 (ed_some h)
  refine iq_if_ne hS 9 J_MDotRows_line_d6 (t := 30) rfl (fun q6 => ?_) rfl (fun q6 => ?_)
  · replace h := ed_pos q6 h
    exact J3  _ l0 l1 l2 l3 l4 l5 (hk3  h)
  · replace h := ed_neg q6 h
    refine iq_iload_n hS 10 J_MDotRows_line_d9 l3 rfl ?_
    refine iq_iload hS 12 J_MDotRows_line_d10 l4 rfl ?_
    obtain ⟨Q4, hQ4, h⟩ := bd1_ed h
    refine iq_cpI hS 15 J_MDotRows_line_d12 rfl (pr_stat (vs := [_, _]) lc_12_124 lT_340 rfl rfl (by decide) rfl (Nat.le_of_ble_eq_true rfl) (Nat.le_of_ble_eq_true rfl)) (f_MDotRows_noPlace_ok (dep := dep + 3) hM h) rfl ?_
    intro x4 h
    replace h := hQ4 _ h
    refine iq_if_ne hS 18 J_MDotRows_line_d15 (t := 30) rfl (fun q15 => ?_) rfl (fun q15 => ?_)
    · replace h := ed_pos q15 h
      exact J3  _ l0 l1 l2 l3 l4 l5 (hk3  h)
    · replace h := ed_neg q15 h
      refine iq_iload hS 20 J_MDotRows_line_d18 l5 rfl ?_
      refine iq_iconst hS 21 J_MDotRows_line_d20 (v := 1) (by decide +kernel) rfl ?_
      refine iq_sipush hS 24 J_MDotRows_line_d21 (v := 200) (by decide +kernel) rfl ?_
      obtain ⟨Q5, hQ5, h⟩ := bd1_ed h
      refine iq_cpI hS 27 J_MDotRows_line_d24 rfl (pr_stat (vs := [_, _, _]) lc_12_121 lT_273 rfl rfl (by decide) rfl (Nat.le_of_ble_eq_true rfl) (Nat.le_of_ble_eq_true rfl)) (f_MDotRows_isNot_ok (dep := dep + 3) hM h) rfl ?_
      intro x5 h
      replace h := hQ5 _ h
      refine iq_if_eq hS 30 J_MDotRows_line_d27 (t := 34) rfl (fun q27 => ?_) rfl (fun q27 => ?_)
      · replace h := ed_pos q27 h
        refine iq_iconst hS 35 J_MDotRows_line_d34 (v := 0) (by decide +kernel) rfl ?_
        exact J2 _ _ l0 l1 l2 l3 l4 l5 (ed_some h)
      · replace h := ed_neg q27 h
        exact J3  _ l0 l1 l2 l3 l4 l5 (hk3  h)
theorem f_MDotRows_line_fr {p0 : Int32} {p1 : Int32} {p2 : Int32} {p3 : Int32} {p4 : Int32} {M : im_M} {r : Int32 × im_M} (h : f_MDotRows_line p0 p1 p2 p3 p4 M = some r) : fr 1237940039285380274899124224 [(89, 0), (89, 10), (89, 11), (89, 12), (89, 13), (89, 14)] M r.2 := by
  replace h : ed (f_MDotRows_line p0 p1 p2 p3 p4 M) (fun x => x = r) := ⟨r, h, rfl⟩
  unfold f_MDotRows_line at h
  obtain ⟨Q1, hQ1, h⟩ := bd1_ed h
  obtain ⟨x1, e1, h⟩ := h
  replace h := hQ1 _ h
  obtain ⟨Q2, hQ2, h⟩ := bd1_ed h
  have J2 : ∀ (y12 : Int32), Q2 y12 → fr 1237940039285380274899124224 [(89, 0), (89, 10), (89, 11), (89, 12), (89, 13), (89, 14)] M r.2 := by
    intro y12 h
    replace h := hQ2 _ h
    by_cases q42 : (im_i (im_setI M 89 0 y12) 89 0) ≤ 0
    · replace h := ed_pos q42 h
      obtain ⟨Q19, hQ19, h⟩ := bd1_ed h
      obtain ⟨M19, e19, h⟩ := h
      replace h := hQ19 _ h
      obtain ⟨Q20, hQ20, h⟩ := bd2_ed h
      obtain ⟨⟨x20, M20⟩, e20, h⟩ := h
      replace h := hQ20 _ _ h
      exact fr_ret h (fr_tr (fr_mono (by decide) (by decide +kernel) (f_MDotRows_draw_fr e20)) (fr_tr (fr_mono (by decide) (by decide +kernel) (f_MDotRows_at_fr e19)) (fr_F (by decide) fr_refl)))
    · replace h := ed_neg q42 h
      exact fr_ret h (fr_F (by decide) fr_refl)
  obtain ⟨k3, Q3, hQ3, hk3, h⟩ := jn0_ed h
  have J3 : Q3 () → fr 1237940039285380274899124224 [(89, 0), (89, 10), (89, 11), (89, 12), (89, 13), (89, 14)] M r.2 := by
    intro  h
    replace h := hQ3  h
    exact J2 _ (ed_some h)
  by_cases q6 : ¬ x1 = 0
  · replace h := ed_pos q6 h
    exact J3  (hk3  h)
  · replace h := ed_neg q6 h
    obtain ⟨Q4, hQ4, h⟩ := bd1_ed h
    obtain ⟨x4, e4, h⟩ := h
    replace h := hQ4 _ h
    by_cases q15 : ¬ x4 = 0
    · replace h := ed_pos q15 h
      exact J3  (hk3  h)
    · replace h := ed_neg q15 h
      obtain ⟨Q5, hQ5, h⟩ := bd1_ed h
      obtain ⟨x5, e5, h⟩ := h
      replace h := hQ5 _ h
      by_cases q27 : x5 = 0
      · replace h := ed_pos q27 h
        exact J2 _ (ed_some h)
      · replace h := ed_neg q27 h
        exact J3  (hk3  h)
noncomputable def f_MDotRows_picture (p0 : Int32) (p1 : Int32) (p2 : Int32) (M : im_M) : Option (Int32 × im_M) := bd1 (f_MDotRows_noPlace p0 p1 M) fun (x1 : Int32) => bd1 (jn0 (fun (_ : Unit) => some 1) fun k3 => if ¬ x1 = 0 then k3 () else bd1 (f_MDotRows_isNot p2 1 2048 M) fun (x4 : Int32) => if x4 = 0 then gd (¬ ((p2 + 7) / 8) = (0 : Int32)) <| if ((im_i M 89 7) - (im_i M 89 7) / ((p2 + 7) / 8) * ((p2 + 7) / 8)) = 0 then some 0 else some 2 else k3 ()) fun (y9 : Int32) => if (im_i (im_setI M 89 0 y9) 89 0) ≤ 0 then bd1 (f_MDotRows_at p0 p1 p2 0 0 (im_setI M 89 0 y9)) fun (M14 : im_M) => bd2 (f_MDotRows_draw 6 M14) fun (x15 : Int32) (M15 : im_M) => some (x15, M15) else some (0, (im_setI M 89 0 y9))
theorem J_MDotRows_picture_d0 : decode J_MDotRows_picture.2.1 0 = .ok (.aload_n 0, 1) := by decide +kernel
theorem J_MDotRows_picture_d1 : decode J_MDotRows_picture.2.1 1 = .ok (.iload_n 1, 1) := by decide +kernel
theorem J_MDotRows_picture_d2 : decode J_MDotRows_picture.2.1 2 = .ok (.iload_n 2, 1) := by decide +kernel
theorem J_MDotRows_picture_d3 : decode J_MDotRows_picture.2.1 3 = .ok (.invokestatic 124, 3) := by decide +kernel
theorem J_MDotRows_picture_d6 : decode J_MDotRows_picture.2.1 6 = .ok (.ifCond .ne 14, 3) := by decide +kernel
theorem J_MDotRows_picture_d9 : decode J_MDotRows_picture.2.1 9 = .ok (.iload_n 3, 1) := by decide +kernel
theorem J_MDotRows_picture_d10 : decode J_MDotRows_picture.2.1 10 = .ok (.iconst 1, 1) := by decide +kernel
theorem J_MDotRows_picture_d11 : decode J_MDotRows_picture.2.1 11 = .ok (.sipush 2048, 3) := by decide +kernel
theorem J_MDotRows_picture_d14 : decode J_MDotRows_picture.2.1 14 = .ok (.invokestatic 121, 3) := by decide +kernel
theorem J_MDotRows_picture_d17 : decode J_MDotRows_picture.2.1 17 = .ok (.ifCond .eq 7, 3) := by decide +kernel
theorem J_MDotRows_picture_d20 : decode J_MDotRows_picture.2.1 20 = .ok (.iconst 1, 1) := by decide +kernel
theorem J_MDotRows_picture_d21 : decode J_MDotRows_picture.2.1 21 = .ok (.goto 23, 3) := by decide +kernel
theorem J_MDotRows_picture_d24 : decode J_MDotRows_picture.2.1 24 = .ok (.aload_n 0, 1) := by decide +kernel
theorem J_MDotRows_picture_d25 : decode J_MDotRows_picture.2.1 25 = .ok (.getfield 47, 3) := by decide +kernel
theorem J_MDotRows_picture_d28 : decode J_MDotRows_picture.2.1 28 = .ok (.iload_n 3, 1) := by decide +kernel
theorem J_MDotRows_picture_d29 : decode J_MDotRows_picture.2.1 29 = .ok (.bipush 7, 2) := by decide +kernel
theorem J_MDotRows_picture_d31 : decode J_MDotRows_picture.2.1 31 = .ok (.iadd, 1) := by decide +kernel
theorem J_MDotRows_picture_d32 : decode J_MDotRows_picture.2.1 32 = .ok (.bipush 8, 2) := by decide +kernel
theorem J_MDotRows_picture_d34 : decode J_MDotRows_picture.2.1 34 = .ok (.idiv, 1) := by decide +kernel
theorem J_MDotRows_picture_d35 : decode J_MDotRows_picture.2.1 35 = .ok (.irem, 1) := by decide +kernel
theorem J_MDotRows_picture_d36 : decode J_MDotRows_picture.2.1 36 = .ok (.ifCond .eq 7, 3) := by decide +kernel
theorem J_MDotRows_picture_d39 : decode J_MDotRows_picture.2.1 39 = .ok (.iconst 2, 1) := by decide +kernel
theorem J_MDotRows_picture_d40 : decode J_MDotRows_picture.2.1 40 = .ok (.goto 4, 3) := by decide +kernel
theorem J_MDotRows_picture_d43 : decode J_MDotRows_picture.2.1 43 = .ok (.iconst 0, 1) := by decide +kernel
theorem J_MDotRows_picture_d44 : decode J_MDotRows_picture.2.1 44 = .ok (.putfield 37, 3) := by decide +kernel
theorem J_MDotRows_picture_d47 : decode J_MDotRows_picture.2.1 47 = .ok (.aload_n 0, 1) := by decide +kernel
theorem J_MDotRows_picture_d48 : decode J_MDotRows_picture.2.1 48 = .ok (.getfield 37, 3) := by decide +kernel
theorem J_MDotRows_picture_d51 : decode J_MDotRows_picture.2.1 51 = .ok (.ifCond .le 5, 3) := by decide +kernel
theorem J_MDotRows_picture_d54 : decode J_MDotRows_picture.2.1 54 = .ok (.iconst 0, 1) := by decide +kernel
theorem J_MDotRows_picture_d55 : decode J_MDotRows_picture.2.1 55 = .ok (.ireturn, 1) := by decide +kernel
theorem J_MDotRows_picture_d56 : decode J_MDotRows_picture.2.1 56 = .ok (.aload_n 0, 1) := by decide +kernel
theorem J_MDotRows_picture_d57 : decode J_MDotRows_picture.2.1 57 = .ok (.iload_n 1, 1) := by decide +kernel
theorem J_MDotRows_picture_d58 : decode J_MDotRows_picture.2.1 58 = .ok (.iload_n 2, 1) := by decide +kernel
theorem J_MDotRows_picture_d59 : decode J_MDotRows_picture.2.1 59 = .ok (.iload_n 3, 1) := by decide +kernel
theorem J_MDotRows_picture_d60 : decode J_MDotRows_picture.2.1 60 = .ok (.iconst 0, 1) := by decide +kernel
theorem J_MDotRows_picture_d61 : decode J_MDotRows_picture.2.1 61 = .ok (.iconst 0, 1) := by decide +kernel
theorem J_MDotRows_picture_d62 : decode J_MDotRows_picture.2.1 62 = .ok (.invokevirtual 130, 3) := by decide +kernel
theorem J_MDotRows_picture_d65 : decode J_MDotRows_picture.2.1 65 = .ok (.aload_n 0, 1) := by decide +kernel
theorem J_MDotRows_picture_d66 : decode J_MDotRows_picture.2.1 66 = .ok (.bipush 6, 2) := by decide +kernel
theorem J_MDotRows_picture_d68 : decode J_MDotRows_picture.2.1 68 = .ok (.invokevirtual 134, 3) := by decide +kernel
theorem J_MDotRows_picture_d71 : decode J_MDotRows_picture.2.1 71 = .ok (.ireturn, 1) := by decide +kernel
theorem f_MDotRows_picture_ok {L : Nat} {xs : Nat → Int32} {dep : Nat} {w : Bool} {p0 : Int32} {p1 : Int32} {p2 : Int32} {M : im_M} {Q : Int32 × im_M → Prop} (hM : lw_S w M) (h : ed (f_MDotRows_picture p0 p1 p2 M) Q) : ia (tb_G L xs) (dep + 4) J_MDotRows_picture (rwI w Q) (0, lv_args 0 [.ref 89, .int p0, .int p1, .int p2], [], M) := by
  have hS : im_St (tb_G L xs) (dep + 4) J_MDotRows_picture (ia (tb_G L xs) (dep + 4) J_MDotRows_picture (rwI w Q)) := ia_St
  unfold f_MDotRows_picture at h
  have l0 : im_lk (lv_args 0 [.ref 89, .int p0, .int p1, .int p2]) 0 = some (.ref 89) := rfl
  have l1 : im_lk (lv_args 0 [.ref 89, .int p0, .int p1, .int p2]) 1 = some (.int p0) := rfl
  have l2 : im_lk (lv_args 0 [.ref 89, .int p0, .int p1, .int p2]) 2 = some (.int p1) := rfl
  have l3 : im_lk (lv_args 0 [.ref 89, .int p0, .int p1, .int p2]) 3 = some (.int p2) := rfl
  refine iq_aload_n hS 1 J_MDotRows_picture_d0 l0 rfl ?_
  refine iq_iload_n hS 2 J_MDotRows_picture_d1 l1 rfl ?_
  refine iq_iload_n hS 3 J_MDotRows_picture_d2 l2 rfl ?_
  obtain ⟨Q1, hQ1, h⟩ := bd1_ed h
  refine iq_cpI hS 6 J_MDotRows_picture_d3 rfl (pr_stat (vs := [_, _]) lc_12_124 lT_340 rfl rfl (by decide) rfl (Nat.le_of_ble_eq_true rfl) (Nat.le_of_ble_eq_true rfl)) (f_MDotRows_noPlace_ok (dep := dep + 3) hM h) rfl ?_
  intro x1 h
  replace h := hQ1 _ h
  obtain ⟨Q2, hQ2, h⟩ := bd1_ed h
  have J2 : ∀ (y9 : Int32) (L' : List (Nat × Value)), im_lk L' 0 = some (.ref 89) → im_lk L' 1 = some (.int p0) → im_lk L' 2 = some (.int p1) → im_lk L' 3 = some (.int p2) → Q2 y9 → ia (tb_G L xs) (dep + 4) J_MDotRows_picture (rwI w Q) (44, L', [.int y9, .ref 89], M) := by
    intro y9 L' l10 l11 l12 l13 h
    replace h := hQ2 _ h
    refine iq_putI hS 47 J_MDotRows_picture_d44 lf_12_37 (Or.inl rfl) rfl (ka_89 hM) rfl ?_
    refine iq_aload_n hS 48 J_MDotRows_picture_d47 l10 rfl ?_
    refine iq_getI hS 51 J_MDotRows_picture_d48 lf_12_37 (Or.inl rfl) (ka_89 (lw_sI hM)) rfl ?_
    refine iq_if_le hS 54 J_MDotRows_picture_d51 (t := 56) rfl (fun q51 => ?_) rfl (fun q51 => ?_)
    · replace h := ed_pos q51 h
      refine iq_aload_n hS 57 J_MDotRows_picture_d56 l10 rfl ?_
      refine iq_iload_n hS 58 J_MDotRows_picture_d57 l11 rfl ?_
      refine iq_iload_n hS 59 J_MDotRows_picture_d58 l12 rfl ?_
      refine iq_iload_n hS 60 J_MDotRows_picture_d59 l13 rfl ?_
      refine iq_iconst hS 61 J_MDotRows_picture_d60 (v := 0) (by decide +kernel) rfl ?_
      refine iq_iconst hS 62 J_MDotRows_picture_d61 (v := 0) (by decide +kernel) rfl ?_
      obtain ⟨Q14, hQ14, h⟩ := bd1_ed h
      refine iq_cwV hS 65 J_MDotRows_picture_d62 rfl (pr_inst (vs := [_, _, _, _, _]) lc_12_130 lT_341 rfl rfl (by decide) (by decide) rfl (Nat.le_of_ble_eq_true rfl) (Nat.le_of_ble_eq_true rfl) (fun _ => Or.inl (pr_b (ka_89 (lw_sI hM)) (by decide) rfl))) (f_MDotRows_at_ok (dep := dep + 3) (lw_sI hM) h) rfl ?_
      intro M14 hM14 h
      replace h := hQ14 _ h
      refine iq_aload_n hS 66 J_MDotRows_picture_d65 l10 rfl ?_
      refine iq_bipush hS 68 J_MDotRows_picture_d66 (v := 6) (by decide +kernel) rfl ?_
      obtain ⟨Q15, hQ15, h⟩ := bd2_ed h
      refine iq_cwI hS 71 J_MDotRows_picture_d68 rfl (pr_inst (vs := [_]) lc_12_134 lT_342 rfl rfl (by decide) (by decide) rfl (Nat.le_of_ble_eq_true rfl) (Nat.le_of_ble_eq_true rfl) (fun _ => Or.inl (pr_b (ka_89 hM14) (by decide) rfl))) (f_MDotRows_draw_ok (dep := dep + 0) hM14 h) rfl ?_
      intro x15 M15 hM15 h
      replace h := hQ15 _ _ h
      exact iq_iret J_MDotRows_picture_d71 rfl rfl ⟨_, rfl, hM15, ed_some h⟩
    · replace h := ed_neg q51 h
      refine iq_iconst hS 55 J_MDotRows_picture_d54 (v := 0) (by decide +kernel) rfl ?_
      exact iq_iret J_MDotRows_picture_d55 rfl rfl ⟨_, rfl, (lw_sI hM), ed_some h⟩
  obtain ⟨k3, Q3, hQ3, hk3, h⟩ := jn0_ed h
  have J3 : ∀  (L' : List (Nat × Value)), im_lk L' 0 = some (.ref 89) → im_lk L' 1 = some (.int p0) → im_lk L' 2 = some (.int p1) → im_lk L' 3 = some (.int p2) → Q3 () → ia (tb_G L xs) (dep + 4) J_MDotRows_picture (rwI w Q) (20, L', [.ref 89], M) := by
    intro  L' l5 l6 l7 l8 h
    replace h := hQ3  h
    refine iq_iconst hS 21 J_MDotRows_picture_d20 (v := 1) (by decide +kernel) rfl ?_
    refine iq_goto hS J_MDotRows_picture_d21 (t := 44) rfl ?_
    exact J2 _ _ l5 l6 l7 l8 (ed_some h)
  refine iq_if_ne hS 9 J_MDotRows_picture_d6 (t := 20) rfl (fun q6 => ?_) rfl (fun q6 => ?_)
  · replace h := ed_pos q6 h
    exact J3  _ l0 l1 l2 l3 (hk3  h)
  · replace h := ed_neg q6 h
    refine iq_iload_n hS 10 J_MDotRows_picture_d9 l3 rfl ?_
    refine iq_iconst hS 11 J_MDotRows_picture_d10 (v := 1) (by decide +kernel) rfl ?_
    refine iq_sipush hS 14 J_MDotRows_picture_d11 (v := 2048) (by decide +kernel) rfl ?_
    obtain ⟨Q4, hQ4, h⟩ := bd1_ed h
    refine iq_cpI hS 17 J_MDotRows_picture_d14 rfl (pr_stat (vs := [_, _, _]) lc_12_121 lT_273 rfl rfl (by decide) rfl (Nat.le_of_ble_eq_true rfl) (Nat.le_of_ble_eq_true rfl)) (f_MDotRows_isNot_ok (dep := dep + 3) hM h) rfl ?_
    intro x4 h
    replace h := hQ4 _ h
    refine iq_if_eq hS 20 J_MDotRows_picture_d17 (t := 24) rfl (fun q17 => ?_) rfl (fun q17 => ?_)
    · replace h := ed_pos q17 h
      refine iq_aload_n hS 25 J_MDotRows_picture_d24 l0 rfl ?_
      refine iq_getI hS 28 J_MDotRows_picture_d25 lf_12_47 (Or.inl rfl) (ka_89 hM) rfl ?_
      refine iq_iload_n hS 29 J_MDotRows_picture_d28 l3 rfl ?_
      refine iq_bipush hS 31 J_MDotRows_picture_d29 (v := 7) (by decide +kernel) rfl ?_
      refine iq_iadd hS 32 J_MDotRows_picture_d31 rfl ?_
      refine iq_bipush hS 34 J_MDotRows_picture_d32 (v := 8) (by decide +kernel) rfl ?_
      refine iq_idiv hS 35 J_MDotRows_picture_d34 (by decide) rfl ?_
      obtain ⟨g35, h⟩ := ed_gd h
      refine iq_irem hS 36 J_MDotRows_picture_d35 g35 rfl ?_
      refine iq_if_eq hS 39 J_MDotRows_picture_d36 (t := 43) rfl (fun q36 => ?_) rfl (fun q36 => ?_)
      · replace h := ed_pos q36 h
        refine iq_iconst hS 44 J_MDotRows_picture_d43 (v := 0) (by decide +kernel) rfl ?_
        exact J2 _ _ l0 l1 l2 l3 (ed_some h)
      · replace h := ed_neg q36 h
        refine iq_iconst hS 40 J_MDotRows_picture_d39 (v := 2) (by decide +kernel) rfl ?_
        refine iq_goto hS J_MDotRows_picture_d40 (t := 44) rfl ?_
        exact J2 _ _ l0 l1 l2 l3 (ed_some h)
    · replace h := ed_neg q17 h
      exact J3  _ l0 l1 l2 l3 (hk3  h)
theorem f_MDotRows_picture_fr {p0 : Int32} {p1 : Int32} {p2 : Int32} {M : im_M} {r : Int32 × im_M} (h : f_MDotRows_picture p0 p1 p2 M = some r) : fr 1237940039285380274899124224 [(89, 0), (89, 10), (89, 11), (89, 12), (89, 13), (89, 14)] M r.2 := by
  replace h : ed (f_MDotRows_picture p0 p1 p2 M) (fun x => x = r) := ⟨r, h, rfl⟩
  unfold f_MDotRows_picture at h
  obtain ⟨Q1, hQ1, h⟩ := bd1_ed h
  obtain ⟨x1, e1, h⟩ := h
  replace h := hQ1 _ h
  obtain ⟨Q2, hQ2, h⟩ := bd1_ed h
  have J2 : ∀ (y9 : Int32), Q2 y9 → fr 1237940039285380274899124224 [(89, 0), (89, 10), (89, 11), (89, 12), (89, 13), (89, 14)] M r.2 := by
    intro y9 h
    replace h := hQ2 _ h
    by_cases q51 : (im_i (im_setI M 89 0 y9) 89 0) ≤ 0
    · replace h := ed_pos q51 h
      obtain ⟨Q14, hQ14, h⟩ := bd1_ed h
      obtain ⟨M14, e14, h⟩ := h
      replace h := hQ14 _ h
      obtain ⟨Q15, hQ15, h⟩ := bd2_ed h
      obtain ⟨⟨x15, M15⟩, e15, h⟩ := h
      replace h := hQ15 _ _ h
      exact fr_ret h (fr_tr (fr_mono (by decide) (by decide +kernel) (f_MDotRows_draw_fr e15)) (fr_tr (fr_mono (by decide) (by decide +kernel) (f_MDotRows_at_fr e14)) (fr_F (by decide) fr_refl)))
    · replace h := ed_neg q51 h
      exact fr_ret h (fr_F (by decide) fr_refl)
  obtain ⟨k3, Q3, hQ3, hk3, h⟩ := jn0_ed h
  have J3 : Q3 () → fr 1237940039285380274899124224 [(89, 0), (89, 10), (89, 11), (89, 12), (89, 13), (89, 14)] M r.2 := by
    intro  h
    replace h := hQ3  h
    exact J2 _ (ed_some h)
  by_cases q6 : ¬ x1 = 0
  · replace h := ed_pos q6 h
    exact J3  (hk3  h)
  · replace h := ed_neg q6 h
    obtain ⟨Q4, hQ4, h⟩ := bd1_ed h
    obtain ⟨x4, e4, h⟩ := h
    replace h := hQ4 _ h
    by_cases q17 : x4 = 0
    · replace h := ed_pos q17 h
      obtain ⟨g35, h⟩ := ed_gd h
      by_cases q36 : ((im_i M 89 7) - (im_i M 89 7) / ((p2 + 7) / 8) * ((p2 + 7) / 8)) = 0
      · replace h := ed_pos q36 h
        exact J2 _ (ed_some h)
      · replace h := ed_neg q36 h
        exact J2 _ (ed_some h)
    · replace h := ed_neg q17 h
      exact J3  (hk3  h)
noncomputable def f_M_draw (p0 : Int32) (M : im_M) : Option (Int32 × im_M) := bd2 (f_MScriptRows_order p0 4 M) fun (x1 : Int32) (M1 : im_M) => bd2 (f_MDotRows_way x1 M1) fun (x2 : Int32) (M2 : im_M) => bd2 (f_MDotRows_wipe M2) fun (x3 : Int32) (M3 : im_M) => bd2 (f_MScriptRows_order p0 1 M3) fun (x4 : Int32) (M4 : im_M) => bd2 (f_MScriptRows_order p0 2 M4) fun (x5 : Int32) (M5 : im_M) => bd2 (f_MScriptRows_order p0 3 M5) fun (x6 : Int32) (M6 : im_M) => bd2 (f_MScriptRows_order p0 5 M6) fun (x7 : Int32) (M7 : im_M) => bd2 (f_MScriptRows_order p0 6 M7) fun (x8 : Int32) (M8 : im_M) => bd2 (f_MScriptRows_order p0 7 M8) fun (x9 : Int32) (M9 : im_M) => bd2 (f_MScriptRows_order p0 0 M9) fun (x10 : Int32) (M10 : im_M) => if x10 = 0 then bd1 (f_M_draftData p0 M10) fun (M11 : im_M) => bd2 (f_MDotRows_text x4 x5 x7 (((16 : Int32) * x8) + x9) x6 M11) fun (x12 : Int32) (M12 : im_M) => some (x12, M12) else if x10 = 1 then bd2 (f_M_draftRow p0 M10) fun (x13 : Int32) (M13 : im_M) => if x13 = 0 then some ((-1), M13) else bd2 (f_MDotRows_bars x4 x5 x8 x7 x6 M13) fun (x14 : Int32) (M14 : im_M) => some (x14, M14) else if x10 = 2 then bd1 (f_M_draftThirteen p0 M10) fun (M15 : im_M) => bd2 (f_MDotRows_bars x4 x5 x8 x7 x6 M15) fun (x16 : Int32) (M16 : im_M) => some (x16, M16) else if x10 = 3 then bd2 (f_M_draftSymbol p0 M10) fun (x17 : Int32) (M17 : im_M) => bd2 (f_MDotRows_square x4 x5 x17 x7 x6 M17) fun (x18 : Int32) (M18 : im_M) => some (x18, M18) else if x10 = 4 then bd2 (f_MDotRows_frame x4 x5 x7 x8 x9 M10) fun (x19 : Int32) (M19 : im_M) => some (x19, M19) else if x10 = 5 then bd2 (f_MDotRows_ellipse x4 x5 x7 x8 x9 M10) fun (x20 : Int32) (M20 : im_M) => some (x20, M20) else if x10 = 6 then bd2 (f_MDotRows_line x4 x5 (x4 + x7) (x5 + x8) x9 M10) fun (x21 : Int32) (M21 : im_M) => some (x21, M21) else bd1 (f_M_draftData p0 M10) fun (M22 : im_M) => bd2 (f_MDotRows_picture x4 x5 x7 M22) fun (x23 : Int32) (M23 : im_M) => some (x23, M23)
theorem J_M_draw_d0 : decode J_M_draw.2.1 0 = .ok (.aload_n 0, 1) := by decide +kernel
theorem J_M_draw_d1 : decode J_M_draw.2.1 1 = .ok (.getfield 23, 3) := by decide +kernel
theorem J_M_draw_d4 : decode J_M_draw.2.1 4 = .ok (.aload_n 0, 1) := by decide +kernel
theorem J_M_draw_d5 : decode J_M_draw.2.1 5 = .ok (.getfield 16, 3) := by decide +kernel
theorem J_M_draw_d8 : decode J_M_draw.2.1 8 = .ok (.iload_n 1, 1) := by decide +kernel
theorem J_M_draw_d9 : decode J_M_draw.2.1 9 = .ok (.iconst 4, 1) := by decide +kernel
theorem J_M_draw_d10 : decode J_M_draw.2.1 10 = .ok (.invokevirtual 97, 3) := by decide +kernel
theorem J_M_draw_d13 : decode J_M_draw.2.1 13 = .ok (.invokevirtual 146, 3) := by decide +kernel
theorem J_M_draw_d16 : decode J_M_draw.2.1 16 = .ok (.istore_n 2, 1) := by decide +kernel
theorem J_M_draw_d17 : decode J_M_draw.2.1 17 = .ok (.aload_n 0, 1) := by decide +kernel
theorem J_M_draw_d18 : decode J_M_draw.2.1 18 = .ok (.getfield 23, 3) := by decide +kernel
theorem J_M_draw_d21 : decode J_M_draw.2.1 21 = .ok (.invokevirtual 149, 3) := by decide +kernel
theorem J_M_draw_d24 : decode J_M_draw.2.1 24 = .ok (.istore_n 2, 1) := by decide +kernel
theorem J_M_draw_d25 : decode J_M_draw.2.1 25 = .ok (.aload_n 0, 1) := by decide +kernel
theorem J_M_draw_d26 : decode J_M_draw.2.1 26 = .ok (.getfield 16, 3) := by decide +kernel
theorem J_M_draw_d29 : decode J_M_draw.2.1 29 = .ok (.iload_n 1, 1) := by decide +kernel
theorem J_M_draw_d30 : decode J_M_draw.2.1 30 = .ok (.iconst 1, 1) := by decide +kernel
theorem J_M_draw_d31 : decode J_M_draw.2.1 31 = .ok (.invokevirtual 97, 3) := by decide +kernel
theorem J_M_draw_d34 : decode J_M_draw.2.1 34 = .ok (.istore_n 3, 1) := by decide +kernel
theorem J_M_draw_d35 : decode J_M_draw.2.1 35 = .ok (.aload_n 0, 1) := by decide +kernel
theorem J_M_draw_d36 : decode J_M_draw.2.1 36 = .ok (.getfield 16, 3) := by decide +kernel
theorem J_M_draw_d39 : decode J_M_draw.2.1 39 = .ok (.iload_n 1, 1) := by decide +kernel
theorem J_M_draw_d40 : decode J_M_draw.2.1 40 = .ok (.iconst 2, 1) := by decide +kernel
theorem J_M_draw_d41 : decode J_M_draw.2.1 41 = .ok (.invokevirtual 97, 3) := by decide +kernel
theorem J_M_draw_d44 : decode J_M_draw.2.1 44 = .ok (.istore 4, 2) := by decide +kernel
theorem J_M_draw_d46 : decode J_M_draw.2.1 46 = .ok (.aload_n 0, 1) := by decide +kernel
theorem J_M_draw_d47 : decode J_M_draw.2.1 47 = .ok (.getfield 16, 3) := by decide +kernel
theorem J_M_draw_d50 : decode J_M_draw.2.1 50 = .ok (.iload_n 1, 1) := by decide +kernel
theorem J_M_draw_d51 : decode J_M_draw.2.1 51 = .ok (.iconst 3, 1) := by decide +kernel
theorem J_M_draw_d52 : decode J_M_draw.2.1 52 = .ok (.invokevirtual 97, 3) := by decide +kernel
theorem J_M_draw_d55 : decode J_M_draw.2.1 55 = .ok (.istore 5, 2) := by decide +kernel
theorem J_M_draw_d57 : decode J_M_draw.2.1 57 = .ok (.aload_n 0, 1) := by decide +kernel
theorem J_M_draw_d58 : decode J_M_draw.2.1 58 = .ok (.getfield 16, 3) := by decide +kernel
theorem J_M_draw_d61 : decode J_M_draw.2.1 61 = .ok (.iload_n 1, 1) := by decide +kernel
theorem J_M_draw_d62 : decode J_M_draw.2.1 62 = .ok (.iconst 5, 1) := by decide +kernel
theorem J_M_draw_d63 : decode J_M_draw.2.1 63 = .ok (.invokevirtual 97, 3) := by decide +kernel
theorem J_M_draw_d66 : decode J_M_draw.2.1 66 = .ok (.istore 6, 2) := by decide +kernel
theorem J_M_draw_d68 : decode J_M_draw.2.1 68 = .ok (.aload_n 0, 1) := by decide +kernel
theorem J_M_draw_d69 : decode J_M_draw.2.1 69 = .ok (.getfield 16, 3) := by decide +kernel
theorem J_M_draw_d72 : decode J_M_draw.2.1 72 = .ok (.iload_n 1, 1) := by decide +kernel
theorem J_M_draw_d73 : decode J_M_draw.2.1 73 = .ok (.bipush 6, 2) := by decide +kernel
theorem J_M_draw_d75 : decode J_M_draw.2.1 75 = .ok (.invokevirtual 97, 3) := by decide +kernel
theorem J_M_draw_d78 : decode J_M_draw.2.1 78 = .ok (.istore 7, 2) := by decide +kernel
theorem J_M_draw_d80 : decode J_M_draw.2.1 80 = .ok (.aload_n 0, 1) := by decide +kernel
theorem J_M_draw_d81 : decode J_M_draw.2.1 81 = .ok (.getfield 16, 3) := by decide +kernel
theorem J_M_draw_d84 : decode J_M_draw.2.1 84 = .ok (.iload_n 1, 1) := by decide +kernel
theorem J_M_draw_d85 : decode J_M_draw.2.1 85 = .ok (.bipush 7, 2) := by decide +kernel
theorem J_M_draw_d87 : decode J_M_draw.2.1 87 = .ok (.invokevirtual 97, 3) := by decide +kernel
theorem J_M_draw_d90 : decode J_M_draw.2.1 90 = .ok (.istore 8, 2) := by decide +kernel
theorem J_M_draw_d92 : decode J_M_draw.2.1 92 = .ok (.aload_n 0, 1) := by decide +kernel
theorem J_M_draw_d93 : decode J_M_draw.2.1 93 = .ok (.getfield 16, 3) := by decide +kernel
theorem J_M_draw_d96 : decode J_M_draw.2.1 96 = .ok (.iload_n 1, 1) := by decide +kernel
theorem J_M_draw_d97 : decode J_M_draw.2.1 97 = .ok (.iconst 0, 1) := by decide +kernel
theorem J_M_draw_d98 : decode J_M_draw.2.1 98 = .ok (.invokevirtual 97, 3) := by decide +kernel
theorem J_M_draw_d101 : decode J_M_draw.2.1 101 = .ok (.tableswitch 198 0 6 #[43, 71, 100, 122, 142, 159, 176], 43) := by decide +kernel
theorem J_M_draw_d144 : decode J_M_draw.2.1 144 = .ok (.aload_n 0, 1) := by decide +kernel
theorem J_M_draw_d145 : decode J_M_draw.2.1 145 = .ok (.iload_n 1, 1) := by decide +kernel
theorem J_M_draw_d146 : decode J_M_draw.2.1 146 = .ok (.invokevirtual 150, 3) := by decide +kernel
theorem J_M_draw_d149 : decode J_M_draw.2.1 149 = .ok (.aload_n 0, 1) := by decide +kernel
theorem J_M_draw_d150 : decode J_M_draw.2.1 150 = .ok (.getfield 23, 3) := by decide +kernel
theorem J_M_draw_d153 : decode J_M_draw.2.1 153 = .ok (.iload_n 3, 1) := by decide +kernel
theorem J_M_draw_d154 : decode J_M_draw.2.1 154 = .ok (.iload 4, 2) := by decide +kernel
theorem J_M_draw_d156 : decode J_M_draw.2.1 156 = .ok (.iload 6, 2) := by decide +kernel
theorem J_M_draw_d158 : decode J_M_draw.2.1 158 = .ok (.bipush 16, 2) := by decide +kernel
theorem J_M_draw_d160 : decode J_M_draw.2.1 160 = .ok (.iload 7, 2) := by decide +kernel
theorem J_M_draw_d162 : decode J_M_draw.2.1 162 = .ok (.imul, 1) := by decide +kernel
theorem J_M_draw_d163 : decode J_M_draw.2.1 163 = .ok (.iload 8, 2) := by decide +kernel
theorem J_M_draw_d165 : decode J_M_draw.2.1 165 = .ok (.iadd, 1) := by decide +kernel
theorem J_M_draw_d166 : decode J_M_draw.2.1 166 = .ok (.iload 5, 2) := by decide +kernel
theorem J_M_draw_d168 : decode J_M_draw.2.1 168 = .ok (.invokevirtual 153, 3) := by decide +kernel
theorem J_M_draw_d171 : decode J_M_draw.2.1 171 = .ok (.ireturn, 1) := by decide +kernel
theorem J_M_draw_d172 : decode J_M_draw.2.1 172 = .ok (.aload_n 0, 1) := by decide +kernel
theorem J_M_draw_d173 : decode J_M_draw.2.1 173 = .ok (.iload_n 1, 1) := by decide +kernel
theorem J_M_draw_d174 : decode J_M_draw.2.1 174 = .ok (.invokevirtual 157, 3) := by decide +kernel
theorem J_M_draw_d177 : decode J_M_draw.2.1 177 = .ok (.ifCond .eq 22, 3) := by decide +kernel
theorem J_M_draw_d180 : decode J_M_draw.2.1 180 = .ok (.aload_n 0, 1) := by decide +kernel
theorem J_M_draw_d181 : decode J_M_draw.2.1 181 = .ok (.getfield 23, 3) := by decide +kernel
theorem J_M_draw_d184 : decode J_M_draw.2.1 184 = .ok (.iload_n 3, 1) := by decide +kernel
theorem J_M_draw_d185 : decode J_M_draw.2.1 185 = .ok (.iload 4, 2) := by decide +kernel
theorem J_M_draw_d187 : decode J_M_draw.2.1 187 = .ok (.iload 7, 2) := by decide +kernel
theorem J_M_draw_d189 : decode J_M_draw.2.1 189 = .ok (.iload 6, 2) := by decide +kernel
theorem J_M_draw_d191 : decode J_M_draw.2.1 191 = .ok (.iload 5, 2) := by decide +kernel
theorem J_M_draw_d193 : decode J_M_draw.2.1 193 = .ok (.invokevirtual 161, 3) := by decide +kernel
theorem J_M_draw_d196 : decode J_M_draw.2.1 196 = .ok (.goto 4, 3) := by decide +kernel
theorem J_M_draw_d199 : decode J_M_draw.2.1 199 = .ok (.iconst (-1), 1) := by decide +kernel
theorem J_M_draw_d200 : decode J_M_draw.2.1 200 = .ok (.ireturn, 1) := by decide +kernel
theorem J_M_draw_d201 : decode J_M_draw.2.1 201 = .ok (.aload_n 0, 1) := by decide +kernel
theorem J_M_draw_d202 : decode J_M_draw.2.1 202 = .ok (.iload_n 1, 1) := by decide +kernel
theorem J_M_draw_d203 : decode J_M_draw.2.1 203 = .ok (.invokevirtual 163, 3) := by decide +kernel
theorem J_M_draw_d206 : decode J_M_draw.2.1 206 = .ok (.aload_n 0, 1) := by decide +kernel
theorem J_M_draw_d207 : decode J_M_draw.2.1 207 = .ok (.getfield 23, 3) := by decide +kernel
theorem J_M_draw_d210 : decode J_M_draw.2.1 210 = .ok (.iload_n 3, 1) := by decide +kernel
theorem J_M_draw_d211 : decode J_M_draw.2.1 211 = .ok (.iload 4, 2) := by decide +kernel
theorem J_M_draw_d213 : decode J_M_draw.2.1 213 = .ok (.iload 7, 2) := by decide +kernel
theorem J_M_draw_d215 : decode J_M_draw.2.1 215 = .ok (.iload 6, 2) := by decide +kernel
theorem J_M_draw_d217 : decode J_M_draw.2.1 217 = .ok (.iload 5, 2) := by decide +kernel
theorem J_M_draw_d219 : decode J_M_draw.2.1 219 = .ok (.invokevirtual 161, 3) := by decide +kernel
theorem J_M_draw_d222 : decode J_M_draw.2.1 222 = .ok (.ireturn, 1) := by decide +kernel
theorem J_M_draw_d223 : decode J_M_draw.2.1 223 = .ok (.aload_n 0, 1) := by decide +kernel
theorem J_M_draw_d224 : decode J_M_draw.2.1 224 = .ok (.getfield 23, 3) := by decide +kernel
theorem J_M_draw_d227 : decode J_M_draw.2.1 227 = .ok (.iload_n 3, 1) := by decide +kernel
theorem J_M_draw_d228 : decode J_M_draw.2.1 228 = .ok (.iload 4, 2) := by decide +kernel
theorem J_M_draw_d230 : decode J_M_draw.2.1 230 = .ok (.aload_n 0, 1) := by decide +kernel
theorem J_M_draw_d231 : decode J_M_draw.2.1 231 = .ok (.iload_n 1, 1) := by decide +kernel
theorem J_M_draw_d232 : decode J_M_draw.2.1 232 = .ok (.invokevirtual 166, 3) := by decide +kernel
theorem J_M_draw_d235 : decode J_M_draw.2.1 235 = .ok (.iload 6, 2) := by decide +kernel
theorem J_M_draw_d237 : decode J_M_draw.2.1 237 = .ok (.iload 5, 2) := by decide +kernel
theorem J_M_draw_d239 : decode J_M_draw.2.1 239 = .ok (.invokevirtual 169, 3) := by decide +kernel
theorem J_M_draw_d242 : decode J_M_draw.2.1 242 = .ok (.ireturn, 1) := by decide +kernel
theorem J_M_draw_d243 : decode J_M_draw.2.1 243 = .ok (.aload_n 0, 1) := by decide +kernel
theorem J_M_draw_d244 : decode J_M_draw.2.1 244 = .ok (.getfield 23, 3) := by decide +kernel
theorem J_M_draw_d247 : decode J_M_draw.2.1 247 = .ok (.iload_n 3, 1) := by decide +kernel
theorem J_M_draw_d248 : decode J_M_draw.2.1 248 = .ok (.iload 4, 2) := by decide +kernel
theorem J_M_draw_d250 : decode J_M_draw.2.1 250 = .ok (.iload 6, 2) := by decide +kernel
theorem J_M_draw_d252 : decode J_M_draw.2.1 252 = .ok (.iload 7, 2) := by decide +kernel
theorem J_M_draw_d254 : decode J_M_draw.2.1 254 = .ok (.iload 8, 2) := by decide +kernel
theorem J_M_draw_d256 : decode J_M_draw.2.1 256 = .ok (.invokevirtual 172, 3) := by decide +kernel
theorem J_M_draw_d259 : decode J_M_draw.2.1 259 = .ok (.ireturn, 1) := by decide +kernel
theorem J_M_draw_d260 : decode J_M_draw.2.1 260 = .ok (.aload_n 0, 1) := by decide +kernel
theorem J_M_draw_d261 : decode J_M_draw.2.1 261 = .ok (.getfield 23, 3) := by decide +kernel
theorem J_M_draw_d264 : decode J_M_draw.2.1 264 = .ok (.iload_n 3, 1) := by decide +kernel
theorem J_M_draw_d265 : decode J_M_draw.2.1 265 = .ok (.iload 4, 2) := by decide +kernel
theorem J_M_draw_d267 : decode J_M_draw.2.1 267 = .ok (.iload 6, 2) := by decide +kernel
theorem J_M_draw_d269 : decode J_M_draw.2.1 269 = .ok (.iload 7, 2) := by decide +kernel
theorem J_M_draw_d271 : decode J_M_draw.2.1 271 = .ok (.iload 8, 2) := by decide +kernel
theorem J_M_draw_d273 : decode J_M_draw.2.1 273 = .ok (.invokevirtual 175, 3) := by decide +kernel
theorem J_M_draw_d276 : decode J_M_draw.2.1 276 = .ok (.ireturn, 1) := by decide +kernel
theorem J_M_draw_d277 : decode J_M_draw.2.1 277 = .ok (.aload_n 0, 1) := by decide +kernel
theorem J_M_draw_d278 : decode J_M_draw.2.1 278 = .ok (.getfield 23, 3) := by decide +kernel
theorem J_M_draw_d281 : decode J_M_draw.2.1 281 = .ok (.iload_n 3, 1) := by decide +kernel
theorem J_M_draw_d282 : decode J_M_draw.2.1 282 = .ok (.iload 4, 2) := by decide +kernel
theorem J_M_draw_d284 : decode J_M_draw.2.1 284 = .ok (.iload_n 3, 1) := by decide +kernel
theorem J_M_draw_d285 : decode J_M_draw.2.1 285 = .ok (.iload 6, 2) := by decide +kernel
theorem J_M_draw_d287 : decode J_M_draw.2.1 287 = .ok (.iadd, 1) := by decide +kernel
theorem J_M_draw_d288 : decode J_M_draw.2.1 288 = .ok (.iload 4, 2) := by decide +kernel
theorem J_M_draw_d290 : decode J_M_draw.2.1 290 = .ok (.iload 7, 2) := by decide +kernel
theorem J_M_draw_d292 : decode J_M_draw.2.1 292 = .ok (.iadd, 1) := by decide +kernel
theorem J_M_draw_d293 : decode J_M_draw.2.1 293 = .ok (.iload 8, 2) := by decide +kernel
theorem J_M_draw_d295 : decode J_M_draw.2.1 295 = .ok (.invokevirtual 178, 3) := by decide +kernel
theorem J_M_draw_d298 : decode J_M_draw.2.1 298 = .ok (.ireturn, 1) := by decide +kernel
theorem J_M_draw_d299 : decode J_M_draw.2.1 299 = .ok (.aload_n 0, 1) := by decide +kernel
theorem J_M_draw_d300 : decode J_M_draw.2.1 300 = .ok (.iload_n 1, 1) := by decide +kernel
theorem J_M_draw_d301 : decode J_M_draw.2.1 301 = .ok (.invokevirtual 150, 3) := by decide +kernel
theorem J_M_draw_d304 : decode J_M_draw.2.1 304 = .ok (.aload_n 0, 1) := by decide +kernel
theorem J_M_draw_d305 : decode J_M_draw.2.1 305 = .ok (.getfield 23, 3) := by decide +kernel
theorem J_M_draw_d308 : decode J_M_draw.2.1 308 = .ok (.iload_n 3, 1) := by decide +kernel
theorem J_M_draw_d309 : decode J_M_draw.2.1 309 = .ok (.iload 4, 2) := by decide +kernel
theorem J_M_draw_d311 : decode J_M_draw.2.1 311 = .ok (.iload 6, 2) := by decide +kernel
theorem J_M_draw_d313 : decode J_M_draw.2.1 313 = .ok (.invokevirtual 181, 3) := by decide +kernel
theorem J_M_draw_d316 : decode J_M_draw.2.1 316 = .ok (.ireturn, 1) := by decide +kernel
theorem f_M_draw_ok {L : Nat} {xs : Nat → Int32} {dep : Nat} {w : Bool} {p0 : Int32} {M : im_M} {Q : Int32 × im_M → Prop} (hM : lw_S w M) (h : ed (f_M_draw p0 M) Q) : ia (tb_G L xs) (dep + 10) J_M_draw (rwI w Q) (0, lv_args 0 [.ref 69, .int p0], [], M) := by
  have hS : im_St (tb_G L xs) (dep + 10) J_M_draw (ia (tb_G L xs) (dep + 10) J_M_draw (rwI w Q)) := ia_St
  unfold f_M_draw at h
  have l0 : im_lk (lv_args 0 [.ref 69, .int p0]) 0 = some (.ref 69) := rfl
  have l1 : im_lk (lv_args 0 [.ref 69, .int p0]) 1 = some (.int p0) := rfl
  refine iq_aload_n hS 1 J_M_draw_d0 l0 rfl ?_
  refine iq_getR hS 4 J_M_draw_d1 lf_17_23 (Or.inl ⟨_, rfl⟩) (ka_69 hM) (ra_69_4 hM) rfl ?_
  refine iq_aload_n hS 5 J_M_draw_d4 l0 rfl ?_
  refine iq_getR hS 8 J_M_draw_d5 lf_17_16 (Or.inl ⟨_, rfl⟩) (ka_69 hM) (ra_69_3 hM) rfl ?_
  refine iq_iload_n hS 9 J_M_draw_d8 l1 rfl ?_
  refine iq_iconst hS 10 J_M_draw_d9 (v := 4) (by decide +kernel) rfl ?_
  obtain ⟨Q1, hQ1, h⟩ := bd2_ed h
  refine iq_cwI hS 13 J_M_draw_d10 rfl (pr_inst (vs := [_, _]) lc_17_97 lT_327 rfl rfl (by decide) (by decide) rfl (Nat.le_of_ble_eq_true rfl) (Nat.le_of_ble_eq_true rfl) (fun _ => Or.inl (pr_b (ka_71 hM) (by decide) rfl))) (f_MScriptRows_order_ok (dep := dep + 9) hM h) rfl ?_
  intro x1 M1 hM1 h
  replace h := hQ1 _ _ h
  obtain ⟨Q2, hQ2, h⟩ := bd2_ed h
  refine iq_cwI hS 16 J_M_draw_d13 rfl (pr_inst (vs := [_]) lc_17_146 lT_333 rfl rfl (by decide) (by decide) rfl (Nat.le_of_ble_eq_true rfl) (Nat.le_of_ble_eq_true rfl) (fun _ => Or.inl (pr_b (ka_89 hM1) (by decide) rfl))) (f_MDotRows_way_ok (dep := dep + 9) hM1 h) rfl ?_
  intro x2 M2 hM2 h
  replace h := hQ2 _ _ h
  refine iq_istore_n hS 17 J_M_draw_d16 (by decide) rfl ?_
  refine iq_aload_n hS 18 J_M_draw_d17 (lk_1r l0 (by decide)) rfl ?_
  refine iq_getR hS 21 J_M_draw_d18 lf_17_23 (Or.inl ⟨_, rfl⟩) (ka_69 hM2) (ra_69_4 hM2) rfl ?_
  obtain ⟨Q3, hQ3, h⟩ := bd2_ed h
  refine iq_cwI hS 24 J_M_draw_d21 rfl (pr_inst (vs := []) lc_17_149 lT_334 rfl rfl (by decide) (by decide) rfl (Nat.le_of_ble_eq_true rfl) (Nat.le_of_ble_eq_true rfl) (fun _ => Or.inl (pr_b (ka_89 hM2) (by decide) rfl))) (f_MDotRows_wipe_ok (dep := dep + 9) hM2 h) rfl ?_
  intro x3 M3 hM3 h
  replace h := hQ3 _ _ h
  refine iq_istore_n hS 25 J_M_draw_d24 (by decide) rfl ?_
  refine iq_aload_n hS 26 J_M_draw_d25 (lk_1r (lk_1r l0 (by decide)) (by decide)) rfl ?_
  refine iq_getR hS 29 J_M_draw_d26 lf_17_16 (Or.inl ⟨_, rfl⟩) (ka_69 hM3) (ra_69_3 hM3) rfl ?_
  refine iq_iload_n hS 30 J_M_draw_d29 (lk_1i (lk_1i l1 (by decide)) (by decide)) rfl ?_
  refine iq_iconst hS 31 J_M_draw_d30 (v := 1) (by decide +kernel) rfl ?_
  obtain ⟨Q4, hQ4, h⟩ := bd2_ed h
  refine iq_cwI hS 34 J_M_draw_d31 rfl (pr_inst (vs := [_, _]) lc_17_97 lT_327 rfl rfl (by decide) (by decide) rfl (Nat.le_of_ble_eq_true rfl) (Nat.le_of_ble_eq_true rfl) (fun _ => Or.inl (pr_b (ka_71 hM3) (by decide) rfl))) (f_MScriptRows_order_ok (dep := dep + 9) hM3 h) rfl ?_
  intro x4 M4 hM4 h
  replace h := hQ4 _ _ h
  refine iq_istore_n hS 35 J_M_draw_d34 (by decide) rfl ?_
  refine iq_aload_n hS 36 J_M_draw_d35 (lk_1r (lk_1r (lk_1r l0 (by decide)) (by decide)) (by decide)) rfl ?_
  refine iq_getR hS 39 J_M_draw_d36 lf_17_16 (Or.inl ⟨_, rfl⟩) (ka_69 hM4) (ra_69_3 hM4) rfl ?_
  refine iq_iload_n hS 40 J_M_draw_d39 (lk_1i (lk_1i (lk_1i l1 (by decide)) (by decide)) (by decide)) rfl ?_
  refine iq_iconst hS 41 J_M_draw_d40 (v := 2) (by decide +kernel) rfl ?_
  obtain ⟨Q5, hQ5, h⟩ := bd2_ed h
  refine iq_cwI hS 44 J_M_draw_d41 rfl (pr_inst (vs := [_, _]) lc_17_97 lT_327 rfl rfl (by decide) (by decide) rfl (Nat.le_of_ble_eq_true rfl) (Nat.le_of_ble_eq_true rfl) (fun _ => Or.inl (pr_b (ka_71 hM4) (by decide) rfl))) (f_MScriptRows_order_ok (dep := dep + 9) hM4 h) rfl ?_
  intro x5 M5 hM5 h
  replace h := hQ5 _ _ h
  refine iq_istore hS 46 J_M_draw_d44 (by decide) rfl ?_
  refine iq_aload_n hS 47 J_M_draw_d46 (lk_1r (lk_1r (lk_1r (lk_1r l0 (by decide)) (by decide)) (by decide)) (by decide)) rfl ?_
  refine iq_getR hS 50 J_M_draw_d47 lf_17_16 (Or.inl ⟨_, rfl⟩) (ka_69 hM5) (ra_69_3 hM5) rfl ?_
  refine iq_iload_n hS 51 J_M_draw_d50 (lk_1i (lk_1i (lk_1i (lk_1i l1 (by decide)) (by decide)) (by decide)) (by decide)) rfl ?_
  refine iq_iconst hS 52 J_M_draw_d51 (v := 3) (by decide +kernel) rfl ?_
  obtain ⟨Q6, hQ6, h⟩ := bd2_ed h
  refine iq_cwI hS 55 J_M_draw_d52 rfl (pr_inst (vs := [_, _]) lc_17_97 lT_327 rfl rfl (by decide) (by decide) rfl (Nat.le_of_ble_eq_true rfl) (Nat.le_of_ble_eq_true rfl) (fun _ => Or.inl (pr_b (ka_71 hM5) (by decide) rfl))) (f_MScriptRows_order_ok (dep := dep + 9) hM5 h) rfl ?_
  intro x6 M6 hM6 h
  replace h := hQ6 _ _ h
  refine iq_istore hS 57 J_M_draw_d55 (by decide) rfl ?_
  refine iq_aload_n hS 58 J_M_draw_d57 (lk_1r (lk_1r (lk_1r (lk_1r (lk_1r l0 (by decide)) (by decide)) (by decide)) (by decide)) (by decide)) rfl ?_
  refine iq_getR hS 61 J_M_draw_d58 lf_17_16 (Or.inl ⟨_, rfl⟩) (ka_69 hM6) (ra_69_3 hM6) rfl ?_
  refine iq_iload_n hS 62 J_M_draw_d61 (lk_1i (lk_1i (lk_1i (lk_1i (lk_1i l1 (by decide)) (by decide)) (by decide)) (by decide)) (by decide)) rfl ?_
  refine iq_iconst hS 63 J_M_draw_d62 (v := 5) (by decide +kernel) rfl ?_
  obtain ⟨Q7, hQ7, h⟩ := bd2_ed h
  refine iq_cwI hS 66 J_M_draw_d63 rfl (pr_inst (vs := [_, _]) lc_17_97 lT_327 rfl rfl (by decide) (by decide) rfl (Nat.le_of_ble_eq_true rfl) (Nat.le_of_ble_eq_true rfl) (fun _ => Or.inl (pr_b (ka_71 hM6) (by decide) rfl))) (f_MScriptRows_order_ok (dep := dep + 9) hM6 h) rfl ?_
  intro x7 M7 hM7 h
  replace h := hQ7 _ _ h
  refine iq_istore hS 68 J_M_draw_d66 (by decide) rfl ?_
  refine iq_aload_n hS 69 J_M_draw_d68 (lk_1r (lk_1r (lk_1r (lk_1r (lk_1r (lk_1r l0 (by decide)) (by decide)) (by decide)) (by decide)) (by decide)) (by decide)) rfl ?_
  refine iq_getR hS 72 J_M_draw_d69 lf_17_16 (Or.inl ⟨_, rfl⟩) (ka_69 hM7) (ra_69_3 hM7) rfl ?_
  refine iq_iload_n hS 73 J_M_draw_d72 (lk_1i (lk_1i (lk_1i (lk_1i (lk_1i (lk_1i l1 (by decide)) (by decide)) (by decide)) (by decide)) (by decide)) (by decide)) rfl ?_
  refine iq_bipush hS 75 J_M_draw_d73 (v := 6) (by decide +kernel) rfl ?_
  obtain ⟨Q8, hQ8, h⟩ := bd2_ed h
  refine iq_cwI hS 78 J_M_draw_d75 rfl (pr_inst (vs := [_, _]) lc_17_97 lT_327 rfl rfl (by decide) (by decide) rfl (Nat.le_of_ble_eq_true rfl) (Nat.le_of_ble_eq_true rfl) (fun _ => Or.inl (pr_b (ka_71 hM7) (by decide) rfl))) (f_MScriptRows_order_ok (dep := dep + 9) hM7 h) rfl ?_
  intro x8 M8 hM8 h
  replace h := hQ8 _ _ h
  refine iq_istore hS 80 J_M_draw_d78 (by decide) rfl ?_
  refine iq_aload_n hS 81 J_M_draw_d80 (lk_1r (lk_1r (lk_1r (lk_1r (lk_1r (lk_1r (lk_1r l0 (by decide)) (by decide)) (by decide)) (by decide)) (by decide)) (by decide)) (by decide)) rfl ?_
  refine iq_getR hS 84 J_M_draw_d81 lf_17_16 (Or.inl ⟨_, rfl⟩) (ka_69 hM8) (ra_69_3 hM8) rfl ?_
  refine iq_iload_n hS 85 J_M_draw_d84 (lk_1i (lk_1i (lk_1i (lk_1i (lk_1i (lk_1i (lk_1i l1 (by decide)) (by decide)) (by decide)) (by decide)) (by decide)) (by decide)) (by decide)) rfl ?_
  refine iq_bipush hS 87 J_M_draw_d85 (v := 7) (by decide +kernel) rfl ?_
  obtain ⟨Q9, hQ9, h⟩ := bd2_ed h
  refine iq_cwI hS 90 J_M_draw_d87 rfl (pr_inst (vs := [_, _]) lc_17_97 lT_327 rfl rfl (by decide) (by decide) rfl (Nat.le_of_ble_eq_true rfl) (Nat.le_of_ble_eq_true rfl) (fun _ => Or.inl (pr_b (ka_71 hM8) (by decide) rfl))) (f_MScriptRows_order_ok (dep := dep + 9) hM8 h) rfl ?_
  intro x9 M9 hM9 h
  replace h := hQ9 _ _ h
  refine iq_istore hS 92 J_M_draw_d90 (by decide) rfl ?_
  refine iq_aload_n hS 93 J_M_draw_d92 (lk_1r (lk_1r (lk_1r (lk_1r (lk_1r (lk_1r (lk_1r (lk_1r l0 (by decide)) (by decide)) (by decide)) (by decide)) (by decide)) (by decide)) (by decide)) (by decide)) rfl ?_
  refine iq_getR hS 96 J_M_draw_d93 lf_17_16 (Or.inl ⟨_, rfl⟩) (ka_69 hM9) (ra_69_3 hM9) rfl ?_
  refine iq_iload_n hS 97 J_M_draw_d96 (lk_1i (lk_1i (lk_1i (lk_1i (lk_1i (lk_1i (lk_1i (lk_1i l1 (by decide)) (by decide)) (by decide)) (by decide)) (by decide)) (by decide)) (by decide)) (by decide)) rfl ?_
  refine iq_iconst hS 98 J_M_draw_d97 (v := 0) (by decide +kernel) rfl ?_
  obtain ⟨Q10, hQ10, h⟩ := bd2_ed h
  refine iq_cwI hS 101 J_M_draw_d98 rfl (pr_inst (vs := [_, _]) lc_17_97 lT_327 rfl rfl (by decide) (by decide) rfl (Nat.le_of_ble_eq_true rfl) (Nat.le_of_ble_eq_true rfl) (fun _ => Or.inl (pr_b (ka_71 hM9) (by decide) rfl))) (f_MScriptRows_order_ok (dep := dep + 9) hM9 h) rfl ?_
  intro x10 M10 hM10 h
  replace h := hQ10 _ _ h
  by_cases q101_0 : x10 = 0
  · replace h := ed_pos q101_0 h
    refine iq_tsw hS J_M_draw_d101 (t := 144) (sw_v q101_0 (by decide +kernel)) ?_
    refine iq_aload_n hS 145 J_M_draw_d144 (lk_1r (lk_1r (lk_1r (lk_1r (lk_1r (lk_1r (lk_1r (lk_1r l0 (by decide)) (by decide)) (by decide)) (by decide)) (by decide)) (by decide)) (by decide)) (by decide)) rfl ?_
    refine iq_iload_n hS 146 J_M_draw_d145 (lk_1i (lk_1i (lk_1i (lk_1i (lk_1i (lk_1i (lk_1i (lk_1i l1 (by decide)) (by decide)) (by decide)) (by decide)) (by decide)) (by decide)) (by decide)) (by decide)) rfl ?_
    obtain ⟨Q11, hQ11, h⟩ := bd1_ed h
    refine iq_cwV hS 149 J_M_draw_d146 rfl (pr_inst (vs := [_]) lc_17_150 lT_335 rfl rfl (by decide) (by decide) rfl (Nat.le_of_ble_eq_true rfl) (Nat.le_of_ble_eq_true rfl) (fun _ => Or.inl (pr_b (ka_69 hM10) (by decide) rfl))) (f_M_draftData_ok (dep := dep + 7) hM10 h) rfl ?_
    intro M11 hM11 h
    replace h := hQ11 _ h
    refine iq_aload_n hS 150 J_M_draw_d149 (lk_1r (lk_1r (lk_1r (lk_1r (lk_1r (lk_1r (lk_1r (lk_1r l0 (by decide)) (by decide)) (by decide)) (by decide)) (by decide)) (by decide)) (by decide)) (by decide)) rfl ?_
    refine iq_getR hS 153 J_M_draw_d150 lf_17_23 (Or.inl ⟨_, rfl⟩) (ka_69 hM11) (ra_69_4 hM11) rfl ?_
    refine iq_iload_n hS 154 J_M_draw_d153 (lk_1i (lk_1i (lk_1i (lk_1i (lk_1i lk_1s (by decide)) (by decide)) (by decide)) (by decide)) (by decide)) rfl ?_
    refine iq_iload hS 156 J_M_draw_d154 (lk_1i (lk_1i (lk_1i (lk_1i lk_1s (by decide)) (by decide)) (by decide)) (by decide)) rfl ?_
    refine iq_iload hS 158 J_M_draw_d156 (lk_1i (lk_1i lk_1s (by decide)) (by decide)) rfl ?_
    refine iq_bipush hS 160 J_M_draw_d158 (v := 16) (by decide +kernel) rfl ?_
    refine iq_iload hS 162 J_M_draw_d160 (lk_1i lk_1s (by decide)) rfl ?_
    refine iq_imul hS 163 J_M_draw_d162 rfl ?_
    refine iq_iload hS 165 J_M_draw_d163 lk_1s rfl ?_
    refine iq_iadd hS 166 J_M_draw_d165 rfl ?_
    refine iq_iload hS 168 J_M_draw_d166 (lk_1i (lk_1i (lk_1i lk_1s (by decide)) (by decide)) (by decide)) rfl ?_
    obtain ⟨Q12, hQ12, h⟩ := bd2_ed h
    refine iq_cwI hS 171 J_M_draw_d168 rfl (pr_inst (vs := [_, _, _, _, _]) lc_17_153 lT_339 rfl rfl (by decide) (by decide) rfl (Nat.le_of_ble_eq_true rfl) (Nat.le_of_ble_eq_true rfl) (fun _ => Or.inl (pr_b (ka_89 hM11) (by decide) rfl))) (f_MDotRows_text_ok (dep := dep + 5) hM11 h) rfl ?_
    intro x12 M12 hM12 h
    replace h := hQ12 _ _ h
    exact iq_iret J_M_draw_d171 rfl rfl ⟨_, rfl, hM12, ed_some h⟩
  replace h := ed_neg q101_0 h
  by_cases q101_1 : x10 = 1
  · replace h := ed_pos q101_1 h
    refine iq_tsw hS J_M_draw_d101 (t := 172) (sw_v q101_1 (by decide +kernel)) ?_
    refine iq_aload_n hS 173 J_M_draw_d172 (lk_1r (lk_1r (lk_1r (lk_1r (lk_1r (lk_1r (lk_1r (lk_1r l0 (by decide)) (by decide)) (by decide)) (by decide)) (by decide)) (by decide)) (by decide)) (by decide)) rfl ?_
    refine iq_iload_n hS 174 J_M_draw_d173 (lk_1i (lk_1i (lk_1i (lk_1i (lk_1i (lk_1i (lk_1i (lk_1i l1 (by decide)) (by decide)) (by decide)) (by decide)) (by decide)) (by decide)) (by decide)) (by decide)) rfl ?_
    obtain ⟨Q13, hQ13, h⟩ := bd2_ed h
    refine iq_cwI hS 177 J_M_draw_d174 rfl (pr_inst (vs := [_]) lc_17_157 lT_357 rfl rfl (by decide) (by decide) rfl (Nat.le_of_ble_eq_true rfl) (Nat.le_of_ble_eq_true rfl) (fun _ => Or.inl (pr_b (ka_69 hM10) (by decide) rfl))) (f_M_draftRow_ok (dep := dep + 2) hM10 h) rfl ?_
    intro x13 M13 hM13 h
    replace h := hQ13 _ _ h
    refine iq_if_eq hS 180 J_M_draw_d177 (t := 199) rfl (fun q177 => ?_) rfl (fun q177 => ?_)
    · replace h := ed_pos q177 h
      refine iq_iconst hS 200 J_M_draw_d199 (v := (-1)) (by decide +kernel) rfl ?_
      exact iq_iret J_M_draw_d200 rfl rfl ⟨_, rfl, hM13, ed_some h⟩
    · replace h := ed_neg q177 h
      refine iq_aload_n hS 181 J_M_draw_d180 (lk_1r (lk_1r (lk_1r (lk_1r (lk_1r (lk_1r (lk_1r (lk_1r l0 (by decide)) (by decide)) (by decide)) (by decide)) (by decide)) (by decide)) (by decide)) (by decide)) rfl ?_
      refine iq_getR hS 184 J_M_draw_d181 lf_17_23 (Or.inl ⟨_, rfl⟩) (ka_69 hM13) (ra_69_4 hM13) rfl ?_
      refine iq_iload_n hS 185 J_M_draw_d184 (lk_1i (lk_1i (lk_1i (lk_1i (lk_1i lk_1s (by decide)) (by decide)) (by decide)) (by decide)) (by decide)) rfl ?_
      refine iq_iload hS 187 J_M_draw_d185 (lk_1i (lk_1i (lk_1i (lk_1i lk_1s (by decide)) (by decide)) (by decide)) (by decide)) rfl ?_
      refine iq_iload hS 189 J_M_draw_d187 (lk_1i lk_1s (by decide)) rfl ?_
      refine iq_iload hS 191 J_M_draw_d189 (lk_1i (lk_1i lk_1s (by decide)) (by decide)) rfl ?_
      refine iq_iload hS 193 J_M_draw_d191 (lk_1i (lk_1i (lk_1i lk_1s (by decide)) (by decide)) (by decide)) rfl ?_
      obtain ⟨Q14, hQ14, h⟩ := bd2_ed h
      refine iq_cwI hS 196 J_M_draw_d193 rfl (pr_inst (vs := [_, _, _, _, _]) lc_17_161 lT_377 rfl rfl (by decide) (by decide) rfl (Nat.le_of_ble_eq_true rfl) (Nat.le_of_ble_eq_true rfl) (fun _ => Or.inl (pr_b (ka_89 hM13) (by decide) rfl))) (f_MDotRows_bars_ok (dep := dep + 5) hM13 h) rfl ?_
      intro x14 M14 hM14 h
      replace h := hQ14 _ _ h
      refine iq_goto hS J_M_draw_d196 (t := 200) rfl ?_
      exact iq_iret J_M_draw_d200 rfl rfl ⟨_, rfl, hM14, ed_some h⟩
  replace h := ed_neg q101_1 h
  by_cases q101_2 : x10 = 2
  · replace h := ed_pos q101_2 h
    refine iq_tsw hS J_M_draw_d101 (t := 201) (sw_v q101_2 (by decide +kernel)) ?_
    refine iq_aload_n hS 202 J_M_draw_d201 (lk_1r (lk_1r (lk_1r (lk_1r (lk_1r (lk_1r (lk_1r (lk_1r l0 (by decide)) (by decide)) (by decide)) (by decide)) (by decide)) (by decide)) (by decide)) (by decide)) rfl ?_
    refine iq_iload_n hS 203 J_M_draw_d202 (lk_1i (lk_1i (lk_1i (lk_1i (lk_1i (lk_1i (lk_1i (lk_1i l1 (by decide)) (by decide)) (by decide)) (by decide)) (by decide)) (by decide)) (by decide)) (by decide)) rfl ?_
    obtain ⟨Q15, hQ15, h⟩ := bd1_ed h
    refine iq_cwV hS 206 J_M_draw_d203 rfl (pr_inst (vs := [_]) lc_17_163 lT_378 rfl rfl (by decide) (by decide) rfl (Nat.le_of_ble_eq_true rfl) (Nat.le_of_ble_eq_true rfl) (fun _ => Or.inl (pr_b (ka_69 hM10) (by decide) rfl))) (f_M_draftThirteen_ok (dep := dep + 6) hM10 h) rfl ?_
    intro M15 hM15 h
    replace h := hQ15 _ h
    refine iq_aload_n hS 207 J_M_draw_d206 (lk_1r (lk_1r (lk_1r (lk_1r (lk_1r (lk_1r (lk_1r (lk_1r l0 (by decide)) (by decide)) (by decide)) (by decide)) (by decide)) (by decide)) (by decide)) (by decide)) rfl ?_
    refine iq_getR hS 210 J_M_draw_d207 lf_17_23 (Or.inl ⟨_, rfl⟩) (ka_69 hM15) (ra_69_4 hM15) rfl ?_
    refine iq_iload_n hS 211 J_M_draw_d210 (lk_1i (lk_1i (lk_1i (lk_1i (lk_1i lk_1s (by decide)) (by decide)) (by decide)) (by decide)) (by decide)) rfl ?_
    refine iq_iload hS 213 J_M_draw_d211 (lk_1i (lk_1i (lk_1i (lk_1i lk_1s (by decide)) (by decide)) (by decide)) (by decide)) rfl ?_
    refine iq_iload hS 215 J_M_draw_d213 (lk_1i lk_1s (by decide)) rfl ?_
    refine iq_iload hS 217 J_M_draw_d215 (lk_1i (lk_1i lk_1s (by decide)) (by decide)) rfl ?_
    refine iq_iload hS 219 J_M_draw_d217 (lk_1i (lk_1i (lk_1i lk_1s (by decide)) (by decide)) (by decide)) rfl ?_
    obtain ⟨Q16, hQ16, h⟩ := bd2_ed h
    refine iq_cwI hS 222 J_M_draw_d219 rfl (pr_inst (vs := [_, _, _, _, _]) lc_17_161 lT_377 rfl rfl (by decide) (by decide) rfl (Nat.le_of_ble_eq_true rfl) (Nat.le_of_ble_eq_true rfl) (fun _ => Or.inl (pr_b (ka_89 hM15) (by decide) rfl))) (f_MDotRows_bars_ok (dep := dep + 5) hM15 h) rfl ?_
    intro x16 M16 hM16 h
    replace h := hQ16 _ _ h
    exact iq_iret J_M_draw_d222 rfl rfl ⟨_, rfl, hM16, ed_some h⟩
  replace h := ed_neg q101_2 h
  by_cases q101_3 : x10 = 3
  · replace h := ed_pos q101_3 h
    refine iq_tsw hS J_M_draw_d101 (t := 223) (sw_v q101_3 (by decide +kernel)) ?_
    refine iq_aload_n hS 224 J_M_draw_d223 (lk_1r (lk_1r (lk_1r (lk_1r (lk_1r (lk_1r (lk_1r (lk_1r l0 (by decide)) (by decide)) (by decide)) (by decide)) (by decide)) (by decide)) (by decide)) (by decide)) rfl ?_
    refine iq_getR hS 227 J_M_draw_d224 lf_17_23 (Or.inl ⟨_, rfl⟩) (ka_69 hM10) (ra_69_4 hM10) rfl ?_
    refine iq_iload_n hS 228 J_M_draw_d227 (lk_1i (lk_1i (lk_1i (lk_1i (lk_1i lk_1s (by decide)) (by decide)) (by decide)) (by decide)) (by decide)) rfl ?_
    refine iq_iload hS 230 J_M_draw_d228 (lk_1i (lk_1i (lk_1i (lk_1i lk_1s (by decide)) (by decide)) (by decide)) (by decide)) rfl ?_
    refine iq_aload_n hS 231 J_M_draw_d230 (lk_1r (lk_1r (lk_1r (lk_1r (lk_1r (lk_1r (lk_1r (lk_1r l0 (by decide)) (by decide)) (by decide)) (by decide)) (by decide)) (by decide)) (by decide)) (by decide)) rfl ?_
    refine iq_iload_n hS 232 J_M_draw_d231 (lk_1i (lk_1i (lk_1i (lk_1i (lk_1i (lk_1i (lk_1i (lk_1i l1 (by decide)) (by decide)) (by decide)) (by decide)) (by decide)) (by decide)) (by decide)) (by decide)) rfl ?_
    obtain ⟨Q17, hQ17, h⟩ := bd2_ed h
    refine iq_cwI hS 235 J_M_draw_d232 rfl (pr_inst (vs := [_]) lc_17_166 lT_385 rfl rfl (by decide) (by decide) rfl (Nat.le_of_ble_eq_true rfl) (Nat.le_of_ble_eq_true rfl) (fun _ => Or.inl (pr_b (ka_69 hM10) (by decide) rfl))) (f_M_draftSymbol_ok (dep := dep + 0) hM10 h) rfl ?_
    intro x17 M17 hM17 h
    replace h := hQ17 _ _ h
    refine iq_iload hS 237 J_M_draw_d235 (lk_1i (lk_1i lk_1s (by decide)) (by decide)) rfl ?_
    refine iq_iload hS 239 J_M_draw_d237 (lk_1i (lk_1i (lk_1i lk_1s (by decide)) (by decide)) (by decide)) rfl ?_
    obtain ⟨Q18, hQ18, h⟩ := bd2_ed h
    refine iq_cwI hS 242 J_M_draw_d239 rfl (pr_inst (vs := [_, _, _, _, _]) lc_17_169 lT_434 rfl rfl (by decide) (by decide) rfl (Nat.le_of_ble_eq_true rfl) (Nat.le_of_ble_eq_true rfl) (fun _ => Or.inl (pr_b (ka_89 hM17) (by decide) rfl))) (f_MDotRows_square_ok (dep := dep + 5) hM17 h) rfl ?_
    intro x18 M18 hM18 h
    replace h := hQ18 _ _ h
    exact iq_iret J_M_draw_d242 rfl rfl ⟨_, rfl, hM18, ed_some h⟩
  replace h := ed_neg q101_3 h
  by_cases q101_4 : x10 = 4
  · replace h := ed_pos q101_4 h
    refine iq_tsw hS J_M_draw_d101 (t := 243) (sw_v q101_4 (by decide +kernel)) ?_
    refine iq_aload_n hS 244 J_M_draw_d243 (lk_1r (lk_1r (lk_1r (lk_1r (lk_1r (lk_1r (lk_1r (lk_1r l0 (by decide)) (by decide)) (by decide)) (by decide)) (by decide)) (by decide)) (by decide)) (by decide)) rfl ?_
    refine iq_getR hS 247 J_M_draw_d244 lf_17_23 (Or.inl ⟨_, rfl⟩) (ka_69 hM10) (ra_69_4 hM10) rfl ?_
    refine iq_iload_n hS 248 J_M_draw_d247 (lk_1i (lk_1i (lk_1i (lk_1i (lk_1i lk_1s (by decide)) (by decide)) (by decide)) (by decide)) (by decide)) rfl ?_
    refine iq_iload hS 250 J_M_draw_d248 (lk_1i (lk_1i (lk_1i (lk_1i lk_1s (by decide)) (by decide)) (by decide)) (by decide)) rfl ?_
    refine iq_iload hS 252 J_M_draw_d250 (lk_1i (lk_1i lk_1s (by decide)) (by decide)) rfl ?_
    refine iq_iload hS 254 J_M_draw_d252 (lk_1i lk_1s (by decide)) rfl ?_
    refine iq_iload hS 256 J_M_draw_d254 lk_1s rfl ?_
    obtain ⟨Q19, hQ19, h⟩ := bd2_ed h
    refine iq_cwI hS 259 J_M_draw_d256 rfl (pr_inst (vs := [_, _, _, _, _]) lc_17_172 lT_435 rfl rfl (by decide) (by decide) rfl (Nat.le_of_ble_eq_true rfl) (Nat.le_of_ble_eq_true rfl) (fun _ => Or.inl (pr_b (ka_89 hM10) (by decide) rfl))) (f_MDotRows_frame_ok (dep := dep + 5) hM10 h) rfl ?_
    intro x19 M19 hM19 h
    replace h := hQ19 _ _ h
    exact iq_iret J_M_draw_d259 rfl rfl ⟨_, rfl, hM19, ed_some h⟩
  replace h := ed_neg q101_4 h
  by_cases q101_5 : x10 = 5
  · replace h := ed_pos q101_5 h
    refine iq_tsw hS J_M_draw_d101 (t := 260) (sw_v q101_5 (by decide +kernel)) ?_
    refine iq_aload_n hS 261 J_M_draw_d260 (lk_1r (lk_1r (lk_1r (lk_1r (lk_1r (lk_1r (lk_1r (lk_1r l0 (by decide)) (by decide)) (by decide)) (by decide)) (by decide)) (by decide)) (by decide)) (by decide)) rfl ?_
    refine iq_getR hS 264 J_M_draw_d261 lf_17_23 (Or.inl ⟨_, rfl⟩) (ka_69 hM10) (ra_69_4 hM10) rfl ?_
    refine iq_iload_n hS 265 J_M_draw_d264 (lk_1i (lk_1i (lk_1i (lk_1i (lk_1i lk_1s (by decide)) (by decide)) (by decide)) (by decide)) (by decide)) rfl ?_
    refine iq_iload hS 267 J_M_draw_d265 (lk_1i (lk_1i (lk_1i (lk_1i lk_1s (by decide)) (by decide)) (by decide)) (by decide)) rfl ?_
    refine iq_iload hS 269 J_M_draw_d267 (lk_1i (lk_1i lk_1s (by decide)) (by decide)) rfl ?_
    refine iq_iload hS 271 J_M_draw_d269 (lk_1i lk_1s (by decide)) rfl ?_
    refine iq_iload hS 273 J_M_draw_d271 lk_1s rfl ?_
    obtain ⟨Q20, hQ20, h⟩ := bd2_ed h
    refine iq_cwI hS 276 J_M_draw_d273 rfl (pr_inst (vs := [_, _, _, _, _]) lc_17_175 lT_437 rfl rfl (by decide) (by decide) rfl (Nat.le_of_ble_eq_true rfl) (Nat.le_of_ble_eq_true rfl) (fun _ => Or.inl (pr_b (ka_89 hM10) (by decide) rfl))) (f_MDotRows_ellipse_ok (dep := dep + 5) hM10 h) rfl ?_
    intro x20 M20 hM20 h
    replace h := hQ20 _ _ h
    exact iq_iret J_M_draw_d276 rfl rfl ⟨_, rfl, hM20, ed_some h⟩
  replace h := ed_neg q101_5 h
  by_cases q101_6 : x10 = 6
  · replace h := ed_pos q101_6 h
    refine iq_tsw hS J_M_draw_d101 (t := 277) (sw_v q101_6 (by decide +kernel)) ?_
    refine iq_aload_n hS 278 J_M_draw_d277 (lk_1r (lk_1r (lk_1r (lk_1r (lk_1r (lk_1r (lk_1r (lk_1r l0 (by decide)) (by decide)) (by decide)) (by decide)) (by decide)) (by decide)) (by decide)) (by decide)) rfl ?_
    refine iq_getR hS 281 J_M_draw_d278 lf_17_23 (Or.inl ⟨_, rfl⟩) (ka_69 hM10) (ra_69_4 hM10) rfl ?_
    refine iq_iload_n hS 282 J_M_draw_d281 (lk_1i (lk_1i (lk_1i (lk_1i (lk_1i lk_1s (by decide)) (by decide)) (by decide)) (by decide)) (by decide)) rfl ?_
    refine iq_iload hS 284 J_M_draw_d282 (lk_1i (lk_1i (lk_1i (lk_1i lk_1s (by decide)) (by decide)) (by decide)) (by decide)) rfl ?_
    refine iq_iload_n hS 285 J_M_draw_d284 (lk_1i (lk_1i (lk_1i (lk_1i (lk_1i lk_1s (by decide)) (by decide)) (by decide)) (by decide)) (by decide)) rfl ?_
    refine iq_iload hS 287 J_M_draw_d285 (lk_1i (lk_1i lk_1s (by decide)) (by decide)) rfl ?_
    refine iq_iadd hS 288 J_M_draw_d287 rfl ?_
    refine iq_iload hS 290 J_M_draw_d288 (lk_1i (lk_1i (lk_1i (lk_1i lk_1s (by decide)) (by decide)) (by decide)) (by decide)) rfl ?_
    refine iq_iload hS 292 J_M_draw_d290 (lk_1i lk_1s (by decide)) rfl ?_
    refine iq_iadd hS 293 J_M_draw_d292 rfl ?_
    refine iq_iload hS 295 J_M_draw_d293 lk_1s rfl ?_
    obtain ⟨Q21, hQ21, h⟩ := bd2_ed h
    refine iq_cwI hS 298 J_M_draw_d295 rfl (pr_inst (vs := [_, _, _, _, _]) lc_17_178 lT_438 rfl rfl (by decide) (by decide) rfl (Nat.le_of_ble_eq_true rfl) (Nat.le_of_ble_eq_true rfl) (fun _ => Or.inl (pr_b (ka_89 hM10) (by decide) rfl))) (f_MDotRows_line_ok (dep := dep + 5) hM10 h) rfl ?_
    intro x21 M21 hM21 h
    replace h := hQ21 _ _ h
    exact iq_iret J_M_draw_d298 rfl rfl ⟨_, rfl, hM21, ed_some h⟩
  replace h := ed_neg q101_6 h
  refine iq_tsw hS J_M_draw_d101 (t := 299) (sw_d [0, 1, 2, 3, 4, 5, 6] (by decide) (by decide) (by decide +kernel) (sw_nc q101_0 (sw_nc q101_1 (sw_nc q101_2 (sw_nc q101_3 (sw_nc q101_4 (sw_nc q101_5 (sw_nc q101_6 sw_nn)))))))) ?_
  refine iq_aload_n hS 300 J_M_draw_d299 (lk_1r (lk_1r (lk_1r (lk_1r (lk_1r (lk_1r (lk_1r (lk_1r l0 (by decide)) (by decide)) (by decide)) (by decide)) (by decide)) (by decide)) (by decide)) (by decide)) rfl ?_
  refine iq_iload_n hS 301 J_M_draw_d300 (lk_1i (lk_1i (lk_1i (lk_1i (lk_1i (lk_1i (lk_1i (lk_1i l1 (by decide)) (by decide)) (by decide)) (by decide)) (by decide)) (by decide)) (by decide)) (by decide)) rfl ?_
  obtain ⟨Q22, hQ22, h⟩ := bd1_ed h
  refine iq_cwV hS 304 J_M_draw_d301 rfl (pr_inst (vs := [_]) lc_17_150 lT_335 rfl rfl (by decide) (by decide) rfl (Nat.le_of_ble_eq_true rfl) (Nat.le_of_ble_eq_true rfl) (fun _ => Or.inl (pr_b (ka_69 hM10) (by decide) rfl))) (f_M_draftData_ok (dep := dep + 7) hM10 h) rfl ?_
  intro M22 hM22 h
  replace h := hQ22 _ h
  refine iq_aload_n hS 305 J_M_draw_d304 (lk_1r (lk_1r (lk_1r (lk_1r (lk_1r (lk_1r (lk_1r (lk_1r l0 (by decide)) (by decide)) (by decide)) (by decide)) (by decide)) (by decide)) (by decide)) (by decide)) rfl ?_
  refine iq_getR hS 308 J_M_draw_d305 lf_17_23 (Or.inl ⟨_, rfl⟩) (ka_69 hM22) (ra_69_4 hM22) rfl ?_
  refine iq_iload_n hS 309 J_M_draw_d308 (lk_1i (lk_1i (lk_1i (lk_1i (lk_1i lk_1s (by decide)) (by decide)) (by decide)) (by decide)) (by decide)) rfl ?_
  refine iq_iload hS 311 J_M_draw_d309 (lk_1i (lk_1i (lk_1i (lk_1i lk_1s (by decide)) (by decide)) (by decide)) (by decide)) rfl ?_
  refine iq_iload hS 313 J_M_draw_d311 (lk_1i (lk_1i lk_1s (by decide)) (by decide)) rfl ?_
  obtain ⟨Q23, hQ23, h⟩ := bd2_ed h
  refine iq_cwI hS 316 J_M_draw_d313 rfl (pr_inst (vs := [_, _, _]) lc_17_181 lT_439 rfl rfl (by decide) (by decide) rfl (Nat.le_of_ble_eq_true rfl) (Nat.le_of_ble_eq_true rfl) (fun _ => Or.inl (pr_b (ka_89 hM22) (by decide) rfl))) (f_MDotRows_picture_ok (dep := dep + 5) hM22 h) rfl ?_
  intro x23 M23 hM23 h
  replace h := hQ23 _ _ h
  exact iq_iret J_M_draw_d316 rfl rfl ⟨_, rfl, hM23, ed_some h⟩
theorem f_M_draw_fr {p0 : Int32} {M : im_M} {r : Int32 × im_M} (h : f_M_draw p0 M = some r) : fr 175455518355742412686488359330656550912 [(71, 0), (89, 0), (89, 3), (89, 7), (89, 10), (89, 11), (89, 12), (89, 13), (89, 14), (89, 15), (89, 16), (96, 3), (96, 5), (96, 8), (96, 10), (108, 0), (108, 4), (108, 7), (108, 8), (108, 9), (108, 13), (108, 16), (108, 19)] M r.2 := by
  replace h : ed (f_M_draw p0 M) (fun x => x = r) := ⟨r, h, rfl⟩
  unfold f_M_draw at h
  obtain ⟨Q1, hQ1, h⟩ := bd2_ed h
  obtain ⟨⟨x1, M1⟩, e1, h⟩ := h
  replace h := hQ1 _ _ h
  obtain ⟨Q2, hQ2, h⟩ := bd2_ed h
  obtain ⟨⟨x2, M2⟩, e2, h⟩ := h
  replace h := hQ2 _ _ h
  obtain ⟨Q3, hQ3, h⟩ := bd2_ed h
  obtain ⟨⟨x3, M3⟩, e3, h⟩ := h
  replace h := hQ3 _ _ h
  obtain ⟨Q4, hQ4, h⟩ := bd2_ed h
  obtain ⟨⟨x4, M4⟩, e4, h⟩ := h
  replace h := hQ4 _ _ h
  obtain ⟨Q5, hQ5, h⟩ := bd2_ed h
  obtain ⟨⟨x5, M5⟩, e5, h⟩ := h
  replace h := hQ5 _ _ h
  obtain ⟨Q6, hQ6, h⟩ := bd2_ed h
  obtain ⟨⟨x6, M6⟩, e6, h⟩ := h
  replace h := hQ6 _ _ h
  obtain ⟨Q7, hQ7, h⟩ := bd2_ed h
  obtain ⟨⟨x7, M7⟩, e7, h⟩ := h
  replace h := hQ7 _ _ h
  obtain ⟨Q8, hQ8, h⟩ := bd2_ed h
  obtain ⟨⟨x8, M8⟩, e8, h⟩ := h
  replace h := hQ8 _ _ h
  obtain ⟨Q9, hQ9, h⟩ := bd2_ed h
  obtain ⟨⟨x9, M9⟩, e9, h⟩ := h
  replace h := hQ9 _ _ h
  obtain ⟨Q10, hQ10, h⟩ := bd2_ed h
  obtain ⟨⟨x10, M10⟩, e10, h⟩ := h
  replace h := hQ10 _ _ h
  by_cases q101_0 : x10 = 0
  · replace h := ed_pos q101_0 h
    obtain ⟨Q11, hQ11, h⟩ := bd1_ed h
    obtain ⟨M11, e11, h⟩ := h
    replace h := hQ11 _ h
    obtain ⟨Q12, hQ12, h⟩ := bd2_ed h
    obtain ⟨⟨x12, M12⟩, e12, h⟩ := h
    replace h := hQ12 _ _ h
    exact fr_ret h (fr_tr (fr_mono (by decide) (by decide +kernel) (f_MDotRows_text_fr e12)) (fr_tr (fr_mono (by decide) (by decide +kernel) (f_M_draftData_fr e11)) (fr_tr (fr_mono (by decide) (by decide +kernel) (f_MScriptRows_order_fr e10)) (fr_tr (fr_mono (by decide) (by decide +kernel) (f_MScriptRows_order_fr e9)) (fr_tr (fr_mono (by decide) (by decide +kernel) (f_MScriptRows_order_fr e8)) (fr_tr (fr_mono (by decide) (by decide +kernel) (f_MScriptRows_order_fr e7)) (fr_tr (fr_mono (by decide) (by decide +kernel) (f_MScriptRows_order_fr e6)) (fr_tr (fr_mono (by decide) (by decide +kernel) (f_MScriptRows_order_fr e5)) (fr_tr (fr_mono (by decide) (by decide +kernel) (f_MScriptRows_order_fr e4)) (fr_tr (fr_mono (by decide) (by decide +kernel) (f_MDotRows_wipe_fr e3)) (fr_tr (fr_mono (by decide) (by decide +kernel) (f_MDotRows_way_fr e2)) (fr_tr (fr_mono (by decide) (by decide +kernel) (f_MScriptRows_order_fr e1)) fr_refl))))))))))))
  replace h := ed_neg q101_0 h
  by_cases q101_1 : x10 = 1
  · replace h := ed_pos q101_1 h
    obtain ⟨Q13, hQ13, h⟩ := bd2_ed h
    obtain ⟨⟨x13, M13⟩, e13, h⟩ := h
    replace h := hQ13 _ _ h
    by_cases q177 : x13 = 0
    · replace h := ed_pos q177 h
      exact fr_ret h (fr_tr (fr_mono (by decide) (by decide +kernel) (f_M_draftRow_fr e13)) (fr_tr (fr_mono (by decide) (by decide +kernel) (f_MScriptRows_order_fr e10)) (fr_tr (fr_mono (by decide) (by decide +kernel) (f_MScriptRows_order_fr e9)) (fr_tr (fr_mono (by decide) (by decide +kernel) (f_MScriptRows_order_fr e8)) (fr_tr (fr_mono (by decide) (by decide +kernel) (f_MScriptRows_order_fr e7)) (fr_tr (fr_mono (by decide) (by decide +kernel) (f_MScriptRows_order_fr e6)) (fr_tr (fr_mono (by decide) (by decide +kernel) (f_MScriptRows_order_fr e5)) (fr_tr (fr_mono (by decide) (by decide +kernel) (f_MScriptRows_order_fr e4)) (fr_tr (fr_mono (by decide) (by decide +kernel) (f_MDotRows_wipe_fr e3)) (fr_tr (fr_mono (by decide) (by decide +kernel) (f_MDotRows_way_fr e2)) (fr_tr (fr_mono (by decide) (by decide +kernel) (f_MScriptRows_order_fr e1)) fr_refl)))))))))))
    · replace h := ed_neg q177 h
      obtain ⟨Q14, hQ14, h⟩ := bd2_ed h
      obtain ⟨⟨x14, M14⟩, e14, h⟩ := h
      replace h := hQ14 _ _ h
      exact fr_ret h (fr_tr (fr_mono (by decide) (by decide +kernel) (f_MDotRows_bars_fr e14)) (fr_tr (fr_mono (by decide) (by decide +kernel) (f_M_draftRow_fr e13)) (fr_tr (fr_mono (by decide) (by decide +kernel) (f_MScriptRows_order_fr e10)) (fr_tr (fr_mono (by decide) (by decide +kernel) (f_MScriptRows_order_fr e9)) (fr_tr (fr_mono (by decide) (by decide +kernel) (f_MScriptRows_order_fr e8)) (fr_tr (fr_mono (by decide) (by decide +kernel) (f_MScriptRows_order_fr e7)) (fr_tr (fr_mono (by decide) (by decide +kernel) (f_MScriptRows_order_fr e6)) (fr_tr (fr_mono (by decide) (by decide +kernel) (f_MScriptRows_order_fr e5)) (fr_tr (fr_mono (by decide) (by decide +kernel) (f_MScriptRows_order_fr e4)) (fr_tr (fr_mono (by decide) (by decide +kernel) (f_MDotRows_wipe_fr e3)) (fr_tr (fr_mono (by decide) (by decide +kernel) (f_MDotRows_way_fr e2)) (fr_tr (fr_mono (by decide) (by decide +kernel) (f_MScriptRows_order_fr e1)) fr_refl))))))))))))
  replace h := ed_neg q101_1 h
  by_cases q101_2 : x10 = 2
  · replace h := ed_pos q101_2 h
    obtain ⟨Q15, hQ15, h⟩ := bd1_ed h
    obtain ⟨M15, e15, h⟩ := h
    replace h := hQ15 _ h
    obtain ⟨Q16, hQ16, h⟩ := bd2_ed h
    obtain ⟨⟨x16, M16⟩, e16, h⟩ := h
    replace h := hQ16 _ _ h
    exact fr_ret h (fr_tr (fr_mono (by decide) (by decide +kernel) (f_MDotRows_bars_fr e16)) (fr_tr (fr_mono (by decide) (by decide +kernel) (f_M_draftThirteen_fr e15)) (fr_tr (fr_mono (by decide) (by decide +kernel) (f_MScriptRows_order_fr e10)) (fr_tr (fr_mono (by decide) (by decide +kernel) (f_MScriptRows_order_fr e9)) (fr_tr (fr_mono (by decide) (by decide +kernel) (f_MScriptRows_order_fr e8)) (fr_tr (fr_mono (by decide) (by decide +kernel) (f_MScriptRows_order_fr e7)) (fr_tr (fr_mono (by decide) (by decide +kernel) (f_MScriptRows_order_fr e6)) (fr_tr (fr_mono (by decide) (by decide +kernel) (f_MScriptRows_order_fr e5)) (fr_tr (fr_mono (by decide) (by decide +kernel) (f_MScriptRows_order_fr e4)) (fr_tr (fr_mono (by decide) (by decide +kernel) (f_MDotRows_wipe_fr e3)) (fr_tr (fr_mono (by decide) (by decide +kernel) (f_MDotRows_way_fr e2)) (fr_tr (fr_mono (by decide) (by decide +kernel) (f_MScriptRows_order_fr e1)) fr_refl))))))))))))
  replace h := ed_neg q101_2 h
  by_cases q101_3 : x10 = 3
  · replace h := ed_pos q101_3 h
    obtain ⟨Q17, hQ17, h⟩ := bd2_ed h
    obtain ⟨⟨x17, M17⟩, e17, h⟩ := h
    replace h := hQ17 _ _ h
    obtain ⟨Q18, hQ18, h⟩ := bd2_ed h
    obtain ⟨⟨x18, M18⟩, e18, h⟩ := h
    replace h := hQ18 _ _ h
    exact fr_ret h (fr_tr (fr_mono (by decide) (by decide +kernel) (f_MDotRows_square_fr e18)) (fr_tr (fr_mono (by decide) (by decide +kernel) (f_M_draftSymbol_fr e17)) (fr_tr (fr_mono (by decide) (by decide +kernel) (f_MScriptRows_order_fr e10)) (fr_tr (fr_mono (by decide) (by decide +kernel) (f_MScriptRows_order_fr e9)) (fr_tr (fr_mono (by decide) (by decide +kernel) (f_MScriptRows_order_fr e8)) (fr_tr (fr_mono (by decide) (by decide +kernel) (f_MScriptRows_order_fr e7)) (fr_tr (fr_mono (by decide) (by decide +kernel) (f_MScriptRows_order_fr e6)) (fr_tr (fr_mono (by decide) (by decide +kernel) (f_MScriptRows_order_fr e5)) (fr_tr (fr_mono (by decide) (by decide +kernel) (f_MScriptRows_order_fr e4)) (fr_tr (fr_mono (by decide) (by decide +kernel) (f_MDotRows_wipe_fr e3)) (fr_tr (fr_mono (by decide) (by decide +kernel) (f_MDotRows_way_fr e2)) (fr_tr (fr_mono (by decide) (by decide +kernel) (f_MScriptRows_order_fr e1)) fr_refl))))))))))))
  replace h := ed_neg q101_3 h
  by_cases q101_4 : x10 = 4
  · replace h := ed_pos q101_4 h
    obtain ⟨Q19, hQ19, h⟩ := bd2_ed h
    obtain ⟨⟨x19, M19⟩, e19, h⟩ := h
    replace h := hQ19 _ _ h
    exact fr_ret h (fr_tr (fr_mono (by decide) (by decide +kernel) (f_MDotRows_frame_fr e19)) (fr_tr (fr_mono (by decide) (by decide +kernel) (f_MScriptRows_order_fr e10)) (fr_tr (fr_mono (by decide) (by decide +kernel) (f_MScriptRows_order_fr e9)) (fr_tr (fr_mono (by decide) (by decide +kernel) (f_MScriptRows_order_fr e8)) (fr_tr (fr_mono (by decide) (by decide +kernel) (f_MScriptRows_order_fr e7)) (fr_tr (fr_mono (by decide) (by decide +kernel) (f_MScriptRows_order_fr e6)) (fr_tr (fr_mono (by decide) (by decide +kernel) (f_MScriptRows_order_fr e5)) (fr_tr (fr_mono (by decide) (by decide +kernel) (f_MScriptRows_order_fr e4)) (fr_tr (fr_mono (by decide) (by decide +kernel) (f_MDotRows_wipe_fr e3)) (fr_tr (fr_mono (by decide) (by decide +kernel) (f_MDotRows_way_fr e2)) (fr_tr (fr_mono (by decide) (by decide +kernel) (f_MScriptRows_order_fr e1)) fr_refl)))))))))))
  replace h := ed_neg q101_4 h
  by_cases q101_5 : x10 = 5
  · replace h := ed_pos q101_5 h
    obtain ⟨Q20, hQ20, h⟩ := bd2_ed h
    obtain ⟨⟨x20, M20⟩, e20, h⟩ := h
    replace h := hQ20 _ _ h
    exact fr_ret h (fr_tr (fr_mono (by decide) (by decide +kernel) (f_MDotRows_ellipse_fr e20)) (fr_tr (fr_mono (by decide) (by decide +kernel) (f_MScriptRows_order_fr e10)) (fr_tr (fr_mono (by decide) (by decide +kernel) (f_MScriptRows_order_fr e9)) (fr_tr (fr_mono (by decide) (by decide +kernel) (f_MScriptRows_order_fr e8)) (fr_tr (fr_mono (by decide) (by decide +kernel) (f_MScriptRows_order_fr e7)) (fr_tr (fr_mono (by decide) (by decide +kernel) (f_MScriptRows_order_fr e6)) (fr_tr (fr_mono (by decide) (by decide +kernel) (f_MScriptRows_order_fr e5)) (fr_tr (fr_mono (by decide) (by decide +kernel) (f_MScriptRows_order_fr e4)) (fr_tr (fr_mono (by decide) (by decide +kernel) (f_MDotRows_wipe_fr e3)) (fr_tr (fr_mono (by decide) (by decide +kernel) (f_MDotRows_way_fr e2)) (fr_tr (fr_mono (by decide) (by decide +kernel) (f_MScriptRows_order_fr e1)) fr_refl)))))))))))
  replace h := ed_neg q101_5 h
  by_cases q101_6 : x10 = 6
  · replace h := ed_pos q101_6 h
    obtain ⟨Q21, hQ21, h⟩ := bd2_ed h
    obtain ⟨⟨x21, M21⟩, e21, h⟩ := h
    replace h := hQ21 _ _ h
    exact fr_ret h (fr_tr (fr_mono (by decide) (by decide +kernel) (f_MDotRows_line_fr e21)) (fr_tr (fr_mono (by decide) (by decide +kernel) (f_MScriptRows_order_fr e10)) (fr_tr (fr_mono (by decide) (by decide +kernel) (f_MScriptRows_order_fr e9)) (fr_tr (fr_mono (by decide) (by decide +kernel) (f_MScriptRows_order_fr e8)) (fr_tr (fr_mono (by decide) (by decide +kernel) (f_MScriptRows_order_fr e7)) (fr_tr (fr_mono (by decide) (by decide +kernel) (f_MScriptRows_order_fr e6)) (fr_tr (fr_mono (by decide) (by decide +kernel) (f_MScriptRows_order_fr e5)) (fr_tr (fr_mono (by decide) (by decide +kernel) (f_MScriptRows_order_fr e4)) (fr_tr (fr_mono (by decide) (by decide +kernel) (f_MDotRows_wipe_fr e3)) (fr_tr (fr_mono (by decide) (by decide +kernel) (f_MDotRows_way_fr e2)) (fr_tr (fr_mono (by decide) (by decide +kernel) (f_MScriptRows_order_fr e1)) fr_refl)))))))))))
  replace h := ed_neg q101_6 h
  obtain ⟨Q22, hQ22, h⟩ := bd1_ed h
  obtain ⟨M22, e22, h⟩ := h
  replace h := hQ22 _ h
  obtain ⟨Q23, hQ23, h⟩ := bd2_ed h
  obtain ⟨⟨x23, M23⟩, e23, h⟩ := h
  replace h := hQ23 _ _ h
  exact fr_ret h (fr_tr (fr_mono (by decide) (by decide +kernel) (f_MDotRows_picture_fr e23)) (fr_tr (fr_mono (by decide) (by decide +kernel) (f_M_draftData_fr e22)) (fr_tr (fr_mono (by decide) (by decide +kernel) (f_MScriptRows_order_fr e10)) (fr_tr (fr_mono (by decide) (by decide +kernel) (f_MScriptRows_order_fr e9)) (fr_tr (fr_mono (by decide) (by decide +kernel) (f_MScriptRows_order_fr e8)) (fr_tr (fr_mono (by decide) (by decide +kernel) (f_MScriptRows_order_fr e7)) (fr_tr (fr_mono (by decide) (by decide +kernel) (f_MScriptRows_order_fr e6)) (fr_tr (fr_mono (by decide) (by decide +kernel) (f_MScriptRows_order_fr e5)) (fr_tr (fr_mono (by decide) (by decide +kernel) (f_MScriptRows_order_fr e4)) (fr_tr (fr_mono (by decide) (by decide +kernel) (f_MDotRows_wipe_fr e3)) (fr_tr (fr_mono (by decide) (by decide +kernel) (f_MDotRows_way_fr e2)) (fr_tr (fr_mono (by decide) (by decide +kernel) (f_MScriptRows_order_fr e1)) fr_refl))))))))))))
noncomputable def f_MDotRows_told_L77 (v11 : Int32) (v12 : Int32) (M16 : im_M) (x13 : Int32) (x14 : Int32) (x15 : Int32) : Option ((Int32 × Int32 × Int32) ⊕ (Int32 × Int32)) := if (im_i M16 89 1) ≤ x15 then some (.inr (x13, x14)) else bd1 (f_MDotRows_isDark x15 v12 M16) fun (x17 : Int32) => bd2 (if x17 = 0 then some (x13, x14) else some ((x13 + 1), ((if x14 < 0 then ((if ¬ (v11 - v11 / 2 * 2) = 0 then v12 else x15) : Int32) else (if 4 ≤ v11 then (if ((if ¬ (v11 - v11 / 2 * 2) = 0 then v12 else x15) : Int32) ≤ x14 then x14 else ((if ¬ (v11 - v11 / 2 * 2) = 0 then v12 else x15) : Int32)) else (if x14 ≤ ((if ¬ (v11 - v11 / 2 * 2) = 0 then v12 else x15) : Int32) then x14 else ((if ¬ (v11 - v11 / 2 * 2) = 0 then v12 else x15) : Int32)))) : Int32))) fun (y21 : Int32) (y22 : Int32) => some (.inl (y21, y22, (x15 + 1)))
noncomputable def f_MDotRows_told_L65 (v5 : Int32) (M9 : im_M) (x6 : Int32) (x7 : Int32) (x8 : Int32) : Option ((Int32 × Int32 × Int32) ⊕ (Int32 × Int32)) := if (im_i M9 89 2) ≤ x8 then some (.inr (x6, x7)) else bd2 (lp (uc3 (f_MDotRows_told_L77 v5 x8 M9)) (x6, x7, 0)) fun (y29 : Int32) (y30 : Int32) => some (.inl (y29, y30, (x8 + 1)))
noncomputable def f_MDotRows_told (p0 : Int32) (M : im_M) : Option (Int32 × im_M) := bd1 (f_MDotRows_isNot p0 0 6 M) fun (x1 : Int32) => jn0 (fun (_ : Unit) => if (im_i (im_setI M 89 0 ((if x1 = 0 then 0 else 1) : Int32)) 89 0) ≤ 0 then if ¬ p0 = 0 then some ((im_i (im_setI M 89 0 ((if x1 = 0 then 0 else 1) : Int32)) 89 2), (im_setI M 89 0 ((if x1 = 0 then 0 else 1) : Int32))) else some ((im_i (im_setI M 89 0 ((if x1 = 0 then 0 else 1) : Int32)) 89 1), (im_setI M 89 0 ((if x1 = 0 then 0 else 1) : Int32))) else some (0, (im_setI M 89 0 ((if x1 = 0 then 0 else 1) : Int32)))) fun k3 => if 0 < (im_i (im_setI M 89 0 ((if x1 = 0 then 0 else 1) : Int32)) 89 0) then k3 () else if 2 ≤ p0 then bd2 (lp (uc3 (f_MDotRows_told_L65 p0 (im_setI M 89 0 ((if x1 = 0 then 0 else 1) : Int32)))) (0, (-1), 0)) fun (y31 : Int32) (y32 : Int32) => if ¬ p0 = 6 then some (y32, (im_setI M 89 0 ((if x1 = 0 then 0 else 1) : Int32))) else some (y31, (im_setI M 89 0 ((if x1 = 0 then 0 else 1) : Int32))) else k3 ()
theorem J_MDotRows_told_d0 : decode J_MDotRows_told.2.1 0 = .ok (.aload_n 0, 1) := by decide +kernel
theorem J_MDotRows_told_d1 : decode J_MDotRows_told.2.1 1 = .ok (.iload_n 1, 1) := by decide +kernel
theorem J_MDotRows_told_d2 : decode J_MDotRows_told.2.1 2 = .ok (.iconst 0, 1) := by decide +kernel
theorem J_MDotRows_told_d3 : decode J_MDotRows_told.2.1 3 = .ok (.bipush 6, 2) := by decide +kernel
theorem J_MDotRows_told_d5 : decode J_MDotRows_told.2.1 5 = .ok (.invokestatic 121, 3) := by decide +kernel
theorem J_MDotRows_told_d8 : decode J_MDotRows_told.2.1 8 = .ok (.ifCond .eq 7, 3) := by decide +kernel
theorem J_MDotRows_told_d11 : decode J_MDotRows_told.2.1 11 = .ok (.iconst 1, 1) := by decide +kernel
theorem J_MDotRows_told_d12 : decode J_MDotRows_told.2.1 12 = .ok (.goto 4, 3) := by decide +kernel
theorem J_MDotRows_told_d15 : decode J_MDotRows_told.2.1 15 = .ok (.iconst 0, 1) := by decide +kernel
theorem J_MDotRows_told_d16 : decode J_MDotRows_told.2.1 16 = .ok (.putfield 37, 3) := by decide +kernel
theorem J_MDotRows_told_d19 : decode J_MDotRows_told.2.1 19 = .ok (.aload_n 0, 1) := by decide +kernel
theorem J_MDotRows_told_d20 : decode J_MDotRows_told.2.1 20 = .ok (.getfield 37, 3) := by decide +kernel
theorem J_MDotRows_told_d23 : decode J_MDotRows_told.2.1 23 = .ok (.ifCond .gt 8, 3) := by decide +kernel
theorem J_MDotRows_told_d26 : decode J_MDotRows_told.2.1 26 = .ok (.iload_n 1, 1) := by decide +kernel
theorem J_MDotRows_told_d27 : decode J_MDotRows_told.2.1 27 = .ok (.iconst 2, 1) := by decide +kernel
theorem J_MDotRows_told_d28 : decode J_MDotRows_told.2.1 28 = .ok (.if_icmp .ge 30, 3) := by decide +kernel
theorem J_MDotRows_told_d31 : decode J_MDotRows_told.2.1 31 = .ok (.aload_n 0, 1) := by decide +kernel
theorem J_MDotRows_told_d32 : decode J_MDotRows_told.2.1 32 = .ok (.getfield 37, 3) := by decide +kernel
theorem J_MDotRows_told_d35 : decode J_MDotRows_told.2.1 35 = .ok (.ifCond .le 7, 3) := by decide +kernel
theorem J_MDotRows_told_d38 : decode J_MDotRows_told.2.1 38 = .ok (.iconst 0, 1) := by decide +kernel
theorem J_MDotRows_told_d39 : decode J_MDotRows_told.2.1 39 = .ok (.goto 18, 3) := by decide +kernel
theorem J_MDotRows_told_d42 : decode J_MDotRows_told.2.1 42 = .ok (.iload_n 1, 1) := by decide +kernel
theorem J_MDotRows_told_d43 : decode J_MDotRows_told.2.1 43 = .ok (.ifCond .ne 10, 3) := by decide +kernel
theorem J_MDotRows_told_d46 : decode J_MDotRows_told.2.1 46 = .ok (.aload_n 0, 1) := by decide +kernel
theorem J_MDotRows_told_d47 : decode J_MDotRows_told.2.1 47 = .ok (.getfield 7, 3) := by decide +kernel
theorem J_MDotRows_told_d50 : decode J_MDotRows_told.2.1 50 = .ok (.goto 7, 3) := by decide +kernel
theorem J_MDotRows_told_d53 : decode J_MDotRows_told.2.1 53 = .ok (.aload_n 0, 1) := by decide +kernel
theorem J_MDotRows_told_d54 : decode J_MDotRows_told.2.1 54 = .ok (.getfield 13, 3) := by decide +kernel
theorem J_MDotRows_told_d57 : decode J_MDotRows_told.2.1 57 = .ok (.ireturn, 1) := by decide +kernel
theorem J_MDotRows_told_d58 : decode J_MDotRows_told.2.1 58 = .ok (.iconst 0, 1) := by decide +kernel
theorem J_MDotRows_told_d59 : decode J_MDotRows_told.2.1 59 = .ok (.istore_n 2, 1) := by decide +kernel
theorem J_MDotRows_told_d60 : decode J_MDotRows_told.2.1 60 = .ok (.iconst (-1), 1) := by decide +kernel
theorem J_MDotRows_told_d61 : decode J_MDotRows_told.2.1 61 = .ok (.istore_n 3, 1) := by decide +kernel
theorem J_MDotRows_told_d62 : decode J_MDotRows_told.2.1 62 = .ok (.iconst 0, 1) := by decide +kernel
theorem J_MDotRows_told_d63 : decode J_MDotRows_told.2.1 63 = .ok (.istore 4, 2) := by decide +kernel
theorem J_MDotRows_told_d65 : decode J_MDotRows_told.2.1 65 = .ok (.iload 4, 2) := by decide +kernel
theorem J_MDotRows_told_d67 : decode J_MDotRows_told.2.1 67 = .ok (.aload_n 0, 1) := by decide +kernel
theorem J_MDotRows_told_d68 : decode J_MDotRows_told.2.1 68 = .ok (.getfield 13, 3) := by decide +kernel
theorem J_MDotRows_told_d71 : decode J_MDotRows_told.2.1 71 = .ok (.if_icmp .ge 87, 3) := by decide +kernel
theorem J_MDotRows_told_d74 : decode J_MDotRows_told.2.1 74 = .ok (.iconst 0, 1) := by decide +kernel
theorem J_MDotRows_told_d75 : decode J_MDotRows_told.2.1 75 = .ok (.istore 5, 2) := by decide +kernel
theorem J_MDotRows_told_d77 : decode J_MDotRows_told.2.1 77 = .ok (.iload 5, 2) := by decide +kernel
theorem J_MDotRows_told_d79 : decode J_MDotRows_told.2.1 79 = .ok (.aload_n 0, 1) := by decide +kernel
theorem J_MDotRows_told_d80 : decode J_MDotRows_told.2.1 80 = .ok (.getfield 7, 3) := by decide +kernel
theorem J_MDotRows_told_d83 : decode J_MDotRows_told.2.1 83 = .ok (.if_icmp .ge 69, 3) := by decide +kernel
theorem J_MDotRows_told_d86 : decode J_MDotRows_told.2.1 86 = .ok (.aload_n 0, 1) := by decide +kernel
theorem J_MDotRows_told_d87 : decode J_MDotRows_told.2.1 87 = .ok (.iload 5, 2) := by decide +kernel
theorem J_MDotRows_told_d89 : decode J_MDotRows_told.2.1 89 = .ok (.iload 4, 2) := by decide +kernel
theorem J_MDotRows_told_d91 : decode J_MDotRows_told.2.1 91 = .ok (.invokevirtual 114, 3) := by decide +kernel
theorem J_MDotRows_told_d94 : decode J_MDotRows_told.2.1 94 = .ok (.ifCond .eq 52, 3) := by decide +kernel
theorem J_MDotRows_told_d97 : decode J_MDotRows_told.2.1 97 = .ok (.iinc 2 1, 3) := by decide +kernel
theorem J_MDotRows_told_d100 : decode J_MDotRows_told.2.1 100 = .ok (.iload_n 1, 1) := by decide +kernel
theorem J_MDotRows_told_d101 : decode J_MDotRows_told.2.1 101 = .ok (.iconst 2, 1) := by decide +kernel
theorem J_MDotRows_told_d102 : decode J_MDotRows_told.2.1 102 = .ok (.irem, 1) := by decide +kernel
theorem J_MDotRows_told_d103 : decode J_MDotRows_told.2.1 103 = .ok (.ifCond .ne 8, 3) := by decide +kernel
theorem J_MDotRows_told_d106 : decode J_MDotRows_told.2.1 106 = .ok (.iload 5, 2) := by decide +kernel
theorem J_MDotRows_told_d108 : decode J_MDotRows_told.2.1 108 = .ok (.goto 5, 3) := by decide +kernel
theorem J_MDotRows_told_d111 : decode J_MDotRows_told.2.1 111 = .ok (.iload 4, 2) := by decide +kernel
theorem J_MDotRows_told_d113 : decode J_MDotRows_told.2.1 113 = .ok (.istore 6, 2) := by decide +kernel
theorem J_MDotRows_told_d115 : decode J_MDotRows_told.2.1 115 = .ok (.iload_n 3, 1) := by decide +kernel
theorem J_MDotRows_told_d116 : decode J_MDotRows_told.2.1 116 = .ok (.ifCond .lt 23, 3) := by decide +kernel
theorem J_MDotRows_told_d119 : decode J_MDotRows_told.2.1 119 = .ok (.iload_n 1, 1) := by decide +kernel
theorem J_MDotRows_told_d120 : decode J_MDotRows_told.2.1 120 = .ok (.iconst 4, 1) := by decide +kernel
theorem J_MDotRows_told_d121 : decode J_MDotRows_told.2.1 121 = .ok (.if_icmp .ge 12, 3) := by decide +kernel
theorem J_MDotRows_told_d124 : decode J_MDotRows_told.2.1 124 = .ok (.iload 6, 2) := by decide +kernel
theorem J_MDotRows_told_d126 : decode J_MDotRows_told.2.1 126 = .ok (.iload_n 3, 1) := by decide +kernel
theorem J_MDotRows_told_d127 : decode J_MDotRows_told.2.1 127 = .ok (.if_icmp .ge 17, 3) := by decide +kernel
theorem J_MDotRows_told_d130 : decode J_MDotRows_told.2.1 130 = .ok (.goto 9, 3) := by decide +kernel
theorem J_MDotRows_told_d133 : decode J_MDotRows_told.2.1 133 = .ok (.iload 6, 2) := by decide +kernel
theorem J_MDotRows_told_d135 : decode J_MDotRows_told.2.1 135 = .ok (.iload_n 3, 1) := by decide +kernel
theorem J_MDotRows_told_d136 : decode J_MDotRows_told.2.1 136 = .ok (.if_icmp .le 8, 3) := by decide +kernel
theorem J_MDotRows_told_d139 : decode J_MDotRows_told.2.1 139 = .ok (.iload 6, 2) := by decide +kernel
theorem J_MDotRows_told_d141 : decode J_MDotRows_told.2.1 141 = .ok (.goto 4, 3) := by decide +kernel
theorem J_MDotRows_told_d144 : decode J_MDotRows_told.2.1 144 = .ok (.iload_n 3, 1) := by decide +kernel
theorem J_MDotRows_told_d145 : decode J_MDotRows_told.2.1 145 = .ok (.istore_n 3, 1) := by decide +kernel
theorem J_MDotRows_told_d146 : decode J_MDotRows_told.2.1 146 = .ok (.iinc 5 1, 3) := by decide +kernel
theorem J_MDotRows_told_d149 : decode J_MDotRows_told.2.1 149 = .ok (.goto (-72), 3) := by decide +kernel
theorem J_MDotRows_told_d152 : decode J_MDotRows_told.2.1 152 = .ok (.iinc 4 1, 3) := by decide +kernel
theorem J_MDotRows_told_d155 : decode J_MDotRows_told.2.1 155 = .ok (.goto (-90), 3) := by decide +kernel
theorem J_MDotRows_told_d158 : decode J_MDotRows_told.2.1 158 = .ok (.iload_n 1, 1) := by decide +kernel
theorem J_MDotRows_told_d159 : decode J_MDotRows_told.2.1 159 = .ok (.bipush 6, 2) := by decide +kernel
theorem J_MDotRows_told_d161 : decode J_MDotRows_told.2.1 161 = .ok (.if_icmp .ne 7, 3) := by decide +kernel
theorem J_MDotRows_told_d164 : decode J_MDotRows_told.2.1 164 = .ok (.iload_n 2, 1) := by decide +kernel
theorem J_MDotRows_told_d165 : decode J_MDotRows_told.2.1 165 = .ok (.goto 4, 3) := by decide +kernel
theorem J_MDotRows_told_d168 : decode J_MDotRows_told.2.1 168 = .ok (.iload_n 3, 1) := by decide +kernel
theorem J_MDotRows_told_d169 : decode J_MDotRows_told.2.1 169 = .ok (.ireturn, 1) := by decide +kernel
theorem f_MDotRows_told_ok {L : Nat} {xs : Nat → Int32} {dep : Nat} {w : Bool} {p0 : Int32} {M : im_M} {Q : Int32 × im_M → Prop} (hM : lw_S w M) (h : ed (f_MDotRows_told p0 M) Q) : ia (tb_G L xs) (dep + 2) J_MDotRows_told (rwI w Q) (0, lv_args 0 [.ref 89, .int p0], [], M) := by
  have hS : im_St (tb_G L xs) (dep + 2) J_MDotRows_told (ia (tb_G L xs) (dep + 2) J_MDotRows_told (rwI w Q)) := ia_St
  unfold f_MDotRows_told at h
  have l0 : im_lk (lv_args 0 [.ref 89, .int p0]) 0 = some (.ref 89) := rfl
  have l1 : im_lk (lv_args 0 [.ref 89, .int p0]) 1 = some (.int p0) := rfl
  refine iq_aload_n hS 1 J_MDotRows_told_d0 l0 rfl ?_
  refine iq_iload_n hS 2 J_MDotRows_told_d1 l1 rfl ?_
  refine iq_iconst hS 3 J_MDotRows_told_d2 (v := 0) (by decide +kernel) rfl ?_
  refine iq_bipush hS 5 J_MDotRows_told_d3 (v := 6) (by decide +kernel) rfl ?_
  obtain ⟨Q1, hQ1, h⟩ := bd1_ed h
  refine iq_cpI hS 8 J_MDotRows_told_d5 rfl (pr_stat (vs := [_, _, _]) lc_12_121 lT_273 rfl rfl (by decide) rfl (Nat.le_of_ble_eq_true rfl) (Nat.le_of_ble_eq_true rfl)) (f_MDotRows_isNot_ok (dep := dep + 1) hM h) rfl ?_
  intro x1 h
  replace h := hQ1 _ h
  have J2 : ∀ (z3 : Int32) (L' : List (Nat × Value)), z3 = ((if x1 = 0 then 0 else 1) : Int32) → im_lk L' 0 = some (.ref 89) → im_lk L' 1 = some (.int p0) → ia (tb_G L xs) (dep + 2) J_MDotRows_told (rwI w Q) (16, L', [.int z3, .ref 89], M) := by
    intro z3 L' e4 l5 l6
    subst e4
    refine iq_putI hS 19 J_MDotRows_told_d16 lf_12_37 (Or.inl rfl) rfl (ka_89 hM) rfl ?_
    refine iq_aload_n hS 20 J_MDotRows_told_d19 l5 rfl ?_
    refine iq_getI hS 23 J_MDotRows_told_d20 lf_12_37 (Or.inl rfl) (ka_89 (lw_sI hM)) rfl ?_
    obtain ⟨k7, Q7, hQ7, hk7, h⟩ := jn0_ed h
    have J7 : ∀  (L' : List (Nat × Value)), im_lk L' 0 = some (.ref 89) → im_lk L' 1 = some (.int p0) → Q7 () → ia (tb_G L xs) (dep + 2) J_MDotRows_told (rwI w Q) (31, L', [], (im_setI M 89 0 ((if x1 = 0 then 0 else 1) : Int32))) := by
      intro  L' l66 l67 h
      replace h := hQ7  h
      refine iq_aload_n hS 32 J_MDotRows_told_d31 l66 rfl ?_
      refine iq_getI hS 35 J_MDotRows_told_d32 lf_12_37 (Or.inl rfl) (ka_89 (lw_sI hM)) rfl ?_
      refine iq_if_le hS 38 J_MDotRows_told_d35 (t := 42) rfl (fun q35 => ?_) rfl (fun q35 => ?_)
      · replace h := ed_pos q35 h
        refine iq_iload_n hS 43 J_MDotRows_told_d42 l67 rfl ?_
        refine iq_if_ne hS 46 J_MDotRows_told_d43 (t := 53) rfl (fun q43 => ?_) rfl (fun q43 => ?_)
        · replace h := ed_pos q43 h
          refine iq_aload_n hS 54 J_MDotRows_told_d53 l66 rfl ?_
          refine iq_getI hS 57 J_MDotRows_told_d54 lf_12_13 (Or.inl rfl) (ka_89 (lw_sI hM)) rfl ?_
          exact iq_iret J_MDotRows_told_d57 rfl rfl ⟨_, rfl, (lw_sI hM), ed_some h⟩
        · replace h := ed_neg q43 h
          refine iq_aload_n hS 47 J_MDotRows_told_d46 l66 rfl ?_
          refine iq_getI hS 50 J_MDotRows_told_d47 lf_12_7 (Or.inl rfl) (ka_89 (lw_sI hM)) rfl ?_
          refine iq_goto hS J_MDotRows_told_d50 (t := 57) rfl ?_
          exact iq_iret J_MDotRows_told_d57 rfl rfl ⟨_, rfl, (lw_sI hM), ed_some h⟩
      · replace h := ed_neg q35 h
        refine iq_iconst hS 39 J_MDotRows_told_d38 (v := 0) (by decide +kernel) rfl ?_
        refine iq_goto hS J_MDotRows_told_d39 (t := 57) rfl ?_
        exact iq_iret J_MDotRows_told_d57 rfl rfl ⟨_, rfl, (lw_sI hM), ed_some h⟩
    refine iq_if_gt hS 26 J_MDotRows_told_d23 (t := 31) rfl (fun q23 => ?_) rfl (fun q23 => ?_)
    · replace h := ed_pos q23 h
      exact J7  _ l5 l6 (hk7  h)
    · replace h := ed_neg q23 h
      refine iq_iload_n hS 27 J_MDotRows_told_d26 l6 rfl ?_
      refine iq_iconst hS 28 J_MDotRows_told_d27 (v := 2) (by decide +kernel) rfl ?_
      refine iq_icmp_ge hS 31 J_MDotRows_told_d28 (t := 58) rfl (fun q28 => ?_) rfl (fun q28 => ?_)
      · replace h := ed_pos q28 h
        refine iq_iconst hS 59 J_MDotRows_told_d58 (v := 0) (by decide +kernel) rfl ?_
        refine iq_istore_n hS 60 J_MDotRows_told_d59 (by decide) rfl ?_
        refine iq_iconst hS 61 J_MDotRows_told_d60 (v := (-1)) (by decide +kernel) rfl ?_
        refine iq_istore_n hS 62 J_MDotRows_told_d61 (by decide) rfl ?_
        refine iq_iconst hS 63 J_MDotRows_told_d62 (v := 0) (by decide +kernel) rfl ?_
        refine iq_istore hS 65 J_MDotRows_told_d63 (by decide) rfl ?_
        obtain ⟨Q8, hQ8, h⟩ := bd2_ed h
        have K8 : ∀ (y9 : Int32) (y10 : Int32) (L' : List (Nat × Value)), im_lk L' 1 = some (.int p0) → im_lk L' 2 = some (.int y9) → im_lk L' 3 = some (.int y10) → Q8 (y9, y10) → ia (tb_G L xs) (dep + 2) J_MDotRows_told (rwI w Q) (158, L', [], (im_setI M 89 0 ((if x1 = 0 then 0 else 1) : Int32))) := by
          intro y9 y10 L' l11 l12 l13 h
          replace h := hQ8 _ _ h
          refine iq_iload_n hS 159 J_MDotRows_told_d158 l11 rfl ?_
          refine iq_bipush hS 161 J_MDotRows_told_d159 (v := 6) (by decide +kernel) rfl ?_
          refine iq_icmp_ne hS 164 J_MDotRows_told_d161 (t := 168) rfl (fun q161 => ?_) rfl (fun q161 => ?_)
          · replace h := ed_pos q161 h
            refine iq_iload_n hS 169 J_MDotRows_told_d168 l13 rfl ?_
            exact iq_iret J_MDotRows_told_d169 rfl rfl ⟨_, rfl, (lw_sI hM), ed_some h⟩
          · replace h := ed_neg q161 h
            refine iq_iload_n hS 165 J_MDotRows_told_d164 l12 rfl ?_
            refine iq_goto hS J_MDotRows_told_d165 (t := 169) rfl ?_
            exact iq_iret J_MDotRows_told_d169 rfl rfl ⟨_, rfl, (lw_sI hM), ed_some h⟩
        obtain ⟨r8, hr8, hq8⟩ := h
        obtain ⟨n8, hn8⟩ := lp_n hr8
        have I8 : ∀ (n : Nat) (x14 : Int32) (x15 : Int32) (x16 : Int32) (L' : List (Nat × Value)), im_lk L' 0 = some (.ref 89) → im_lk L' 1 = some (.int p0) → im_lk L' 2 = some (.int x14) → im_lk L' 3 = some (.int x15) → im_lk L' 4 = some (.int x16) → lpn (uc3 (f_MDotRows_told_L65 p0 (im_setI M 89 0 ((if x1 = 0 then 0 else 1) : Int32)))) n (x14, x15, x16) = some r8 → ia (tb_G L xs) (dep + 2) J_MDotRows_told (rwI w Q) (65, L', [], (im_setI M 89 0 ((if x1 = 0 then 0 else 1) : Int32))) := by
          intro n
          induction n with
          | zero => intro x14 x15 x16 L' l17 l18 l19 l20 l21 hn; exact (lpn_0 hn).elim
          | succ n ih =>
            intro x14 x15 x16 L' l17 l18 l19 l20 l21 hn
            have h := lpn_ed3 hn
            unfold f_MDotRows_told_L65 at h
            refine iq_iload hS 67 J_MDotRows_told_d65 l21 rfl ?_
            refine iq_aload_n hS 68 J_MDotRows_told_d67 l17 rfl ?_
            refine iq_getI hS 71 J_MDotRows_told_d68 lf_12_13 (Or.inl rfl) (ka_89 (lw_sI hM)) rfl ?_
            refine iq_icmp_ge hS 74 J_MDotRows_told_d71 (t := 158) rfl (fun q71 => ?_) rfl (fun q71 => ?_)
            · replace h := ed_pos q71 h
              exact K8 _ _ _ l18 l19 l20 (lq_r h hq8)
            · replace h := ed_neg q71 h
              refine iq_iconst hS 75 J_MDotRows_told_d74 (v := 0) (by decide +kernel) rfl ?_
              refine iq_istore hS 77 J_MDotRows_told_d75 (by decide) rfl ?_
              obtain ⟨Q22, hQ22, h⟩ := bd2_ed h
              have K22 : ∀ (y23 : Int32) (y24 : Int32) (L' : List (Nat × Value)), im_lk L' 0 = some (.ref 89) → im_lk L' 1 = some (.int p0) → im_lk L' 2 = some (.int y23) → im_lk L' 3 = some (.int y24) → im_lk L' 4 = some (.int x16) → Q22 (y23, y24) → ia (tb_G L xs) (dep + 2) J_MDotRows_told (rwI w Q) (152, L', [], (im_setI M 89 0 ((if x1 = 0 then 0 else 1) : Int32))) := by
                intro y23 y24 L' l25 l26 l27 l28 l29 h
                replace h := hQ22 _ _ h
                refine iq_iincv hS 155 J_MDotRows_told_d152 (c := 1) (by decide +kernel) l29 (by decide) rfl ?_
                refine iq_goto hS J_MDotRows_told_d155 (t := 65) rfl ?_
                exact ih _ _ _ _ (lk_1r l25 (by decide)) (lk_1i l26 (by decide)) (lk_1i l27 (by decide)) (lk_1i l28 (by decide)) lk_1s (lq_l h)
              obtain ⟨r22, hr22, hq22⟩ := h
              obtain ⟨n22, hn22⟩ := lp_n hr22
              have I22 : ∀ (n : Nat) (x30 : Int32) (x31 : Int32) (x32 : Int32) (L' : List (Nat × Value)), im_lk L' 0 = some (.ref 89) → im_lk L' 1 = some (.int p0) → im_lk L' 2 = some (.int x30) → im_lk L' 3 = some (.int x31) → im_lk L' 4 = some (.int x16) → im_lk L' 5 = some (.int x32) → lpn (uc3 (f_MDotRows_told_L77 p0 x16 (im_setI M 89 0 ((if x1 = 0 then 0 else 1) : Int32)))) n (x30, x31, x32) = some r22 → ia (tb_G L xs) (dep + 2) J_MDotRows_told (rwI w Q) (77, L', [], (im_setI M 89 0 ((if x1 = 0 then 0 else 1) : Int32))) := by
                intro n
                induction n with
                | zero => intro x30 x31 x32 L' l33 l34 l35 l36 l37 l38 hn; exact (lpn_0 hn).elim
                | succ n ih =>
                  intro x30 x31 x32 L' l33 l34 l35 l36 l37 l38 hn
                  have h := lpn_ed3 hn
                  unfold f_MDotRows_told_L77 at h
                  refine iq_iload hS 79 J_MDotRows_told_d77 l38 rfl ?_
                  refine iq_aload_n hS 80 J_MDotRows_told_d79 l33 rfl ?_
                  refine iq_getI hS 83 J_MDotRows_told_d80 lf_12_7 (Or.inl rfl) (ka_89 (lw_sI hM)) rfl ?_
                  refine iq_icmp_ge hS 86 J_MDotRows_told_d83 (t := 152) rfl (fun q83 => ?_) rfl (fun q83 => ?_)
                  · replace h := ed_pos q83 h
                    exact K22 _ _ _ l33 l34 l35 l36 l37 (lq_r h hq22)
                  · replace h := ed_neg q83 h
                    refine iq_aload_n hS 87 J_MDotRows_told_d86 l33 rfl ?_
                    refine iq_iload hS 89 J_MDotRows_told_d87 l38 rfl ?_
                    refine iq_iload hS 91 J_MDotRows_told_d89 l37 rfl ?_
                    obtain ⟨Q39, hQ39, h⟩ := bd1_ed h
                    refine iq_cpI hS 94 J_MDotRows_told_d91 rfl (pr_inst (vs := [_, _]) lc_12_114 lT_354 rfl rfl (by decide) (by decide) rfl (Nat.le_of_ble_eq_true rfl) (Nat.le_of_ble_eq_true rfl) (fun _ => Or.inl (pr_b (ka_89 (lw_sI hM)) (by decide) rfl))) (f_MDotRows_isDark_ok (dep := dep + 0) (lw_sI hM) h) rfl ?_
                    intro x39 h
                    replace h := hQ39 _ h
                    obtain ⟨Q40, hQ40, h⟩ := bd2_ed h
                    have J40 : ∀ (y58 : Int32) (y59 : Int32) (L' : List (Nat × Value)), im_lk L' 0 = some (.ref 89) → im_lk L' 1 = some (.int p0) → im_lk L' 2 = some (.int y58) → im_lk L' 3 = some (.int y59) → im_lk L' 4 = some (.int x16) → im_lk L' 5 = some (.int x32) → Q40 (y58, y59) → ia (tb_G L xs) (dep + 2) J_MDotRows_told (rwI w Q) (146, L', [], (im_setI M 89 0 ((if x1 = 0 then 0 else 1) : Int32))) := by
                      intro y58 y59 L' l60 l61 l62 l63 l64 l65 h
                      replace h := hQ40 _ _ h
                      refine iq_iincv hS 149 J_MDotRows_told_d146 (c := 1) (by decide +kernel) l65 (by decide) rfl ?_
                      refine iq_goto hS J_MDotRows_told_d149 (t := 77) rfl ?_
                      exact ih _ _ _ _ (lk_1r l60 (by decide)) (lk_1i l61 (by decide)) (lk_1i l62 (by decide)) (lk_1i l63 (by decide)) (lk_1i l64 (by decide)) lk_1s (lq_l h)
                    refine iq_if_eq hS 97 J_MDotRows_told_d94 (t := 146) rfl (fun q94 => ?_) rfl (fun q94 => ?_)
                    · replace h := ed_pos q94 h
                      exact J40 _ _ _ l33 l34 l35 l36 l37 l38 (ed_some h)
                    · replace h := ed_neg q94 h
                      refine iq_iincv hS 100 J_MDotRows_told_d97 (c := 1) (by decide +kernel) l35 (by decide) rfl ?_
                      refine iq_iload_n hS 101 J_MDotRows_told_d100 (lk_1i l34 (by decide)) rfl ?_
                      refine iq_iconst hS 102 J_MDotRows_told_d101 (v := 2) (by decide +kernel) rfl ?_
                      refine iq_irem hS 103 J_MDotRows_told_d102 (by decide) rfl ?_
                      have J41 : ∀ (z42 : Int32) (L' : List (Nat × Value)), z42 = ((if ¬ (p0 - p0 / 2 * 2) = 0 then x16 else x32) : Int32) → im_lk L' 0 = some (.ref 89) → im_lk L' 1 = some (.int p0) → im_lk L' 2 = some (.int (x30 + 1)) → im_lk L' 3 = some (.int x31) → im_lk L' 4 = some (.int x16) → im_lk L' 5 = some (.int x32) → ia (tb_G L xs) (dep + 2) J_MDotRows_told (rwI w Q) (113, L', [.int z42], (im_setI M 89 0 ((if x1 = 0 then 0 else 1) : Int32))) := by
                        intro z42 L' e43 l44 l45 l46 l47 l48 l49
                        subst e43
                        refine iq_istore hS 115 J_MDotRows_told_d113 (by decide) rfl ?_
                        refine iq_iload_n hS 116 J_MDotRows_told_d115 (lk_1i l47 (by decide)) rfl ?_
                        have J50 : ∀ (z51 : Int32) (L' : List (Nat × Value)), z51 = ((if x31 < 0 then ((if ¬ (p0 - p0 / 2 * 2) = 0 then x16 else x32) : Int32) else (if 4 ≤ p0 then (if ((if ¬ (p0 - p0 / 2 * 2) = 0 then x16 else x32) : Int32) ≤ x31 then x31 else ((if ¬ (p0 - p0 / 2 * 2) = 0 then x16 else x32) : Int32)) else (if x31 ≤ ((if ¬ (p0 - p0 / 2 * 2) = 0 then x16 else x32) : Int32) then x31 else ((if ¬ (p0 - p0 / 2 * 2) = 0 then x16 else x32) : Int32)))) : Int32) → im_lk L' 0 = some (.ref 89) → im_lk L' 1 = some (.int p0) → im_lk L' 2 = some (.int (x30 + 1)) → im_lk L' 4 = some (.int x16) → im_lk L' 5 = some (.int x32) → ia (tb_G L xs) (dep + 2) J_MDotRows_told (rwI w Q) (145, L', [.int z51], (im_setI M 89 0 ((if x1 = 0 then 0 else 1) : Int32))) := by
                          intro z51 L' e52 l53 l54 l55 l56 l57
                          subst e52
                          refine iq_istore_n hS 146 J_MDotRows_told_d145 (by decide) rfl ?_
                          exact J40 _ _ _ (lk_1r l53 (by decide)) (lk_1i l54 (by decide)) (lk_1i l55 (by decide)) lk_1s (lk_1i l56 (by decide)) (lk_1i l57 (by decide)) (ed_some h)
                        refine iq_if_lt hS 119 J_MDotRows_told_d116 (t := 139) rfl (fun q116 => ?_) rfl (fun q116 => ?_)
                        · refine iq_iload hS 141 J_MDotRows_told_d139 lk_1s rfl ?_
                          refine iq_goto hS J_MDotRows_told_d141 (t := 145) rfl ?_
                          exact J50 _ _ (by simp only [if_pos q116]) (lk_1r l44 (by decide)) (lk_1i l45 (by decide)) (lk_1i l46 (by decide)) (lk_1i l48 (by decide)) (lk_1i l49 (by decide))
                        · refine iq_iload_n hS 120 J_MDotRows_told_d119 (lk_1i l45 (by decide)) rfl ?_
                          refine iq_iconst hS 121 J_MDotRows_told_d120 (v := 4) (by decide +kernel) rfl ?_
                          refine iq_icmp_ge hS 124 J_MDotRows_told_d121 (t := 133) rfl (fun q121 => ?_) rfl (fun q121 => ?_)
                          · refine iq_iload hS 135 J_MDotRows_told_d133 lk_1s rfl ?_
                            refine iq_iload_n hS 136 J_MDotRows_told_d135 (lk_1i l47 (by decide)) rfl ?_
                            refine iq_icmp_le hS 139 J_MDotRows_told_d136 (t := 144) rfl (fun q136 => ?_) rfl (fun q136 => ?_)
                            · refine iq_iload_n hS 145 J_MDotRows_told_d144 (lk_1i l47 (by decide)) rfl ?_
                              exact J50 _ _ (by simp only [if_neg q116, if_pos q121, if_pos q136]) (lk_1r l44 (by decide)) (lk_1i l45 (by decide)) (lk_1i l46 (by decide)) (lk_1i l48 (by decide)) (lk_1i l49 (by decide))
                            · refine iq_iload hS 141 J_MDotRows_told_d139 lk_1s rfl ?_
                              refine iq_goto hS J_MDotRows_told_d141 (t := 145) rfl ?_
                              exact J50 _ _ (by simp only [if_neg q116, if_pos q121, if_neg q136]) (lk_1r l44 (by decide)) (lk_1i l45 (by decide)) (lk_1i l46 (by decide)) (lk_1i l48 (by decide)) (lk_1i l49 (by decide))
                          · refine iq_iload hS 126 J_MDotRows_told_d124 lk_1s rfl ?_
                            refine iq_iload_n hS 127 J_MDotRows_told_d126 (lk_1i l47 (by decide)) rfl ?_
                            refine iq_icmp_ge hS 130 J_MDotRows_told_d127 (t := 144) rfl (fun q127 => ?_) rfl (fun q127 => ?_)
                            · refine iq_iload_n hS 145 J_MDotRows_told_d144 (lk_1i l47 (by decide)) rfl ?_
                              exact J50 _ _ (by simp only [if_neg q116, if_neg q121, if_pos q127]) (lk_1r l44 (by decide)) (lk_1i l45 (by decide)) (lk_1i l46 (by decide)) (lk_1i l48 (by decide)) (lk_1i l49 (by decide))
                            · refine iq_goto hS J_MDotRows_told_d130 (t := 139) rfl ?_
                              refine iq_iload hS 141 J_MDotRows_told_d139 lk_1s rfl ?_
                              refine iq_goto hS J_MDotRows_told_d141 (t := 145) rfl ?_
                              exact J50 _ _ (by simp only [if_neg q116, if_neg q121, if_neg q127]) (lk_1r l44 (by decide)) (lk_1i l45 (by decide)) (lk_1i l46 (by decide)) (lk_1i l48 (by decide)) (lk_1i l49 (by decide))
                      refine iq_if_ne hS 106 J_MDotRows_told_d103 (t := 111) rfl (fun q103 => ?_) rfl (fun q103 => ?_)
                      · refine iq_iload hS 113 J_MDotRows_told_d111 (lk_1i l37 (by decide)) rfl ?_
                        exact J41 _ _ (by simp only [if_pos q103]) (lk_1r l33 (by decide)) (lk_1i l34 (by decide)) lk_1s (lk_1i l36 (by decide)) (lk_1i l37 (by decide)) (lk_1i l38 (by decide))
                      · refine iq_iload hS 108 J_MDotRows_told_d106 (lk_1i l38 (by decide)) rfl ?_
                        refine iq_goto hS J_MDotRows_told_d108 (t := 113) rfl ?_
                        exact J41 _ _ (by simp only [if_neg q103]) (lk_1r l33 (by decide)) (lk_1i l34 (by decide)) lk_1s (lk_1i l36 (by decide)) (lk_1i l37 (by decide)) (lk_1i l38 (by decide))
              exact I22 n22 _ _ _ _ (lk_1r l17 (by decide)) (lk_1i l18 (by decide)) (lk_1i l19 (by decide)) (lk_1i l20 (by decide)) (lk_1i l21 (by decide)) lk_1s hn22
        exact I8 n8 _ _ _ _ (lk_1r (lk_1r (lk_1r l5 (by decide)) (by decide)) (by decide)) (lk_1i (lk_1i (lk_1i l6 (by decide)) (by decide)) (by decide)) (lk_1i (lk_1i lk_1s (by decide)) (by decide)) (lk_1i lk_1s (by decide)) lk_1s hn8
      · replace h := ed_neg q28 h
        exact J7  _ l5 l6 (hk7  h)
  refine iq_if_eq hS 11 J_MDotRows_told_d8 (t := 15) rfl (fun q8 => ?_) rfl (fun q8 => ?_)
  · refine iq_iconst hS 16 J_MDotRows_told_d15 (v := 0) (by decide +kernel) rfl ?_
    exact J2 _ _ (by simp only [if_pos q8]) l0 l1
  · refine iq_iconst hS 12 J_MDotRows_told_d11 (v := 1) (by decide +kernel) rfl ?_
    refine iq_goto hS J_MDotRows_told_d12 (t := 16) rfl ?_
    exact J2 _ _ (by simp only [if_neg q8]) l0 l1
theorem f_MDotRows_told_fr {p0 : Int32} {M : im_M} {r : Int32 × im_M} (h : f_MDotRows_told p0 M = some r) : fr 0 [(89, 0)] M r.2 := by
  replace h : ed (f_MDotRows_told p0 M) (fun x => x = r) := ⟨r, h, rfl⟩
  unfold f_MDotRows_told at h
  obtain ⟨Q1, hQ1, h⟩ := bd1_ed h
  obtain ⟨x1, e1, h⟩ := h
  replace h := hQ1 _ h
  obtain ⟨k3, Q3, hQ3, hk3, h⟩ := jn0_ed h
  have J3 : Q3 () → fr 0 [(89, 0)] M r.2 := by
    intro  h
    replace h := hQ3  h
    by_cases q35 : (im_i (im_setI M 89 0 ((if x1 = 0 then 0 else 1) : Int32)) 89 0) ≤ 0
    · replace h := ed_pos q35 h
      by_cases q43 : ¬ p0 = 0
      · replace h := ed_pos q43 h
        exact fr_ret h (fr_F (by decide) fr_refl)
      · replace h := ed_neg q43 h
        exact fr_ret h (fr_F (by decide) fr_refl)
    · replace h := ed_neg q35 h
      exact fr_ret h (fr_F (by decide) fr_refl)
  by_cases q23 : 0 < (im_i (im_setI M 89 0 ((if x1 = 0 then 0 else 1) : Int32)) 89 0)
  · replace h := ed_pos q23 h
    exact J3  (hk3  h)
  · replace h := ed_neg q23 h
    by_cases q28 : 2 ≤ p0
    · replace h := ed_pos q28 h
      obtain ⟨Q4, hQ4, h⟩ := bd2_ed h
      have K4 : ∀ (y5 : Int32) (y6 : Int32), Q4 (y5, y6) → fr 0 [(89, 0)] M r.2 := by
        intro y5 y6 h
        replace h := hQ4 _ _ h
        by_cases q161 : ¬ p0 = 6
        · replace h := ed_pos q161 h
          exact fr_ret h (fr_F (by decide) fr_refl)
        · replace h := ed_neg q161 h
          exact fr_ret h (fr_F (by decide) fr_refl)
      obtain ⟨r4, hr4, hq4⟩ := h
      obtain ⟨n4, hn4⟩ := lp_n hr4
      have I4 : ∀ (n : Nat) (x7 : Int32) (x8 : Int32) (x9 : Int32), lpn (uc3 (f_MDotRows_told_L65 p0 (im_setI M 89 0 ((if x1 = 0 then 0 else 1) : Int32)))) n (x7, x8, x9) = some r4 → fr 0 [(89, 0)] M r.2 := by
        intro n
        induction n with
        | zero => intro x7 x8 x9 hn; exact (lpn_0 hn).elim
        | succ n ih =>
          intro x7 x8 x9 hn
          have h := lpn_ed3 hn
          unfold f_MDotRows_told_L65 at h
          by_cases q71 : (im_i (im_setI M 89 0 ((if x1 = 0 then 0 else 1) : Int32)) 89 2) ≤ x9
          · replace h := ed_pos q71 h
            exact K4 _ _ (lq_r h hq4)
          · replace h := ed_neg q71 h
            obtain ⟨Q10, hQ10, h⟩ := bd2_ed h
            have K10 : ∀ (y11 : Int32) (y12 : Int32), Q10 (y11, y12) → fr 0 [(89, 0)] M r.2 := by
              intro y11 y12 h
              replace h := hQ10 _ _ h
              exact ih _ _ _ (lq_l h)
            obtain ⟨r10, hr10, hq10⟩ := h
            obtain ⟨n10, hn10⟩ := lp_n hr10
            have I10 : ∀ (n : Nat) (x13 : Int32) (x14 : Int32) (x15 : Int32), lpn (uc3 (f_MDotRows_told_L77 p0 x9 (im_setI M 89 0 ((if x1 = 0 then 0 else 1) : Int32)))) n (x13, x14, x15) = some r10 → fr 0 [(89, 0)] M r.2 := by
              intro n
              induction n with
              | zero => intro x13 x14 x15 hn; exact (lpn_0 hn).elim
              | succ n ih =>
                intro x13 x14 x15 hn
                have h := lpn_ed3 hn
                unfold f_MDotRows_told_L77 at h
                by_cases q83 : (im_i (im_setI M 89 0 ((if x1 = 0 then 0 else 1) : Int32)) 89 1) ≤ x15
                · replace h := ed_pos q83 h
                  exact K10 _ _ (lq_r h hq10)
                · replace h := ed_neg q83 h
                  obtain ⟨Q16, hQ16, h⟩ := bd1_ed h
                  obtain ⟨x16, e16, h⟩ := h
                  replace h := hQ16 _ h
                  obtain ⟨Q17, hQ17, h⟩ := bd2_ed h
                  have J17 : ∀ (y20 : Int32) (y21 : Int32), Q17 (y20, y21) → fr 0 [(89, 0)] M r.2 := by
                    intro y20 y21 h
                    replace h := hQ17 _ _ h
                    exact ih _ _ _ (lq_l h)
                  by_cases q94 : x16 = 0
                  · replace h := ed_pos q94 h
                    exact J17 _ _ (ed_some h)
                  · replace h := ed_neg q94 h
                    exact J17 _ _ (ed_some h)
            exact I10 n10 _ _ _ hn10
      exact I4 n4 _ _ _ hn4
    · replace h := ed_neg q28 h
      exact J3  (hk3  h)
noncomputable def f_MPlaceRows_forget (M : im_M) : Option (im_M) := some (im_setI (im_setI M 130 8 0) 130 10 0)
theorem J_MPlaceRows_forget_d0 : decode J_MPlaceRows_forget.2.1 0 = .ok (.aload_n 0, 1) := by decide +kernel
theorem J_MPlaceRows_forget_d1 : decode J_MPlaceRows_forget.2.1 1 = .ok (.iconst 0, 1) := by decide +kernel
theorem J_MPlaceRows_forget_d2 : decode J_MPlaceRows_forget.2.1 2 = .ok (.putfield 38, 3) := by decide +kernel
theorem J_MPlaceRows_forget_d5 : decode J_MPlaceRows_forget.2.1 5 = .ok (.aload_n 0, 1) := by decide +kernel
theorem J_MPlaceRows_forget_d6 : decode J_MPlaceRows_forget.2.1 6 = .ok (.iconst 0, 1) := by decide +kernel
theorem J_MPlaceRows_forget_d7 : decode J_MPlaceRows_forget.2.1 7 = .ok (.putfield 41, 3) := by decide +kernel
theorem J_MPlaceRows_forget_d10 : decode J_MPlaceRows_forget.2.1 10 = .ok (.return_, 1) := by decide +kernel
theorem f_MPlaceRows_forget_ok {L : Nat} {xs : Nat → Int32} {dep : Nat} {w : Bool} {M : im_M} {Q : im_M → Prop} (hM : lw_S w M) (h : ed (f_MPlaceRows_forget M) Q) : ia (tb_G L xs) dep J_MPlaceRows_forget (rwV w Q) (0, lv_args 0 [.ref 130], [], M) := by
  have hS : im_St (tb_G L xs) dep J_MPlaceRows_forget (ia (tb_G L xs) dep J_MPlaceRows_forget (rwV w Q)) := ia_St
  unfold f_MPlaceRows_forget at h
  have l0 : im_lk (lv_args 0 [.ref 130]) 0 = some (.ref 130) := rfl
  refine iq_aload_n hS 1 J_MPlaceRows_forget_d0 l0 rfl ?_
  refine iq_iconst hS 2 J_MPlaceRows_forget_d1 (v := 0) (by decide +kernel) rfl ?_
  refine iq_putI hS 5 J_MPlaceRows_forget_d2 lf_14_38 (Or.inl rfl) rfl (ka_130 hM) rfl ?_
  refine iq_aload_n hS 6 J_MPlaceRows_forget_d5 l0 rfl ?_
  refine iq_iconst hS 7 J_MPlaceRows_forget_d6 (v := 0) (by decide +kernel) rfl ?_
  refine iq_putI hS 10 J_MPlaceRows_forget_d7 lf_14_41 (Or.inl rfl) rfl (ka_130 (lw_sI hM)) rfl ?_
  exact iq_ret J_MPlaceRows_forget_d10 rfl ⟨rfl, (lw_sI (lw_sI hM)), ed_some h⟩
theorem f_MPlaceRows_forget_fr {M : im_M} {r : im_M} (h : f_MPlaceRows_forget M = some r) : fr 0 [(130, 8), (130, 10)] M r := by
  replace h : ed (f_MPlaceRows_forget M) (fun x => x = r) := ⟨r, h, rfl⟩
  unfold f_MPlaceRows_forget at h
  exact fr_retV h (fr_F (by decide) (fr_F (by decide) fr_refl))
noncomputable def f_MPlaceRows_sheet_L53 (x3 : Int32) (M4 : im_M) : Option ((Int32 × im_M) ⊕ (im_M)) := if 262144 ≤ x3 then some (.inr M4) else gd (inb x3 262144) <| some (.inl ((x3 + 1), (im_setI M4 131 (Int32.toNatClampNeg x3) (vp_nar .boolean 0))))
noncomputable def f_MPlaceRows_sheet (p0 : Int32) (p1 : Int32) (M : im_M) : Option (im_M) := if (im_i (im_setI M 130 0 ((if p0 < 1 then 1 else (if 512 < p0 then 1 else (if p1 < 1 then 1 else (if p1 ≤ 512 then 0 else 1)))) : Int32)) 130 0) ≤ 0 then bd1 (lp (uc2 (f_MPlaceRows_sheet_L53)) (0, (im_setI (im_setI (im_setI M 130 0 ((if p0 < 1 then 1 else (if 512 < p0 then 1 else (if p1 < 1 then 1 else (if p1 ≤ 512 then 0 else 1)))) : Int32)) 130 1 p0) 130 2 p1))) fun (M5 : im_M) => bd1 (f_MPlaceRows_forget M5) fun (M6 : im_M) => some M6 else some (im_setI M 130 0 ((if p0 < 1 then 1 else (if 512 < p0 then 1 else (if p1 < 1 then 1 else (if p1 ≤ 512 then 0 else 1)))) : Int32))
theorem J_MPlaceRows_sheet_d0 : decode J_MPlaceRows_sheet.2.1 0 = .ok (.aload_n 0, 1) := by decide +kernel
theorem J_MPlaceRows_sheet_d1 : decode J_MPlaceRows_sheet.2.1 1 = .ok (.iload_n 1, 1) := by decide +kernel
theorem J_MPlaceRows_sheet_d2 : decode J_MPlaceRows_sheet.2.1 2 = .ok (.iconst 1, 1) := by decide +kernel
theorem J_MPlaceRows_sheet_d3 : decode J_MPlaceRows_sheet.2.1 3 = .ok (.if_icmp .lt 22, 3) := by decide +kernel
theorem J_MPlaceRows_sheet_d6 : decode J_MPlaceRows_sheet.2.1 6 = .ok (.iload_n 1, 1) := by decide +kernel
theorem J_MPlaceRows_sheet_d7 : decode J_MPlaceRows_sheet.2.1 7 = .ok (.sipush 512, 3) := by decide +kernel
theorem J_MPlaceRows_sheet_d10 : decode J_MPlaceRows_sheet.2.1 10 = .ok (.if_icmp .gt 15, 3) := by decide +kernel
theorem J_MPlaceRows_sheet_d13 : decode J_MPlaceRows_sheet.2.1 13 = .ok (.iload_n 2, 1) := by decide +kernel
theorem J_MPlaceRows_sheet_d14 : decode J_MPlaceRows_sheet.2.1 14 = .ok (.iconst 1, 1) := by decide +kernel
theorem J_MPlaceRows_sheet_d15 : decode J_MPlaceRows_sheet.2.1 15 = .ok (.if_icmp .lt 10, 3) := by decide +kernel
theorem J_MPlaceRows_sheet_d18 : decode J_MPlaceRows_sheet.2.1 18 = .ok (.iload_n 2, 1) := by decide +kernel
theorem J_MPlaceRows_sheet_d19 : decode J_MPlaceRows_sheet.2.1 19 = .ok (.sipush 512, 3) := by decide +kernel
theorem J_MPlaceRows_sheet_d22 : decode J_MPlaceRows_sheet.2.1 22 = .ok (.if_icmp .le 7, 3) := by decide +kernel
theorem J_MPlaceRows_sheet_d25 : decode J_MPlaceRows_sheet.2.1 25 = .ok (.iconst 1, 1) := by decide +kernel
theorem J_MPlaceRows_sheet_d26 : decode J_MPlaceRows_sheet.2.1 26 = .ok (.goto 4, 3) := by decide +kernel
theorem J_MPlaceRows_sheet_d29 : decode J_MPlaceRows_sheet.2.1 29 = .ok (.iconst 0, 1) := by decide +kernel
theorem J_MPlaceRows_sheet_d30 : decode J_MPlaceRows_sheet.2.1 30 = .ok (.putfield 35, 3) := by decide +kernel
theorem J_MPlaceRows_sheet_d33 : decode J_MPlaceRows_sheet.2.1 33 = .ok (.aload_n 0, 1) := by decide +kernel
theorem J_MPlaceRows_sheet_d34 : decode J_MPlaceRows_sheet.2.1 34 = .ok (.getfield 35, 3) := by decide +kernel
theorem J_MPlaceRows_sheet_d37 : decode J_MPlaceRows_sheet.2.1 37 = .ok (.ifCond .le 4, 3) := by decide +kernel
theorem J_MPlaceRows_sheet_d40 : decode J_MPlaceRows_sheet.2.1 40 = .ok (.return_, 1) := by decide +kernel
theorem J_MPlaceRows_sheet_d41 : decode J_MPlaceRows_sheet.2.1 41 = .ok (.aload_n 0, 1) := by decide +kernel
theorem J_MPlaceRows_sheet_d42 : decode J_MPlaceRows_sheet.2.1 42 = .ok (.iload_n 1, 1) := by decide +kernel
theorem J_MPlaceRows_sheet_d43 : decode J_MPlaceRows_sheet.2.1 43 = .ok (.putfield 7, 3) := by decide +kernel
theorem J_MPlaceRows_sheet_d46 : decode J_MPlaceRows_sheet.2.1 46 = .ok (.aload_n 0, 1) := by decide +kernel
theorem J_MPlaceRows_sheet_d47 : decode J_MPlaceRows_sheet.2.1 47 = .ok (.iload_n 2, 1) := by decide +kernel
theorem J_MPlaceRows_sheet_d48 : decode J_MPlaceRows_sheet.2.1 48 = .ok (.putfield 13, 3) := by decide +kernel
theorem J_MPlaceRows_sheet_d51 : decode J_MPlaceRows_sheet.2.1 51 = .ok (.iconst 0, 1) := by decide +kernel
theorem J_MPlaceRows_sheet_d52 : decode J_MPlaceRows_sheet.2.1 52 = .ok (.istore_n 3, 1) := by decide +kernel
theorem J_MPlaceRows_sheet_d53 : decode J_MPlaceRows_sheet.2.1 53 = .ok (.iload_n 3, 1) := by decide +kernel
theorem J_MPlaceRows_sheet_d54 : decode J_MPlaceRows_sheet.2.1 54 = .ok (.ldc 16, 2) := by decide +kernel
theorem J_MPlaceRows_sheet_d56 : decode J_MPlaceRows_sheet.2.1 56 = .ok (.if_icmp .ge 16, 3) := by decide +kernel
theorem J_MPlaceRows_sheet_d59 : decode J_MPlaceRows_sheet.2.1 59 = .ok (.aload_n 0, 1) := by decide +kernel
theorem J_MPlaceRows_sheet_d60 : decode J_MPlaceRows_sheet.2.1 60 = .ok (.getfield 17, 3) := by decide +kernel
theorem J_MPlaceRows_sheet_d63 : decode J_MPlaceRows_sheet.2.1 63 = .ok (.iload_n 3, 1) := by decide +kernel
theorem J_MPlaceRows_sheet_d64 : decode J_MPlaceRows_sheet.2.1 64 = .ok (.iconst 0, 1) := by decide +kernel
theorem J_MPlaceRows_sheet_d65 : decode J_MPlaceRows_sheet.2.1 65 = .ok (.bastore, 1) := by decide +kernel
theorem J_MPlaceRows_sheet_d66 : decode J_MPlaceRows_sheet.2.1 66 = .ok (.iinc 3 1, 3) := by decide +kernel
theorem J_MPlaceRows_sheet_d69 : decode J_MPlaceRows_sheet.2.1 69 = .ok (.goto (-16), 3) := by decide +kernel
theorem J_MPlaceRows_sheet_d72 : decode J_MPlaceRows_sheet.2.1 72 = .ok (.aload_n 0, 1) := by decide +kernel
theorem J_MPlaceRows_sheet_d73 : decode J_MPlaceRows_sheet.2.1 73 = .ok (.invokevirtual 44, 3) := by decide +kernel
theorem J_MPlaceRows_sheet_d76 : decode J_MPlaceRows_sheet.2.1 76 = .ok (.return_, 1) := by decide +kernel
theorem f_MPlaceRows_sheet_ok {L : Nat} {xs : Nat → Int32} {dep : Nat} {w : Bool} {p0 : Int32} {p1 : Int32} {M : im_M} {Q : im_M → Prop} (hM : lw_S w M) (h : ed (f_MPlaceRows_sheet p0 p1 M) Q) : ia (tb_G L xs) (dep + 1) J_MPlaceRows_sheet (rwV w Q) (0, lv_args 0 [.ref 130, .int p0, .int p1], [], M) := by
  have hS : im_St (tb_G L xs) (dep + 1) J_MPlaceRows_sheet (ia (tb_G L xs) (dep + 1) J_MPlaceRows_sheet (rwV w Q)) := ia_St
  unfold f_MPlaceRows_sheet at h
  have l0 : im_lk (lv_args 0 [.ref 130, .int p0, .int p1]) 0 = some (.ref 130) := rfl
  have l1 : im_lk (lv_args 0 [.ref 130, .int p0, .int p1]) 1 = some (.int p0) := rfl
  have l2 : im_lk (lv_args 0 [.ref 130, .int p0, .int p1]) 2 = some (.int p1) := rfl
  refine iq_aload_n hS 1 J_MPlaceRows_sheet_d0 l0 rfl ?_
  refine iq_iload_n hS 2 J_MPlaceRows_sheet_d1 l1 rfl ?_
  refine iq_iconst hS 3 J_MPlaceRows_sheet_d2 (v := 1) (by decide +kernel) rfl ?_
  have J1 : ∀ (z2 : Int32) (L' : List (Nat × Value)), z2 = ((if p0 < 1 then 1 else (if 512 < p0 then 1 else (if p1 < 1 then 1 else (if p1 ≤ 512 then 0 else 1)))) : Int32) → im_lk L' 0 = some (.ref 130) → im_lk L' 1 = some (.int p0) → im_lk L' 2 = some (.int p1) → ia (tb_G L xs) (dep + 1) J_MPlaceRows_sheet (rwV w Q) (30, L', [.int z2, .ref 130], M) := by
    intro z2 L' e3 l4 l5 l6
    subst e3
    refine iq_putI hS 33 J_MPlaceRows_sheet_d30 lf_14_35 (Or.inl rfl) rfl (ka_130 hM) rfl ?_
    refine iq_aload_n hS 34 J_MPlaceRows_sheet_d33 l4 rfl ?_
    refine iq_getI hS 37 J_MPlaceRows_sheet_d34 lf_14_35 (Or.inl rfl) (ka_130 (lw_sI hM)) rfl ?_
    refine iq_if_le hS 40 J_MPlaceRows_sheet_d37 (t := 41) rfl (fun q37 => ?_) rfl (fun q37 => ?_)
    · replace h := ed_pos q37 h
      refine iq_aload_n hS 42 J_MPlaceRows_sheet_d41 l4 rfl ?_
      refine iq_iload_n hS 43 J_MPlaceRows_sheet_d42 l5 rfl ?_
      refine iq_putI hS 46 J_MPlaceRows_sheet_d43 lf_14_7 (Or.inl rfl) rfl (ka_130 (lw_sI hM)) rfl ?_
      refine iq_aload_n hS 47 J_MPlaceRows_sheet_d46 l4 rfl ?_
      refine iq_iload_n hS 48 J_MPlaceRows_sheet_d47 l6 rfl ?_
      refine iq_putI hS 51 J_MPlaceRows_sheet_d48 lf_14_13 (Or.inl rfl) rfl (ka_130 (lw_sI (lw_sI hM))) rfl ?_
      refine iq_iconst hS 52 J_MPlaceRows_sheet_d51 (v := 0) (by decide +kernel) rfl ?_
      refine iq_istore_n hS 53 J_MPlaceRows_sheet_d52 (by decide) rfl ?_
      obtain ⟨Q7, hQ7, h⟩ := bd1_ed h
      have K7 : ∀ (M8 : im_M) (L' : List (Nat × Value)), lw_S w M8 → im_lk L' 0 = some (.ref 130) → Q7 M8 → ia (tb_G L xs) (dep + 1) J_MPlaceRows_sheet (rwV w Q) (72, L', [], M8) := by
        intro M8 L' hM8 l9 h
        replace h := hQ7 _ h
        refine iq_aload_n hS 73 J_MPlaceRows_sheet_d72 l9 rfl ?_
        obtain ⟨Q10, hQ10, h⟩ := bd1_ed h
        refine iq_cwV hS 76 J_MPlaceRows_sheet_d73 rfl (pr_inst (vs := []) lc_14_44 lT_443 rfl rfl (by decide) (by decide) rfl (Nat.le_of_ble_eq_true rfl) (Nat.le_of_ble_eq_true rfl) (fun _ => Or.inl (pr_b (ka_130 hM8) (by decide) rfl))) (f_MPlaceRows_forget_ok (dep := dep + 0) hM8 h) rfl ?_
        intro M10 hM10 h
        replace h := hQ10 _ h
        exact iq_ret J_MPlaceRows_sheet_d76 rfl ⟨rfl, hM10, ed_some h⟩
      obtain ⟨r7, hr7, hq7⟩ := h
      obtain ⟨n7, hn7⟩ := lp_n hr7
      have I7 : ∀ (n : Nat) (x11 : Int32) (M12 : im_M) (L' : List (Nat × Value)), lw_S w M12 → im_lk L' 0 = some (.ref 130) → im_lk L' 3 = some (.int x11) → lpn (uc2 (f_MPlaceRows_sheet_L53)) n (x11, M12) = some r7 → ia (tb_G L xs) (dep + 1) J_MPlaceRows_sheet (rwV w Q) (53, L', [], M12) := by
        intro n
        induction n with
        | zero => intro x11 M12 L' hM12 l13 l14 hn; exact (lpn_0 hn).elim
        | succ n ih =>
          intro x11 M12 L' hM12 l13 l14 hn
          have h := lpn_ed2 hn
          unfold f_MPlaceRows_sheet_L53 at h
          refine iq_iload_n hS 54 J_MPlaceRows_sheet_d53 l14 rfl ?_
          refine iq_ldc hS 56 J_MPlaceRows_sheet_d54 lk_14_16 rfl ?_
          refine iq_icmp_ge hS 59 J_MPlaceRows_sheet_d56 (t := 72) rfl (fun q56 => ?_) rfl (fun q56 => ?_)
          · replace h := ed_pos q56 h
            exact K7 _ _ hM12 l13 (lq_r h hq7)
          · replace h := ed_neg q56 h
            refine iq_aload_n hS 60 J_MPlaceRows_sheet_d59 l13 rfl ?_
            refine iq_getR hS 63 J_MPlaceRows_sheet_d60 lf_14_17 (Or.inr ⟨_, rfl⟩) (ka_130 hM12) (ra_130_3 hM12) rfl ?_
            refine iq_iload_n hS 64 J_MPlaceRows_sheet_d63 l14 rfl ?_
            refine iq_iconst hS 65 J_MPlaceRows_sheet_d64 (v := 0) (by decide +kernel) rfl ?_
            obtain ⟨g65, h⟩ := ed_gd h
            refine iq_zastore hS 66 J_MPlaceRows_sheet_d65 ⟨(ka_131 hM12).1, (ka_131 hM12).2, g65.1, ix_lt (kl_131 hM12) g65.2⟩ rfl ?_
            refine iq_iincv hS 69 J_MPlaceRows_sheet_d66 (c := 1) (by decide +kernel) l14 (by decide) rfl ?_
            refine iq_goto hS J_MPlaceRows_sheet_d69 (t := 53) rfl ?_
            exact ih _ _ _ (lw_sI hM12) (lk_1r l13 (by decide)) lk_1s (lq_l h)
      exact I7 n7 _ _ _ (lw_sI (lw_sI (lw_sI hM))) (lk_1r l4 (by decide)) lk_1s hn7
    · replace h := ed_neg q37 h
      exact iq_ret J_MPlaceRows_sheet_d40 rfl ⟨rfl, (lw_sI hM), ed_some h⟩
  refine iq_icmp_lt hS 6 J_MPlaceRows_sheet_d3 (t := 25) rfl (fun q3 => ?_) rfl (fun q3 => ?_)
  · refine iq_iconst hS 26 J_MPlaceRows_sheet_d25 (v := 1) (by decide +kernel) rfl ?_
    refine iq_goto hS J_MPlaceRows_sheet_d26 (t := 30) rfl ?_
    exact J1 _ _ (by simp only [if_pos q3]) l0 l1 l2
  · refine iq_iload_n hS 7 J_MPlaceRows_sheet_d6 l1 rfl ?_
    refine iq_sipush hS 10 J_MPlaceRows_sheet_d7 (v := 512) (by decide +kernel) rfl ?_
    refine iq_icmp_gt hS 13 J_MPlaceRows_sheet_d10 (t := 25) rfl (fun q10 => ?_) rfl (fun q10 => ?_)
    · refine iq_iconst hS 26 J_MPlaceRows_sheet_d25 (v := 1) (by decide +kernel) rfl ?_
      refine iq_goto hS J_MPlaceRows_sheet_d26 (t := 30) rfl ?_
      exact J1 _ _ (by simp only [if_neg q3, if_pos q10]) l0 l1 l2
    · refine iq_iload_n hS 14 J_MPlaceRows_sheet_d13 l2 rfl ?_
      refine iq_iconst hS 15 J_MPlaceRows_sheet_d14 (v := 1) (by decide +kernel) rfl ?_
      refine iq_icmp_lt hS 18 J_MPlaceRows_sheet_d15 (t := 25) rfl (fun q15 => ?_) rfl (fun q15 => ?_)
      · refine iq_iconst hS 26 J_MPlaceRows_sheet_d25 (v := 1) (by decide +kernel) rfl ?_
        refine iq_goto hS J_MPlaceRows_sheet_d26 (t := 30) rfl ?_
        exact J1 _ _ (by simp only [if_neg q3, if_neg q10, if_pos q15]) l0 l1 l2
      · refine iq_iload_n hS 19 J_MPlaceRows_sheet_d18 l2 rfl ?_
        refine iq_sipush hS 22 J_MPlaceRows_sheet_d19 (v := 512) (by decide +kernel) rfl ?_
        refine iq_icmp_le hS 25 J_MPlaceRows_sheet_d22 (t := 29) rfl (fun q22 => ?_) rfl (fun q22 => ?_)
        · refine iq_iconst hS 30 J_MPlaceRows_sheet_d29 (v := 0) (by decide +kernel) rfl ?_
          exact J1 _ _ (by simp only [if_neg q3, if_neg q10, if_neg q15, if_pos q22]) l0 l1 l2
        · refine iq_iconst hS 26 J_MPlaceRows_sheet_d25 (v := 1) (by decide +kernel) rfl ?_
          refine iq_goto hS J_MPlaceRows_sheet_d26 (t := 30) rfl ?_
          exact J1 _ _ (by simp only [if_neg q3, if_neg q10, if_neg q15, if_neg q22]) l0 l1 l2
theorem f_MPlaceRows_sheet_fr {p0 : Int32} {p1 : Int32} {M : im_M} {r : im_M} (h : f_MPlaceRows_sheet p0 p1 M = some r) : fr 2722258935367507707706996859454145691648 [(130, 0), (130, 1), (130, 2), (130, 8), (130, 10)] M r := by
  replace h : ed (f_MPlaceRows_sheet p0 p1 M) (fun x => x = r) := ⟨r, h, rfl⟩
  unfold f_MPlaceRows_sheet at h
  by_cases q37 : (im_i (im_setI M 130 0 ((if p0 < 1 then 1 else (if 512 < p0 then 1 else (if p1 < 1 then 1 else (if p1 ≤ 512 then 0 else 1)))) : Int32)) 130 0) ≤ 0
  · replace h := ed_pos q37 h
    obtain ⟨Q2, hQ2, h⟩ := bd1_ed h
    have K2 : ∀ (M3 : im_M), fr 2722258935367507707706996859454145691648 [(130, 0), (130, 1), (130, 2), (130, 8), (130, 10)] M M3 → Q2 M3 → fr 2722258935367507707706996859454145691648 [(130, 0), (130, 1), (130, 2), (130, 8), (130, 10)] M r := by
      intro M3 hM3 h
      replace h := hQ2 _ h
      obtain ⟨Q4, hQ4, h⟩ := bd1_ed h
      obtain ⟨M4, e4, h⟩ := h
      replace h := hQ4 _ h
      exact fr_retV h (fr_tr (fr_mono (by decide) (by decide +kernel) (f_MPlaceRows_forget_fr e4)) hM3)
    obtain ⟨r2, hr2, hq2⟩ := h
    obtain ⟨n2, hn2⟩ := lp_n hr2
    have I2 : ∀ (n : Nat) (x5 : Int32) (M6 : im_M), fr 2722258935367507707706996859454145691648 [(130, 0), (130, 1), (130, 2), (130, 8), (130, 10)] M M6 → lpn (uc2 (f_MPlaceRows_sheet_L53)) n (x5, M6) = some r2 → fr 2722258935367507707706996859454145691648 [(130, 0), (130, 1), (130, 2), (130, 8), (130, 10)] M r := by
      intro n
      induction n with
      | zero => intro x5 M6 hM6 hn; exact (lpn_0 hn).elim
      | succ n ih =>
        intro x5 M6 hM6 hn
        have h := lpn_ed2 hn
        unfold f_MPlaceRows_sheet_L53 at h
        by_cases q56 : 262144 ≤ x5
        · replace h := ed_pos q56 h
          exact K2 _ hM6 (lq_r h hq2)
        · replace h := ed_neg q56 h
          obtain ⟨g65, h⟩ := ed_gd h
          exact ih _ _ (fr_I (by decide) hM6) (lq_l h)
    exact I2 n2 _ _ (fr_F (by decide) (fr_F (by decide) (fr_F (by decide) fr_refl))) hn2
  · replace h := ed_neg q37 h
    exact fr_retV h (fr_F (by decide) fr_refl)
noncomputable def f_M_isOn (p0 : Int64) (p1 : Int64) (M : im_M) : Option (Int32 × im_M) := if (lg_cmp p0 0) < 0 then some (0, M) else if (lg_cmp p1 0) < 0 then some (0, M) else bd2 (f_MDotRows_told 0 M) fun (x1 : Int32) (M1 : im_M) => if 0 ≤ (lg_cmp p0 (Int32.toInt64 x1)) then some (0, M1) else bd2 (f_MDotRows_told 1 M1) fun (x2 : Int32) (M2 : im_M) => if 0 ≤ (lg_cmp p1 (Int32.toInt64 x2)) then some (0, M2) else some (1, M2)
theorem J_M_isOn_d0 : decode J_M_isOn.2.1 0 = .ok (.lload_n 1, 1) := by decide +kernel
theorem J_M_isOn_d1 : decode J_M_isOn.2.1 1 = .ok (.lconst 0, 1) := by decide +kernel
theorem J_M_isOn_d2 : decode J_M_isOn.2.1 2 = .ok (.lcmp, 1) := by decide +kernel
theorem J_M_isOn_d3 : decode J_M_isOn.2.1 3 = .ok (.ifCond .lt 41, 3) := by decide +kernel
theorem J_M_isOn_d6 : decode J_M_isOn.2.1 6 = .ok (.lload_n 3, 1) := by decide +kernel
theorem J_M_isOn_d7 : decode J_M_isOn.2.1 7 = .ok (.lconst 0, 1) := by decide +kernel
theorem J_M_isOn_d8 : decode J_M_isOn.2.1 8 = .ok (.lcmp, 1) := by decide +kernel
theorem J_M_isOn_d9 : decode J_M_isOn.2.1 9 = .ok (.ifCond .lt 35, 3) := by decide +kernel
theorem J_M_isOn_d12 : decode J_M_isOn.2.1 12 = .ok (.lload_n 1, 1) := by decide +kernel
theorem J_M_isOn_d13 : decode J_M_isOn.2.1 13 = .ok (.aload_n 0, 1) := by decide +kernel
theorem J_M_isOn_d14 : decode J_M_isOn.2.1 14 = .ok (.getfield 23, 3) := by decide +kernel
theorem J_M_isOn_d17 : decode J_M_isOn.2.1 17 = .ok (.iconst 0, 1) := by decide +kernel
theorem J_M_isOn_d18 : decode J_M_isOn.2.1 18 = .ok (.invokevirtual 184, 3) := by decide +kernel
theorem J_M_isOn_d21 : decode J_M_isOn.2.1 21 = .ok (.i2l, 1) := by decide +kernel
theorem J_M_isOn_d22 : decode J_M_isOn.2.1 22 = .ok (.lcmp, 1) := by decide +kernel
theorem J_M_isOn_d23 : decode J_M_isOn.2.1 23 = .ok (.ifCond .ge 21, 3) := by decide +kernel
theorem J_M_isOn_d26 : decode J_M_isOn.2.1 26 = .ok (.lload_n 3, 1) := by decide +kernel
theorem J_M_isOn_d27 : decode J_M_isOn.2.1 27 = .ok (.aload_n 0, 1) := by decide +kernel
theorem J_M_isOn_d28 : decode J_M_isOn.2.1 28 = .ok (.getfield 23, 3) := by decide +kernel
theorem J_M_isOn_d31 : decode J_M_isOn.2.1 31 = .ok (.iconst 1, 1) := by decide +kernel
theorem J_M_isOn_d32 : decode J_M_isOn.2.1 32 = .ok (.invokevirtual 184, 3) := by decide +kernel
theorem J_M_isOn_d35 : decode J_M_isOn.2.1 35 = .ok (.i2l, 1) := by decide +kernel
theorem J_M_isOn_d36 : decode J_M_isOn.2.1 36 = .ok (.lcmp, 1) := by decide +kernel
theorem J_M_isOn_d37 : decode J_M_isOn.2.1 37 = .ok (.ifCond .ge 7, 3) := by decide +kernel
theorem J_M_isOn_d40 : decode J_M_isOn.2.1 40 = .ok (.iconst 1, 1) := by decide +kernel
theorem J_M_isOn_d41 : decode J_M_isOn.2.1 41 = .ok (.goto 4, 3) := by decide +kernel
theorem J_M_isOn_d44 : decode J_M_isOn.2.1 44 = .ok (.iconst 0, 1) := by decide +kernel
theorem J_M_isOn_d45 : decode J_M_isOn.2.1 45 = .ok (.ireturn, 1) := by decide +kernel
theorem f_M_isOn_ok {L : Nat} {xs : Nat → Int32} {dep : Nat} {w : Bool} {p0 : Int64} {p1 : Int64} {M : im_M} {Q : Int32 × im_M → Prop} (hM : lw_S w M) (h : ed (f_M_isOn p0 p1 M) Q) : ia (tb_G L xs) (dep + 3) J_M_isOn (rwI w Q) (0, lv_args 0 [.ref 69, .long p0, .long p1], [], M) := by
  have hS : im_St (tb_G L xs) (dep + 3) J_M_isOn (ia (tb_G L xs) (dep + 3) J_M_isOn (rwI w Q)) := ia_St
  unfold f_M_isOn at h
  have l0 : im_lk (lv_args 0 [.ref 69, .long p0, .long p1]) 0 = some (.ref 69) := rfl
  have l1 : im_lk (lv_args 0 [.ref 69, .long p0, .long p1]) 1 = some (.long p0) := rfl
  have l3 : im_lk (lv_args 0 [.ref 69, .long p0, .long p1]) 3 = some (.long p1) := rfl
  refine iq_lload_n hS 1 J_M_isOn_d0 l1 rfl ?_
  refine iq_lconst hS 2 J_M_isOn_d1 (v := 0) (by decide +kernel) rfl ?_
  refine iq_lcmp hS 3 J_M_isOn_d2 rfl ?_
  refine iq_if_lt hS 6 J_M_isOn_d3 (t := 44) rfl (fun q3 => ?_) rfl (fun q3 => ?_)
  · replace h := ed_pos q3 h
    refine iq_iconst hS 45 J_M_isOn_d44 (v := 0) (by decide +kernel) rfl ?_
    exact iq_iret J_M_isOn_d45 rfl rfl ⟨_, rfl, hM, ed_some h⟩
  · replace h := ed_neg q3 h
    refine iq_lload_n hS 7 J_M_isOn_d6 l3 rfl ?_
    refine iq_lconst hS 8 J_M_isOn_d7 (v := 0) (by decide +kernel) rfl ?_
    refine iq_lcmp hS 9 J_M_isOn_d8 rfl ?_
    refine iq_if_lt hS 12 J_M_isOn_d9 (t := 44) rfl (fun q9 => ?_) rfl (fun q9 => ?_)
    · replace h := ed_pos q9 h
      refine iq_iconst hS 45 J_M_isOn_d44 (v := 0) (by decide +kernel) rfl ?_
      exact iq_iret J_M_isOn_d45 rfl rfl ⟨_, rfl, hM, ed_some h⟩
    · replace h := ed_neg q9 h
      refine iq_lload_n hS 13 J_M_isOn_d12 l1 rfl ?_
      refine iq_aload_n hS 14 J_M_isOn_d13 l0 rfl ?_
      refine iq_getR hS 17 J_M_isOn_d14 lf_17_23 (Or.inl ⟨_, rfl⟩) (ka_69 hM) (ra_69_4 hM) rfl ?_
      refine iq_iconst hS 18 J_M_isOn_d17 (v := 0) (by decide +kernel) rfl ?_
      obtain ⟨Q1, hQ1, h⟩ := bd2_ed h
      refine iq_cwI hS 21 J_M_isOn_d18 rfl (pr_inst (vs := [_]) lc_17_184 lT_441 rfl rfl (by decide) (by decide) rfl (Nat.le_of_ble_eq_true rfl) (Nat.le_of_ble_eq_true rfl) (fun _ => Or.inl (pr_b (ka_89 hM) (by decide) rfl))) (f_MDotRows_told_ok (dep := dep + 0) hM h) rfl ?_
      intro x1 M1 hM1 h
      replace h := hQ1 _ _ h
      refine iq_i2l hS 22 J_M_isOn_d21 rfl ?_
      refine iq_lcmp hS 23 J_M_isOn_d22 rfl ?_
      refine iq_if_ge hS 26 J_M_isOn_d23 (t := 44) rfl (fun q23 => ?_) rfl (fun q23 => ?_)
      · replace h := ed_pos q23 h
        refine iq_iconst hS 45 J_M_isOn_d44 (v := 0) (by decide +kernel) rfl ?_
        exact iq_iret J_M_isOn_d45 rfl rfl ⟨_, rfl, hM1, ed_some h⟩
      · replace h := ed_neg q23 h
        refine iq_lload_n hS 27 J_M_isOn_d26 l3 rfl ?_
        refine iq_aload_n hS 28 J_M_isOn_d27 l0 rfl ?_
        refine iq_getR hS 31 J_M_isOn_d28 lf_17_23 (Or.inl ⟨_, rfl⟩) (ka_69 hM1) (ra_69_4 hM1) rfl ?_
        refine iq_iconst hS 32 J_M_isOn_d31 (v := 1) (by decide +kernel) rfl ?_
        obtain ⟨Q2, hQ2, h⟩ := bd2_ed h
        refine iq_cwI hS 35 J_M_isOn_d32 rfl (pr_inst (vs := [_]) lc_17_184 lT_441 rfl rfl (by decide) (by decide) rfl (Nat.le_of_ble_eq_true rfl) (Nat.le_of_ble_eq_true rfl) (fun _ => Or.inl (pr_b (ka_89 hM1) (by decide) rfl))) (f_MDotRows_told_ok (dep := dep + 0) hM1 h) rfl ?_
        intro x2 M2 hM2 h
        replace h := hQ2 _ _ h
        refine iq_i2l hS 36 J_M_isOn_d35 rfl ?_
        refine iq_lcmp hS 37 J_M_isOn_d36 rfl ?_
        refine iq_if_ge hS 40 J_M_isOn_d37 (t := 44) rfl (fun q37 => ?_) rfl (fun q37 => ?_)
        · replace h := ed_pos q37 h
          refine iq_iconst hS 45 J_M_isOn_d44 (v := 0) (by decide +kernel) rfl ?_
          exact iq_iret J_M_isOn_d45 rfl rfl ⟨_, rfl, hM2, ed_some h⟩
        · replace h := ed_neg q37 h
          refine iq_iconst hS 41 J_M_isOn_d40 (v := 1) (by decide +kernel) rfl ?_
          refine iq_goto hS J_M_isOn_d41 (t := 45) rfl ?_
          exact iq_iret J_M_isOn_d45 rfl rfl ⟨_, rfl, hM2, ed_some h⟩
theorem f_M_isOn_fr {p0 : Int64} {p1 : Int64} {M : im_M} {r : Int32 × im_M} (h : f_M_isOn p0 p1 M = some r) : fr 0 [(89, 0)] M r.2 := by
  replace h : ed (f_M_isOn p0 p1 M) (fun x => x = r) := ⟨r, h, rfl⟩
  unfold f_M_isOn at h
  by_cases q3 : (lg_cmp p0 0) < 0
  · replace h := ed_pos q3 h
    exact fr_ret h fr_refl
  · replace h := ed_neg q3 h
    by_cases q9 : (lg_cmp p1 0) < 0
    · replace h := ed_pos q9 h
      exact fr_ret h fr_refl
    · replace h := ed_neg q9 h
      obtain ⟨Q1, hQ1, h⟩ := bd2_ed h
      obtain ⟨⟨x1, M1⟩, e1, h⟩ := h
      replace h := hQ1 _ _ h
      by_cases q23 : 0 ≤ (lg_cmp p0 (Int32.toInt64 x1))
      · replace h := ed_pos q23 h
        exact fr_ret h (fr_tr (fr_mono (by decide) (by decide +kernel) (f_MDotRows_told_fr e1)) fr_refl)
      · replace h := ed_neg q23 h
        obtain ⟨Q2, hQ2, h⟩ := bd2_ed h
        obtain ⟨⟨x2, M2⟩, e2, h⟩ := h
        replace h := hQ2 _ _ h
        by_cases q37 : 0 ≤ (lg_cmp p1 (Int32.toInt64 x2))
        · replace h := ed_pos q37 h
          exact fr_ret h (fr_tr (fr_mono (by decide) (by decide +kernel) (f_MDotRows_told_fr e2)) (fr_tr (fr_mono (by decide) (by decide +kernel) (f_MDotRows_told_fr e1)) fr_refl))
        · replace h := ed_neg q37 h
          exact fr_ret h (fr_tr (fr_mono (by decide) (by decide +kernel) (f_MDotRows_told_fr e2)) (fr_tr (fr_mono (by decide) (by decide +kernel) (f_MDotRows_told_fr e1)) fr_refl))
noncomputable def f_MDotRows_dots_L33 (v15 : Int32) (v16 : Int32) (v17 : Int32) (M20 : im_M) (x18 : Int64) (x19 : Int32) : Option ((Int64 × Int32) ⊕ (Int64)) := if v17 ≤ x19 then some (.inr x18) else if ¬ (im_i M20 89 0) = 0 then some (.inr x18) else bd1 (f_MDotRows_isDark (v15 + x19) v16 M20) fun (x21 : Int32) => some (.inl ((((2 : Int64) * x18) + ((if x21 = 0 then 0 else 1) : Int64)), (x19 + 1)))
noncomputable def f_MDotRows_dots (p0 : Int32) (p1 : Int32) (p2 : Int32) (M : im_M) : Option (Int64 × im_M) := bd1 (f_MDotRows_noPlace p0 p1 M) fun (x1 : Int32) => bd1 (jn0 (fun (_ : Unit) => some 1) fun k3 => if ¬ x1 = 0 then k3 () else bd1 (f_MDotRows_isNot p2 1 64 M) fun (x4 : Int32) => if x4 = 0 then some 0 else k3 ()) fun (y9 : Int32) => bd1 (lp (uc2 (f_MDotRows_dots_L33 p0 p1 p2 (im_setI M 89 0 y9))) (0, 0)) fun (y23 : Int64) => some (y23, (im_setI M 89 0 y9))
theorem J_MDotRows_dots_d0 : decode J_MDotRows_dots.2.1 0 = .ok (.aload_n 0, 1) := by decide +kernel
theorem J_MDotRows_dots_d1 : decode J_MDotRows_dots.2.1 1 = .ok (.iload_n 1, 1) := by decide +kernel
theorem J_MDotRows_dots_d2 : decode J_MDotRows_dots.2.1 2 = .ok (.iload_n 2, 1) := by decide +kernel
theorem J_MDotRows_dots_d3 : decode J_MDotRows_dots.2.1 3 = .ok (.invokestatic 124, 3) := by decide +kernel
theorem J_MDotRows_dots_d6 : decode J_MDotRows_dots.2.1 6 = .ok (.ifCond .ne 13, 3) := by decide +kernel
theorem J_MDotRows_dots_d9 : decode J_MDotRows_dots.2.1 9 = .ok (.iload_n 3, 1) := by decide +kernel
theorem J_MDotRows_dots_d10 : decode J_MDotRows_dots.2.1 10 = .ok (.iconst 1, 1) := by decide +kernel
theorem J_MDotRows_dots_d11 : decode J_MDotRows_dots.2.1 11 = .ok (.bipush 64, 2) := by decide +kernel
theorem J_MDotRows_dots_d13 : decode J_MDotRows_dots.2.1 13 = .ok (.invokestatic 121, 3) := by decide +kernel
theorem J_MDotRows_dots_d16 : decode J_MDotRows_dots.2.1 16 = .ok (.ifCond .eq 7, 3) := by decide +kernel
theorem J_MDotRows_dots_d19 : decode J_MDotRows_dots.2.1 19 = .ok (.iconst 1, 1) := by decide +kernel
theorem J_MDotRows_dots_d20 : decode J_MDotRows_dots.2.1 20 = .ok (.goto 4, 3) := by decide +kernel
theorem J_MDotRows_dots_d23 : decode J_MDotRows_dots.2.1 23 = .ok (.iconst 0, 1) := by decide +kernel
theorem J_MDotRows_dots_d24 : decode J_MDotRows_dots.2.1 24 = .ok (.putfield 37, 3) := by decide +kernel
theorem J_MDotRows_dots_d27 : decode J_MDotRows_dots.2.1 27 = .ok (.lconst 0, 1) := by decide +kernel
theorem J_MDotRows_dots_d28 : decode J_MDotRows_dots.2.1 28 = .ok (.lstore 4, 2) := by decide +kernel
theorem J_MDotRows_dots_d30 : decode J_MDotRows_dots.2.1 30 = .ok (.iconst 0, 1) := by decide +kernel
theorem J_MDotRows_dots_d31 : decode J_MDotRows_dots.2.1 31 = .ok (.istore 6, 2) := by decide +kernel
theorem J_MDotRows_dots_d33 : decode J_MDotRows_dots.2.1 33 = .ok (.iload 6, 2) := by decide +kernel
theorem J_MDotRows_dots_d35 : decode J_MDotRows_dots.2.1 35 = .ok (.iload_n 3, 1) := by decide +kernel
theorem J_MDotRows_dots_d36 : decode J_MDotRows_dots.2.1 36 = .ok (.if_icmp .ge 42, 3) := by decide +kernel
theorem J_MDotRows_dots_d39 : decode J_MDotRows_dots.2.1 39 = .ok (.aload_n 0, 1) := by decide +kernel
theorem J_MDotRows_dots_d40 : decode J_MDotRows_dots.2.1 40 = .ok (.getfield 37, 3) := by decide +kernel
theorem J_MDotRows_dots_d43 : decode J_MDotRows_dots.2.1 43 = .ok (.ifCond .ne 35, 3) := by decide +kernel
theorem J_MDotRows_dots_d46 : decode J_MDotRows_dots.2.1 46 = .ok (.ldc2_w 69, 3) := by decide +kernel
theorem J_MDotRows_dots_d49 : decode J_MDotRows_dots.2.1 49 = .ok (.lload 4, 2) := by decide +kernel
theorem J_MDotRows_dots_d51 : decode J_MDotRows_dots.2.1 51 = .ok (.lmul, 1) := by decide +kernel
theorem J_MDotRows_dots_d52 : decode J_MDotRows_dots.2.1 52 = .ok (.aload_n 0, 1) := by decide +kernel
theorem J_MDotRows_dots_d53 : decode J_MDotRows_dots.2.1 53 = .ok (.iload_n 1, 1) := by decide +kernel
theorem J_MDotRows_dots_d54 : decode J_MDotRows_dots.2.1 54 = .ok (.iload 6, 2) := by decide +kernel
theorem J_MDotRows_dots_d56 : decode J_MDotRows_dots.2.1 56 = .ok (.iadd, 1) := by decide +kernel
theorem J_MDotRows_dots_d57 : decode J_MDotRows_dots.2.1 57 = .ok (.iload_n 2, 1) := by decide +kernel
theorem J_MDotRows_dots_d58 : decode J_MDotRows_dots.2.1 58 = .ok (.invokevirtual 114, 3) := by decide +kernel
theorem J_MDotRows_dots_d61 : decode J_MDotRows_dots.2.1 61 = .ok (.ifCond .eq 7, 3) := by decide +kernel
theorem J_MDotRows_dots_d64 : decode J_MDotRows_dots.2.1 64 = .ok (.lconst 1, 1) := by decide +kernel
theorem J_MDotRows_dots_d65 : decode J_MDotRows_dots.2.1 65 = .ok (.goto 4, 3) := by decide +kernel
theorem J_MDotRows_dots_d68 : decode J_MDotRows_dots.2.1 68 = .ok (.lconst 0, 1) := by decide +kernel
theorem J_MDotRows_dots_d69 : decode J_MDotRows_dots.2.1 69 = .ok (.ladd, 1) := by decide +kernel
theorem J_MDotRows_dots_d70 : decode J_MDotRows_dots.2.1 70 = .ok (.lstore 4, 2) := by decide +kernel
theorem J_MDotRows_dots_d72 : decode J_MDotRows_dots.2.1 72 = .ok (.iinc 6 1, 3) := by decide +kernel
theorem J_MDotRows_dots_d75 : decode J_MDotRows_dots.2.1 75 = .ok (.goto (-42), 3) := by decide +kernel
theorem J_MDotRows_dots_d78 : decode J_MDotRows_dots.2.1 78 = .ok (.lload 4, 2) := by decide +kernel
theorem J_MDotRows_dots_d80 : decode J_MDotRows_dots.2.1 80 = .ok (.lreturn, 1) := by decide +kernel
theorem f_MDotRows_dots_ok {L : Nat} {xs : Nat → Int32} {dep : Nat} {w : Bool} {p0 : Int32} {p1 : Int32} {p2 : Int32} {M : im_M} {Q : Int64 × im_M → Prop} (hM : lw_S w M) (h : ed (f_MDotRows_dots p0 p1 p2 M) Q) : ia (tb_G L xs) (dep + 2) J_MDotRows_dots (rwL w Q) (0, lv_args 0 [.ref 89, .int p0, .int p1, .int p2], [], M) := by
  have hS : im_St (tb_G L xs) (dep + 2) J_MDotRows_dots (ia (tb_G L xs) (dep + 2) J_MDotRows_dots (rwL w Q)) := ia_St
  unfold f_MDotRows_dots at h
  have l0 : im_lk (lv_args 0 [.ref 89, .int p0, .int p1, .int p2]) 0 = some (.ref 89) := rfl
  have l1 : im_lk (lv_args 0 [.ref 89, .int p0, .int p1, .int p2]) 1 = some (.int p0) := rfl
  have l2 : im_lk (lv_args 0 [.ref 89, .int p0, .int p1, .int p2]) 2 = some (.int p1) := rfl
  have l3 : im_lk (lv_args 0 [.ref 89, .int p0, .int p1, .int p2]) 3 = some (.int p2) := rfl
  refine iq_aload_n hS 1 J_MDotRows_dots_d0 l0 rfl ?_
  refine iq_iload_n hS 2 J_MDotRows_dots_d1 l1 rfl ?_
  refine iq_iload_n hS 3 J_MDotRows_dots_d2 l2 rfl ?_
  obtain ⟨Q1, hQ1, h⟩ := bd1_ed h
  refine iq_cpI hS 6 J_MDotRows_dots_d3 rfl (pr_stat (vs := [_, _]) lc_12_124 lT_340 rfl rfl (by decide) rfl (Nat.le_of_ble_eq_true rfl) (Nat.le_of_ble_eq_true rfl)) (f_MDotRows_noPlace_ok (dep := dep + 1) hM h) rfl ?_
  intro x1 h
  replace h := hQ1 _ h
  obtain ⟨Q2, hQ2, h⟩ := bd1_ed h
  have J2 : ∀ (y9 : Int32) (L' : List (Nat × Value)), im_lk L' 0 = some (.ref 89) → im_lk L' 1 = some (.int p0) → im_lk L' 2 = some (.int p1) → im_lk L' 3 = some (.int p2) → Q2 y9 → ia (tb_G L xs) (dep + 2) J_MDotRows_dots (rwL w Q) (24, L', [.int y9, .ref 89], M) := by
    intro y9 L' l10 l11 l12 l13 h
    replace h := hQ2 _ h
    refine iq_putI hS 27 J_MDotRows_dots_d24 lf_12_37 (Or.inl rfl) rfl (ka_89 hM) rfl ?_
    refine iq_lconst hS 28 J_MDotRows_dots_d27 (v := 0) (by decide +kernel) rfl ?_
    refine iq_lstore hS 30 J_MDotRows_dots_d28 (by decide) rfl ?_
    refine iq_iconst hS 31 J_MDotRows_dots_d30 (v := 0) (by decide +kernel) rfl ?_
    refine iq_istore hS 33 J_MDotRows_dots_d31 (by decide) rfl ?_
    obtain ⟨Q14, hQ14, h⟩ := bd1_ed h
    have K14 : ∀ (y15 : Int64) (L' : List (Nat × Value)), im_lk L' 4 = some (.long y15) → Q14 y15 → ia (tb_G L xs) (dep + 2) J_MDotRows_dots (rwL w Q) (78, L', [], (im_setI M 89 0 y9)) := by
      intro y15 L' l16 h
      replace h := hQ14 _ h
      refine iq_lload hS 80 J_MDotRows_dots_d78 l16 rfl ?_
      exact iq_lret J_MDotRows_dots_d80 rfl ⟨_, rfl, (lw_sI hM), ed_some h⟩
    obtain ⟨r14, hr14, hq14⟩ := h
    obtain ⟨n14, hn14⟩ := lp_n hr14
    have I14 : ∀ (n : Nat) (x17 : Int64) (x18 : Int32) (L' : List (Nat × Value)), im_lk L' 0 = some (.ref 89) → im_lk L' 1 = some (.int p0) → im_lk L' 2 = some (.int p1) → im_lk L' 3 = some (.int p2) → im_lk L' 4 = some (.long x17) → im_lk L' 6 = some (.int x18) → lpn (uc2 (f_MDotRows_dots_L33 p0 p1 p2 (im_setI M 89 0 y9))) n (x17, x18) = some r14 → ia (tb_G L xs) (dep + 2) J_MDotRows_dots (rwL w Q) (33, L', [], (im_setI M 89 0 y9)) := by
      intro n
      induction n with
      | zero => intro x17 x18 L' l19 l20 l21 l22 l23 l24 hn; exact (lpn_0 hn).elim
      | succ n ih =>
        intro x17 x18 L' l19 l20 l21 l22 l23 l24 hn
        have h := lpn_ed2 hn
        unfold f_MDotRows_dots_L33 at h
        refine iq_iload hS 35 J_MDotRows_dots_d33 l24 rfl ?_
        refine iq_iload_n hS 36 J_MDotRows_dots_d35 l22 rfl ?_
        refine iq_icmp_ge hS 39 J_MDotRows_dots_d36 (t := 78) rfl (fun q36 => ?_) rfl (fun q36 => ?_)
        · replace h := ed_pos q36 h
          exact K14 _ _ l23 (lq_r h hq14)
        · replace h := ed_neg q36 h
          refine iq_aload_n hS 40 J_MDotRows_dots_d39 l19 rfl ?_
          refine iq_getI hS 43 J_MDotRows_dots_d40 lf_12_37 (Or.inl rfl) (ka_89 (lw_sI hM)) rfl ?_
          refine iq_if_ne hS 46 J_MDotRows_dots_d43 (t := 78) rfl (fun q43 => ?_) rfl (fun q43 => ?_)
          · replace h := ed_pos q43 h
            exact K14 _ _ l23 (lq_r h hq14)
          · replace h := ed_neg q43 h
            refine iq_ldc2_w hS 49 J_MDotRows_dots_d46 lk_12_69 rfl ?_
            refine iq_lload hS 51 J_MDotRows_dots_d49 l23 rfl ?_
            refine iq_lmul hS 52 J_MDotRows_dots_d51 rfl ?_
            refine iq_aload_n hS 53 J_MDotRows_dots_d52 l19 rfl ?_
            refine iq_iload_n hS 54 J_MDotRows_dots_d53 l20 rfl ?_
            refine iq_iload hS 56 J_MDotRows_dots_d54 l24 rfl ?_
            refine iq_iadd hS 57 J_MDotRows_dots_d56 rfl ?_
            refine iq_iload_n hS 58 J_MDotRows_dots_d57 l21 rfl ?_
            obtain ⟨Q25, hQ25, h⟩ := bd1_ed h
            refine iq_cpI hS 61 J_MDotRows_dots_d58 rfl (pr_inst (vs := [_, _]) lc_12_114 lT_354 rfl rfl (by decide) (by decide) rfl (Nat.le_of_ble_eq_true rfl) (Nat.le_of_ble_eq_true rfl) (fun _ => Or.inl (pr_b (ka_89 (lw_sI hM)) (by decide) rfl))) (f_MDotRows_isDark_ok (dep := dep + 0) (lw_sI hM) h) rfl ?_
            intro x25 h
            replace h := hQ25 _ h
            have J26 : ∀ (z27 : Int64) (L' : List (Nat × Value)), z27 = ((if x25 = 0 then 0 else 1) : Int64) → im_lk L' 0 = some (.ref 89) → im_lk L' 1 = some (.int p0) → im_lk L' 2 = some (.int p1) → im_lk L' 3 = some (.int p2) → im_lk L' 6 = some (.int x18) → ia (tb_G L xs) (dep + 2) J_MDotRows_dots (rwL w Q) (69, L', [.long z27, .long ((2 : Int64) * x17)], (im_setI M 89 0 y9)) := by
              intro z27 L' e28 l29 l30 l31 l32 l33
              subst e28
              refine iq_ladd hS 70 J_MDotRows_dots_d69 rfl ?_
              refine iq_lstore hS 72 J_MDotRows_dots_d70 (by decide) rfl ?_
              refine iq_iincv hS 75 J_MDotRows_dots_d72 (c := 1) (by decide +kernel) (lk_2i l33 (by decide) (by decide)) (by decide) rfl ?_
              refine iq_goto hS J_MDotRows_dots_d75 (t := 33) rfl ?_
              exact ih _ _ _ (lk_1r (lk_2r l29 (by decide) (by decide)) (by decide)) (lk_1i (lk_2i l30 (by decide) (by decide)) (by decide)) (lk_1i (lk_2i l31 (by decide) (by decide)) (by decide)) (lk_1i (lk_2i l32 (by decide) (by decide)) (by decide)) (lk_1l lk_2s (by decide) (by decide)) lk_1s (lq_l h)
            refine iq_if_eq hS 64 J_MDotRows_dots_d61 (t := 68) rfl (fun q61 => ?_) rfl (fun q61 => ?_)
            · refine iq_lconst hS 69 J_MDotRows_dots_d68 (v := 0) (by decide +kernel) rfl ?_
              exact J26 _ _ (by simp only [if_pos q61]) l19 l20 l21 l22 l24
            · refine iq_lconst hS 65 J_MDotRows_dots_d64 (v := 1) (by decide +kernel) rfl ?_
              refine iq_goto hS J_MDotRows_dots_d65 (t := 69) rfl ?_
              exact J26 _ _ (by simp only [if_neg q61]) l19 l20 l21 l22 l24
    exact I14 n14 _ _ _ (lk_1r (lk_2r l10 (by decide) (by decide)) (by decide)) (lk_1i (lk_2i l11 (by decide) (by decide)) (by decide)) (lk_1i (lk_2i l12 (by decide) (by decide)) (by decide)) (lk_1i (lk_2i l13 (by decide) (by decide)) (by decide)) (lk_1l lk_2s (by decide) (by decide)) lk_1s hn14
  obtain ⟨k3, Q3, hQ3, hk3, h⟩ := jn0_ed h
  have J3 : ∀  (L' : List (Nat × Value)), im_lk L' 0 = some (.ref 89) → im_lk L' 1 = some (.int p0) → im_lk L' 2 = some (.int p1) → im_lk L' 3 = some (.int p2) → Q3 () → ia (tb_G L xs) (dep + 2) J_MDotRows_dots (rwL w Q) (19, L', [.ref 89], M) := by
    intro  L' l5 l6 l7 l8 h
    replace h := hQ3  h
    refine iq_iconst hS 20 J_MDotRows_dots_d19 (v := 1) (by decide +kernel) rfl ?_
    refine iq_goto hS J_MDotRows_dots_d20 (t := 24) rfl ?_
    exact J2 _ _ l5 l6 l7 l8 (ed_some h)
  refine iq_if_ne hS 9 J_MDotRows_dots_d6 (t := 19) rfl (fun q6 => ?_) rfl (fun q6 => ?_)
  · replace h := ed_pos q6 h
    exact J3  _ l0 l1 l2 l3 (hk3  h)
  · replace h := ed_neg q6 h
    refine iq_iload_n hS 10 J_MDotRows_dots_d9 l3 rfl ?_
    refine iq_iconst hS 11 J_MDotRows_dots_d10 (v := 1) (by decide +kernel) rfl ?_
    refine iq_bipush hS 13 J_MDotRows_dots_d11 (v := 64) (by decide +kernel) rfl ?_
    obtain ⟨Q4, hQ4, h⟩ := bd1_ed h
    refine iq_cpI hS 16 J_MDotRows_dots_d13 rfl (pr_stat (vs := [_, _, _]) lc_12_121 lT_273 rfl rfl (by decide) rfl (Nat.le_of_ble_eq_true rfl) (Nat.le_of_ble_eq_true rfl)) (f_MDotRows_isNot_ok (dep := dep + 1) hM h) rfl ?_
    intro x4 h
    replace h := hQ4 _ h
    refine iq_if_eq hS 19 J_MDotRows_dots_d16 (t := 23) rfl (fun q16 => ?_) rfl (fun q16 => ?_)
    · replace h := ed_pos q16 h
      refine iq_iconst hS 24 J_MDotRows_dots_d23 (v := 0) (by decide +kernel) rfl ?_
      exact J2 _ _ l0 l1 l2 l3 (ed_some h)
    · replace h := ed_neg q16 h
      exact J3  _ l0 l1 l2 l3 (hk3  h)
theorem f_MDotRows_dots_fr {p0 : Int32} {p1 : Int32} {p2 : Int32} {M : im_M} {r : Int64 × im_M} (h : f_MDotRows_dots p0 p1 p2 M = some r) : fr 0 [(89, 0)] M r.2 := by
  replace h : ed (f_MDotRows_dots p0 p1 p2 M) (fun x => x = r) := ⟨r, h, rfl⟩
  unfold f_MDotRows_dots at h
  obtain ⟨Q1, hQ1, h⟩ := bd1_ed h
  obtain ⟨x1, e1, h⟩ := h
  replace h := hQ1 _ h
  obtain ⟨Q2, hQ2, h⟩ := bd1_ed h
  have J2 : ∀ (y9 : Int32), Q2 y9 → fr 0 [(89, 0)] M r.2 := by
    intro y9 h
    replace h := hQ2 _ h
    obtain ⟨Q14, hQ14, h⟩ := bd1_ed h
    have K14 : ∀ (y15 : Int64), Q14 y15 → fr 0 [(89, 0)] M r.2 := by
      intro y15 h
      replace h := hQ14 _ h
      exact fr_ret h (fr_F (by decide) fr_refl)
    obtain ⟨r14, hr14, hq14⟩ := h
    obtain ⟨n14, hn14⟩ := lp_n hr14
    have I14 : ∀ (n : Nat) (x16 : Int64) (x17 : Int32), lpn (uc2 (f_MDotRows_dots_L33 p0 p1 p2 (im_setI M 89 0 y9))) n (x16, x17) = some r14 → fr 0 [(89, 0)] M r.2 := by
      intro n
      induction n with
      | zero => intro x16 x17 hn; exact (lpn_0 hn).elim
      | succ n ih =>
        intro x16 x17 hn
        have h := lpn_ed2 hn
        unfold f_MDotRows_dots_L33 at h
        by_cases q36 : p2 ≤ x17
        · replace h := ed_pos q36 h
          exact K14 _ (lq_r h hq14)
        · replace h := ed_neg q36 h
          by_cases q43 : ¬ (im_i (im_setI M 89 0 y9) 89 0) = 0
          · replace h := ed_pos q43 h
            exact K14 _ (lq_r h hq14)
          · replace h := ed_neg q43 h
            obtain ⟨Q18, hQ18, h⟩ := bd1_ed h
            obtain ⟨x18, e18, h⟩ := h
            replace h := hQ18 _ h
            exact ih _ _ (lq_l h)
    exact I14 n14 _ _ hn14
  obtain ⟨k3, Q3, hQ3, hk3, h⟩ := jn0_ed h
  have J3 : Q3 () → fr 0 [(89, 0)] M r.2 := by
    intro  h
    replace h := hQ3  h
    exact J2 _ (ed_some h)
  by_cases q6 : ¬ x1 = 0
  · replace h := ed_pos q6 h
    exact J3  (hk3  h)
  · replace h := ed_neg q6 h
    obtain ⟨Q4, hQ4, h⟩ := bd1_ed h
    obtain ⟨x4, e4, h⟩ := h
    replace h := hQ4 _ h
    by_cases q16 : x4 = 0
    · replace h := ed_pos q16 h
      exact J2 _ (ed_some h)
    · replace h := ed_neg q16 h
      exact J3  (hk3  h)
noncomputable def f_M_isDark (p0 : Int32) (p1 : Int32) (M : im_M) : Option (Int32 × im_M) := bd2 (f_MDotRows_dots p0 p1 1 M) fun (x1 : Int64) (M1 : im_M) => if ¬ (lg_cmp x1 1) = 0 then some (0, M1) else some (1, M1)
theorem J_M_isDark_d0 : decode J_M_isDark.2.1 0 = .ok (.aload_n 0, 1) := by decide +kernel
theorem J_M_isDark_d1 : decode J_M_isDark.2.1 1 = .ok (.getfield 23, 3) := by decide +kernel
theorem J_M_isDark_d4 : decode J_M_isDark.2.1 4 = .ok (.iload_n 1, 1) := by decide +kernel
theorem J_M_isDark_d5 : decode J_M_isDark.2.1 5 = .ok (.iload_n 2, 1) := by decide +kernel
theorem J_M_isDark_d6 : decode J_M_isDark.2.1 6 = .ok (.iconst 1, 1) := by decide +kernel
theorem J_M_isDark_d7 : decode J_M_isDark.2.1 7 = .ok (.invokevirtual 206, 3) := by decide +kernel
theorem J_M_isDark_d10 : decode J_M_isDark.2.1 10 = .ok (.lconst 1, 1) := by decide +kernel
theorem J_M_isDark_d11 : decode J_M_isDark.2.1 11 = .ok (.lcmp, 1) := by decide +kernel
theorem J_M_isDark_d12 : decode J_M_isDark.2.1 12 = .ok (.ifCond .ne 7, 3) := by decide +kernel
theorem J_M_isDark_d15 : decode J_M_isDark.2.1 15 = .ok (.iconst 1, 1) := by decide +kernel
theorem J_M_isDark_d16 : decode J_M_isDark.2.1 16 = .ok (.goto 4, 3) := by decide +kernel
theorem J_M_isDark_d19 : decode J_M_isDark.2.1 19 = .ok (.iconst 0, 1) := by decide +kernel
theorem J_M_isDark_d20 : decode J_M_isDark.2.1 20 = .ok (.ireturn, 1) := by decide +kernel
theorem f_M_isDark_ok {L : Nat} {xs : Nat → Int32} {dep : Nat} {w : Bool} {p0 : Int32} {p1 : Int32} {M : im_M} {Q : Int32 × im_M → Prop} (hM : lw_S w M) (h : ed (f_M_isDark p0 p1 M) Q) : ia (tb_G L xs) (dep + 3) J_M_isDark (rwI w Q) (0, lv_args 0 [.ref 69, .int p0, .int p1], [], M) := by
  have hS : im_St (tb_G L xs) (dep + 3) J_M_isDark (ia (tb_G L xs) (dep + 3) J_M_isDark (rwI w Q)) := ia_St
  unfold f_M_isDark at h
  have l0 : im_lk (lv_args 0 [.ref 69, .int p0, .int p1]) 0 = some (.ref 69) := rfl
  have l1 : im_lk (lv_args 0 [.ref 69, .int p0, .int p1]) 1 = some (.int p0) := rfl
  have l2 : im_lk (lv_args 0 [.ref 69, .int p0, .int p1]) 2 = some (.int p1) := rfl
  refine iq_aload_n hS 1 J_M_isDark_d0 l0 rfl ?_
  refine iq_getR hS 4 J_M_isDark_d1 lf_17_23 (Or.inl ⟨_, rfl⟩) (ka_69 hM) (ra_69_4 hM) rfl ?_
  refine iq_iload_n hS 5 J_M_isDark_d4 l1 rfl ?_
  refine iq_iload_n hS 6 J_M_isDark_d5 l2 rfl ?_
  refine iq_iconst hS 7 J_M_isDark_d6 (v := 1) (by decide +kernel) rfl ?_
  obtain ⟨Q1, hQ1, h⟩ := bd2_ed h
  refine iq_cwL hS 10 J_M_isDark_d7 rfl (pr_inst (vs := [_, _, _]) lc_17_206 lT_447 rfl rfl (by decide) (by decide) rfl (Nat.le_of_ble_eq_true rfl) (Nat.le_of_ble_eq_true rfl) (fun _ => Or.inl (pr_b (ka_89 hM) (by decide) rfl))) (f_MDotRows_dots_ok (dep := dep + 0) hM h) rfl ?_
  intro x1 M1 hM1 h
  replace h := hQ1 _ _ h
  refine iq_lconst hS 11 J_M_isDark_d10 (v := 1) (by decide +kernel) rfl ?_
  refine iq_lcmp hS 12 J_M_isDark_d11 rfl ?_
  refine iq_if_ne hS 15 J_M_isDark_d12 (t := 19) rfl (fun q12 => ?_) rfl (fun q12 => ?_)
  · replace h := ed_pos q12 h
    refine iq_iconst hS 20 J_M_isDark_d19 (v := 0) (by decide +kernel) rfl ?_
    exact iq_iret J_M_isDark_d20 rfl rfl ⟨_, rfl, hM1, ed_some h⟩
  · replace h := ed_neg q12 h
    refine iq_iconst hS 16 J_M_isDark_d15 (v := 1) (by decide +kernel) rfl ?_
    refine iq_goto hS J_M_isDark_d16 (t := 20) rfl ?_
    exact iq_iret J_M_isDark_d20 rfl rfl ⟨_, rfl, hM1, ed_some h⟩
theorem f_M_isDark_fr {p0 : Int32} {p1 : Int32} {M : im_M} {r : Int32 × im_M} (h : f_M_isDark p0 p1 M = some r) : fr 0 [(89, 0)] M r.2 := by
  replace h : ed (f_M_isDark p0 p1 M) (fun x => x = r) := ⟨r, h, rfl⟩
  unfold f_M_isDark at h
  obtain ⟨Q1, hQ1, h⟩ := bd2_ed h
  obtain ⟨⟨x1, M1⟩, e1, h⟩ := h
  replace h := hQ1 _ _ h
  by_cases q12 : ¬ (lg_cmp x1 1) = 0
  · replace h := ed_pos q12 h
    exact fr_ret h (fr_tr (fr_mono (by decide) (by decide +kernel) (f_MDotRows_dots_fr e1)) fr_refl)
  · replace h := ed_neg q12 h
    exact fr_ret h (fr_tr (fr_mono (by decide) (by decide +kernel) (f_MDotRows_dots_fr e1)) fr_refl)
noncomputable def f_M_row_L5 (v2 : Int32) (v3 : Int32) (x4 : Int64) (x5 : Int32) (M6 : im_M) : Option ((Int64 × Int32 × im_M) ⊕ (Int64 × im_M)) := if 64 ≤ x5 then some (.inr (x4, M6)) else bd2 (f_M_isOn ((Int32.toInt64 v2) + (Int32.toInt64 x5)) (Int32.toInt64 v3) M6) fun (x7 : Int32) (M7 : im_M) => bd2 (jn1 (fun (M11 : im_M) => some (x4, M11)) fun k9 => if x7 = 0 then k9 M7 else bd2 (f_M_isDark (Int64.toInt32 ((Int32.toInt64 v2) + (Int32.toInt64 x5))) v3 M7) fun (x10 : Int32) (M10 : im_M) => if x10 = 0 then k9 M10 else some ((x4 ||| ((1 : Int64) <<< (Int32.toInt64 x5 &&& 63) : Int64)), M10)) fun (y17 : Int64) (M18 : im_M) => some (.inl (y17, (x5 + 1), M18))
noncomputable def f_M_row (p0 : Int32) (p1 : Int32) (M : im_M) : Option (Int64 × im_M) := bd2 (lp (uc3 (f_M_row_L5 p0 p1)) (0, 0, M)) fun (y23 : Int64) (M24 : im_M) => some (y23, M24)
theorem J_M_row_d0 : decode J_M_row.2.1 0 = .ok (.lconst 0, 1) := by decide +kernel
theorem J_M_row_d1 : decode J_M_row.2.1 1 = .ok (.lstore_n 3, 1) := by decide +kernel
theorem J_M_row_d2 : decode J_M_row.2.1 2 = .ok (.iconst 0, 1) := by decide +kernel
theorem J_M_row_d3 : decode J_M_row.2.1 3 = .ok (.istore 5, 2) := by decide +kernel
theorem J_M_row_d5 : decode J_M_row.2.1 5 = .ok (.iload 5, 2) := by decide +kernel
theorem J_M_row_d7 : decode J_M_row.2.1 7 = .ok (.bipush 64, 2) := by decide +kernel
theorem J_M_row_d9 : decode J_M_row.2.1 9 = .ok (.if_icmp .ge 50, 3) := by decide +kernel
theorem J_M_row_d12 : decode J_M_row.2.1 12 = .ok (.iload_n 1, 1) := by decide +kernel
theorem J_M_row_d13 : decode J_M_row.2.1 13 = .ok (.i2l, 1) := by decide +kernel
theorem J_M_row_d14 : decode J_M_row.2.1 14 = .ok (.iload 5, 2) := by decide +kernel
theorem J_M_row_d16 : decode J_M_row.2.1 16 = .ok (.i2l, 1) := by decide +kernel
theorem J_M_row_d17 : decode J_M_row.2.1 17 = .ok (.ladd, 1) := by decide +kernel
theorem J_M_row_d18 : decode J_M_row.2.1 18 = .ok (.lstore 6, 2) := by decide +kernel
theorem J_M_row_d20 : decode J_M_row.2.1 20 = .ok (.aload_n 0, 1) := by decide +kernel
theorem J_M_row_d21 : decode J_M_row.2.1 21 = .ok (.lload 6, 2) := by decide +kernel
theorem J_M_row_d23 : decode J_M_row.2.1 23 = .ok (.iload_n 2, 1) := by decide +kernel
theorem J_M_row_d24 : decode J_M_row.2.1 24 = .ok (.i2l, 1) := by decide +kernel
theorem J_M_row_d25 : decode J_M_row.2.1 25 = .ok (.invokevirtual 209, 3) := by decide +kernel
theorem J_M_row_d28 : decode J_M_row.2.1 28 = .ok (.ifCond .eq 23, 3) := by decide +kernel
theorem J_M_row_d31 : decode J_M_row.2.1 31 = .ok (.aload_n 0, 1) := by decide +kernel
theorem J_M_row_d32 : decode J_M_row.2.1 32 = .ok (.lload 6, 2) := by decide +kernel
theorem J_M_row_d34 : decode J_M_row.2.1 34 = .ok (.l2i, 1) := by decide +kernel
theorem J_M_row_d35 : decode J_M_row.2.1 35 = .ok (.iload_n 2, 1) := by decide +kernel
theorem J_M_row_d36 : decode J_M_row.2.1 36 = .ok (.invokevirtual 213, 3) := by decide +kernel
theorem J_M_row_d39 : decode J_M_row.2.1 39 = .ok (.ifCond .eq 12, 3) := by decide +kernel
theorem J_M_row_d42 : decode J_M_row.2.1 42 = .ok (.lload_n 3, 1) := by decide +kernel
theorem J_M_row_d43 : decode J_M_row.2.1 43 = .ok (.lconst 1, 1) := by decide +kernel
theorem J_M_row_d44 : decode J_M_row.2.1 44 = .ok (.iload 5, 2) := by decide +kernel
theorem J_M_row_d46 : decode J_M_row.2.1 46 = .ok (.lshl, 1) := by decide +kernel
theorem J_M_row_d47 : decode J_M_row.2.1 47 = .ok (.lor, 1) := by decide +kernel
theorem J_M_row_d48 : decode J_M_row.2.1 48 = .ok (.goto 4, 3) := by decide +kernel
theorem J_M_row_d51 : decode J_M_row.2.1 51 = .ok (.lload_n 3, 1) := by decide +kernel
theorem J_M_row_d52 : decode J_M_row.2.1 52 = .ok (.lstore_n 3, 1) := by decide +kernel
theorem J_M_row_d53 : decode J_M_row.2.1 53 = .ok (.iinc 5 1, 3) := by decide +kernel
theorem J_M_row_d56 : decode J_M_row.2.1 56 = .ok (.goto (-51), 3) := by decide +kernel
theorem J_M_row_d59 : decode J_M_row.2.1 59 = .ok (.lload_n 3, 1) := by decide +kernel
theorem J_M_row_d60 : decode J_M_row.2.1 60 = .ok (.lreturn, 1) := by decide +kernel
theorem f_M_row_ok {L : Nat} {xs : Nat → Int32} {dep : Nat} {w : Bool} {p0 : Int32} {p1 : Int32} {M : im_M} {Q : Int64 × im_M → Prop} (hM : lw_S w M) (h : ed (f_M_row p0 p1 M) Q) : ia (tb_G L xs) (dep + 4) J_M_row (rwL w Q) (0, lv_args 0 [.ref 69, .int p0, .int p1], [], M) := by
  have hS : im_St (tb_G L xs) (dep + 4) J_M_row (ia (tb_G L xs) (dep + 4) J_M_row (rwL w Q)) := ia_St
  unfold f_M_row at h
  have l0 : im_lk (lv_args 0 [.ref 69, .int p0, .int p1]) 0 = some (.ref 69) := rfl
  have l1 : im_lk (lv_args 0 [.ref 69, .int p0, .int p1]) 1 = some (.int p0) := rfl
  have l2 : im_lk (lv_args 0 [.ref 69, .int p0, .int p1]) 2 = some (.int p1) := rfl
  refine iq_lconst hS 1 J_M_row_d0 (v := 0) (by decide +kernel) rfl ?_
  refine iq_lstore_n hS 2 J_M_row_d1 (by decide) rfl ?_
  refine iq_iconst hS 3 J_M_row_d2 (v := 0) (by decide +kernel) rfl ?_
  refine iq_istore hS 5 J_M_row_d3 (by decide) rfl ?_
  obtain ⟨Q1, hQ1, h⟩ := bd2_ed h
  have K1 : ∀ (y2 : Int64) (M3 : im_M) (L' : List (Nat × Value)), lw_S w M3 → im_lk L' 3 = some (.long y2) → Q1 (y2, M3) → ia (tb_G L xs) (dep + 4) J_M_row (rwL w Q) (59, L', [], M3) := by
    intro y2 M3 L' hM3 l4 h
    replace h := hQ1 _ _ h
    refine iq_lload_n hS 60 J_M_row_d59 l4 rfl ?_
    exact iq_lret J_M_row_d60 rfl ⟨_, rfl, hM3, ed_some h⟩
  obtain ⟨r1, hr1, hq1⟩ := h
  obtain ⟨n1, hn1⟩ := lp_n hr1
  have I1 : ∀ (n : Nat) (x5 : Int64) (x6 : Int32) (M7 : im_M) (L' : List (Nat × Value)), lw_S w M7 → im_lk L' 0 = some (.ref 69) → im_lk L' 1 = some (.int p0) → im_lk L' 2 = some (.int p1) → im_lk L' 3 = some (.long x5) → im_lk L' 5 = some (.int x6) → lpn (uc3 (f_M_row_L5 p0 p1)) n (x5, x6, M7) = some r1 → ia (tb_G L xs) (dep + 4) J_M_row (rwL w Q) (5, L', [], M7) := by
    intro n
    induction n with
    | zero => intro x5 x6 M7 L' hM7 l8 l9 l10 l11 l12 hn; exact (lpn_0 hn).elim
    | succ n ih =>
      intro x5 x6 M7 L' hM7 l8 l9 l10 l11 l12 hn
      have h := lpn_ed3 hn
      unfold f_M_row_L5 at h
      refine iq_iload hS 7 J_M_row_d5 l12 rfl ?_
      refine iq_bipush hS 9 J_M_row_d7 (v := 64) (by decide +kernel) rfl ?_
      refine iq_icmp_ge hS 12 J_M_row_d9 (t := 59) rfl (fun q9 => ?_) rfl (fun q9 => ?_)
      · replace h := ed_pos q9 h
        exact K1 _ _ _ hM7 l11 (lq_r h hq1)
      · replace h := ed_neg q9 h
        refine iq_iload_n hS 13 J_M_row_d12 l9 rfl ?_
        refine iq_i2l hS 14 J_M_row_d13 rfl ?_
        refine iq_iload hS 16 J_M_row_d14 l12 rfl ?_
        refine iq_i2l hS 17 J_M_row_d16 rfl ?_
        refine iq_ladd hS 18 J_M_row_d17 rfl ?_
        refine iq_lstore hS 20 J_M_row_d18 (by decide) rfl ?_
        refine iq_aload_n hS 21 J_M_row_d20 (lk_2r l8 (by decide) (by decide)) rfl ?_
        refine iq_lload hS 23 J_M_row_d21 lk_2s rfl ?_
        refine iq_iload_n hS 24 J_M_row_d23 (lk_2i l10 (by decide) (by decide)) rfl ?_
        refine iq_i2l hS 25 J_M_row_d24 rfl ?_
        obtain ⟨Q13, hQ13, h⟩ := bd2_ed h
        refine iq_cwI hS 28 J_M_row_d25 rfl (pr_inst (vs := [_, _]) lc_17_209 lT_445 rfl rfl (by decide) (by decide) rfl (Nat.le_of_ble_eq_true rfl) (Nat.le_of_ble_eq_true rfl) (fun _ => Or.inl (pr_b (ka_69 hM7) (by decide) rfl))) (f_M_isOn_ok (dep := dep + 0) hM7 h) rfl ?_
        intro x13 M13 hM13 h
        replace h := hQ13 _ _ h
        obtain ⟨Q14, hQ14, h⟩ := bd2_ed h
        have J14 : ∀ (y23 : Int64) (M24 : im_M) (L' : List (Nat × Value)), lw_S w M24 → im_lk L' 0 = some (.ref 69) → im_lk L' 1 = some (.int p0) → im_lk L' 2 = some (.int p1) → im_lk L' 5 = some (.int x6) → Q14 (y23, M24) → ia (tb_G L xs) (dep + 4) J_M_row (rwL w Q) (52, L', [.long y23], M24) := by
          intro y23 M24 L' hM24 l25 l26 l27 l28 h
          replace h := hQ14 _ _ h
          refine iq_lstore_n hS 53 J_M_row_d52 (by decide) rfl ?_
          refine iq_iincv hS 56 J_M_row_d53 (c := 1) (by decide +kernel) (lk_2i l28 (by decide) (by decide)) (by decide) rfl ?_
          refine iq_goto hS J_M_row_d56 (t := 5) rfl ?_
          exact ih _ _ _ _ hM24 (lk_1r (lk_2r l25 (by decide) (by decide)) (by decide)) (lk_1i (lk_2i l26 (by decide) (by decide)) (by decide)) (lk_1i (lk_2i l27 (by decide) (by decide)) (by decide)) (lk_1l lk_2s (by decide) (by decide)) lk_1s (lq_l h)
        obtain ⟨k15, Q15, hQ15, hk15, h⟩ := jn1_ed h
        have J15 : ∀ (M17 : im_M) (L' : List (Nat × Value)), lw_S w M17 → im_lk L' 0 = some (.ref 69) → im_lk L' 1 = some (.int p0) → im_lk L' 2 = some (.int p1) → im_lk L' 3 = some (.long x5) → im_lk L' 5 = some (.int x6) → Q15 M17 → ia (tb_G L xs) (dep + 4) J_M_row (rwL w Q) (51, L', [], M17) := by
          intro M17 L' hM17 l18 l19 l20 l21 l22 h
          replace h := hQ15 _ h
          refine iq_lload_n hS 52 J_M_row_d51 l21 rfl ?_
          exact J14 _ _ _ hM17 l18 l19 l20 l22 (ed_some h)
        refine iq_if_eq hS 31 J_M_row_d28 (t := 51) rfl (fun q28 => ?_) rfl (fun q28 => ?_)
        · replace h := ed_pos q28 h
          exact J15 _ _ hM13 (lk_2r l8 (by decide) (by decide)) (lk_2i l9 (by decide) (by decide)) (lk_2i l10 (by decide) (by decide)) (lk_2l l11 (by decide) (by decide) (by decide)) (lk_2i l12 (by decide) (by decide)) (hk15 _ h)
        · replace h := ed_neg q28 h
          refine iq_aload_n hS 32 J_M_row_d31 (lk_2r l8 (by decide) (by decide)) rfl ?_
          refine iq_lload hS 34 J_M_row_d32 lk_2s rfl ?_
          refine iq_l2i hS 35 J_M_row_d34 rfl ?_
          refine iq_iload_n hS 36 J_M_row_d35 (lk_2i l10 (by decide) (by decide)) rfl ?_
          obtain ⟨Q16, hQ16, h⟩ := bd2_ed h
          refine iq_cwI hS 39 J_M_row_d36 rfl (pr_inst (vs := [_, _]) lc_17_213 lT_446 rfl rfl (by decide) (by decide) rfl (Nat.le_of_ble_eq_true rfl) (Nat.le_of_ble_eq_true rfl) (fun _ => Or.inl (pr_b (ka_69 hM13) (by decide) rfl))) (f_M_isDark_ok (dep := dep + 0) hM13 h) rfl ?_
          intro x16 M16 hM16 h
          replace h := hQ16 _ _ h
          refine iq_if_eq hS 42 J_M_row_d39 (t := 51) rfl (fun q39 => ?_) rfl (fun q39 => ?_)
          · replace h := ed_pos q39 h
            exact J15 _ _ hM16 (lk_2r l8 (by decide) (by decide)) (lk_2i l9 (by decide) (by decide)) (lk_2i l10 (by decide) (by decide)) (lk_2l l11 (by decide) (by decide) (by decide)) (lk_2i l12 (by decide) (by decide)) (hk15 _ h)
          · replace h := ed_neg q39 h
            refine iq_lload_n hS 43 J_M_row_d42 (lk_2l l11 (by decide) (by decide) (by decide)) rfl ?_
            refine iq_lconst hS 44 J_M_row_d43 (v := 1) (by decide +kernel) rfl ?_
            refine iq_iload hS 46 J_M_row_d44 (lk_2i l12 (by decide) (by decide)) rfl ?_
            refine iq_lshl hS 47 J_M_row_d46 rfl ?_
            refine iq_lor hS 48 J_M_row_d47 rfl ?_
            refine iq_goto hS J_M_row_d48 (t := 52) rfl ?_
            exact J14 _ _ _ hM16 (lk_2r l8 (by decide) (by decide)) (lk_2i l9 (by decide) (by decide)) (lk_2i l10 (by decide) (by decide)) (lk_2i l12 (by decide) (by decide)) (ed_some h)
  exact I1 n1 _ _ _ _ hM (lk_1r (lk_2r l0 (by decide) (by decide)) (by decide)) (lk_1i (lk_2i l1 (by decide) (by decide)) (by decide)) (lk_1i (lk_2i l2 (by decide) (by decide)) (by decide)) (lk_1l lk_2s (by decide) (by decide)) lk_1s hn1
theorem f_M_row_fr {p0 : Int32} {p1 : Int32} {M : im_M} {r : Int64 × im_M} (h : f_M_row p0 p1 M = some r) : fr 0 [(89, 0)] M r.2 := by
  replace h : ed (f_M_row p0 p1 M) (fun x => x = r) := ⟨r, h, rfl⟩
  unfold f_M_row at h
  obtain ⟨Q1, hQ1, h⟩ := bd2_ed h
  have K1 : ∀ (y2 : Int64) (M3 : im_M), fr 0 [(89, 0)] M M3 → Q1 (y2, M3) → fr 0 [(89, 0)] M r.2 := by
    intro y2 M3 hM3 h
    replace h := hQ1 _ _ h
    exact fr_ret h hM3
  obtain ⟨r1, hr1, hq1⟩ := h
  obtain ⟨n1, hn1⟩ := lp_n hr1
  have I1 : ∀ (n : Nat) (x4 : Int64) (x5 : Int32) (M6 : im_M), fr 0 [(89, 0)] M M6 → lpn (uc3 (f_M_row_L5 p0 p1)) n (x4, x5, M6) = some r1 → fr 0 [(89, 0)] M r.2 := by
    intro n
    induction n with
    | zero => intro x4 x5 M6 hM6 hn; exact (lpn_0 hn).elim
    | succ n ih =>
      intro x4 x5 M6 hM6 hn
      have h := lpn_ed3 hn
      unfold f_M_row_L5 at h
      by_cases q9 : 64 ≤ x5
      · replace h := ed_pos q9 h
        exact K1 _ _ hM6 (lq_r h hq1)
      · replace h := ed_neg q9 h
        obtain ⟨Q7, hQ7, h⟩ := bd2_ed h
        obtain ⟨⟨x7, M7⟩, e7, h⟩ := h
        replace h := hQ7 _ _ h
        obtain ⟨Q8, hQ8, h⟩ := bd2_ed h
        have J8 : ∀ (y17 : Int64) (M18 : im_M), fr 0 [(89, 0)] M M18 → Q8 (y17, M18) → fr 0 [(89, 0)] M r.2 := by
          intro y17 M18 hM18 h
          replace h := hQ8 _ _ h
          exact ih _ _ _ hM18 (lq_l h)
        obtain ⟨k9, Q9, hQ9, hk9, h⟩ := jn1_ed h
        have J9 : ∀ (M11 : im_M), fr 0 [(89, 0)] M M11 → Q9 M11 → fr 0 [(89, 0)] M r.2 := by
          intro M11 hM11 h
          replace h := hQ9 _ h
          exact J8 _ _ hM11 (ed_some h)
        by_cases q28 : x7 = 0
        · replace h := ed_pos q28 h
          exact J9 _ (fr_tr (fr_mono (by decide) (by decide +kernel) (f_M_isOn_fr e7)) hM6) (hk9 _ h)
        · replace h := ed_neg q28 h
          obtain ⟨Q10, hQ10, h⟩ := bd2_ed h
          obtain ⟨⟨x10, M10⟩, e10, h⟩ := h
          replace h := hQ10 _ _ h
          by_cases q39 : x10 = 0
          · replace h := ed_pos q39 h
            exact J9 _ (fr_tr (fr_mono (by decide) (by decide +kernel) (f_M_isDark_fr e10)) (fr_tr (fr_mono (by decide) (by decide +kernel) (f_M_isOn_fr e7)) hM6)) (hk9 _ h)
          · replace h := ed_neg q39 h
            exact J8 _ _ (fr_tr (fr_mono (by decide) (by decide +kernel) (f_M_isDark_fr e10)) (fr_tr (fr_mono (by decide) (by decide +kernel) (f_M_isOn_fr e7)) hM6)) (ed_some h)
  exact I1 n1 _ _ _ fr_refl hn1
noncomputable def f_MPlaceRows_isOn (p0 : Int64) (p1 : Int64) (M : im_M) : Option (Int32) := if (lg_cmp p0 0) < 0 then some 0 else if 0 ≤ (lg_cmp p0 (Int32.toInt64 (im_i M 130 1))) then some 0 else if (lg_cmp p1 0) < 0 then some 0 else if 0 ≤ (lg_cmp p1 (Int32.toInt64 (im_i M 130 2))) then some 0 else some 1
theorem J_MPlaceRows_isOn_d0 : decode J_MPlaceRows_isOn.2.1 0 = .ok (.lload_n 1, 1) := by decide +kernel
theorem J_MPlaceRows_isOn_d1 : decode J_MPlaceRows_isOn.2.1 1 = .ok (.lconst 0, 1) := by decide +kernel
theorem J_MPlaceRows_isOn_d2 : decode J_MPlaceRows_isOn.2.1 2 = .ok (.lcmp, 1) := by decide +kernel
theorem J_MPlaceRows_isOn_d3 : decode J_MPlaceRows_isOn.2.1 3 = .ok (.ifCond .lt 33, 3) := by decide +kernel
theorem J_MPlaceRows_isOn_d6 : decode J_MPlaceRows_isOn.2.1 6 = .ok (.lload_n 1, 1) := by decide +kernel
theorem J_MPlaceRows_isOn_d7 : decode J_MPlaceRows_isOn.2.1 7 = .ok (.aload_n 0, 1) := by decide +kernel
theorem J_MPlaceRows_isOn_d8 : decode J_MPlaceRows_isOn.2.1 8 = .ok (.getfield 7, 3) := by decide +kernel
theorem J_MPlaceRows_isOn_d11 : decode J_MPlaceRows_isOn.2.1 11 = .ok (.i2l, 1) := by decide +kernel
theorem J_MPlaceRows_isOn_d12 : decode J_MPlaceRows_isOn.2.1 12 = .ok (.lcmp, 1) := by decide +kernel
theorem J_MPlaceRows_isOn_d13 : decode J_MPlaceRows_isOn.2.1 13 = .ok (.ifCond .ge 23, 3) := by decide +kernel
theorem J_MPlaceRows_isOn_d16 : decode J_MPlaceRows_isOn.2.1 16 = .ok (.lload_n 3, 1) := by decide +kernel
theorem J_MPlaceRows_isOn_d17 : decode J_MPlaceRows_isOn.2.1 17 = .ok (.lconst 0, 1) := by decide +kernel
theorem J_MPlaceRows_isOn_d18 : decode J_MPlaceRows_isOn.2.1 18 = .ok (.lcmp, 1) := by decide +kernel
theorem J_MPlaceRows_isOn_d19 : decode J_MPlaceRows_isOn.2.1 19 = .ok (.ifCond .lt 17, 3) := by decide +kernel
theorem J_MPlaceRows_isOn_d22 : decode J_MPlaceRows_isOn.2.1 22 = .ok (.lload_n 3, 1) := by decide +kernel
theorem J_MPlaceRows_isOn_d23 : decode J_MPlaceRows_isOn.2.1 23 = .ok (.aload_n 0, 1) := by decide +kernel
theorem J_MPlaceRows_isOn_d24 : decode J_MPlaceRows_isOn.2.1 24 = .ok (.getfield 13, 3) := by decide +kernel
theorem J_MPlaceRows_isOn_d27 : decode J_MPlaceRows_isOn.2.1 27 = .ok (.i2l, 1) := by decide +kernel
theorem J_MPlaceRows_isOn_d28 : decode J_MPlaceRows_isOn.2.1 28 = .ok (.lcmp, 1) := by decide +kernel
theorem J_MPlaceRows_isOn_d29 : decode J_MPlaceRows_isOn.2.1 29 = .ok (.ifCond .ge 7, 3) := by decide +kernel
theorem J_MPlaceRows_isOn_d32 : decode J_MPlaceRows_isOn.2.1 32 = .ok (.iconst 1, 1) := by decide +kernel
theorem J_MPlaceRows_isOn_d33 : decode J_MPlaceRows_isOn.2.1 33 = .ok (.goto 4, 3) := by decide +kernel
theorem J_MPlaceRows_isOn_d36 : decode J_MPlaceRows_isOn.2.1 36 = .ok (.iconst 0, 1) := by decide +kernel
theorem J_MPlaceRows_isOn_d37 : decode J_MPlaceRows_isOn.2.1 37 = .ok (.ireturn, 1) := by decide +kernel
theorem f_MPlaceRows_isOn_ok {L : Nat} {xs : Nat → Int32} {dep : Nat} {w : Bool} {p0 : Int64} {p1 : Int64} {M : im_M} {Q : Int32 → Prop} (hM : lw_S w M) (h : ed (f_MPlaceRows_isOn p0 p1 M) Q) : ia (tb_G L xs) dep J_MPlaceRows_isOn (rpI M Q) (0, lv_args 0 [.ref 130, .long p0, .long p1], [], M) := by
  have hS : im_St (tb_G L xs) dep J_MPlaceRows_isOn (ia (tb_G L xs) dep J_MPlaceRows_isOn (rpI M Q)) := ia_St
  unfold f_MPlaceRows_isOn at h
  have l0 : im_lk (lv_args 0 [.ref 130, .long p0, .long p1]) 0 = some (.ref 130) := rfl
  have l1 : im_lk (lv_args 0 [.ref 130, .long p0, .long p1]) 1 = some (.long p0) := rfl
  have l3 : im_lk (lv_args 0 [.ref 130, .long p0, .long p1]) 3 = some (.long p1) := rfl
  refine iq_lload_n hS 1 J_MPlaceRows_isOn_d0 l1 rfl ?_
  refine iq_lconst hS 2 J_MPlaceRows_isOn_d1 (v := 0) (by decide +kernel) rfl ?_
  refine iq_lcmp hS 3 J_MPlaceRows_isOn_d2 rfl ?_
  refine iq_if_lt hS 6 J_MPlaceRows_isOn_d3 (t := 36) rfl (fun q3 => ?_) rfl (fun q3 => ?_)
  · replace h := ed_pos q3 h
    refine iq_iconst hS 37 J_MPlaceRows_isOn_d36 (v := 0) (by decide +kernel) rfl ?_
    exact iq_iret J_MPlaceRows_isOn_d37 rfl rfl ⟨_, rfl, rfl, ed_some h⟩
  · replace h := ed_neg q3 h
    refine iq_lload_n hS 7 J_MPlaceRows_isOn_d6 l1 rfl ?_
    refine iq_aload_n hS 8 J_MPlaceRows_isOn_d7 l0 rfl ?_
    refine iq_getI hS 11 J_MPlaceRows_isOn_d8 lf_14_7 (Or.inl rfl) (ka_130 hM) rfl ?_
    refine iq_i2l hS 12 J_MPlaceRows_isOn_d11 rfl ?_
    refine iq_lcmp hS 13 J_MPlaceRows_isOn_d12 rfl ?_
    refine iq_if_ge hS 16 J_MPlaceRows_isOn_d13 (t := 36) rfl (fun q13 => ?_) rfl (fun q13 => ?_)
    · replace h := ed_pos q13 h
      refine iq_iconst hS 37 J_MPlaceRows_isOn_d36 (v := 0) (by decide +kernel) rfl ?_
      exact iq_iret J_MPlaceRows_isOn_d37 rfl rfl ⟨_, rfl, rfl, ed_some h⟩
    · replace h := ed_neg q13 h
      refine iq_lload_n hS 17 J_MPlaceRows_isOn_d16 l3 rfl ?_
      refine iq_lconst hS 18 J_MPlaceRows_isOn_d17 (v := 0) (by decide +kernel) rfl ?_
      refine iq_lcmp hS 19 J_MPlaceRows_isOn_d18 rfl ?_
      refine iq_if_lt hS 22 J_MPlaceRows_isOn_d19 (t := 36) rfl (fun q19 => ?_) rfl (fun q19 => ?_)
      · replace h := ed_pos q19 h
        refine iq_iconst hS 37 J_MPlaceRows_isOn_d36 (v := 0) (by decide +kernel) rfl ?_
        exact iq_iret J_MPlaceRows_isOn_d37 rfl rfl ⟨_, rfl, rfl, ed_some h⟩
      · replace h := ed_neg q19 h
        refine iq_lload_n hS 23 J_MPlaceRows_isOn_d22 l3 rfl ?_
        refine iq_aload_n hS 24 J_MPlaceRows_isOn_d23 l0 rfl ?_
        refine iq_getI hS 27 J_MPlaceRows_isOn_d24 lf_14_13 (Or.inl rfl) (ka_130 hM) rfl ?_
        refine iq_i2l hS 28 J_MPlaceRows_isOn_d27 rfl ?_
        refine iq_lcmp hS 29 J_MPlaceRows_isOn_d28 rfl ?_
        refine iq_if_ge hS 32 J_MPlaceRows_isOn_d29 (t := 36) rfl (fun q29 => ?_) rfl (fun q29 => ?_)
        · replace h := ed_pos q29 h
          refine iq_iconst hS 37 J_MPlaceRows_isOn_d36 (v := 0) (by decide +kernel) rfl ?_
          exact iq_iret J_MPlaceRows_isOn_d37 rfl rfl ⟨_, rfl, rfl, ed_some h⟩
        · replace h := ed_neg q29 h
          refine iq_iconst hS 33 J_MPlaceRows_isOn_d32 (v := 1) (by decide +kernel) rfl ?_
          refine iq_goto hS J_MPlaceRows_isOn_d33 (t := 37) rfl ?_
          exact iq_iret J_MPlaceRows_isOn_d37 rfl rfl ⟨_, rfl, rfl, ed_some h⟩
noncomputable def f_MPlaceRows_isDark (p0 : Int32) (p1 : Int32) (M : im_M) : Option (Int32) := gd (inb (((512 : Int32) * p1) + p0) 262144) <| gd ((im_i M 131 (Int32.toNatClampNeg (((512 : Int32) * p1) + p0))) = 0 ∨ (im_i M 131 (Int32.toNatClampNeg (((512 : Int32) * p1) + p0))) = 1) <| some (im_i M 131 (Int32.toNatClampNeg (((512 : Int32) * p1) + p0)))
theorem J_MPlaceRows_isDark_d0 : decode J_MPlaceRows_isDark.2.1 0 = .ok (.aload_n 0, 1) := by decide +kernel
theorem J_MPlaceRows_isDark_d1 : decode J_MPlaceRows_isDark.2.1 1 = .ok (.getfield 17, 3) := by decide +kernel
theorem J_MPlaceRows_isDark_d4 : decode J_MPlaceRows_isDark.2.1 4 = .ok (.sipush 512, 3) := by decide +kernel
theorem J_MPlaceRows_isDark_d7 : decode J_MPlaceRows_isDark.2.1 7 = .ok (.iload_n 2, 1) := by decide +kernel
theorem J_MPlaceRows_isDark_d8 : decode J_MPlaceRows_isDark.2.1 8 = .ok (.imul, 1) := by decide +kernel
theorem J_MPlaceRows_isDark_d9 : decode J_MPlaceRows_isDark.2.1 9 = .ok (.iload_n 1, 1) := by decide +kernel
theorem J_MPlaceRows_isDark_d10 : decode J_MPlaceRows_isDark.2.1 10 = .ok (.iadd, 1) := by decide +kernel
theorem J_MPlaceRows_isDark_d11 : decode J_MPlaceRows_isDark.2.1 11 = .ok (.baload, 1) := by decide +kernel
theorem J_MPlaceRows_isDark_d12 : decode J_MPlaceRows_isDark.2.1 12 = .ok (.ireturn, 1) := by decide +kernel
theorem f_MPlaceRows_isDark_ok {L : Nat} {xs : Nat → Int32} {dep : Nat} {w : Bool} {p0 : Int32} {p1 : Int32} {M : im_M} {Q : Int32 → Prop} (hM : lw_S w M) (h : ed (f_MPlaceRows_isDark p0 p1 M) Q) : ia (tb_G L xs) dep J_MPlaceRows_isDark (rpI M Q) (0, lv_args 0 [.ref 130, .int p0, .int p1], [], M) := by
  have hS : im_St (tb_G L xs) dep J_MPlaceRows_isDark (ia (tb_G L xs) dep J_MPlaceRows_isDark (rpI M Q)) := ia_St
  unfold f_MPlaceRows_isDark at h
  have l0 : im_lk (lv_args 0 [.ref 130, .int p0, .int p1]) 0 = some (.ref 130) := rfl
  have l1 : im_lk (lv_args 0 [.ref 130, .int p0, .int p1]) 1 = some (.int p0) := rfl
  have l2 : im_lk (lv_args 0 [.ref 130, .int p0, .int p1]) 2 = some (.int p1) := rfl
  refine iq_aload_n hS 1 J_MPlaceRows_isDark_d0 l0 rfl ?_
  refine iq_getR hS 4 J_MPlaceRows_isDark_d1 lf_14_17 (Or.inr ⟨_, rfl⟩) (ka_130 hM) (ra_130_3 hM) rfl ?_
  refine iq_sipush hS 7 J_MPlaceRows_isDark_d4 (v := 512) (by decide +kernel) rfl ?_
  refine iq_iload_n hS 8 J_MPlaceRows_isDark_d7 l2 rfl ?_
  refine iq_imul hS 9 J_MPlaceRows_isDark_d8 rfl ?_
  refine iq_iload_n hS 10 J_MPlaceRows_isDark_d9 l1 rfl ?_
  refine iq_iadd hS 11 J_MPlaceRows_isDark_d10 rfl ?_
  obtain ⟨g11, h⟩ := ed_gd h
  refine iq_zaload hS 12 J_MPlaceRows_isDark_d11 ⟨(ka_131 hM).1, (ka_131 hM).2, g11.1, ix_lt (kl_131 hM) g11.2⟩ rfl ?_
  obtain ⟨g12, h⟩ := ed_gd h
  exact iq_iret J_MPlaceRows_isDark_d12 rfl (nar_z g12) ⟨_, rfl, rfl, ed_some h⟩
noncomputable def f_MPlaceRows_turn_L11 (v2 : Int32) (v3 : Int32) (v4 : Int64) (x5 : Int32) (x6 : Int32) (M7 : im_M) : Option ((Int32 × Int32 × im_M) ⊕ (Int32 × im_M)) := if 64 ≤ x6 then some (.inr (x5, M7)) else bd2 (if ¬ (lg_cmp ((v4 >>> (Int32.toInt64 x6 &&& 63) : Int64) &&& 1) 1) = 0 then some (x5, M7) else bd1 (f_MPlaceRows_isOn ((Int32.toInt64 v2) + (Int32.toInt64 x6)) (Int32.toInt64 v3) M7) fun (x9 : Int32) => if x9 = 0 then some (x5, M7) else bd1 (f_MPlaceRows_isDark (v2 + x6) v3 M7) fun (x10 : Int32) => gd (inb ((((512 : Int32) * v3) + v2) + x6) 262144) <| some ((x5 + 1), (im_setI M7 131 (Int32.toNatClampNeg ((((512 : Int32) * v3) + v2) + x6)) (vp_nar .boolean ((if ¬ x10 = 0 then 0 else 1) : Int32))))) fun (y12 : Int32) (M13 : im_M) => some (.inl (y12, (x6 + 1), M13))
noncomputable def f_MPlaceRows_turn (p0 : Int32) (p1 : Int32) (p2 : Int64) (M : im_M) : Option (Int32 × im_M) := bd2 (lp (uc3 (f_MPlaceRows_turn_L11 p0 p1 p2)) (0, 0, (im_setI M 130 0 0))) fun (y20 : Int32) (M21 : im_M) => some (y20, M21)
theorem J_MPlaceRows_turn_d0 : decode J_MPlaceRows_turn.2.1 0 = .ok (.aload_n 0, 1) := by decide +kernel
theorem J_MPlaceRows_turn_d1 : decode J_MPlaceRows_turn.2.1 1 = .ok (.iconst 0, 1) := by decide +kernel
theorem J_MPlaceRows_turn_d2 : decode J_MPlaceRows_turn.2.1 2 = .ok (.putfield 35, 3) := by decide +kernel
theorem J_MPlaceRows_turn_d5 : decode J_MPlaceRows_turn.2.1 5 = .ok (.iconst 0, 1) := by decide +kernel
theorem J_MPlaceRows_turn_d6 : decode J_MPlaceRows_turn.2.1 6 = .ok (.istore 5, 2) := by decide +kernel
theorem J_MPlaceRows_turn_d8 : decode J_MPlaceRows_turn.2.1 8 = .ok (.iconst 0, 1) := by decide +kernel
theorem J_MPlaceRows_turn_d9 : decode J_MPlaceRows_turn.2.1 9 = .ok (.istore 6, 2) := by decide +kernel
theorem J_MPlaceRows_turn_d11 : decode J_MPlaceRows_turn.2.1 11 = .ok (.iload 6, 2) := by decide +kernel
theorem J_MPlaceRows_turn_d13 : decode J_MPlaceRows_turn.2.1 13 = .ok (.bipush 64, 2) := by decide +kernel
theorem J_MPlaceRows_turn_d15 : decode J_MPlaceRows_turn.2.1 15 = .ok (.if_icmp .ge 70, 3) := by decide +kernel
theorem J_MPlaceRows_turn_d18 : decode J_MPlaceRows_turn.2.1 18 = .ok (.lload_n 3, 1) := by decide +kernel
theorem J_MPlaceRows_turn_d19 : decode J_MPlaceRows_turn.2.1 19 = .ok (.iload 6, 2) := by decide +kernel
theorem J_MPlaceRows_turn_d21 : decode J_MPlaceRows_turn.2.1 21 = .ok (.lshr, 1) := by decide +kernel
theorem J_MPlaceRows_turn_d22 : decode J_MPlaceRows_turn.2.1 22 = .ok (.lconst 1, 1) := by decide +kernel
theorem J_MPlaceRows_turn_d23 : decode J_MPlaceRows_turn.2.1 23 = .ok (.land, 1) := by decide +kernel
theorem J_MPlaceRows_turn_d24 : decode J_MPlaceRows_turn.2.1 24 = .ok (.lconst 1, 1) := by decide +kernel
theorem J_MPlaceRows_turn_d25 : decode J_MPlaceRows_turn.2.1 25 = .ok (.lcmp, 1) := by decide +kernel
theorem J_MPlaceRows_turn_d26 : decode J_MPlaceRows_turn.2.1 26 = .ok (.ifCond .ne 53, 3) := by decide +kernel
theorem J_MPlaceRows_turn_d29 : decode J_MPlaceRows_turn.2.1 29 = .ok (.aload_n 0, 1) := by decide +kernel
theorem J_MPlaceRows_turn_d30 : decode J_MPlaceRows_turn.2.1 30 = .ok (.iload_n 1, 1) := by decide +kernel
theorem J_MPlaceRows_turn_d31 : decode J_MPlaceRows_turn.2.1 31 = .ok (.i2l, 1) := by decide +kernel
theorem J_MPlaceRows_turn_d32 : decode J_MPlaceRows_turn.2.1 32 = .ok (.iload 6, 2) := by decide +kernel
theorem J_MPlaceRows_turn_d34 : decode J_MPlaceRows_turn.2.1 34 = .ok (.i2l, 1) := by decide +kernel
theorem J_MPlaceRows_turn_d35 : decode J_MPlaceRows_turn.2.1 35 = .ok (.ladd, 1) := by decide +kernel
theorem J_MPlaceRows_turn_d36 : decode J_MPlaceRows_turn.2.1 36 = .ok (.iload_n 2, 1) := by decide +kernel
theorem J_MPlaceRows_turn_d37 : decode J_MPlaceRows_turn.2.1 37 = .ok (.i2l, 1) := by decide +kernel
theorem J_MPlaceRows_turn_d38 : decode J_MPlaceRows_turn.2.1 38 = .ok (.invokevirtual 47, 3) := by decide +kernel
theorem J_MPlaceRows_turn_d41 : decode J_MPlaceRows_turn.2.1 41 = .ok (.ifCond .eq 38, 3) := by decide +kernel
theorem J_MPlaceRows_turn_d44 : decode J_MPlaceRows_turn.2.1 44 = .ok (.aload_n 0, 1) := by decide +kernel
theorem J_MPlaceRows_turn_d45 : decode J_MPlaceRows_turn.2.1 45 = .ok (.getfield 17, 3) := by decide +kernel
theorem J_MPlaceRows_turn_d48 : decode J_MPlaceRows_turn.2.1 48 = .ok (.sipush 512, 3) := by decide +kernel
theorem J_MPlaceRows_turn_d51 : decode J_MPlaceRows_turn.2.1 51 = .ok (.iload_n 2, 1) := by decide +kernel
theorem J_MPlaceRows_turn_d52 : decode J_MPlaceRows_turn.2.1 52 = .ok (.imul, 1) := by decide +kernel
theorem J_MPlaceRows_turn_d53 : decode J_MPlaceRows_turn.2.1 53 = .ok (.iload_n 1, 1) := by decide +kernel
theorem J_MPlaceRows_turn_d54 : decode J_MPlaceRows_turn.2.1 54 = .ok (.iadd, 1) := by decide +kernel
theorem J_MPlaceRows_turn_d55 : decode J_MPlaceRows_turn.2.1 55 = .ok (.iload 6, 2) := by decide +kernel
theorem J_MPlaceRows_turn_d57 : decode J_MPlaceRows_turn.2.1 57 = .ok (.iadd, 1) := by decide +kernel
theorem J_MPlaceRows_turn_d58 : decode J_MPlaceRows_turn.2.1 58 = .ok (.aload_n 0, 1) := by decide +kernel
theorem J_MPlaceRows_turn_d59 : decode J_MPlaceRows_turn.2.1 59 = .ok (.iload_n 1, 1) := by decide +kernel
theorem J_MPlaceRows_turn_d60 : decode J_MPlaceRows_turn.2.1 60 = .ok (.iload 6, 2) := by decide +kernel
theorem J_MPlaceRows_turn_d62 : decode J_MPlaceRows_turn.2.1 62 = .ok (.iadd, 1) := by decide +kernel
theorem J_MPlaceRows_turn_d63 : decode J_MPlaceRows_turn.2.1 63 = .ok (.iload_n 2, 1) := by decide +kernel
theorem J_MPlaceRows_turn_d64 : decode J_MPlaceRows_turn.2.1 64 = .ok (.invokevirtual 51, 3) := by decide +kernel
theorem J_MPlaceRows_turn_d67 : decode J_MPlaceRows_turn.2.1 67 = .ok (.ifCond .ne 7, 3) := by decide +kernel
theorem J_MPlaceRows_turn_d70 : decode J_MPlaceRows_turn.2.1 70 = .ok (.iconst 1, 1) := by decide +kernel
theorem J_MPlaceRows_turn_d71 : decode J_MPlaceRows_turn.2.1 71 = .ok (.goto 4, 3) := by decide +kernel
theorem J_MPlaceRows_turn_d74 : decode J_MPlaceRows_turn.2.1 74 = .ok (.iconst 0, 1) := by decide +kernel
theorem J_MPlaceRows_turn_d75 : decode J_MPlaceRows_turn.2.1 75 = .ok (.bastore, 1) := by decide +kernel
theorem J_MPlaceRows_turn_d76 : decode J_MPlaceRows_turn.2.1 76 = .ok (.iinc 5 1, 3) := by decide +kernel
theorem J_MPlaceRows_turn_d79 : decode J_MPlaceRows_turn.2.1 79 = .ok (.iinc 6 1, 3) := by decide +kernel
theorem J_MPlaceRows_turn_d82 : decode J_MPlaceRows_turn.2.1 82 = .ok (.goto (-71), 3) := by decide +kernel
theorem J_MPlaceRows_turn_d85 : decode J_MPlaceRows_turn.2.1 85 = .ok (.iload 5, 2) := by decide +kernel
theorem J_MPlaceRows_turn_d87 : decode J_MPlaceRows_turn.2.1 87 = .ok (.ireturn, 1) := by decide +kernel
theorem f_MPlaceRows_turn_ok {L : Nat} {xs : Nat → Int32} {dep : Nat} {w : Bool} {p0 : Int32} {p1 : Int32} {p2 : Int64} {M : im_M} {Q : Int32 × im_M → Prop} (hM : lw_S w M) (h : ed (f_MPlaceRows_turn p0 p1 p2 M) Q) : ia (tb_G L xs) (dep + 1) J_MPlaceRows_turn (rwI w Q) (0, lv_args 0 [.ref 130, .int p0, .int p1, .long p2], [], M) := by
  have hS : im_St (tb_G L xs) (dep + 1) J_MPlaceRows_turn (ia (tb_G L xs) (dep + 1) J_MPlaceRows_turn (rwI w Q)) := ia_St
  unfold f_MPlaceRows_turn at h
  have l0 : im_lk (lv_args 0 [.ref 130, .int p0, .int p1, .long p2]) 0 = some (.ref 130) := rfl
  have l1 : im_lk (lv_args 0 [.ref 130, .int p0, .int p1, .long p2]) 1 = some (.int p0) := rfl
  have l2 : im_lk (lv_args 0 [.ref 130, .int p0, .int p1, .long p2]) 2 = some (.int p1) := rfl
  have l3 : im_lk (lv_args 0 [.ref 130, .int p0, .int p1, .long p2]) 3 = some (.long p2) := rfl
  refine iq_aload_n hS 1 J_MPlaceRows_turn_d0 l0 rfl ?_
  refine iq_iconst hS 2 J_MPlaceRows_turn_d1 (v := 0) (by decide +kernel) rfl ?_
  refine iq_putI hS 5 J_MPlaceRows_turn_d2 lf_14_35 (Or.inl rfl) rfl (ka_130 hM) rfl ?_
  refine iq_iconst hS 6 J_MPlaceRows_turn_d5 (v := 0) (by decide +kernel) rfl ?_
  refine iq_istore hS 8 J_MPlaceRows_turn_d6 (by decide) rfl ?_
  refine iq_iconst hS 9 J_MPlaceRows_turn_d8 (v := 0) (by decide +kernel) rfl ?_
  refine iq_istore hS 11 J_MPlaceRows_turn_d9 (by decide) rfl ?_
  obtain ⟨Q1, hQ1, h⟩ := bd2_ed h
  have K1 : ∀ (y2 : Int32) (M3 : im_M) (L' : List (Nat × Value)), lw_S w M3 → im_lk L' 5 = some (.int y2) → Q1 (y2, M3) → ia (tb_G L xs) (dep + 1) J_MPlaceRows_turn (rwI w Q) (85, L', [], M3) := by
    intro y2 M3 L' hM3 l4 h
    replace h := hQ1 _ _ h
    refine iq_iload hS 87 J_MPlaceRows_turn_d85 l4 rfl ?_
    exact iq_iret J_MPlaceRows_turn_d87 rfl rfl ⟨_, rfl, hM3, ed_some h⟩
  obtain ⟨r1, hr1, hq1⟩ := h
  obtain ⟨n1, hn1⟩ := lp_n hr1
  have I1 : ∀ (n : Nat) (x5 : Int32) (x6 : Int32) (M7 : im_M) (L' : List (Nat × Value)), lw_S w M7 → im_lk L' 0 = some (.ref 130) → im_lk L' 1 = some (.int p0) → im_lk L' 2 = some (.int p1) → im_lk L' 3 = some (.long p2) → im_lk L' 5 = some (.int x5) → im_lk L' 6 = some (.int x6) → lpn (uc3 (f_MPlaceRows_turn_L11 p0 p1 p2)) n (x5, x6, M7) = some r1 → ia (tb_G L xs) (dep + 1) J_MPlaceRows_turn (rwI w Q) (11, L', [], M7) := by
    intro n
    induction n with
    | zero => intro x5 x6 M7 L' hM7 l8 l9 l10 l11 l12 l13 hn; exact (lpn_0 hn).elim
    | succ n ih =>
      intro x5 x6 M7 L' hM7 l8 l9 l10 l11 l12 l13 hn
      have h := lpn_ed3 hn
      unfold f_MPlaceRows_turn_L11 at h
      refine iq_iload hS 13 J_MPlaceRows_turn_d11 l13 rfl ?_
      refine iq_bipush hS 15 J_MPlaceRows_turn_d13 (v := 64) (by decide +kernel) rfl ?_
      refine iq_icmp_ge hS 18 J_MPlaceRows_turn_d15 (t := 85) rfl (fun q15 => ?_) rfl (fun q15 => ?_)
      · replace h := ed_pos q15 h
        exact K1 _ _ _ hM7 l12 (lq_r h hq1)
      · replace h := ed_neg q15 h
        refine iq_lload_n hS 19 J_MPlaceRows_turn_d18 l11 rfl ?_
        refine iq_iload hS 21 J_MPlaceRows_turn_d19 l13 rfl ?_
        refine iq_lshr hS 22 J_MPlaceRows_turn_d21 rfl ?_
        refine iq_lconst hS 23 J_MPlaceRows_turn_d22 (v := 1) (by decide +kernel) rfl ?_
        refine iq_land hS 24 J_MPlaceRows_turn_d23 rfl ?_
        refine iq_lconst hS 25 J_MPlaceRows_turn_d24 (v := 1) (by decide +kernel) rfl ?_
        refine iq_lcmp hS 26 J_MPlaceRows_turn_d25 rfl ?_
        obtain ⟨Q14, hQ14, h⟩ := bd2_ed h
        have J14 : ∀ (y26 : Int32) (M27 : im_M) (L' : List (Nat × Value)), lw_S w M27 → im_lk L' 0 = some (.ref 130) → im_lk L' 1 = some (.int p0) → im_lk L' 2 = some (.int p1) → im_lk L' 3 = some (.long p2) → im_lk L' 5 = some (.int y26) → im_lk L' 6 = some (.int x6) → Q14 (y26, M27) → ia (tb_G L xs) (dep + 1) J_MPlaceRows_turn (rwI w Q) (79, L', [], M27) := by
          intro y26 M27 L' hM27 l28 l29 l30 l31 l32 l33 h
          replace h := hQ14 _ _ h
          refine iq_iincv hS 82 J_MPlaceRows_turn_d79 (c := 1) (by decide +kernel) l33 (by decide) rfl ?_
          refine iq_goto hS J_MPlaceRows_turn_d82 (t := 11) rfl ?_
          exact ih _ _ _ _ hM27 (lk_1r l28 (by decide)) (lk_1i l29 (by decide)) (lk_1i l30 (by decide)) (lk_1l l31 (by decide) (by decide)) (lk_1i l32 (by decide)) lk_1s (lq_l h)
        refine iq_if_ne hS 29 J_MPlaceRows_turn_d26 (t := 79) rfl (fun q26 => ?_) rfl (fun q26 => ?_)
        · replace h := ed_pos q26 h
          exact J14 _ _ _ hM7 l8 l9 l10 l11 l12 l13 (ed_some h)
        · replace h := ed_neg q26 h
          refine iq_aload_n hS 30 J_MPlaceRows_turn_d29 l8 rfl ?_
          refine iq_iload_n hS 31 J_MPlaceRows_turn_d30 l9 rfl ?_
          refine iq_i2l hS 32 J_MPlaceRows_turn_d31 rfl ?_
          refine iq_iload hS 34 J_MPlaceRows_turn_d32 l13 rfl ?_
          refine iq_i2l hS 35 J_MPlaceRows_turn_d34 rfl ?_
          refine iq_ladd hS 36 J_MPlaceRows_turn_d35 rfl ?_
          refine iq_iload_n hS 37 J_MPlaceRows_turn_d36 l10 rfl ?_
          refine iq_i2l hS 38 J_MPlaceRows_turn_d37 rfl ?_
          obtain ⟨Q15, hQ15, h⟩ := bd1_ed h
          refine iq_cpI hS 41 J_MPlaceRows_turn_d38 rfl (pr_inst (vs := [_, _]) lc_14_47 lT_449 rfl rfl (by decide) (by decide) rfl (Nat.le_of_ble_eq_true rfl) (Nat.le_of_ble_eq_true rfl) (fun _ => Or.inl (pr_b (ka_130 hM7) (by decide) rfl))) (f_MPlaceRows_isOn_ok (dep := dep + 0) hM7 h) rfl ?_
          intro x15 h
          replace h := hQ15 _ h
          refine iq_if_eq hS 44 J_MPlaceRows_turn_d41 (t := 79) rfl (fun q41 => ?_) rfl (fun q41 => ?_)
          · replace h := ed_pos q41 h
            exact J14 _ _ _ hM7 l8 l9 l10 l11 l12 l13 (ed_some h)
          · replace h := ed_neg q41 h
            refine iq_aload_n hS 45 J_MPlaceRows_turn_d44 l8 rfl ?_
            refine iq_getR hS 48 J_MPlaceRows_turn_d45 lf_14_17 (Or.inr ⟨_, rfl⟩) (ka_130 hM7) (ra_130_3 hM7) rfl ?_
            refine iq_sipush hS 51 J_MPlaceRows_turn_d48 (v := 512) (by decide +kernel) rfl ?_
            refine iq_iload_n hS 52 J_MPlaceRows_turn_d51 l10 rfl ?_
            refine iq_imul hS 53 J_MPlaceRows_turn_d52 rfl ?_
            refine iq_iload_n hS 54 J_MPlaceRows_turn_d53 l9 rfl ?_
            refine iq_iadd hS 55 J_MPlaceRows_turn_d54 rfl ?_
            refine iq_iload hS 57 J_MPlaceRows_turn_d55 l13 rfl ?_
            refine iq_iadd hS 58 J_MPlaceRows_turn_d57 rfl ?_
            refine iq_aload_n hS 59 J_MPlaceRows_turn_d58 l8 rfl ?_
            refine iq_iload_n hS 60 J_MPlaceRows_turn_d59 l9 rfl ?_
            refine iq_iload hS 62 J_MPlaceRows_turn_d60 l13 rfl ?_
            refine iq_iadd hS 63 J_MPlaceRows_turn_d62 rfl ?_
            refine iq_iload_n hS 64 J_MPlaceRows_turn_d63 l10 rfl ?_
            obtain ⟨Q16, hQ16, h⟩ := bd1_ed h
            refine iq_cpI hS 67 J_MPlaceRows_turn_d64 rfl (pr_inst (vs := [_, _]) lc_14_51 lT_450 rfl rfl (by decide) (by decide) rfl (Nat.le_of_ble_eq_true rfl) (Nat.le_of_ble_eq_true rfl) (fun _ => Or.inl (pr_b (ka_130 hM7) (by decide) rfl))) (f_MPlaceRows_isDark_ok (dep := dep + 0) hM7 h) rfl ?_
            intro x16 h
            replace h := hQ16 _ h
            have J17 : ∀ (z18 : Int32) (L' : List (Nat × Value)), z18 = ((if ¬ x16 = 0 then 0 else 1) : Int32) → im_lk L' 0 = some (.ref 130) → im_lk L' 1 = some (.int p0) → im_lk L' 2 = some (.int p1) → im_lk L' 3 = some (.long p2) → im_lk L' 5 = some (.int x5) → im_lk L' 6 = some (.int x6) → ia (tb_G L xs) (dep + 1) J_MPlaceRows_turn (rwI w Q) (75, L', [.int z18, .int ((((512 : Int32) * p1) + p0) + x6), .ref 131], M7) := by
              intro z18 L' e19 l20 l21 l22 l23 l24 l25
              subst e19
              obtain ⟨g75, h⟩ := ed_gd h
              refine iq_zastore hS 76 J_MPlaceRows_turn_d75 ⟨(ka_131 hM7).1, (ka_131 hM7).2, g75.1, ix_lt (kl_131 hM7) g75.2⟩ rfl ?_
              refine iq_iincv hS 79 J_MPlaceRows_turn_d76 (c := 1) (by decide +kernel) l24 (by decide) rfl ?_
              exact J14 _ _ _ (lw_sI hM7) (lk_1r l20 (by decide)) (lk_1i l21 (by decide)) (lk_1i l22 (by decide)) (lk_1l l23 (by decide) (by decide)) lk_1s (lk_1i l25 (by decide)) (ed_some h)
            refine iq_if_ne hS 70 J_MPlaceRows_turn_d67 (t := 74) rfl (fun q67 => ?_) rfl (fun q67 => ?_)
            · refine iq_iconst hS 75 J_MPlaceRows_turn_d74 (v := 0) (by decide +kernel) rfl ?_
              exact J17 _ _ (by simp only [if_pos q67]) l8 l9 l10 l11 l12 l13
            · refine iq_iconst hS 71 J_MPlaceRows_turn_d70 (v := 1) (by decide +kernel) rfl ?_
              refine iq_goto hS J_MPlaceRows_turn_d71 (t := 75) rfl ?_
              exact J17 _ _ (by simp only [if_neg q67]) l8 l9 l10 l11 l12 l13
  exact I1 n1 _ _ _ _ (lw_sI hM) (lk_1r (lk_1r l0 (by decide)) (by decide)) (lk_1i (lk_1i l1 (by decide)) (by decide)) (lk_1i (lk_1i l2 (by decide)) (by decide)) (lk_1l (lk_1l l3 (by decide) (by decide)) (by decide) (by decide)) (lk_1i lk_1s (by decide)) lk_1s hn1
theorem f_MPlaceRows_turn_fr {p0 : Int32} {p1 : Int32} {p2 : Int64} {M : im_M} {r : Int32 × im_M} (h : f_MPlaceRows_turn p0 p1 p2 M = some r) : fr 2722258935367507707706996859454145691648 [(130, 0)] M r.2 := by
  replace h : ed (f_MPlaceRows_turn p0 p1 p2 M) (fun x => x = r) := ⟨r, h, rfl⟩
  unfold f_MPlaceRows_turn at h
  obtain ⟨Q1, hQ1, h⟩ := bd2_ed h
  have K1 : ∀ (y2 : Int32) (M3 : im_M), fr 2722258935367507707706996859454145691648 [(130, 0)] M M3 → Q1 (y2, M3) → fr 2722258935367507707706996859454145691648 [(130, 0)] M r.2 := by
    intro y2 M3 hM3 h
    replace h := hQ1 _ _ h
    exact fr_ret h hM3
  obtain ⟨r1, hr1, hq1⟩ := h
  obtain ⟨n1, hn1⟩ := lp_n hr1
  have I1 : ∀ (n : Nat) (x4 : Int32) (x5 : Int32) (M6 : im_M), fr 2722258935367507707706996859454145691648 [(130, 0)] M M6 → lpn (uc3 (f_MPlaceRows_turn_L11 p0 p1 p2)) n (x4, x5, M6) = some r1 → fr 2722258935367507707706996859454145691648 [(130, 0)] M r.2 := by
    intro n
    induction n with
    | zero => intro x4 x5 M6 hM6 hn; exact (lpn_0 hn).elim
    | succ n ih =>
      intro x4 x5 M6 hM6 hn
      have h := lpn_ed3 hn
      unfold f_MPlaceRows_turn_L11 at h
      by_cases q15 : 64 ≤ x5
      · replace h := ed_pos q15 h
        exact K1 _ _ hM6 (lq_r h hq1)
      · replace h := ed_neg q15 h
        obtain ⟨Q7, hQ7, h⟩ := bd2_ed h
        have J7 : ∀ (y11 : Int32) (M12 : im_M), fr 2722258935367507707706996859454145691648 [(130, 0)] M M12 → Q7 (y11, M12) → fr 2722258935367507707706996859454145691648 [(130, 0)] M r.2 := by
          intro y11 M12 hM12 h
          replace h := hQ7 _ _ h
          exact ih _ _ _ hM12 (lq_l h)
        by_cases q26 : ¬ (lg_cmp ((p2 >>> (Int32.toInt64 x5 &&& 63) : Int64) &&& 1) 1) = 0
        · replace h := ed_pos q26 h
          exact J7 _ _ hM6 (ed_some h)
        · replace h := ed_neg q26 h
          obtain ⟨Q8, hQ8, h⟩ := bd1_ed h
          obtain ⟨x8, e8, h⟩ := h
          replace h := hQ8 _ h
          by_cases q41 : x8 = 0
          · replace h := ed_pos q41 h
            exact J7 _ _ hM6 (ed_some h)
          · replace h := ed_neg q41 h
            obtain ⟨Q9, hQ9, h⟩ := bd1_ed h
            obtain ⟨x9, e9, h⟩ := h
            replace h := hQ9 _ h
            obtain ⟨g75, h⟩ := ed_gd h
            exact J7 _ _ (fr_I (by decide) hM6) (ed_some h)
  exact I1 n1 _ _ _ (fr_F (by decide) fr_refl) hn1
noncomputable def f_M_follow_L37 (v10 : Int32) (v11 : Int32) (v12 : Int32) (x13 : Int32) (M14 : im_M) : Option ((Int32 × im_M) ⊕ (im_M)) := if v10 ≤ x13 then some (.inr M14) else bd2 (f_M_row x13 v12 M14) fun (x15 : Int64) (M15 : im_M) => bd2 (f_MPlaceRows_turn x13 v12 x15 M15) fun (x16 : Int32) (M16 : im_M) => some (.inl ((x13 + 64), M16))
noncomputable def f_M_follow_L29 (v5 : Int32) (v6 : Int32) (x7 : Int32) (M8 : im_M) : Option ((Int32 × im_M) ⊕ (im_M)) := if v6 ≤ x7 then some (.inr M8) else bd1 (lp (uc2 (f_M_follow_L37 v5 v6 x7)) (0, M8)) fun (M17 : im_M) => some (.inl ((x7 + 1), M17))
noncomputable def f_M_follow (M : im_M) : Option (im_M) := bd2 (f_MDotRows_told 0 M) fun (x1 : Int32) (M1 : im_M) => bd2 (f_MDotRows_told 1 M1) fun (x2 : Int32) (M2 : im_M) => bd1 (f_MPlaceRows_sheet x1 x2 M2) fun (M3 : im_M) => bd1 (lp (uc2 (f_M_follow_L29 x1 x2)) (0, M3)) fun (M18 : im_M) => some M18
theorem J_M_follow_d0 : decode J_M_follow.2.1 0 = .ok (.aload_n 0, 1) := by decide +kernel
theorem J_M_follow_d1 : decode J_M_follow.2.1 1 = .ok (.getfield 23, 3) := by decide +kernel
theorem J_M_follow_d4 : decode J_M_follow.2.1 4 = .ok (.iconst 0, 1) := by decide +kernel
theorem J_M_follow_d5 : decode J_M_follow.2.1 5 = .ok (.invokevirtual 184, 3) := by decide +kernel
theorem J_M_follow_d8 : decode J_M_follow.2.1 8 = .ok (.istore_n 1, 1) := by decide +kernel
theorem J_M_follow_d9 : decode J_M_follow.2.1 9 = .ok (.aload_n 0, 1) := by decide +kernel
theorem J_M_follow_d10 : decode J_M_follow.2.1 10 = .ok (.getfield 23, 3) := by decide +kernel
theorem J_M_follow_d13 : decode J_M_follow.2.1 13 = .ok (.iconst 1, 1) := by decide +kernel
theorem J_M_follow_d14 : decode J_M_follow.2.1 14 = .ok (.invokevirtual 184, 3) := by decide +kernel
theorem J_M_follow_d17 : decode J_M_follow.2.1 17 = .ok (.istore_n 2, 1) := by decide +kernel
theorem J_M_follow_d18 : decode J_M_follow.2.1 18 = .ok (.aload_n 0, 1) := by decide +kernel
theorem J_M_follow_d19 : decode J_M_follow.2.1 19 = .ok (.getfield 44, 3) := by decide +kernel
theorem J_M_follow_d22 : decode J_M_follow.2.1 22 = .ok (.iload_n 1, 1) := by decide +kernel
theorem J_M_follow_d23 : decode J_M_follow.2.1 23 = .ok (.iload_n 2, 1) := by decide +kernel
theorem J_M_follow_d24 : decode J_M_follow.2.1 24 = .ok (.invokevirtual 187, 3) := by decide +kernel
theorem J_M_follow_d27 : decode J_M_follow.2.1 27 = .ok (.iconst 0, 1) := by decide +kernel
theorem J_M_follow_d28 : decode J_M_follow.2.1 28 = .ok (.istore_n 3, 1) := by decide +kernel
theorem J_M_follow_d29 : decode J_M_follow.2.1 29 = .ok (.iload_n 3, 1) := by decide +kernel
theorem J_M_follow_d30 : decode J_M_follow.2.1 30 = .ok (.iload_n 2, 1) := by decide +kernel
theorem J_M_follow_d31 : decode J_M_follow.2.1 31 = .ok (.if_icmp .ge 43, 3) := by decide +kernel
theorem J_M_follow_d34 : decode J_M_follow.2.1 34 = .ok (.iconst 0, 1) := by decide +kernel
theorem J_M_follow_d35 : decode J_M_follow.2.1 35 = .ok (.istore 4, 2) := by decide +kernel
theorem J_M_follow_d37 : decode J_M_follow.2.1 37 = .ok (.iload 4, 2) := by decide +kernel
theorem J_M_follow_d39 : decode J_M_follow.2.1 39 = .ok (.iload_n 1, 1) := by decide +kernel
theorem J_M_follow_d40 : decode J_M_follow.2.1 40 = .ok (.if_icmp .ge 28, 3) := by decide +kernel
theorem J_M_follow_d43 : decode J_M_follow.2.1 43 = .ok (.aload_n 0, 1) := by decide +kernel
theorem J_M_follow_d44 : decode J_M_follow.2.1 44 = .ok (.getfield 44, 3) := by decide +kernel
theorem J_M_follow_d47 : decode J_M_follow.2.1 47 = .ok (.iload 4, 2) := by decide +kernel
theorem J_M_follow_d49 : decode J_M_follow.2.1 49 = .ok (.iload_n 3, 1) := by decide +kernel
theorem J_M_follow_d50 : decode J_M_follow.2.1 50 = .ok (.aload_n 0, 1) := by decide +kernel
theorem J_M_follow_d51 : decode J_M_follow.2.1 51 = .ok (.iload 4, 2) := by decide +kernel
theorem J_M_follow_d53 : decode J_M_follow.2.1 53 = .ok (.iload_n 3, 1) := by decide +kernel
theorem J_M_follow_d54 : decode J_M_follow.2.1 54 = .ok (.invokevirtual 191, 3) := by decide +kernel
theorem J_M_follow_d57 : decode J_M_follow.2.1 57 = .ok (.invokevirtual 192, 3) := by decide +kernel
theorem J_M_follow_d60 : decode J_M_follow.2.1 60 = .ok (.istore 5, 2) := by decide +kernel
theorem J_M_follow_d62 : decode J_M_follow.2.1 62 = .ok (.iinc 4 64, 3) := by decide +kernel
theorem J_M_follow_d65 : decode J_M_follow.2.1 65 = .ok (.goto (-28), 3) := by decide +kernel
theorem J_M_follow_d68 : decode J_M_follow.2.1 68 = .ok (.iinc 3 1, 3) := by decide +kernel
theorem J_M_follow_d71 : decode J_M_follow.2.1 71 = .ok (.goto (-42), 3) := by decide +kernel
theorem J_M_follow_d74 : decode J_M_follow.2.1 74 = .ok (.return_, 1) := by decide +kernel
theorem f_M_follow_ok {L : Nat} {xs : Nat → Int32} {dep : Nat} {w : Bool} {M : im_M} {Q : im_M → Prop} (hM : lw_S w M) (h : ed (f_M_follow M) Q) : ia (tb_G L xs) (dep + 5) J_M_follow (rwV w Q) (0, lv_args 0 [.ref 69], [], M) := by
  have hS : im_St (tb_G L xs) (dep + 5) J_M_follow (ia (tb_G L xs) (dep + 5) J_M_follow (rwV w Q)) := ia_St
  unfold f_M_follow at h
  have l0 : im_lk (lv_args 0 [.ref 69]) 0 = some (.ref 69) := rfl
  refine iq_aload_n hS 1 J_M_follow_d0 l0 rfl ?_
  refine iq_getR hS 4 J_M_follow_d1 lf_17_23 (Or.inl ⟨_, rfl⟩) (ka_69 hM) (ra_69_4 hM) rfl ?_
  refine iq_iconst hS 5 J_M_follow_d4 (v := 0) (by decide +kernel) rfl ?_
  obtain ⟨Q1, hQ1, h⟩ := bd2_ed h
  refine iq_cwI hS 8 J_M_follow_d5 rfl (pr_inst (vs := [_]) lc_17_184 lT_441 rfl rfl (by decide) (by decide) rfl (Nat.le_of_ble_eq_true rfl) (Nat.le_of_ble_eq_true rfl) (fun _ => Or.inl (pr_b (ka_89 hM) (by decide) rfl))) (f_MDotRows_told_ok (dep := dep + 2) hM h) rfl ?_
  intro x1 M1 hM1 h
  replace h := hQ1 _ _ h
  refine iq_istore_n hS 9 J_M_follow_d8 (by decide) rfl ?_
  refine iq_aload_n hS 10 J_M_follow_d9 (lk_1r l0 (by decide)) rfl ?_
  refine iq_getR hS 13 J_M_follow_d10 lf_17_23 (Or.inl ⟨_, rfl⟩) (ka_69 hM1) (ra_69_4 hM1) rfl ?_
  refine iq_iconst hS 14 J_M_follow_d13 (v := 1) (by decide +kernel) rfl ?_
  obtain ⟨Q2, hQ2, h⟩ := bd2_ed h
  refine iq_cwI hS 17 J_M_follow_d14 rfl (pr_inst (vs := [_]) lc_17_184 lT_441 rfl rfl (by decide) (by decide) rfl (Nat.le_of_ble_eq_true rfl) (Nat.le_of_ble_eq_true rfl) (fun _ => Or.inl (pr_b (ka_89 hM1) (by decide) rfl))) (f_MDotRows_told_ok (dep := dep + 2) hM1 h) rfl ?_
  intro x2 M2 hM2 h
  replace h := hQ2 _ _ h
  refine iq_istore_n hS 18 J_M_follow_d17 (by decide) rfl ?_
  refine iq_aload_n hS 19 J_M_follow_d18 (lk_1r (lk_1r l0 (by decide)) (by decide)) rfl ?_
  refine iq_getR hS 22 J_M_follow_d19 lf_17_44 (Or.inl ⟨_, rfl⟩) (ka_69 hM2) (ra_69_7 hM2) rfl ?_
  refine iq_iload_n hS 23 J_M_follow_d22 (lk_1i lk_1s (by decide)) rfl ?_
  refine iq_iload_n hS 24 J_M_follow_d23 lk_1s rfl ?_
  obtain ⟨Q3, hQ3, h⟩ := bd1_ed h
  refine iq_cwV hS 27 J_M_follow_d24 rfl (pr_inst (vs := [_, _]) lc_17_187 lT_442 rfl rfl (by decide) (by decide) rfl (Nat.le_of_ble_eq_true rfl) (Nat.le_of_ble_eq_true rfl) (fun _ => Or.inl (pr_b (ka_130 hM2) (by decide) rfl))) (f_MPlaceRows_sheet_ok (dep := dep + 3) hM2 h) rfl ?_
  intro M3 hM3 h
  replace h := hQ3 _ h
  refine iq_iconst hS 28 J_M_follow_d27 (v := 0) (by decide +kernel) rfl ?_
  refine iq_istore_n hS 29 J_M_follow_d28 (by decide) rfl ?_
  obtain ⟨Q4, hQ4, h⟩ := bd1_ed h
  have K4 : ∀ (M5 : im_M) (L' : List (Nat × Value)), lw_S w M5 → Q4 M5 → ia (tb_G L xs) (dep + 5) J_M_follow (rwV w Q) (74, L', [], M5) := by
    intro M5 L' hM5  h
    replace h := hQ4 _ h
    exact iq_ret J_M_follow_d74 rfl ⟨rfl, hM5, ed_some h⟩
  obtain ⟨r4, hr4, hq4⟩ := h
  obtain ⟨n4, hn4⟩ := lp_n hr4
  have I4 : ∀ (n : Nat) (x6 : Int32) (M7 : im_M) (L' : List (Nat × Value)), lw_S w M7 → im_lk L' 0 = some (.ref 69) → im_lk L' 1 = some (.int x1) → im_lk L' 2 = some (.int x2) → im_lk L' 3 = some (.int x6) → lpn (uc2 (f_M_follow_L29 x1 x2)) n (x6, M7) = some r4 → ia (tb_G L xs) (dep + 5) J_M_follow (rwV w Q) (29, L', [], M7) := by
    intro n
    induction n with
    | zero => intro x6 M7 L' hM7 l8 l9 l10 l11 hn; exact (lpn_0 hn).elim
    | succ n ih =>
      intro x6 M7 L' hM7 l8 l9 l10 l11 hn
      have h := lpn_ed2 hn
      unfold f_M_follow_L29 at h
      refine iq_iload_n hS 30 J_M_follow_d29 l11 rfl ?_
      refine iq_iload_n hS 31 J_M_follow_d30 l10 rfl ?_
      refine iq_icmp_ge hS 34 J_M_follow_d31 (t := 74) rfl (fun q31 => ?_) rfl (fun q31 => ?_)
      · replace h := ed_pos q31 h
        exact K4 _ _ hM7  (lq_r h hq4)
      · replace h := ed_neg q31 h
        refine iq_iconst hS 35 J_M_follow_d34 (v := 0) (by decide +kernel) rfl ?_
        refine iq_istore hS 37 J_M_follow_d35 (by decide) rfl ?_
        obtain ⟨Q12, hQ12, h⟩ := bd1_ed h
        have K12 : ∀ (M13 : im_M) (L' : List (Nat × Value)), lw_S w M13 → im_lk L' 0 = some (.ref 69) → im_lk L' 1 = some (.int x1) → im_lk L' 2 = some (.int x2) → im_lk L' 3 = some (.int x6) → Q12 M13 → ia (tb_G L xs) (dep + 5) J_M_follow (rwV w Q) (68, L', [], M13) := by
          intro M13 L' hM13 l14 l15 l16 l17 h
          replace h := hQ12 _ h
          refine iq_iincv hS 71 J_M_follow_d68 (c := 1) (by decide +kernel) l17 (by decide) rfl ?_
          refine iq_goto hS J_M_follow_d71 (t := 29) rfl ?_
          exact ih _ _ _ hM13 (lk_1r l14 (by decide)) (lk_1i l15 (by decide)) (lk_1i l16 (by decide)) lk_1s (lq_l h)
        obtain ⟨r12, hr12, hq12⟩ := h
        obtain ⟨n12, hn12⟩ := lp_n hr12
        have I12 : ∀ (n : Nat) (x18 : Int32) (M19 : im_M) (L' : List (Nat × Value)), lw_S w M19 → im_lk L' 0 = some (.ref 69) → im_lk L' 1 = some (.int x1) → im_lk L' 2 = some (.int x2) → im_lk L' 3 = some (.int x6) → im_lk L' 4 = some (.int x18) → lpn (uc2 (f_M_follow_L37 x1 x2 x6)) n (x18, M19) = some r12 → ia (tb_G L xs) (dep + 5) J_M_follow (rwV w Q) (37, L', [], M19) := by
          intro n
          induction n with
          | zero => intro x18 M19 L' hM19 l20 l21 l22 l23 l24 hn; exact (lpn_0 hn).elim
          | succ n ih =>
            intro x18 M19 L' hM19 l20 l21 l22 l23 l24 hn
            have h := lpn_ed2 hn
            unfold f_M_follow_L37 at h
            refine iq_iload hS 39 J_M_follow_d37 l24 rfl ?_
            refine iq_iload_n hS 40 J_M_follow_d39 l21 rfl ?_
            refine iq_icmp_ge hS 43 J_M_follow_d40 (t := 68) rfl (fun q40 => ?_) rfl (fun q40 => ?_)
            · replace h := ed_pos q40 h
              exact K12 _ _ hM19 l20 l21 l22 l23 (lq_r h hq12)
            · replace h := ed_neg q40 h
              refine iq_aload_n hS 44 J_M_follow_d43 l20 rfl ?_
              refine iq_getR hS 47 J_M_follow_d44 lf_17_44 (Or.inl ⟨_, rfl⟩) (ka_69 hM19) (ra_69_7 hM19) rfl ?_
              refine iq_iload hS 49 J_M_follow_d47 l24 rfl ?_
              refine iq_iload_n hS 50 J_M_follow_d49 l23 rfl ?_
              refine iq_aload_n hS 51 J_M_follow_d50 l20 rfl ?_
              refine iq_iload hS 53 J_M_follow_d51 l24 rfl ?_
              refine iq_iload_n hS 54 J_M_follow_d53 l23 rfl ?_
              obtain ⟨Q25, hQ25, h⟩ := bd2_ed h
              refine iq_cwL hS 57 J_M_follow_d54 rfl (pr_inst (vs := [_, _]) lc_17_191 lT_444 rfl rfl (by decide) (by decide) rfl (Nat.le_of_ble_eq_true rfl) (Nat.le_of_ble_eq_true rfl) (fun _ => Or.inl (pr_b (ka_69 hM19) (by decide) rfl))) (f_M_row_ok (dep := dep + 0) hM19 h) rfl ?_
              intro x25 M25 hM25 h
              replace h := hQ25 _ _ h
              obtain ⟨Q26, hQ26, h⟩ := bd2_ed h
              refine iq_cwI hS 60 J_M_follow_d57 rfl (pr_inst (vs := [_, _, _]) lc_17_192 lT_448 rfl rfl (by decide) (by decide) rfl (Nat.le_of_ble_eq_true rfl) (Nat.le_of_ble_eq_true rfl) (fun _ => Or.inl (pr_b (ka_130 hM25) (by decide) rfl))) (f_MPlaceRows_turn_ok (dep := dep + 3) hM25 h) rfl ?_
              intro x26 M26 hM26 h
              replace h := hQ26 _ _ h
              refine iq_istore hS 62 J_M_follow_d60 (by decide) rfl ?_
              refine iq_iincv hS 65 J_M_follow_d62 (c := 64) (by decide +kernel) (lk_1i l24 (by decide)) (by decide) rfl ?_
              refine iq_goto hS J_M_follow_d65 (t := 37) rfl ?_
              exact ih _ _ _ hM26 (lk_1r (lk_1r l20 (by decide)) (by decide)) (lk_1i (lk_1i l21 (by decide)) (by decide)) (lk_1i (lk_1i l22 (by decide)) (by decide)) (lk_1i (lk_1i l23 (by decide)) (by decide)) lk_1s (lq_l h)
        exact I12 n12 _ _ _ hM7 (lk_1r l8 (by decide)) (lk_1i l9 (by decide)) (lk_1i l10 (by decide)) (lk_1i l11 (by decide)) lk_1s hn12
  exact I4 n4 _ _ _ hM3 (lk_1r (lk_1r (lk_1r l0 (by decide)) (by decide)) (by decide)) (lk_1i (lk_1i lk_1s (by decide)) (by decide)) (lk_1i lk_1s (by decide)) lk_1s hn4
theorem f_M_follow_fr {M : im_M} {r : im_M} (h : f_M_follow M = some r) : fr 2722258935367507707706996859454145691648 [(89, 0), (130, 0), (130, 1), (130, 2), (130, 8), (130, 10)] M r := by
  replace h : ed (f_M_follow M) (fun x => x = r) := ⟨r, h, rfl⟩
  unfold f_M_follow at h
  obtain ⟨Q1, hQ1, h⟩ := bd2_ed h
  obtain ⟨⟨x1, M1⟩, e1, h⟩ := h
  replace h := hQ1 _ _ h
  obtain ⟨Q2, hQ2, h⟩ := bd2_ed h
  obtain ⟨⟨x2, M2⟩, e2, h⟩ := h
  replace h := hQ2 _ _ h
  obtain ⟨Q3, hQ3, h⟩ := bd1_ed h
  obtain ⟨M3, e3, h⟩ := h
  replace h := hQ3 _ h
  obtain ⟨Q4, hQ4, h⟩ := bd1_ed h
  have K4 : ∀ (M5 : im_M), fr 2722258935367507707706996859454145691648 [(89, 0), (130, 0), (130, 1), (130, 2), (130, 8), (130, 10)] M M5 → Q4 M5 → fr 2722258935367507707706996859454145691648 [(89, 0), (130, 0), (130, 1), (130, 2), (130, 8), (130, 10)] M r := by
    intro M5 hM5 h
    replace h := hQ4 _ h
    exact fr_retV h hM5
  obtain ⟨r4, hr4, hq4⟩ := h
  obtain ⟨n4, hn4⟩ := lp_n hr4
  have I4 : ∀ (n : Nat) (x6 : Int32) (M7 : im_M), fr 2722258935367507707706996859454145691648 [(89, 0), (130, 0), (130, 1), (130, 2), (130, 8), (130, 10)] M M7 → lpn (uc2 (f_M_follow_L29 x1 x2)) n (x6, M7) = some r4 → fr 2722258935367507707706996859454145691648 [(89, 0), (130, 0), (130, 1), (130, 2), (130, 8), (130, 10)] M r := by
    intro n
    induction n with
    | zero => intro x6 M7 hM7 hn; exact (lpn_0 hn).elim
    | succ n ih =>
      intro x6 M7 hM7 hn
      have h := lpn_ed2 hn
      unfold f_M_follow_L29 at h
      by_cases q31 : x2 ≤ x6
      · replace h := ed_pos q31 h
        exact K4 _ hM7 (lq_r h hq4)
      · replace h := ed_neg q31 h
        obtain ⟨Q8, hQ8, h⟩ := bd1_ed h
        have K8 : ∀ (M9 : im_M), fr 2722258935367507707706996859454145691648 [(89, 0), (130, 0), (130, 1), (130, 2), (130, 8), (130, 10)] M M9 → Q8 M9 → fr 2722258935367507707706996859454145691648 [(89, 0), (130, 0), (130, 1), (130, 2), (130, 8), (130, 10)] M r := by
          intro M9 hM9 h
          replace h := hQ8 _ h
          exact ih _ _ hM9 (lq_l h)
        obtain ⟨r8, hr8, hq8⟩ := h
        obtain ⟨n8, hn8⟩ := lp_n hr8
        have I8 : ∀ (n : Nat) (x10 : Int32) (M11 : im_M), fr 2722258935367507707706996859454145691648 [(89, 0), (130, 0), (130, 1), (130, 2), (130, 8), (130, 10)] M M11 → lpn (uc2 (f_M_follow_L37 x1 x2 x6)) n (x10, M11) = some r8 → fr 2722258935367507707706996859454145691648 [(89, 0), (130, 0), (130, 1), (130, 2), (130, 8), (130, 10)] M r := by
          intro n
          induction n with
          | zero => intro x10 M11 hM11 hn; exact (lpn_0 hn).elim
          | succ n ih =>
            intro x10 M11 hM11 hn
            have h := lpn_ed2 hn
            unfold f_M_follow_L37 at h
            by_cases q40 : x1 ≤ x10
            · replace h := ed_pos q40 h
              exact K8 _ hM11 (lq_r h hq8)
            · replace h := ed_neg q40 h
              obtain ⟨Q12, hQ12, h⟩ := bd2_ed h
              obtain ⟨⟨x12, M12⟩, e12, h⟩ := h
              replace h := hQ12 _ _ h
              obtain ⟨Q13, hQ13, h⟩ := bd2_ed h
              obtain ⟨⟨x13, M13⟩, e13, h⟩ := h
              replace h := hQ13 _ _ h
              exact ih _ _ (fr_tr (fr_mono (by decide) (by decide +kernel) (f_MPlaceRows_turn_fr e13)) (fr_tr (fr_mono (by decide) (by decide +kernel) (f_M_row_fr e12)) hM11)) (lq_l h)
        exact I8 n8 _ _ hM7 hn8
  exact I4 n4 _ _ (fr_tr (fr_mono (by decide) (by decide +kernel) (f_MPlaceRows_sheet_fr e3)) (fr_tr (fr_mono (by decide) (by decide +kernel) (f_MDotRows_told_fr e2)) (fr_tr (fr_mono (by decide) (by decide +kernel) (f_MDotRows_told_fr e1)) fr_refl))) hn4
noncomputable def f_M_print_L72 (v8 : Int32) (x9 : Int32) (x10 : Int32) (M11 : im_M) : Option ((Int32 × Int32 × im_M) ⊕ (Int32 × im_M)) := if (im_i M11 69 9) ≤ x10 then some (.inr (x9, M11)) else bd2 (f_MScriptRows_label v8 2 M11) fun (x12 : Int32) (M12 : im_M) => bd2 (f_M_draw (x12 + x10) M12) fun (x13 : Int32) (M13 : im_M) => gd (inb x10 120) <| gd (inb x10 120) <| some (.inl (((if 0 ≤ (im_i (im_setI M13 136 (Int32.toNatClampNeg x10) x13) 136 (Int32.toNatClampNeg x10)) then (x9 + 1) else x9) : Int32), (x10 + 1), (im_setI M13 136 (Int32.toNatClampNeg x10) x13)))
noncomputable def f_M_print (p0 : Int32) (M : im_M) : Option (Int32 × im_M) := bd2 (f_MScriptRows_label p0 0 M) fun (x1 : Int32) (M1 : im_M) => if (im_i (im_setI M1 69 0 ((if 0 ≤ x1 then 0 else 1) : Int32)) 69 0) ≤ 0 then bd2 (f_MScriptRows_label p0 0 (im_setI M1 69 0 ((if 0 ≤ x1 then 0 else 1) : Int32))) fun (x3 : Int32) (M3 : im_M) => bd2 (f_MScriptRows_label p0 1 M3) fun (x4 : Int32) (M4 : im_M) => bd1 (f_MDotRows_sheet x3 x4 M4) fun (M5 : im_M) => bd2 (f_MScriptRows_label p0 3 M5) fun (x6 : Int32) (M6 : im_M) => bd2 (lp (uc3 (f_M_print_L72 p0)) (0, 0, (im_setI M6 69 9 x6))) fun (y15 : Int32) (M16 : im_M) => bd1 (f_M_follow M16) fun (M17 : im_M) => some (y15, M17) else some (0, (im_setI M1 69 0 ((if 0 ≤ x1 then 0 else 1) : Int32)))
theorem J_M_print_d0 : decode J_M_print.2.1 0 = .ok (.aload_n 0, 1) := by decide +kernel
theorem J_M_print_d1 : decode J_M_print.2.1 1 = .ok (.aload_n 0, 1) := by decide +kernel
theorem J_M_print_d2 : decode J_M_print.2.1 2 = .ok (.getfield 16, 3) := by decide +kernel
theorem J_M_print_d5 : decode J_M_print.2.1 5 = .ok (.iload_n 1, 1) := by decide +kernel
theorem J_M_print_d6 : decode J_M_print.2.1 6 = .ok (.iconst 0, 1) := by decide +kernel
theorem J_M_print_d7 : decode J_M_print.2.1 7 = .ok (.invokevirtual 92, 3) := by decide +kernel
theorem J_M_print_d10 : decode J_M_print.2.1 10 = .ok (.ifCond .ge 7, 3) := by decide +kernel
theorem J_M_print_d13 : decode J_M_print.2.1 13 = .ok (.iconst 1, 1) := by decide +kernel
theorem J_M_print_d14 : decode J_M_print.2.1 14 = .ok (.goto 4, 3) := by decide +kernel
theorem J_M_print_d17 : decode J_M_print.2.1 17 = .ok (.iconst 0, 1) := by decide +kernel
theorem J_M_print_d18 : decode J_M_print.2.1 18 = .ok (.putfield 58, 3) := by decide +kernel
theorem J_M_print_d21 : decode J_M_print.2.1 21 = .ok (.aload_n 0, 1) := by decide +kernel
theorem J_M_print_d22 : decode J_M_print.2.1 22 = .ok (.getfield 58, 3) := by decide +kernel
theorem J_M_print_d25 : decode J_M_print.2.1 25 = .ok (.ifCond .le 5, 3) := by decide +kernel
theorem J_M_print_d28 : decode J_M_print.2.1 28 = .ok (.iconst 0, 1) := by decide +kernel
theorem J_M_print_d29 : decode J_M_print.2.1 29 = .ok (.ireturn, 1) := by decide +kernel
theorem J_M_print_d30 : decode J_M_print.2.1 30 = .ok (.aload_n 0, 1) := by decide +kernel
theorem J_M_print_d31 : decode J_M_print.2.1 31 = .ok (.getfield 23, 3) := by decide +kernel
theorem J_M_print_d34 : decode J_M_print.2.1 34 = .ok (.aload_n 0, 1) := by decide +kernel
theorem J_M_print_d35 : decode J_M_print.2.1 35 = .ok (.getfield 16, 3) := by decide +kernel
theorem J_M_print_d38 : decode J_M_print.2.1 38 = .ok (.iload_n 1, 1) := by decide +kernel
theorem J_M_print_d39 : decode J_M_print.2.1 39 = .ok (.iconst 0, 1) := by decide +kernel
theorem J_M_print_d40 : decode J_M_print.2.1 40 = .ok (.invokevirtual 92, 3) := by decide +kernel
theorem J_M_print_d43 : decode J_M_print.2.1 43 = .ok (.aload_n 0, 1) := by decide +kernel
theorem J_M_print_d44 : decode J_M_print.2.1 44 = .ok (.getfield 16, 3) := by decide +kernel
theorem J_M_print_d47 : decode J_M_print.2.1 47 = .ok (.iload_n 1, 1) := by decide +kernel
theorem J_M_print_d48 : decode J_M_print.2.1 48 = .ok (.iconst 1, 1) := by decide +kernel
theorem J_M_print_d49 : decode J_M_print.2.1 49 = .ok (.invokevirtual 92, 3) := by decide +kernel
theorem J_M_print_d52 : decode J_M_print.2.1 52 = .ok (.invokevirtual 196, 3) := by decide +kernel
theorem J_M_print_d55 : decode J_M_print.2.1 55 = .ok (.aload_n 0, 1) := by decide +kernel
theorem J_M_print_d56 : decode J_M_print.2.1 56 = .ok (.aload_n 0, 1) := by decide +kernel
theorem J_M_print_d57 : decode J_M_print.2.1 57 = .ok (.getfield 16, 3) := by decide +kernel
theorem J_M_print_d60 : decode J_M_print.2.1 60 = .ok (.iload_n 1, 1) := by decide +kernel
theorem J_M_print_d61 : decode J_M_print.2.1 61 = .ok (.iconst 3, 1) := by decide +kernel
theorem J_M_print_d62 : decode J_M_print.2.1 62 = .ok (.invokevirtual 92, 3) := by decide +kernel
theorem J_M_print_d65 : decode J_M_print.2.1 65 = .ok (.putfield 197, 3) := by decide +kernel
theorem J_M_print_d68 : decode J_M_print.2.1 68 = .ok (.iconst 0, 1) := by decide +kernel
theorem J_M_print_d69 : decode J_M_print.2.1 69 = .ok (.istore_n 2, 1) := by decide +kernel
theorem J_M_print_d70 : decode J_M_print.2.1 70 = .ok (.iconst 0, 1) := by decide +kernel
theorem J_M_print_d71 : decode J_M_print.2.1 71 = .ok (.istore_n 3, 1) := by decide +kernel
theorem J_M_print_d72 : decode J_M_print.2.1 72 = .ok (.iload_n 3, 1) := by decide +kernel
theorem J_M_print_d73 : decode J_M_print.2.1 73 = .ok (.aload_n 0, 1) := by decide +kernel
theorem J_M_print_d74 : decode J_M_print.2.1 74 = .ok (.getfield 197, 3) := by decide +kernel
theorem J_M_print_d77 : decode J_M_print.2.1 77 = .ok (.if_icmp .ge 47, 3) := by decide +kernel
theorem J_M_print_d80 : decode J_M_print.2.1 80 = .ok (.aload_n 0, 1) := by decide +kernel
theorem J_M_print_d81 : decode J_M_print.2.1 81 = .ok (.getfield 48, 3) := by decide +kernel
theorem J_M_print_d84 : decode J_M_print.2.1 84 = .ok (.iload_n 3, 1) := by decide +kernel
theorem J_M_print_d85 : decode J_M_print.2.1 85 = .ok (.aload_n 0, 1) := by decide +kernel
theorem J_M_print_d86 : decode J_M_print.2.1 86 = .ok (.aload_n 0, 1) := by decide +kernel
theorem J_M_print_d87 : decode J_M_print.2.1 87 = .ok (.getfield 16, 3) := by decide +kernel
theorem J_M_print_d90 : decode J_M_print.2.1 90 = .ok (.iload_n 1, 1) := by decide +kernel
theorem J_M_print_d91 : decode J_M_print.2.1 91 = .ok (.iconst 2, 1) := by decide +kernel
theorem J_M_print_d92 : decode J_M_print.2.1 92 = .ok (.invokevirtual 92, 3) := by decide +kernel
theorem J_M_print_d95 : decode J_M_print.2.1 95 = .ok (.iload_n 3, 1) := by decide +kernel
theorem J_M_print_d96 : decode J_M_print.2.1 96 = .ok (.iadd, 1) := by decide +kernel
theorem J_M_print_d97 : decode J_M_print.2.1 97 = .ok (.invokevirtual 200, 3) := by decide +kernel
theorem J_M_print_d100 : decode J_M_print.2.1 100 = .ok (.iastore, 1) := by decide +kernel
theorem J_M_print_d101 : decode J_M_print.2.1 101 = .ok (.aload_n 0, 1) := by decide +kernel
theorem J_M_print_d102 : decode J_M_print.2.1 102 = .ok (.getfield 48, 3) := by decide +kernel
theorem J_M_print_d105 : decode J_M_print.2.1 105 = .ok (.iload_n 3, 1) := by decide +kernel
theorem J_M_print_d106 : decode J_M_print.2.1 106 = .ok (.iaload, 1) := by decide +kernel
theorem J_M_print_d107 : decode J_M_print.2.1 107 = .ok (.ifCond .ge 7, 3) := by decide +kernel
theorem J_M_print_d110 : decode J_M_print.2.1 110 = .ok (.iload_n 2, 1) := by decide +kernel
theorem J_M_print_d111 : decode J_M_print.2.1 111 = .ok (.goto 6, 3) := by decide +kernel
theorem J_M_print_d114 : decode J_M_print.2.1 114 = .ok (.iload_n 2, 1) := by decide +kernel
theorem J_M_print_d115 : decode J_M_print.2.1 115 = .ok (.iconst 1, 1) := by decide +kernel
theorem J_M_print_d116 : decode J_M_print.2.1 116 = .ok (.iadd, 1) := by decide +kernel
theorem J_M_print_d117 : decode J_M_print.2.1 117 = .ok (.istore_n 2, 1) := by decide +kernel
theorem J_M_print_d118 : decode J_M_print.2.1 118 = .ok (.iinc 3 1, 3) := by decide +kernel
theorem J_M_print_d121 : decode J_M_print.2.1 121 = .ok (.goto (-49), 3) := by decide +kernel
theorem J_M_print_d124 : decode J_M_print.2.1 124 = .ok (.aload_n 0, 1) := by decide +kernel
theorem J_M_print_d125 : decode J_M_print.2.1 125 = .ok (.invokevirtual 203, 3) := by decide +kernel
theorem J_M_print_d128 : decode J_M_print.2.1 128 = .ok (.iload_n 2, 1) := by decide +kernel
theorem J_M_print_d129 : decode J_M_print.2.1 129 = .ok (.ireturn, 1) := by decide +kernel
theorem f_M_print_ok {L : Nat} {xs : Nat → Int32} {dep : Nat} {w : Bool} {p0 : Int32} {M : im_M} {Q : Int32 × im_M → Prop} (hM : lw_S w M) (h : ed (f_M_print p0 M) Q) : ia (tb_G L xs) (dep + 11) J_M_print (rwI w Q) (0, lv_args 0 [.ref 69, .int p0], [], M) := by
  have hS : im_St (tb_G L xs) (dep + 11) J_M_print (ia (tb_G L xs) (dep + 11) J_M_print (rwI w Q)) := ia_St
  unfold f_M_print at h
  have l0 : im_lk (lv_args 0 [.ref 69, .int p0]) 0 = some (.ref 69) := rfl
  have l1 : im_lk (lv_args 0 [.ref 69, .int p0]) 1 = some (.int p0) := rfl
  refine iq_aload_n hS 1 J_M_print_d0 l0 rfl ?_
  refine iq_aload_n hS 2 J_M_print_d1 l0 rfl ?_
  refine iq_getR hS 5 J_M_print_d2 lf_17_16 (Or.inl ⟨_, rfl⟩) (ka_69 hM) (ra_69_3 hM) rfl ?_
  refine iq_iload_n hS 6 J_M_print_d5 l1 rfl ?_
  refine iq_iconst hS 7 J_M_print_d6 (v := 0) (by decide +kernel) rfl ?_
  obtain ⟨Q1, hQ1, h⟩ := bd2_ed h
  refine iq_cwI hS 10 J_M_print_d7 rfl (pr_inst (vs := [_, _]) lc_17_92 lT_324 rfl rfl (by decide) (by decide) rfl (Nat.le_of_ble_eq_true rfl) (Nat.le_of_ble_eq_true rfl) (fun _ => Or.inl (pr_b (ka_71 hM) (by decide) rfl))) (f_MScriptRows_label_ok (dep := dep + 10) hM h) rfl ?_
  intro x1 M1 hM1 h
  replace h := hQ1 _ _ h
  have J2 : ∀ (z3 : Int32) (L' : List (Nat × Value)), z3 = ((if 0 ≤ x1 then 0 else 1) : Int32) → im_lk L' 0 = some (.ref 69) → im_lk L' 1 = some (.int p0) → ia (tb_G L xs) (dep + 11) J_M_print (rwI w Q) (18, L', [.int z3, .ref 69], M1) := by
    intro z3 L' e4 l5 l6
    subst e4
    refine iq_putI hS 21 J_M_print_d18 lf_17_58 (Or.inl rfl) rfl (ka_69 hM1) rfl ?_
    refine iq_aload_n hS 22 J_M_print_d21 l5 rfl ?_
    refine iq_getI hS 25 J_M_print_d22 lf_17_58 (Or.inl rfl) (ka_69 (lw_sI hM1)) rfl ?_
    refine iq_if_le hS 28 J_M_print_d25 (t := 30) rfl (fun q25 => ?_) rfl (fun q25 => ?_)
    · replace h := ed_pos q25 h
      refine iq_aload_n hS 31 J_M_print_d30 l5 rfl ?_
      refine iq_getR hS 34 J_M_print_d31 lf_17_23 (Or.inl ⟨_, rfl⟩) (ka_69 (lw_sI hM1)) (ra_69_4 (lw_sI hM1)) rfl ?_
      refine iq_aload_n hS 35 J_M_print_d34 l5 rfl ?_
      refine iq_getR hS 38 J_M_print_d35 lf_17_16 (Or.inl ⟨_, rfl⟩) (ka_69 (lw_sI hM1)) (ra_69_3 (lw_sI hM1)) rfl ?_
      refine iq_iload_n hS 39 J_M_print_d38 l6 rfl ?_
      refine iq_iconst hS 40 J_M_print_d39 (v := 0) (by decide +kernel) rfl ?_
      obtain ⟨Q7, hQ7, h⟩ := bd2_ed h
      refine iq_cwI hS 43 J_M_print_d40 rfl (pr_inst (vs := [_, _]) lc_17_92 lT_324 rfl rfl (by decide) (by decide) rfl (Nat.le_of_ble_eq_true rfl) (Nat.le_of_ble_eq_true rfl) (fun _ => Or.inl (pr_b (ka_71 (lw_sI hM1)) (by decide) rfl))) (f_MScriptRows_label_ok (dep := dep + 10) (lw_sI hM1) h) rfl ?_
      intro x7 M7 hM7 h
      replace h := hQ7 _ _ h
      refine iq_aload_n hS 44 J_M_print_d43 l5 rfl ?_
      refine iq_getR hS 47 J_M_print_d44 lf_17_16 (Or.inl ⟨_, rfl⟩) (ka_69 hM7) (ra_69_3 hM7) rfl ?_
      refine iq_iload_n hS 48 J_M_print_d47 l6 rfl ?_
      refine iq_iconst hS 49 J_M_print_d48 (v := 1) (by decide +kernel) rfl ?_
      obtain ⟨Q8, hQ8, h⟩ := bd2_ed h
      refine iq_cwI hS 52 J_M_print_d49 rfl (pr_inst (vs := [_, _]) lc_17_92 lT_324 rfl rfl (by decide) (by decide) rfl (Nat.le_of_ble_eq_true rfl) (Nat.le_of_ble_eq_true rfl) (fun _ => Or.inl (pr_b (ka_71 hM7) (by decide) rfl))) (f_MScriptRows_label_ok (dep := dep + 10) hM7 h) rfl ?_
      intro x8 M8 hM8 h
      replace h := hQ8 _ _ h
      obtain ⟨Q9, hQ9, h⟩ := bd1_ed h
      refine iq_cwV hS 55 J_M_print_d52 rfl (pr_inst (vs := [_, _]) lc_17_196 lT_331 rfl rfl (by decide) (by decide) rfl (Nat.le_of_ble_eq_true rfl) (Nat.le_of_ble_eq_true rfl) (fun _ => Or.inl (pr_b (ka_89 hM8) (by decide) rfl))) (f_MDotRows_sheet_ok (dep := dep + 10) hM8 h) rfl ?_
      intro M9 hM9 h
      replace h := hQ9 _ h
      refine iq_aload_n hS 56 J_M_print_d55 l5 rfl ?_
      refine iq_aload_n hS 57 J_M_print_d56 l5 rfl ?_
      refine iq_getR hS 60 J_M_print_d57 lf_17_16 (Or.inl ⟨_, rfl⟩) (ka_69 hM9) (ra_69_3 hM9) rfl ?_
      refine iq_iload_n hS 61 J_M_print_d60 l6 rfl ?_
      refine iq_iconst hS 62 J_M_print_d61 (v := 3) (by decide +kernel) rfl ?_
      obtain ⟨Q10, hQ10, h⟩ := bd2_ed h
      refine iq_cwI hS 65 J_M_print_d62 rfl (pr_inst (vs := [_, _]) lc_17_92 lT_324 rfl rfl (by decide) (by decide) rfl (Nat.le_of_ble_eq_true rfl) (Nat.le_of_ble_eq_true rfl) (fun _ => Or.inl (pr_b (ka_71 hM9) (by decide) rfl))) (f_MScriptRows_label_ok (dep := dep + 10) hM9 h) rfl ?_
      intro x10 M10 hM10 h
      replace h := hQ10 _ _ h
      refine iq_putI hS 68 J_M_print_d65 lf_17_197 (Or.inl rfl) rfl (ka_69 hM10) rfl ?_
      refine iq_iconst hS 69 J_M_print_d68 (v := 0) (by decide +kernel) rfl ?_
      refine iq_istore_n hS 70 J_M_print_d69 (by decide) rfl ?_
      refine iq_iconst hS 71 J_M_print_d70 (v := 0) (by decide +kernel) rfl ?_
      refine iq_istore_n hS 72 J_M_print_d71 (by decide) rfl ?_
      obtain ⟨Q11, hQ11, h⟩ := bd2_ed h
      have K11 : ∀ (y12 : Int32) (M13 : im_M) (L' : List (Nat × Value)), lw_S w M13 → im_lk L' 0 = some (.ref 69) → im_lk L' 2 = some (.int y12) → Q11 (y12, M13) → ia (tb_G L xs) (dep + 11) J_M_print (rwI w Q) (124, L', [], M13) := by
        intro y12 M13 L' hM13 l14 l15 h
        replace h := hQ11 _ _ h
        refine iq_aload_n hS 125 J_M_print_d124 l14 rfl ?_
        obtain ⟨Q16, hQ16, h⟩ := bd1_ed h
        refine iq_cwV hS 128 J_M_print_d125 rfl (pr_inst (vs := []) lc_17_203 lT_440 rfl rfl (by decide) (by decide) rfl (Nat.le_of_ble_eq_true rfl) (Nat.le_of_ble_eq_true rfl) (fun _ => Or.inl (pr_b (ka_69 hM13) (by decide) rfl))) (f_M_follow_ok (dep := dep + 5) hM13 h) rfl ?_
        intro M16 hM16 h
        replace h := hQ16 _ h
        refine iq_iload_n hS 129 J_M_print_d128 l15 rfl ?_
        exact iq_iret J_M_print_d129 rfl rfl ⟨_, rfl, hM16, ed_some h⟩
      obtain ⟨r11, hr11, hq11⟩ := h
      obtain ⟨n11, hn11⟩ := lp_n hr11
      have I11 : ∀ (n : Nat) (x17 : Int32) (x18 : Int32) (M19 : im_M) (L' : List (Nat × Value)), lw_S w M19 → im_lk L' 0 = some (.ref 69) → im_lk L' 1 = some (.int p0) → im_lk L' 2 = some (.int x17) → im_lk L' 3 = some (.int x18) → lpn (uc3 (f_M_print_L72 p0)) n (x17, x18, M19) = some r11 → ia (tb_G L xs) (dep + 11) J_M_print (rwI w Q) (72, L', [], M19) := by
        intro n
        induction n with
        | zero => intro x17 x18 M19 L' hM19 l20 l21 l22 l23 hn; exact (lpn_0 hn).elim
        | succ n ih =>
          intro x17 x18 M19 L' hM19 l20 l21 l22 l23 hn
          have h := lpn_ed3 hn
          unfold f_M_print_L72 at h
          refine iq_iload_n hS 73 J_M_print_d72 l23 rfl ?_
          refine iq_aload_n hS 74 J_M_print_d73 l20 rfl ?_
          refine iq_getI hS 77 J_M_print_d74 lf_17_197 (Or.inl rfl) (ka_69 hM19) rfl ?_
          refine iq_icmp_ge hS 80 J_M_print_d77 (t := 124) rfl (fun q77 => ?_) rfl (fun q77 => ?_)
          · replace h := ed_pos q77 h
            exact K11 _ _ _ hM19 l20 l22 (lq_r h hq11)
          · replace h := ed_neg q77 h
            refine iq_aload_n hS 81 J_M_print_d80 l20 rfl ?_
            refine iq_getR hS 84 J_M_print_d81 lf_17_48 (Or.inr ⟨_, rfl⟩) (ka_69 hM19) (ra_69_8 hM19) rfl ?_
            refine iq_iload_n hS 85 J_M_print_d84 l23 rfl ?_
            refine iq_aload_n hS 86 J_M_print_d85 l20 rfl ?_
            refine iq_aload_n hS 87 J_M_print_d86 l20 rfl ?_
            refine iq_getR hS 90 J_M_print_d87 lf_17_16 (Or.inl ⟨_, rfl⟩) (ka_69 hM19) (ra_69_3 hM19) rfl ?_
            refine iq_iload_n hS 91 J_M_print_d90 l21 rfl ?_
            refine iq_iconst hS 92 J_M_print_d91 (v := 2) (by decide +kernel) rfl ?_
            obtain ⟨Q24, hQ24, h⟩ := bd2_ed h
            refine iq_cwI hS 95 J_M_print_d92 rfl (pr_inst (vs := [_, _]) lc_17_92 lT_324 rfl rfl (by decide) (by decide) rfl (Nat.le_of_ble_eq_true rfl) (Nat.le_of_ble_eq_true rfl) (fun _ => Or.inl (pr_b (ka_71 hM19) (by decide) rfl))) (f_MScriptRows_label_ok (dep := dep + 10) hM19 h) rfl ?_
            intro x24 M24 hM24 h
            replace h := hQ24 _ _ h
            refine iq_iload_n hS 96 J_M_print_d95 l23 rfl ?_
            refine iq_iadd hS 97 J_M_print_d96 rfl ?_
            obtain ⟨Q25, hQ25, h⟩ := bd2_ed h
            refine iq_cwI hS 100 J_M_print_d97 rfl (pr_inst (vs := [_]) lc_17_200 lT_332 rfl rfl (by decide) (by decide) rfl (Nat.le_of_ble_eq_true rfl) (Nat.le_of_ble_eq_true rfl) (fun _ => Or.inl (pr_b (ka_69 hM24) (by decide) rfl))) (f_M_draw_ok (dep := dep + 0) hM24 h) rfl ?_
            intro x25 M25 hM25 h
            replace h := hQ25 _ _ h
            obtain ⟨g100, h⟩ := ed_gd h
            refine iq_iastore hS 101 J_M_print_d100 ⟨(ka_136 hM25).1, (ka_136 hM25).2, g100.1, ix_lt (kl_136 hM25) g100.2⟩ rfl ?_
            refine iq_aload_n hS 102 J_M_print_d101 l20 rfl ?_
            refine iq_getR hS 105 J_M_print_d102 lf_17_48 (Or.inr ⟨_, rfl⟩) (ka_69 (lw_sI hM25)) (ra_69_8 (lw_sI hM25)) rfl ?_
            refine iq_iload_n hS 106 J_M_print_d105 l23 rfl ?_
            obtain ⟨g106, h⟩ := ed_gd h
            refine iq_iaload hS 107 J_M_print_d106 ⟨(ka_136 (lw_sI hM25)).1, (ka_136 (lw_sI hM25)).2, g106.1, ix_lt (kl_136 (lw_sI hM25)) g106.2⟩ rfl ?_
            have J26 : ∀ (z27 : Int32) (L' : List (Nat × Value)), z27 = ((if 0 ≤ (im_i (im_setI M25 136 (Int32.toNatClampNeg x18) x25) 136 (Int32.toNatClampNeg x18)) then (x17 + 1) else x17) : Int32) → im_lk L' 0 = some (.ref 69) → im_lk L' 1 = some (.int p0) → im_lk L' 3 = some (.int x18) → ia (tb_G L xs) (dep + 11) J_M_print (rwI w Q) (117, L', [.int z27], (im_setI M25 136 (Int32.toNatClampNeg x18) x25)) := by
              intro z27 L' e28 l29 l30 l31
              subst e28
              refine iq_istore_n hS 118 J_M_print_d117 (by decide) rfl ?_
              refine iq_iincv hS 121 J_M_print_d118 (c := 1) (by decide +kernel) (lk_1i l31 (by decide)) (by decide) rfl ?_
              refine iq_goto hS J_M_print_d121 (t := 72) rfl ?_
              exact ih _ _ _ _ (lw_sI hM25) (lk_1r (lk_1r l29 (by decide)) (by decide)) (lk_1i (lk_1i l30 (by decide)) (by decide)) (lk_1i lk_1s (by decide)) lk_1s (lq_l h)
            refine iq_if_ge hS 110 J_M_print_d107 (t := 114) rfl (fun q107 => ?_) rfl (fun q107 => ?_)
            · refine iq_iload_n hS 115 J_M_print_d114 l22 rfl ?_
              refine iq_iconst hS 116 J_M_print_d115 (v := 1) (by decide +kernel) rfl ?_
              refine iq_iadd hS 117 J_M_print_d116 rfl ?_
              exact J26 _ _ (by simp only [if_pos q107]) l20 l21 l23
            · refine iq_iload_n hS 111 J_M_print_d110 l22 rfl ?_
              refine iq_goto hS J_M_print_d111 (t := 117) rfl ?_
              exact J26 _ _ (by simp only [if_neg q107]) l20 l21 l23
      exact I11 n11 _ _ _ _ (lw_sI hM10) (lk_1r (lk_1r l5 (by decide)) (by decide)) (lk_1i (lk_1i l6 (by decide)) (by decide)) (lk_1i lk_1s (by decide)) lk_1s hn11
    · replace h := ed_neg q25 h
      refine iq_iconst hS 29 J_M_print_d28 (v := 0) (by decide +kernel) rfl ?_
      exact iq_iret J_M_print_d29 rfl rfl ⟨_, rfl, (lw_sI hM1), ed_some h⟩
  refine iq_if_ge hS 13 J_M_print_d10 (t := 17) rfl (fun q10 => ?_) rfl (fun q10 => ?_)
  · refine iq_iconst hS 18 J_M_print_d17 (v := 0) (by decide +kernel) rfl ?_
    exact J2 _ _ (by simp only [if_pos q10]) l0 l1
  · refine iq_iconst hS 14 J_M_print_d13 (v := 1) (by decide +kernel) rfl ?_
    refine iq_goto hS J_M_print_d14 (t := 18) rfl ?_
    exact J2 _ _ (by simp only [if_neg q10]) l0 l1
theorem f_M_print_fr {p0 : Int32} {M : im_M} {r : Int32 × im_M} (h : f_M_print p0 M = some r) : fr 90010000385483496767017384721317464375296 [(69, 0), (69, 9), (71, 0), (89, 0), (89, 1), (89, 2), (89, 3), (89, 7), (89, 10), (89, 11), (89, 12), (89, 13), (89, 14), (89, 15), (89, 16), (96, 3), (96, 5), (96, 8), (96, 10), (108, 0), (108, 4), (108, 7), (108, 8), (108, 9), (108, 13), (108, 16), (108, 19), (130, 0), (130, 1), (130, 2), (130, 8), (130, 10)] M r.2 := by
  replace h : ed (f_M_print p0 M) (fun x => x = r) := ⟨r, h, rfl⟩
  unfold f_M_print at h
  obtain ⟨Q1, hQ1, h⟩ := bd2_ed h
  obtain ⟨⟨x1, M1⟩, e1, h⟩ := h
  replace h := hQ1 _ _ h
  by_cases q25 : (im_i (im_setI M1 69 0 ((if 0 ≤ x1 then 0 else 1) : Int32)) 69 0) ≤ 0
  · replace h := ed_pos q25 h
    obtain ⟨Q3, hQ3, h⟩ := bd2_ed h
    obtain ⟨⟨x3, M3⟩, e3, h⟩ := h
    replace h := hQ3 _ _ h
    obtain ⟨Q4, hQ4, h⟩ := bd2_ed h
    obtain ⟨⟨x4, M4⟩, e4, h⟩ := h
    replace h := hQ4 _ _ h
    obtain ⟨Q5, hQ5, h⟩ := bd1_ed h
    obtain ⟨M5, e5, h⟩ := h
    replace h := hQ5 _ h
    obtain ⟨Q6, hQ6, h⟩ := bd2_ed h
    obtain ⟨⟨x6, M6⟩, e6, h⟩ := h
    replace h := hQ6 _ _ h
    obtain ⟨Q7, hQ7, h⟩ := bd2_ed h
    have K7 : ∀ (y8 : Int32) (M9 : im_M), fr 90010000385483496767017384721317464375296 [(69, 0), (69, 9), (71, 0), (89, 0), (89, 1), (89, 2), (89, 3), (89, 7), (89, 10), (89, 11), (89, 12), (89, 13), (89, 14), (89, 15), (89, 16), (96, 3), (96, 5), (96, 8), (96, 10), (108, 0), (108, 4), (108, 7), (108, 8), (108, 9), (108, 13), (108, 16), (108, 19), (130, 0), (130, 1), (130, 2), (130, 8), (130, 10)] M M9 → Q7 (y8, M9) → fr 90010000385483496767017384721317464375296 [(69, 0), (69, 9), (71, 0), (89, 0), (89, 1), (89, 2), (89, 3), (89, 7), (89, 10), (89, 11), (89, 12), (89, 13), (89, 14), (89, 15), (89, 16), (96, 3), (96, 5), (96, 8), (96, 10), (108, 0), (108, 4), (108, 7), (108, 8), (108, 9), (108, 13), (108, 16), (108, 19), (130, 0), (130, 1), (130, 2), (130, 8), (130, 10)] M r.2 := by
      intro y8 M9 hM9 h
      replace h := hQ7 _ _ h
      obtain ⟨Q10, hQ10, h⟩ := bd1_ed h
      obtain ⟨M10, e10, h⟩ := h
      replace h := hQ10 _ h
      exact fr_ret h (fr_tr (fr_mono (by decide) (by decide +kernel) (f_M_follow_fr e10)) hM9)
    obtain ⟨r7, hr7, hq7⟩ := h
    obtain ⟨n7, hn7⟩ := lp_n hr7
    have I7 : ∀ (n : Nat) (x11 : Int32) (x12 : Int32) (M13 : im_M), fr 90010000385483496767017384721317464375296 [(69, 0), (69, 9), (71, 0), (89, 0), (89, 1), (89, 2), (89, 3), (89, 7), (89, 10), (89, 11), (89, 12), (89, 13), (89, 14), (89, 15), (89, 16), (96, 3), (96, 5), (96, 8), (96, 10), (108, 0), (108, 4), (108, 7), (108, 8), (108, 9), (108, 13), (108, 16), (108, 19), (130, 0), (130, 1), (130, 2), (130, 8), (130, 10)] M M13 → lpn (uc3 (f_M_print_L72 p0)) n (x11, x12, M13) = some r7 → fr 90010000385483496767017384721317464375296 [(69, 0), (69, 9), (71, 0), (89, 0), (89, 1), (89, 2), (89, 3), (89, 7), (89, 10), (89, 11), (89, 12), (89, 13), (89, 14), (89, 15), (89, 16), (96, 3), (96, 5), (96, 8), (96, 10), (108, 0), (108, 4), (108, 7), (108, 8), (108, 9), (108, 13), (108, 16), (108, 19), (130, 0), (130, 1), (130, 2), (130, 8), (130, 10)] M r.2 := by
      intro n
      induction n with
      | zero => intro x11 x12 M13 hM13 hn; exact (lpn_0 hn).elim
      | succ n ih =>
        intro x11 x12 M13 hM13 hn
        have h := lpn_ed3 hn
        unfold f_M_print_L72 at h
        by_cases q77 : (im_i M13 69 9) ≤ x12
        · replace h := ed_pos q77 h
          exact K7 _ _ hM13 (lq_r h hq7)
        · replace h := ed_neg q77 h
          obtain ⟨Q14, hQ14, h⟩ := bd2_ed h
          obtain ⟨⟨x14, M14⟩, e14, h⟩ := h
          replace h := hQ14 _ _ h
          obtain ⟨Q15, hQ15, h⟩ := bd2_ed h
          obtain ⟨⟨x15, M15⟩, e15, h⟩ := h
          replace h := hQ15 _ _ h
          obtain ⟨g100, h⟩ := ed_gd h
          obtain ⟨g106, h⟩ := ed_gd h
          exact ih _ _ _ (fr_I (by decide) (fr_tr (fr_mono (by decide) (by decide +kernel) (f_M_draw_fr e15)) (fr_tr (fr_mono (by decide) (by decide +kernel) (f_MScriptRows_label_fr e14)) hM13))) (lq_l h)
    exact I7 n7 _ _ _ (fr_F (by decide) (fr_tr (fr_mono (by decide) (by decide +kernel) (f_MScriptRows_label_fr e6)) (fr_tr (fr_mono (by decide) (by decide +kernel) (f_MDotRows_sheet_fr e5)) (fr_tr (fr_mono (by decide) (by decide +kernel) (f_MScriptRows_label_fr e4)) (fr_tr (fr_mono (by decide) (by decide +kernel) (f_MScriptRows_label_fr e3)) (fr_F (by decide) (fr_tr (fr_mono (by decide) (by decide +kernel) (f_MScriptRows_label_fr e1)) fr_refl))))))) hn7
  · replace h := ed_neg q25 h
    exact fr_ret h (fr_F (by decide) (fr_tr (fr_mono (by decide) (by decide +kernel) (f_MScriptRows_label_fr e1)) fr_refl))
noncomputable def f_M_drawn (p0 : Int32) (M : im_M) : Option (Int32 × im_M) := jn0 (fun (_ : Unit) => some ((-1), (im_setI M 69 0 0))) fun k1 => if p0 < 0 then k1 () else if p0 < (im_i (im_setI M 69 0 0) 69 9) then gd (inb p0 120) <| some ((im_i (im_setI M 69 0 0) 136 (Int32.toNatClampNeg p0)), (im_setI M 69 0 0)) else k1 ()
theorem J_M_drawn_d0 : decode J_M_drawn.2.1 0 = .ok (.aload_n 0, 1) := by decide +kernel
theorem J_M_drawn_d1 : decode J_M_drawn.2.1 1 = .ok (.iconst 0, 1) := by decide +kernel
theorem J_M_drawn_d2 : decode J_M_drawn.2.1 2 = .ok (.putfield 58, 3) := by decide +kernel
theorem J_M_drawn_d5 : decode J_M_drawn.2.1 5 = .ok (.iload_n 1, 1) := by decide +kernel
theorem J_M_drawn_d6 : decode J_M_drawn.2.1 6 = .ok (.ifCond .lt 11, 3) := by decide +kernel
theorem J_M_drawn_d9 : decode J_M_drawn.2.1 9 = .ok (.iload_n 1, 1) := by decide +kernel
theorem J_M_drawn_d10 : decode J_M_drawn.2.1 10 = .ok (.aload_n 0, 1) := by decide +kernel
theorem J_M_drawn_d11 : decode J_M_drawn.2.1 11 = .ok (.getfield 197, 3) := by decide +kernel
theorem J_M_drawn_d14 : decode J_M_drawn.2.1 14 = .ok (.if_icmp .lt 7, 3) := by decide +kernel
theorem J_M_drawn_d17 : decode J_M_drawn.2.1 17 = .ok (.iconst (-1), 1) := by decide +kernel
theorem J_M_drawn_d18 : decode J_M_drawn.2.1 18 = .ok (.goto 9, 3) := by decide +kernel
theorem J_M_drawn_d21 : decode J_M_drawn.2.1 21 = .ok (.aload_n 0, 1) := by decide +kernel
theorem J_M_drawn_d22 : decode J_M_drawn.2.1 22 = .ok (.getfield 48, 3) := by decide +kernel
theorem J_M_drawn_d25 : decode J_M_drawn.2.1 25 = .ok (.iload_n 1, 1) := by decide +kernel
theorem J_M_drawn_d26 : decode J_M_drawn.2.1 26 = .ok (.iaload, 1) := by decide +kernel
theorem J_M_drawn_d27 : decode J_M_drawn.2.1 27 = .ok (.ireturn, 1) := by decide +kernel
theorem f_M_drawn_ok {L : Nat} {xs : Nat → Int32} {dep : Nat} {w : Bool} {p0 : Int32} {M : im_M} {Q : Int32 × im_M → Prop} (hM : lw_S w M) (h : ed (f_M_drawn p0 M) Q) : ia (tb_G L xs) dep J_M_drawn (rwI w Q) (0, lv_args 0 [.ref 69, .int p0], [], M) := by
  have hS : im_St (tb_G L xs) dep J_M_drawn (ia (tb_G L xs) dep J_M_drawn (rwI w Q)) := ia_St
  unfold f_M_drawn at h
  have l0 : im_lk (lv_args 0 [.ref 69, .int p0]) 0 = some (.ref 69) := rfl
  have l1 : im_lk (lv_args 0 [.ref 69, .int p0]) 1 = some (.int p0) := rfl
  refine iq_aload_n hS 1 J_M_drawn_d0 l0 rfl ?_
  refine iq_iconst hS 2 J_M_drawn_d1 (v := 0) (by decide +kernel) rfl ?_
  refine iq_putI hS 5 J_M_drawn_d2 lf_17_58 (Or.inl rfl) rfl (ka_69 hM) rfl ?_
  refine iq_iload_n hS 6 J_M_drawn_d5 l1 rfl ?_
  obtain ⟨k1, Q1, hQ1, hk1, h⟩ := jn0_ed h
  have J1 : ∀  (L' : List (Nat × Value)), Q1 () → ia (tb_G L xs) dep J_M_drawn (rwI w Q) (17, L', [], (im_setI M 69 0 0)) := by
    intro  L'  h
    replace h := hQ1  h
    refine iq_iconst hS 18 J_M_drawn_d17 (v := (-1)) (by decide +kernel) rfl ?_
    refine iq_goto hS J_M_drawn_d18 (t := 27) rfl ?_
    exact iq_iret J_M_drawn_d27 rfl rfl ⟨_, rfl, (lw_sI hM), ed_some h⟩
  refine iq_if_lt hS 9 J_M_drawn_d6 (t := 17) rfl (fun q6 => ?_) rfl (fun q6 => ?_)
  · replace h := ed_pos q6 h
    exact J1  _  (hk1  h)
  · replace h := ed_neg q6 h
    refine iq_iload_n hS 10 J_M_drawn_d9 l1 rfl ?_
    refine iq_aload_n hS 11 J_M_drawn_d10 l0 rfl ?_
    refine iq_getI hS 14 J_M_drawn_d11 lf_17_197 (Or.inl rfl) (ka_69 (lw_sI hM)) rfl ?_
    refine iq_icmp_lt hS 17 J_M_drawn_d14 (t := 21) rfl (fun q14 => ?_) rfl (fun q14 => ?_)
    · replace h := ed_pos q14 h
      refine iq_aload_n hS 22 J_M_drawn_d21 l0 rfl ?_
      refine iq_getR hS 25 J_M_drawn_d22 lf_17_48 (Or.inr ⟨_, rfl⟩) (ka_69 (lw_sI hM)) (ra_69_8 (lw_sI hM)) rfl ?_
      refine iq_iload_n hS 26 J_M_drawn_d25 l1 rfl ?_
      obtain ⟨g26, h⟩ := ed_gd h
      refine iq_iaload hS 27 J_M_drawn_d26 ⟨(ka_136 (lw_sI hM)).1, (ka_136 (lw_sI hM)).2, g26.1, ix_lt (kl_136 (lw_sI hM)) g26.2⟩ rfl ?_
      exact iq_iret J_M_drawn_d27 rfl rfl ⟨_, rfl, (lw_sI hM), ed_some h⟩
    · replace h := ed_neg q14 h
      exact J1  _  (hk1  h)
theorem f_M_drawn_fr {p0 : Int32} {M : im_M} {r : Int32 × im_M} (h : f_M_drawn p0 M = some r) : fr 0 [(69, 0)] M r.2 := by
  replace h : ed (f_M_drawn p0 M) (fun x => x = r) := ⟨r, h, rfl⟩
  unfold f_M_drawn at h
  obtain ⟨k1, Q1, hQ1, hk1, h⟩ := jn0_ed h
  have J1 : Q1 () → fr 0 [(69, 0)] M r.2 := by
    intro  h
    replace h := hQ1  h
    exact fr_ret h (fr_F (by decide) fr_refl)
  by_cases q6 : p0 < 0
  · replace h := ed_pos q6 h
    exact J1  (hk1  h)
  · replace h := ed_neg q6 h
    by_cases q14 : p0 < (im_i (im_setI M 69 0 0) 69 9)
    · replace h := ed_pos q14 h
      obtain ⟨g26, h⟩ := ed_gd h
      exact fr_ret h (fr_F (by decide) fr_refl)
    · replace h := ed_neg q14 h
      exact J1  (hk1  h)
noncomputable def f_M_spoil_L21 (v3 : Int32) (v4 : Int32) (v5 : Int64) (x6 : Int32) (x7 : Int32) (M8 : im_M) : Option ((Int32 × Int32 × im_M) ⊕ (Int32 × im_M)) := if 64 ≤ x7 then some (.inr (x6, M8)) else bd2 (if ¬ (lg_cmp ((v5 >>> (Int32.toInt64 x7 &&& 63) : Int64) &&& 1) 1) = 0 then some (x6, M8) else bd2 (f_M_isOn ((Int32.toInt64 v3) + (Int32.toInt64 x7)) (Int32.toInt64 v4) M8) fun (x10 : Int32) (M10 : im_M) => if x10 = 0 then some (x6, M10) else bd2 (f_MDotRows_frame (Int64.toInt32 ((Int32.toInt64 v3) + (Int32.toInt64 x7))) v4 1 1 1 M10) fun (x11 : Int32) (M11 : im_M) => bd2 (f_MPlaceRows_turn (Int64.toInt32 ((Int32.toInt64 v3) + (Int32.toInt64 x7))) v4 1 M11) fun (x12 : Int32) (M12 : im_M) => some ((x6 + x11), M12)) fun (y13 : Int32) (M14 : im_M) => some (.inl (y13, (x7 + 1), M14))
noncomputable def f_M_spoil (p0 : Int32) (p1 : Int32) (p2 : Int64) (M : im_M) : Option (Int32 × im_M) := bd2 (f_MDotRows_way 2 (im_setI M 69 0 0)) fun (x1 : Int32) (M1 : im_M) => bd2 (lp (uc3 (f_M_spoil_L21 p0 p1 p2)) (0, 0, M1)) fun (y21 : Int32) (M22 : im_M) => some (y21, M22)
theorem J_M_spoil_d0 : decode J_M_spoil.2.1 0 = .ok (.aload_n 0, 1) := by decide +kernel
theorem J_M_spoil_d1 : decode J_M_spoil.2.1 1 = .ok (.iconst 0, 1) := by decide +kernel
theorem J_M_spoil_d2 : decode J_M_spoil.2.1 2 = .ok (.putfield 58, 3) := by decide +kernel
theorem J_M_spoil_d5 : decode J_M_spoil.2.1 5 = .ok (.aload_n 0, 1) := by decide +kernel
theorem J_M_spoil_d6 : decode J_M_spoil.2.1 6 = .ok (.getfield 23, 3) := by decide +kernel
theorem J_M_spoil_d9 : decode J_M_spoil.2.1 9 = .ok (.iconst 2, 1) := by decide +kernel
theorem J_M_spoil_d10 : decode J_M_spoil.2.1 10 = .ok (.invokevirtual 146, 3) := by decide +kernel
theorem J_M_spoil_d13 : decode J_M_spoil.2.1 13 = .ok (.istore 5, 2) := by decide +kernel
theorem J_M_spoil_d15 : decode J_M_spoil.2.1 15 = .ok (.iconst 0, 1) := by decide +kernel
theorem J_M_spoil_d16 : decode J_M_spoil.2.1 16 = .ok (.istore 6, 2) := by decide +kernel
theorem J_M_spoil_d18 : decode J_M_spoil.2.1 18 = .ok (.iconst 0, 1) := by decide +kernel
theorem J_M_spoil_d19 : decode J_M_spoil.2.1 19 = .ok (.istore 7, 2) := by decide +kernel
theorem J_M_spoil_d21 : decode J_M_spoil.2.1 21 = .ok (.iload 7, 2) := by decide +kernel
theorem J_M_spoil_d23 : decode J_M_spoil.2.1 23 = .ok (.bipush 64, 2) := by decide +kernel
theorem J_M_spoil_d25 : decode J_M_spoil.2.1 25 = .ok (.if_icmp .ge 72, 3) := by decide +kernel
theorem J_M_spoil_d28 : decode J_M_spoil.2.1 28 = .ok (.iload_n 1, 1) := by decide +kernel
theorem J_M_spoil_d29 : decode J_M_spoil.2.1 29 = .ok (.i2l, 1) := by decide +kernel
theorem J_M_spoil_d30 : decode J_M_spoil.2.1 30 = .ok (.iload 7, 2) := by decide +kernel
theorem J_M_spoil_d32 : decode J_M_spoil.2.1 32 = .ok (.i2l, 1) := by decide +kernel
theorem J_M_spoil_d33 : decode J_M_spoil.2.1 33 = .ok (.ladd, 1) := by decide +kernel
theorem J_M_spoil_d34 : decode J_M_spoil.2.1 34 = .ok (.lstore 8, 2) := by decide +kernel
theorem J_M_spoil_d36 : decode J_M_spoil.2.1 36 = .ok (.lload_n 3, 1) := by decide +kernel
theorem J_M_spoil_d37 : decode J_M_spoil.2.1 37 = .ok (.iload 7, 2) := by decide +kernel
theorem J_M_spoil_d39 : decode J_M_spoil.2.1 39 = .ok (.lshr, 1) := by decide +kernel
theorem J_M_spoil_d40 : decode J_M_spoil.2.1 40 = .ok (.lconst 1, 1) := by decide +kernel
theorem J_M_spoil_d41 : decode J_M_spoil.2.1 41 = .ok (.land, 1) := by decide +kernel
theorem J_M_spoil_d42 : decode J_M_spoil.2.1 42 = .ok (.lconst 1, 1) := by decide +kernel
theorem J_M_spoil_d43 : decode J_M_spoil.2.1 43 = .ok (.lcmp, 1) := by decide +kernel
theorem J_M_spoil_d44 : decode J_M_spoil.2.1 44 = .ok (.ifCond .ne 47, 3) := by decide +kernel
theorem J_M_spoil_d47 : decode J_M_spoil.2.1 47 = .ok (.aload_n 0, 1) := by decide +kernel
theorem J_M_spoil_d48 : decode J_M_spoil.2.1 48 = .ok (.lload 8, 2) := by decide +kernel
theorem J_M_spoil_d50 : decode J_M_spoil.2.1 50 = .ok (.iload_n 2, 1) := by decide +kernel
theorem J_M_spoil_d51 : decode J_M_spoil.2.1 51 = .ok (.i2l, 1) := by decide +kernel
theorem J_M_spoil_d52 : decode J_M_spoil.2.1 52 = .ok (.invokevirtual 209, 3) := by decide +kernel
theorem J_M_spoil_d55 : decode J_M_spoil.2.1 55 = .ok (.ifCond .eq 36, 3) := by decide +kernel
theorem J_M_spoil_d58 : decode J_M_spoil.2.1 58 = .ok (.iload 6, 2) := by decide +kernel
theorem J_M_spoil_d60 : decode J_M_spoil.2.1 60 = .ok (.aload_n 0, 1) := by decide +kernel
theorem J_M_spoil_d61 : decode J_M_spoil.2.1 61 = .ok (.getfield 23, 3) := by decide +kernel
theorem J_M_spoil_d64 : decode J_M_spoil.2.1 64 = .ok (.lload 8, 2) := by decide +kernel
theorem J_M_spoil_d66 : decode J_M_spoil.2.1 66 = .ok (.l2i, 1) := by decide +kernel
theorem J_M_spoil_d67 : decode J_M_spoil.2.1 67 = .ok (.iload_n 2, 1) := by decide +kernel
theorem J_M_spoil_d68 : decode J_M_spoil.2.1 68 = .ok (.iconst 1, 1) := by decide +kernel
theorem J_M_spoil_d69 : decode J_M_spoil.2.1 69 = .ok (.iconst 1, 1) := by decide +kernel
theorem J_M_spoil_d70 : decode J_M_spoil.2.1 70 = .ok (.iconst 1, 1) := by decide +kernel
theorem J_M_spoil_d71 : decode J_M_spoil.2.1 71 = .ok (.invokevirtual 172, 3) := by decide +kernel
theorem J_M_spoil_d74 : decode J_M_spoil.2.1 74 = .ok (.iadd, 1) := by decide +kernel
theorem J_M_spoil_d75 : decode J_M_spoil.2.1 75 = .ok (.istore 6, 2) := by decide +kernel
theorem J_M_spoil_d77 : decode J_M_spoil.2.1 77 = .ok (.aload_n 0, 1) := by decide +kernel
theorem J_M_spoil_d78 : decode J_M_spoil.2.1 78 = .ok (.getfield 44, 3) := by decide +kernel
theorem J_M_spoil_d81 : decode J_M_spoil.2.1 81 = .ok (.lload 8, 2) := by decide +kernel
theorem J_M_spoil_d83 : decode J_M_spoil.2.1 83 = .ok (.l2i, 1) := by decide +kernel
theorem J_M_spoil_d84 : decode J_M_spoil.2.1 84 = .ok (.iload_n 2, 1) := by decide +kernel
theorem J_M_spoil_d85 : decode J_M_spoil.2.1 85 = .ok (.lconst 1, 1) := by decide +kernel
theorem J_M_spoil_d86 : decode J_M_spoil.2.1 86 = .ok (.invokevirtual 192, 3) := by decide +kernel
theorem J_M_spoil_d89 : decode J_M_spoil.2.1 89 = .ok (.istore 5, 2) := by decide +kernel
theorem J_M_spoil_d91 : decode J_M_spoil.2.1 91 = .ok (.iinc 7 1, 3) := by decide +kernel
theorem J_M_spoil_d94 : decode J_M_spoil.2.1 94 = .ok (.goto (-73), 3) := by decide +kernel
theorem J_M_spoil_d97 : decode J_M_spoil.2.1 97 = .ok (.iload 6, 2) := by decide +kernel
theorem J_M_spoil_d99 : decode J_M_spoil.2.1 99 = .ok (.ireturn, 1) := by decide +kernel
theorem f_M_spoil_ok {L : Nat} {xs : Nat → Int32} {dep : Nat} {w : Bool} {p0 : Int32} {p1 : Int32} {p2 : Int64} {M : im_M} {Q : Int32 × im_M → Prop} (hM : lw_S w M) (h : ed (f_M_spoil p0 p1 p2 M) Q) : ia (tb_G L xs) (dep + 5) J_M_spoil (rwI w Q) (0, lv_args 0 [.ref 69, .int p0, .int p1, .long p2], [], M) := by
  have hS : im_St (tb_G L xs) (dep + 5) J_M_spoil (ia (tb_G L xs) (dep + 5) J_M_spoil (rwI w Q)) := ia_St
  unfold f_M_spoil at h
  have l0 : im_lk (lv_args 0 [.ref 69, .int p0, .int p1, .long p2]) 0 = some (.ref 69) := rfl
  have l1 : im_lk (lv_args 0 [.ref 69, .int p0, .int p1, .long p2]) 1 = some (.int p0) := rfl
  have l2 : im_lk (lv_args 0 [.ref 69, .int p0, .int p1, .long p2]) 2 = some (.int p1) := rfl
  have l3 : im_lk (lv_args 0 [.ref 69, .int p0, .int p1, .long p2]) 3 = some (.long p2) := rfl
  refine iq_aload_n hS 1 J_M_spoil_d0 l0 rfl ?_
  refine iq_iconst hS 2 J_M_spoil_d1 (v := 0) (by decide +kernel) rfl ?_
  refine iq_putI hS 5 J_M_spoil_d2 lf_17_58 (Or.inl rfl) rfl (ka_69 hM) rfl ?_
  refine iq_aload_n hS 6 J_M_spoil_d5 l0 rfl ?_
  refine iq_getR hS 9 J_M_spoil_d6 lf_17_23 (Or.inl ⟨_, rfl⟩) (ka_69 (lw_sI hM)) (ra_69_4 (lw_sI hM)) rfl ?_
  refine iq_iconst hS 10 J_M_spoil_d9 (v := 2) (by decide +kernel) rfl ?_
  obtain ⟨Q1, hQ1, h⟩ := bd2_ed h
  refine iq_cwI hS 13 J_M_spoil_d10 rfl (pr_inst (vs := [_]) lc_17_146 lT_333 rfl rfl (by decide) (by decide) rfl (Nat.le_of_ble_eq_true rfl) (Nat.le_of_ble_eq_true rfl) (fun _ => Or.inl (pr_b (ka_89 (lw_sI hM)) (by decide) rfl))) (f_MDotRows_way_ok (dep := dep + 4) (lw_sI hM) h) rfl ?_
  intro x1 M1 hM1 h
  replace h := hQ1 _ _ h
  refine iq_istore hS 15 J_M_spoil_d13 (by decide) rfl ?_
  refine iq_iconst hS 16 J_M_spoil_d15 (v := 0) (by decide +kernel) rfl ?_
  refine iq_istore hS 18 J_M_spoil_d16 (by decide) rfl ?_
  refine iq_iconst hS 19 J_M_spoil_d18 (v := 0) (by decide +kernel) rfl ?_
  refine iq_istore hS 21 J_M_spoil_d19 (by decide) rfl ?_
  obtain ⟨Q2, hQ2, h⟩ := bd2_ed h
  have K2 : ∀ (y3 : Int32) (M4 : im_M) (L' : List (Nat × Value)), lw_S w M4 → im_lk L' 6 = some (.int y3) → Q2 (y3, M4) → ia (tb_G L xs) (dep + 5) J_M_spoil (rwI w Q) (97, L', [], M4) := by
    intro y3 M4 L' hM4 l5 h
    replace h := hQ2 _ _ h
    refine iq_iload hS 99 J_M_spoil_d97 l5 rfl ?_
    exact iq_iret J_M_spoil_d99 rfl rfl ⟨_, rfl, hM4, ed_some h⟩
  obtain ⟨r2, hr2, hq2⟩ := h
  obtain ⟨n2, hn2⟩ := lp_n hr2
  have I2 : ∀ (n : Nat) (x6 : Int32) (x7 : Int32) (M8 : im_M) (L' : List (Nat × Value)), lw_S w M8 → im_lk L' 0 = some (.ref 69) → im_lk L' 1 = some (.int p0) → im_lk L' 2 = some (.int p1) → im_lk L' 3 = some (.long p2) → im_lk L' 6 = some (.int x6) → im_lk L' 7 = some (.int x7) → lpn (uc3 (f_M_spoil_L21 p0 p1 p2)) n (x6, x7, M8) = some r2 → ia (tb_G L xs) (dep + 5) J_M_spoil (rwI w Q) (21, L', [], M8) := by
    intro n
    induction n with
    | zero => intro x6 x7 M8 L' hM8 l9 l10 l11 l12 l13 l14 hn; exact (lpn_0 hn).elim
    | succ n ih =>
      intro x6 x7 M8 L' hM8 l9 l10 l11 l12 l13 l14 hn
      have h := lpn_ed3 hn
      unfold f_M_spoil_L21 at h
      refine iq_iload hS 23 J_M_spoil_d21 l14 rfl ?_
      refine iq_bipush hS 25 J_M_spoil_d23 (v := 64) (by decide +kernel) rfl ?_
      refine iq_icmp_ge hS 28 J_M_spoil_d25 (t := 97) rfl (fun q25 => ?_) rfl (fun q25 => ?_)
      · replace h := ed_pos q25 h
        exact K2 _ _ _ hM8 l13 (lq_r h hq2)
      · replace h := ed_neg q25 h
        refine iq_iload_n hS 29 J_M_spoil_d28 l10 rfl ?_
        refine iq_i2l hS 30 J_M_spoil_d29 rfl ?_
        refine iq_iload hS 32 J_M_spoil_d30 l14 rfl ?_
        refine iq_i2l hS 33 J_M_spoil_d32 rfl ?_
        refine iq_ladd hS 34 J_M_spoil_d33 rfl ?_
        refine iq_lstore hS 36 J_M_spoil_d34 (by decide) rfl ?_
        refine iq_lload_n hS 37 J_M_spoil_d36 (lk_2l l12 (by decide) (by decide) (by decide)) rfl ?_
        refine iq_iload hS 39 J_M_spoil_d37 (lk_2i l14 (by decide) (by decide)) rfl ?_
        refine iq_lshr hS 40 J_M_spoil_d39 rfl ?_
        refine iq_lconst hS 41 J_M_spoil_d40 (v := 1) (by decide +kernel) rfl ?_
        refine iq_land hS 42 J_M_spoil_d41 rfl ?_
        refine iq_lconst hS 43 J_M_spoil_d42 (v := 1) (by decide +kernel) rfl ?_
        refine iq_lcmp hS 44 J_M_spoil_d43 rfl ?_
        obtain ⟨Q15, hQ15, h⟩ := bd2_ed h
        have J15 : ∀ (y19 : Int32) (M20 : im_M) (L' : List (Nat × Value)), lw_S w M20 → im_lk L' 0 = some (.ref 69) → im_lk L' 1 = some (.int p0) → im_lk L' 2 = some (.int p1) → im_lk L' 3 = some (.long p2) → im_lk L' 6 = some (.int y19) → im_lk L' 7 = some (.int x7) → Q15 (y19, M20) → ia (tb_G L xs) (dep + 5) J_M_spoil (rwI w Q) (91, L', [], M20) := by
          intro y19 M20 L' hM20 l21 l22 l23 l24 l25 l26 h
          replace h := hQ15 _ _ h
          refine iq_iincv hS 94 J_M_spoil_d91 (c := 1) (by decide +kernel) l26 (by decide) rfl ?_
          refine iq_goto hS J_M_spoil_d94 (t := 21) rfl ?_
          exact ih _ _ _ _ hM20 (lk_1r l21 (by decide)) (lk_1i l22 (by decide)) (lk_1i l23 (by decide)) (lk_1l l24 (by decide) (by decide)) (lk_1i l25 (by decide)) lk_1s (lq_l h)
        refine iq_if_ne hS 47 J_M_spoil_d44 (t := 91) rfl (fun q44 => ?_) rfl (fun q44 => ?_)
        · replace h := ed_pos q44 h
          exact J15 _ _ _ hM8 (lk_2r l9 (by decide) (by decide)) (lk_2i l10 (by decide) (by decide)) (lk_2i l11 (by decide) (by decide)) (lk_2l l12 (by decide) (by decide) (by decide)) (lk_2i l13 (by decide) (by decide)) (lk_2i l14 (by decide) (by decide)) (ed_some h)
        · replace h := ed_neg q44 h
          refine iq_aload_n hS 48 J_M_spoil_d47 (lk_2r l9 (by decide) (by decide)) rfl ?_
          refine iq_lload hS 50 J_M_spoil_d48 lk_2s rfl ?_
          refine iq_iload_n hS 51 J_M_spoil_d50 (lk_2i l11 (by decide) (by decide)) rfl ?_
          refine iq_i2l hS 52 J_M_spoil_d51 rfl ?_
          obtain ⟨Q16, hQ16, h⟩ := bd2_ed h
          refine iq_cwI hS 55 J_M_spoil_d52 rfl (pr_inst (vs := [_, _]) lc_17_209 lT_445 rfl rfl (by decide) (by decide) rfl (Nat.le_of_ble_eq_true rfl) (Nat.le_of_ble_eq_true rfl) (fun _ => Or.inl (pr_b (ka_69 hM8) (by decide) rfl))) (f_M_isOn_ok (dep := dep + 1) hM8 h) rfl ?_
          intro x16 M16 hM16 h
          replace h := hQ16 _ _ h
          refine iq_if_eq hS 58 J_M_spoil_d55 (t := 91) rfl (fun q55 => ?_) rfl (fun q55 => ?_)
          · replace h := ed_pos q55 h
            exact J15 _ _ _ hM16 (lk_2r l9 (by decide) (by decide)) (lk_2i l10 (by decide) (by decide)) (lk_2i l11 (by decide) (by decide)) (lk_2l l12 (by decide) (by decide) (by decide)) (lk_2i l13 (by decide) (by decide)) (lk_2i l14 (by decide) (by decide)) (ed_some h)
          · replace h := ed_neg q55 h
            refine iq_iload hS 60 J_M_spoil_d58 (lk_2i l13 (by decide) (by decide)) rfl ?_
            refine iq_aload_n hS 61 J_M_spoil_d60 (lk_2r l9 (by decide) (by decide)) rfl ?_
            refine iq_getR hS 64 J_M_spoil_d61 lf_17_23 (Or.inl ⟨_, rfl⟩) (ka_69 hM16) (ra_69_4 hM16) rfl ?_
            refine iq_lload hS 66 J_M_spoil_d64 lk_2s rfl ?_
            refine iq_l2i hS 67 J_M_spoil_d66 rfl ?_
            refine iq_iload_n hS 68 J_M_spoil_d67 (lk_2i l11 (by decide) (by decide)) rfl ?_
            refine iq_iconst hS 69 J_M_spoil_d68 (v := 1) (by decide +kernel) rfl ?_
            refine iq_iconst hS 70 J_M_spoil_d69 (v := 1) (by decide +kernel) rfl ?_
            refine iq_iconst hS 71 J_M_spoil_d70 (v := 1) (by decide +kernel) rfl ?_
            obtain ⟨Q17, hQ17, h⟩ := bd2_ed h
            refine iq_cwI hS 74 J_M_spoil_d71 rfl (pr_inst (vs := [_, _, _, _, _]) lc_17_172 lT_435 rfl rfl (by decide) (by decide) rfl (Nat.le_of_ble_eq_true rfl) (Nat.le_of_ble_eq_true rfl) (fun _ => Or.inl (pr_b (ka_89 hM16) (by decide) rfl))) (f_MDotRows_frame_ok (dep := dep + 0) hM16 h) rfl ?_
            intro x17 M17 hM17 h
            replace h := hQ17 _ _ h
            refine iq_iadd hS 75 J_M_spoil_d74 rfl ?_
            refine iq_istore hS 77 J_M_spoil_d75 (by decide) rfl ?_
            refine iq_aload_n hS 78 J_M_spoil_d77 (lk_1r (lk_2r l9 (by decide) (by decide)) (by decide)) rfl ?_
            refine iq_getR hS 81 J_M_spoil_d78 lf_17_44 (Or.inl ⟨_, rfl⟩) (ka_69 hM17) (ra_69_7 hM17) rfl ?_
            refine iq_lload hS 83 J_M_spoil_d81 (lk_1l lk_2s (by decide) (by decide)) rfl ?_
            refine iq_l2i hS 84 J_M_spoil_d83 rfl ?_
            refine iq_iload_n hS 85 J_M_spoil_d84 (lk_1i (lk_2i l11 (by decide) (by decide)) (by decide)) rfl ?_
            refine iq_lconst hS 86 J_M_spoil_d85 (v := 1) (by decide +kernel) rfl ?_
            obtain ⟨Q18, hQ18, h⟩ := bd2_ed h
            refine iq_cwI hS 89 J_M_spoil_d86 rfl (pr_inst (vs := [_, _, _]) lc_17_192 lT_448 rfl rfl (by decide) (by decide) rfl (Nat.le_of_ble_eq_true rfl) (Nat.le_of_ble_eq_true rfl) (fun _ => Or.inl (pr_b (ka_130 hM17) (by decide) rfl))) (f_MPlaceRows_turn_ok (dep := dep + 3) hM17 h) rfl ?_
            intro x18 M18 hM18 h
            replace h := hQ18 _ _ h
            refine iq_istore hS 91 J_M_spoil_d89 (by decide) rfl ?_
            exact J15 _ _ _ hM18 (lk_1r (lk_1r (lk_2r l9 (by decide) (by decide)) (by decide)) (by decide)) (lk_1i (lk_1i (lk_2i l10 (by decide) (by decide)) (by decide)) (by decide)) (lk_1i (lk_1i (lk_2i l11 (by decide) (by decide)) (by decide)) (by decide)) (lk_1l (lk_1l (lk_2l l12 (by decide) (by decide) (by decide)) (by decide) (by decide)) (by decide) (by decide)) (lk_1i lk_1s (by decide)) (lk_1i (lk_1i (lk_2i l14 (by decide) (by decide)) (by decide)) (by decide)) (ed_some h)
  exact I2 n2 _ _ _ _ hM1 (lk_1r (lk_1r (lk_1r l0 (by decide)) (by decide)) (by decide)) (lk_1i (lk_1i (lk_1i l1 (by decide)) (by decide)) (by decide)) (lk_1i (lk_1i (lk_1i l2 (by decide)) (by decide)) (by decide)) (lk_1l (lk_1l (lk_1l l3 (by decide) (by decide)) (by decide) (by decide)) (by decide) (by decide)) (lk_1i lk_1s (by decide)) lk_1s hn2
theorem f_M_spoil_fr {p0 : Int32} {p1 : Int32} {p2 : Int64} {M : im_M} {r : Int32 × im_M} (h : f_M_spoil p0 p1 p2 M = some r) : fr 2722258935368745647746282239729044815872 [(69, 0), (89, 0), (89, 3), (89, 10), (89, 11), (89, 12), (89, 13), (89, 14), (130, 0)] M r.2 := by
  replace h : ed (f_M_spoil p0 p1 p2 M) (fun x => x = r) := ⟨r, h, rfl⟩
  unfold f_M_spoil at h
  obtain ⟨Q1, hQ1, h⟩ := bd2_ed h
  obtain ⟨⟨x1, M1⟩, e1, h⟩ := h
  replace h := hQ1 _ _ h
  obtain ⟨Q2, hQ2, h⟩ := bd2_ed h
  have K2 : ∀ (y3 : Int32) (M4 : im_M), fr 2722258935368745647746282239729044815872 [(69, 0), (89, 0), (89, 3), (89, 10), (89, 11), (89, 12), (89, 13), (89, 14), (130, 0)] M M4 → Q2 (y3, M4) → fr 2722258935368745647746282239729044815872 [(69, 0), (89, 0), (89, 3), (89, 10), (89, 11), (89, 12), (89, 13), (89, 14), (130, 0)] M r.2 := by
    intro y3 M4 hM4 h
    replace h := hQ2 _ _ h
    exact fr_ret h hM4
  obtain ⟨r2, hr2, hq2⟩ := h
  obtain ⟨n2, hn2⟩ := lp_n hr2
  have I2 : ∀ (n : Nat) (x5 : Int32) (x6 : Int32) (M7 : im_M), fr 2722258935368745647746282239729044815872 [(69, 0), (89, 0), (89, 3), (89, 10), (89, 11), (89, 12), (89, 13), (89, 14), (130, 0)] M M7 → lpn (uc3 (f_M_spoil_L21 p0 p1 p2)) n (x5, x6, M7) = some r2 → fr 2722258935368745647746282239729044815872 [(69, 0), (89, 0), (89, 3), (89, 10), (89, 11), (89, 12), (89, 13), (89, 14), (130, 0)] M r.2 := by
    intro n
    induction n with
    | zero => intro x5 x6 M7 hM7 hn; exact (lpn_0 hn).elim
    | succ n ih =>
      intro x5 x6 M7 hM7 hn
      have h := lpn_ed3 hn
      unfold f_M_spoil_L21 at h
      by_cases q25 : 64 ≤ x6
      · replace h := ed_pos q25 h
        exact K2 _ _ hM7 (lq_r h hq2)
      · replace h := ed_neg q25 h
        obtain ⟨Q8, hQ8, h⟩ := bd2_ed h
        have J8 : ∀ (y12 : Int32) (M13 : im_M), fr 2722258935368745647746282239729044815872 [(69, 0), (89, 0), (89, 3), (89, 10), (89, 11), (89, 12), (89, 13), (89, 14), (130, 0)] M M13 → Q8 (y12, M13) → fr 2722258935368745647746282239729044815872 [(69, 0), (89, 0), (89, 3), (89, 10), (89, 11), (89, 12), (89, 13), (89, 14), (130, 0)] M r.2 := by
          intro y12 M13 hM13 h
          replace h := hQ8 _ _ h
          exact ih _ _ _ hM13 (lq_l h)
        by_cases q44 : ¬ (lg_cmp ((p2 >>> (Int32.toInt64 x6 &&& 63) : Int64) &&& 1) 1) = 0
        · replace h := ed_pos q44 h
          exact J8 _ _ hM7 (ed_some h)
        · replace h := ed_neg q44 h
          obtain ⟨Q9, hQ9, h⟩ := bd2_ed h
          obtain ⟨⟨x9, M9⟩, e9, h⟩ := h
          replace h := hQ9 _ _ h
          by_cases q55 : x9 = 0
          · replace h := ed_pos q55 h
            exact J8 _ _ (fr_tr (fr_mono (by decide) (by decide +kernel) (f_M_isOn_fr e9)) hM7) (ed_some h)
          · replace h := ed_neg q55 h
            obtain ⟨Q10, hQ10, h⟩ := bd2_ed h
            obtain ⟨⟨x10, M10⟩, e10, h⟩ := h
            replace h := hQ10 _ _ h
            obtain ⟨Q11, hQ11, h⟩ := bd2_ed h
            obtain ⟨⟨x11, M11⟩, e11, h⟩ := h
            replace h := hQ11 _ _ h
            exact J8 _ _ (fr_tr (fr_mono (by decide) (by decide +kernel) (f_MPlaceRows_turn_fr e11)) (fr_tr (fr_mono (by decide) (by decide +kernel) (f_MDotRows_frame_fr e10)) (fr_tr (fr_mono (by decide) (by decide +kernel) (f_M_isOn_fr e9)) hM7))) (ed_some h)
  exact I2 n2 _ _ _ (fr_tr (fr_mono (by decide) (by decide +kernel) (f_MDotRows_way_fr e1)) (fr_F (by decide) fr_refl)) hn2
noncomputable def f_MDotRows_turnOnce_L2 (x2 : Int32) (M3 : im_M) : Option ((Int32 × im_M) ⊕ (im_M)) := if 32768 ≤ x2 then some (.inr M3) else gd (inb x2 32768) <| gd (inb x2 32768) <| gd (inb x2 32768) <| some (.inl ((x2 + 1), (im_setI (im_setI M3 91 (Int32.toNatClampNeg x2) (im_i M3 90 (Int32.toNatClampNeg x2))) 90 (Int32.toNatClampNeg x2) 0)))
noncomputable def f_MDotRows_turnOnce_L63 (v11 : Int32) (v12 : Int32) (v13 : Int32) (x14 : Int32) (M15 : im_M) : Option ((Int32 × im_M) ⊕ (im_M)) := if v11 ≤ x14 then some (.inr M15) else gd (inb (((32 : Int32) * v13) + (x14 / 32)) 32768) <| bd1 (if ¬ (((im_i M15 91 (Int32.toNatClampNeg (((32 : Int32) * v13) + (x14 / 32)))) >>> ((x14 - x14 / 32 * 32) &&& 31 : Int32) : Int32) &&& 1) = 1 then some M15 else bd1 (f_MDotRows_other ((v12 - 1) - v13) x14 M15) fun (M17 : im_M) => some M17) fun (M18 : im_M) => some (.inl ((x14 + 1), M18))
noncomputable def f_MDotRows_turnOnce_L55 (v6 : Int32) (v7 : Int32) (x8 : Int32) (M9 : im_M) : Option ((Int32 × im_M) ⊕ (im_M)) := if v7 ≤ x8 then some (.inr M9) else bd1 (lp (uc2 (f_MDotRows_turnOnce_L63 v6 v7 x8)) (0, M9)) fun (M24 : im_M) => some (.inl ((x8 + 1), M24))
noncomputable def f_MDotRows_turnOnce (M : im_M) : Option (im_M) := bd1 (lp (uc2 (f_MDotRows_turnOnce_L2)) (0, M)) fun (M4 : im_M) => bd1 (lp (uc2 (f_MDotRows_turnOnce_L55 (im_i M4 89 1) (im_i M4 89 2))) (0, (im_setI (im_setI M4 89 1 (im_i M4 89 2)) 89 2 (im_i M4 89 1)))) fun (M25 : im_M) => some M25
theorem J_MDotRows_turnOnce_d0 : decode J_MDotRows_turnOnce.2.1 0 = .ok (.iconst 0, 1) := by decide +kernel
theorem J_MDotRows_turnOnce_d1 : decode J_MDotRows_turnOnce.2.1 1 = .ok (.istore_n 1, 1) := by decide +kernel
theorem J_MDotRows_turnOnce_d2 : decode J_MDotRows_turnOnce.2.1 2 = .ok (.iload_n 1, 1) := by decide +kernel
theorem J_MDotRows_turnOnce_d3 : decode J_MDotRows_turnOnce.2.1 3 = .ok (.ldc 16, 2) := by decide +kernel
theorem J_MDotRows_turnOnce_d5 : decode J_MDotRows_turnOnce.2.1 5 = .ok (.if_icmp .ge 28, 3) := by decide +kernel
theorem J_MDotRows_turnOnce_d8 : decode J_MDotRows_turnOnce.2.1 8 = .ok (.aload_n 0, 1) := by decide +kernel
theorem J_MDotRows_turnOnce_d9 : decode J_MDotRows_turnOnce.2.1 9 = .ok (.getfield 21, 3) := by decide +kernel
theorem J_MDotRows_turnOnce_d12 : decode J_MDotRows_turnOnce.2.1 12 = .ok (.iload_n 1, 1) := by decide +kernel
theorem J_MDotRows_turnOnce_d13 : decode J_MDotRows_turnOnce.2.1 13 = .ok (.aload_n 0, 1) := by decide +kernel
theorem J_MDotRows_turnOnce_d14 : decode J_MDotRows_turnOnce.2.1 14 = .ok (.getfield 17, 3) := by decide +kernel
theorem J_MDotRows_turnOnce_d17 : decode J_MDotRows_turnOnce.2.1 17 = .ok (.iload_n 1, 1) := by decide +kernel
theorem J_MDotRows_turnOnce_d18 : decode J_MDotRows_turnOnce.2.1 18 = .ok (.iaload, 1) := by decide +kernel
theorem J_MDotRows_turnOnce_d19 : decode J_MDotRows_turnOnce.2.1 19 = .ok (.iastore, 1) := by decide +kernel
theorem J_MDotRows_turnOnce_d20 : decode J_MDotRows_turnOnce.2.1 20 = .ok (.aload_n 0, 1) := by decide +kernel
theorem J_MDotRows_turnOnce_d21 : decode J_MDotRows_turnOnce.2.1 21 = .ok (.getfield 17, 3) := by decide +kernel
theorem J_MDotRows_turnOnce_d24 : decode J_MDotRows_turnOnce.2.1 24 = .ok (.iload_n 1, 1) := by decide +kernel
theorem J_MDotRows_turnOnce_d25 : decode J_MDotRows_turnOnce.2.1 25 = .ok (.iconst 0, 1) := by decide +kernel
theorem J_MDotRows_turnOnce_d26 : decode J_MDotRows_turnOnce.2.1 26 = .ok (.iastore, 1) := by decide +kernel
theorem J_MDotRows_turnOnce_d27 : decode J_MDotRows_turnOnce.2.1 27 = .ok (.iinc 1 1, 3) := by decide +kernel
theorem J_MDotRows_turnOnce_d30 : decode J_MDotRows_turnOnce.2.1 30 = .ok (.goto (-28), 3) := by decide +kernel
theorem J_MDotRows_turnOnce_d33 : decode J_MDotRows_turnOnce.2.1 33 = .ok (.aload_n 0, 1) := by decide +kernel
theorem J_MDotRows_turnOnce_d34 : decode J_MDotRows_turnOnce.2.1 34 = .ok (.getfield 7, 3) := by decide +kernel
theorem J_MDotRows_turnOnce_d37 : decode J_MDotRows_turnOnce.2.1 37 = .ok (.istore_n 1, 1) := by decide +kernel
theorem J_MDotRows_turnOnce_d38 : decode J_MDotRows_turnOnce.2.1 38 = .ok (.aload_n 0, 1) := by decide +kernel
theorem J_MDotRows_turnOnce_d39 : decode J_MDotRows_turnOnce.2.1 39 = .ok (.getfield 13, 3) := by decide +kernel
theorem J_MDotRows_turnOnce_d42 : decode J_MDotRows_turnOnce.2.1 42 = .ok (.istore_n 2, 1) := by decide +kernel
theorem J_MDotRows_turnOnce_d43 : decode J_MDotRows_turnOnce.2.1 43 = .ok (.aload_n 0, 1) := by decide +kernel
theorem J_MDotRows_turnOnce_d44 : decode J_MDotRows_turnOnce.2.1 44 = .ok (.iload_n 2, 1) := by decide +kernel
theorem J_MDotRows_turnOnce_d45 : decode J_MDotRows_turnOnce.2.1 45 = .ok (.putfield 7, 3) := by decide +kernel
theorem J_MDotRows_turnOnce_d48 : decode J_MDotRows_turnOnce.2.1 48 = .ok (.aload_n 0, 1) := by decide +kernel
theorem J_MDotRows_turnOnce_d49 : decode J_MDotRows_turnOnce.2.1 49 = .ok (.iload_n 1, 1) := by decide +kernel
theorem J_MDotRows_turnOnce_d50 : decode J_MDotRows_turnOnce.2.1 50 = .ok (.putfield 13, 3) := by decide +kernel
theorem J_MDotRows_turnOnce_d53 : decode J_MDotRows_turnOnce.2.1 53 = .ok (.iconst 0, 1) := by decide +kernel
theorem J_MDotRows_turnOnce_d54 : decode J_MDotRows_turnOnce.2.1 54 = .ok (.istore_n 3, 1) := by decide +kernel
theorem J_MDotRows_turnOnce_d55 : decode J_MDotRows_turnOnce.2.1 55 = .ok (.iload_n 3, 1) := by decide +kernel
theorem J_MDotRows_turnOnce_d56 : decode J_MDotRows_turnOnce.2.1 56 = .ok (.iload_n 2, 1) := by decide +kernel
theorem J_MDotRows_turnOnce_d57 : decode J_MDotRows_turnOnce.2.1 57 = .ok (.if_icmp .ge 62, 3) := by decide +kernel
theorem J_MDotRows_turnOnce_d60 : decode J_MDotRows_turnOnce.2.1 60 = .ok (.iconst 0, 1) := by decide +kernel
theorem J_MDotRows_turnOnce_d61 : decode J_MDotRows_turnOnce.2.1 61 = .ok (.istore 4, 2) := by decide +kernel
theorem J_MDotRows_turnOnce_d63 : decode J_MDotRows_turnOnce.2.1 63 = .ok (.iload 4, 2) := by decide +kernel
theorem J_MDotRows_turnOnce_d65 : decode J_MDotRows_turnOnce.2.1 65 = .ok (.iload_n 1, 1) := by decide +kernel
theorem J_MDotRows_turnOnce_d66 : decode J_MDotRows_turnOnce.2.1 66 = .ok (.if_icmp .ge 47, 3) := by decide +kernel
theorem J_MDotRows_turnOnce_d69 : decode J_MDotRows_turnOnce.2.1 69 = .ok (.aload_n 0, 1) := by decide +kernel
theorem J_MDotRows_turnOnce_d70 : decode J_MDotRows_turnOnce.2.1 70 = .ok (.getfield 21, 3) := by decide +kernel
theorem J_MDotRows_turnOnce_d73 : decode J_MDotRows_turnOnce.2.1 73 = .ok (.bipush 32, 2) := by decide +kernel
theorem J_MDotRows_turnOnce_d75 : decode J_MDotRows_turnOnce.2.1 75 = .ok (.iload_n 3, 1) := by decide +kernel
theorem J_MDotRows_turnOnce_d76 : decode J_MDotRows_turnOnce.2.1 76 = .ok (.imul, 1) := by decide +kernel
theorem J_MDotRows_turnOnce_d77 : decode J_MDotRows_turnOnce.2.1 77 = .ok (.iload 4, 2) := by decide +kernel
theorem J_MDotRows_turnOnce_d79 : decode J_MDotRows_turnOnce.2.1 79 = .ok (.bipush 32, 2) := by decide +kernel
theorem J_MDotRows_turnOnce_d81 : decode J_MDotRows_turnOnce.2.1 81 = .ok (.idiv, 1) := by decide +kernel
theorem J_MDotRows_turnOnce_d82 : decode J_MDotRows_turnOnce.2.1 82 = .ok (.iadd, 1) := by decide +kernel
theorem J_MDotRows_turnOnce_d83 : decode J_MDotRows_turnOnce.2.1 83 = .ok (.iaload, 1) := by decide +kernel
theorem J_MDotRows_turnOnce_d84 : decode J_MDotRows_turnOnce.2.1 84 = .ok (.iload 4, 2) := by decide +kernel
theorem J_MDotRows_turnOnce_d86 : decode J_MDotRows_turnOnce.2.1 86 = .ok (.bipush 32, 2) := by decide +kernel
theorem J_MDotRows_turnOnce_d88 : decode J_MDotRows_turnOnce.2.1 88 = .ok (.irem, 1) := by decide +kernel
theorem J_MDotRows_turnOnce_d89 : decode J_MDotRows_turnOnce.2.1 89 = .ok (.ishr, 1) := by decide +kernel
theorem J_MDotRows_turnOnce_d90 : decode J_MDotRows_turnOnce.2.1 90 = .ok (.iconst 1, 1) := by decide +kernel
theorem J_MDotRows_turnOnce_d91 : decode J_MDotRows_turnOnce.2.1 91 = .ok (.iand, 1) := by decide +kernel
theorem J_MDotRows_turnOnce_d92 : decode J_MDotRows_turnOnce.2.1 92 = .ok (.iconst 1, 1) := by decide +kernel
theorem J_MDotRows_turnOnce_d93 : decode J_MDotRows_turnOnce.2.1 93 = .ok (.if_icmp .ne 14, 3) := by decide +kernel
theorem J_MDotRows_turnOnce_d96 : decode J_MDotRows_turnOnce.2.1 96 = .ok (.aload_n 0, 1) := by decide +kernel
theorem J_MDotRows_turnOnce_d97 : decode J_MDotRows_turnOnce.2.1 97 = .ok (.iload_n 2, 1) := by decide +kernel
theorem J_MDotRows_turnOnce_d98 : decode J_MDotRows_turnOnce.2.1 98 = .ok (.iconst 1, 1) := by decide +kernel
theorem J_MDotRows_turnOnce_d99 : decode J_MDotRows_turnOnce.2.1 99 = .ok (.isub, 1) := by decide +kernel
theorem J_MDotRows_turnOnce_d100 : decode J_MDotRows_turnOnce.2.1 100 = .ok (.iload_n 3, 1) := by decide +kernel
theorem J_MDotRows_turnOnce_d101 : decode J_MDotRows_turnOnce.2.1 101 = .ok (.isub, 1) := by decide +kernel
theorem J_MDotRows_turnOnce_d102 : decode J_MDotRows_turnOnce.2.1 102 = .ok (.iload 4, 2) := by decide +kernel
theorem J_MDotRows_turnOnce_d104 : decode J_MDotRows_turnOnce.2.1 104 = .ok (.invokevirtual 117, 3) := by decide +kernel
theorem J_MDotRows_turnOnce_d107 : decode J_MDotRows_turnOnce.2.1 107 = .ok (.iinc 4 1, 3) := by decide +kernel
theorem J_MDotRows_turnOnce_d110 : decode J_MDotRows_turnOnce.2.1 110 = .ok (.goto (-47), 3) := by decide +kernel
theorem J_MDotRows_turnOnce_d113 : decode J_MDotRows_turnOnce.2.1 113 = .ok (.iinc 3 1, 3) := by decide +kernel
theorem J_MDotRows_turnOnce_d116 : decode J_MDotRows_turnOnce.2.1 116 = .ok (.goto (-61), 3) := by decide +kernel
theorem J_MDotRows_turnOnce_d119 : decode J_MDotRows_turnOnce.2.1 119 = .ok (.return_, 1) := by decide +kernel
theorem f_MDotRows_turnOnce_ok {L : Nat} {xs : Nat → Int32} {dep : Nat} {w : Bool} {M : im_M} {Q : im_M → Prop} (hM : lw_S w M) (h : ed (f_MDotRows_turnOnce M) Q) : ia (tb_G L xs) (dep + 1) J_MDotRows_turnOnce (rwV w Q) (0, lv_args 0 [.ref 89], [], M) := by
  have hS : im_St (tb_G L xs) (dep + 1) J_MDotRows_turnOnce (ia (tb_G L xs) (dep + 1) J_MDotRows_turnOnce (rwV w Q)) := ia_St
  unfold f_MDotRows_turnOnce at h
  have l0 : im_lk (lv_args 0 [.ref 89]) 0 = some (.ref 89) := rfl
  refine iq_iconst hS 1 J_MDotRows_turnOnce_d0 (v := 0) (by decide +kernel) rfl ?_
  refine iq_istore_n hS 2 J_MDotRows_turnOnce_d1 (by decide) rfl ?_
  obtain ⟨Q1, hQ1, h⟩ := bd1_ed h
  have K1 : ∀ (M2 : im_M) (L' : List (Nat × Value)), lw_S w M2 → im_lk L' 0 = some (.ref 89) → Q1 M2 → ia (tb_G L xs) (dep + 1) J_MDotRows_turnOnce (rwV w Q) (33, L', [], M2) := by
    intro M2 L' hM2 l3 h
    replace h := hQ1 _ h
    refine iq_aload_n hS 34 J_MDotRows_turnOnce_d33 l3 rfl ?_
    refine iq_getI hS 37 J_MDotRows_turnOnce_d34 lf_12_7 (Or.inl rfl) (ka_89 hM2) rfl ?_
    refine iq_istore_n hS 38 J_MDotRows_turnOnce_d37 (by decide) rfl ?_
    refine iq_aload_n hS 39 J_MDotRows_turnOnce_d38 (lk_1r l3 (by decide)) rfl ?_
    refine iq_getI hS 42 J_MDotRows_turnOnce_d39 lf_12_13 (Or.inl rfl) (ka_89 hM2) rfl ?_
    refine iq_istore_n hS 43 J_MDotRows_turnOnce_d42 (by decide) rfl ?_
    refine iq_aload_n hS 44 J_MDotRows_turnOnce_d43 (lk_1r (lk_1r l3 (by decide)) (by decide)) rfl ?_
    refine iq_iload_n hS 45 J_MDotRows_turnOnce_d44 lk_1s rfl ?_
    refine iq_putI hS 48 J_MDotRows_turnOnce_d45 lf_12_7 (Or.inl rfl) rfl (ka_89 hM2) rfl ?_
    refine iq_aload_n hS 49 J_MDotRows_turnOnce_d48 (lk_1r (lk_1r l3 (by decide)) (by decide)) rfl ?_
    refine iq_iload_n hS 50 J_MDotRows_turnOnce_d49 (lk_1i lk_1s (by decide)) rfl ?_
    refine iq_putI hS 53 J_MDotRows_turnOnce_d50 lf_12_13 (Or.inl rfl) rfl (ka_89 (lw_sI hM2)) rfl ?_
    refine iq_iconst hS 54 J_MDotRows_turnOnce_d53 (v := 0) (by decide +kernel) rfl ?_
    refine iq_istore_n hS 55 J_MDotRows_turnOnce_d54 (by decide) rfl ?_
    obtain ⟨Q4, hQ4, h⟩ := bd1_ed h
    have K4 : ∀ (M5 : im_M) (L' : List (Nat × Value)), lw_S w M5 → Q4 M5 → ia (tb_G L xs) (dep + 1) J_MDotRows_turnOnce (rwV w Q) (119, L', [], M5) := by
      intro M5 L' hM5  h
      replace h := hQ4 _ h
      exact iq_ret J_MDotRows_turnOnce_d119 rfl ⟨rfl, hM5, ed_some h⟩
    obtain ⟨r4, hr4, hq4⟩ := h
    obtain ⟨n4, hn4⟩ := lp_n hr4
    have I4 : ∀ (n : Nat) (x6 : Int32) (M7 : im_M) (L' : List (Nat × Value)), lw_S w M7 → im_lk L' 0 = some (.ref 89) → im_lk L' 1 = some (.int (im_i M2 89 1)) → im_lk L' 2 = some (.int (im_i M2 89 2)) → im_lk L' 3 = some (.int x6) → lpn (uc2 (f_MDotRows_turnOnce_L55 (im_i M2 89 1) (im_i M2 89 2))) n (x6, M7) = some r4 → ia (tb_G L xs) (dep + 1) J_MDotRows_turnOnce (rwV w Q) (55, L', [], M7) := by
      intro n
      induction n with
      | zero => intro x6 M7 L' hM7 l8 l9 l10 l11 hn; exact (lpn_0 hn).elim
      | succ n ih =>
        intro x6 M7 L' hM7 l8 l9 l10 l11 hn
        have h := lpn_ed2 hn
        unfold f_MDotRows_turnOnce_L55 at h
        refine iq_iload_n hS 56 J_MDotRows_turnOnce_d55 l11 rfl ?_
        refine iq_iload_n hS 57 J_MDotRows_turnOnce_d56 l10 rfl ?_
        refine iq_icmp_ge hS 60 J_MDotRows_turnOnce_d57 (t := 119) rfl (fun q57 => ?_) rfl (fun q57 => ?_)
        · replace h := ed_pos q57 h
          exact K4 _ _ hM7  (lq_r h hq4)
        · replace h := ed_neg q57 h
          refine iq_iconst hS 61 J_MDotRows_turnOnce_d60 (v := 0) (by decide +kernel) rfl ?_
          refine iq_istore hS 63 J_MDotRows_turnOnce_d61 (by decide) rfl ?_
          obtain ⟨Q12, hQ12, h⟩ := bd1_ed h
          have K12 : ∀ (M13 : im_M) (L' : List (Nat × Value)), lw_S w M13 → im_lk L' 0 = some (.ref 89) → im_lk L' 1 = some (.int (im_i M2 89 1)) → im_lk L' 2 = some (.int (im_i M2 89 2)) → im_lk L' 3 = some (.int x6) → Q12 M13 → ia (tb_G L xs) (dep + 1) J_MDotRows_turnOnce (rwV w Q) (113, L', [], M13) := by
            intro M13 L' hM13 l14 l15 l16 l17 h
            replace h := hQ12 _ h
            refine iq_iincv hS 116 J_MDotRows_turnOnce_d113 (c := 1) (by decide +kernel) l17 (by decide) rfl ?_
            refine iq_goto hS J_MDotRows_turnOnce_d116 (t := 55) rfl ?_
            exact ih _ _ _ hM13 (lk_1r l14 (by decide)) (lk_1i l15 (by decide)) (lk_1i l16 (by decide)) lk_1s (lq_l h)
          obtain ⟨r12, hr12, hq12⟩ := h
          obtain ⟨n12, hn12⟩ := lp_n hr12
          have I12 : ∀ (n : Nat) (x18 : Int32) (M19 : im_M) (L' : List (Nat × Value)), lw_S w M19 → im_lk L' 0 = some (.ref 89) → im_lk L' 1 = some (.int (im_i M2 89 1)) → im_lk L' 2 = some (.int (im_i M2 89 2)) → im_lk L' 3 = some (.int x6) → im_lk L' 4 = some (.int x18) → lpn (uc2 (f_MDotRows_turnOnce_L63 (im_i M2 89 1) (im_i M2 89 2) x6)) n (x18, M19) = some r12 → ia (tb_G L xs) (dep + 1) J_MDotRows_turnOnce (rwV w Q) (63, L', [], M19) := by
            intro n
            induction n with
            | zero => intro x18 M19 L' hM19 l20 l21 l22 l23 l24 hn; exact (lpn_0 hn).elim
            | succ n ih =>
              intro x18 M19 L' hM19 l20 l21 l22 l23 l24 hn
              have h := lpn_ed2 hn
              unfold f_MDotRows_turnOnce_L63 at h
              refine iq_iload hS 65 J_MDotRows_turnOnce_d63 l24 rfl ?_
              refine iq_iload_n hS 66 J_MDotRows_turnOnce_d65 l21 rfl ?_
              refine iq_icmp_ge hS 69 J_MDotRows_turnOnce_d66 (t := 113) rfl (fun q66 => ?_) rfl (fun q66 => ?_)
              · replace h := ed_pos q66 h
                exact K12 _ _ hM19 l20 l21 l22 l23 (lq_r h hq12)
              · replace h := ed_neg q66 h
                refine iq_aload_n hS 70 J_MDotRows_turnOnce_d69 l20 rfl ?_
                refine iq_getR hS 73 J_MDotRows_turnOnce_d70 lf_12_21 (Or.inr ⟨_, rfl⟩) (ka_89 hM19) (ra_89_5 hM19) rfl ?_
                refine iq_bipush hS 75 J_MDotRows_turnOnce_d73 (v := 32) (by decide +kernel) rfl ?_
                refine iq_iload_n hS 76 J_MDotRows_turnOnce_d75 l23 rfl ?_
                refine iq_imul hS 77 J_MDotRows_turnOnce_d76 rfl ?_
                refine iq_iload hS 79 J_MDotRows_turnOnce_d77 l24 rfl ?_
                refine iq_bipush hS 81 J_MDotRows_turnOnce_d79 (v := 32) (by decide +kernel) rfl ?_
                refine iq_idiv hS 82 J_MDotRows_turnOnce_d81 (by decide) rfl ?_
                refine iq_iadd hS 83 J_MDotRows_turnOnce_d82 rfl ?_
                obtain ⟨g83, h⟩ := ed_gd h
                refine iq_iaload hS 84 J_MDotRows_turnOnce_d83 ⟨(ka_91 hM19).1, (ka_91 hM19).2, g83.1, ix_lt (kl_91 hM19) g83.2⟩ rfl ?_
                refine iq_iload hS 86 J_MDotRows_turnOnce_d84 l24 rfl ?_
                refine iq_bipush hS 88 J_MDotRows_turnOnce_d86 (v := 32) (by decide +kernel) rfl ?_
                refine iq_irem hS 89 J_MDotRows_turnOnce_d88 (by decide) rfl ?_
                refine iq_ishr hS 90 J_MDotRows_turnOnce_d89 rfl ?_
                refine iq_iconst hS 91 J_MDotRows_turnOnce_d90 (v := 1) (by decide +kernel) rfl ?_
                refine iq_iand hS 92 J_MDotRows_turnOnce_d91 rfl ?_
                refine iq_iconst hS 93 J_MDotRows_turnOnce_d92 (v := 1) (by decide +kernel) rfl ?_
                obtain ⟨Q25, hQ25, h⟩ := bd1_ed h
                have J25 : ∀ (M27 : im_M) (L' : List (Nat × Value)), lw_S w M27 → im_lk L' 0 = some (.ref 89) → im_lk L' 1 = some (.int (im_i M2 89 1)) → im_lk L' 2 = some (.int (im_i M2 89 2)) → im_lk L' 3 = some (.int x6) → im_lk L' 4 = some (.int x18) → Q25 M27 → ia (tb_G L xs) (dep + 1) J_MDotRows_turnOnce (rwV w Q) (107, L', [], M27) := by
                  intro M27 L' hM27 l28 l29 l30 l31 l32 h
                  replace h := hQ25 _ h
                  refine iq_iincv hS 110 J_MDotRows_turnOnce_d107 (c := 1) (by decide +kernel) l32 (by decide) rfl ?_
                  refine iq_goto hS J_MDotRows_turnOnce_d110 (t := 63) rfl ?_
                  exact ih _ _ _ hM27 (lk_1r l28 (by decide)) (lk_1i l29 (by decide)) (lk_1i l30 (by decide)) (lk_1i l31 (by decide)) lk_1s (lq_l h)
                refine iq_icmp_ne hS 96 J_MDotRows_turnOnce_d93 (t := 107) rfl (fun q93 => ?_) rfl (fun q93 => ?_)
                · replace h := ed_pos q93 h
                  exact J25 _ _ hM19 l20 l21 l22 l23 l24 (ed_some h)
                · replace h := ed_neg q93 h
                  refine iq_aload_n hS 97 J_MDotRows_turnOnce_d96 l20 rfl ?_
                  refine iq_iload_n hS 98 J_MDotRows_turnOnce_d97 l22 rfl ?_
                  refine iq_iconst hS 99 J_MDotRows_turnOnce_d98 (v := 1) (by decide +kernel) rfl ?_
                  refine iq_isub hS 100 J_MDotRows_turnOnce_d99 rfl ?_
                  refine iq_iload_n hS 101 J_MDotRows_turnOnce_d100 l23 rfl ?_
                  refine iq_isub hS 102 J_MDotRows_turnOnce_d101 rfl ?_
                  refine iq_iload hS 104 J_MDotRows_turnOnce_d102 l24 rfl ?_
                  obtain ⟨Q26, hQ26, h⟩ := bd1_ed h
                  refine iq_cwV hS 107 J_MDotRows_turnOnce_d104 rfl (pr_inst (vs := [_, _]) lc_12_117 lT_356 rfl rfl (by decide) (by decide) rfl (Nat.le_of_ble_eq_true rfl) (Nat.le_of_ble_eq_true rfl) (fun _ => Or.inl (pr_b (ka_89 hM19) (by decide) rfl))) (f_MDotRows_other_ok (dep := dep + 0) hM19 h) rfl ?_
                  intro M26 hM26 h
                  replace h := hQ26 _ h
                  exact J25 _ _ hM26 l20 l21 l22 l23 l24 (ed_some h)
          exact I12 n12 _ _ _ hM7 (lk_1r l8 (by decide)) (lk_1i l9 (by decide)) (lk_1i l10 (by decide)) (lk_1i l11 (by decide)) lk_1s hn12
    exact I4 n4 _ _ _ (lw_sI (lw_sI hM2)) (lk_1r (lk_1r (lk_1r l3 (by decide)) (by decide)) (by decide)) (lk_1i (lk_1i lk_1s (by decide)) (by decide)) (lk_1i lk_1s (by decide)) lk_1s hn4
  obtain ⟨r1, hr1, hq1⟩ := h
  obtain ⟨n1, hn1⟩ := lp_n hr1
  have I1 : ∀ (n : Nat) (x33 : Int32) (M34 : im_M) (L' : List (Nat × Value)), lw_S w M34 → im_lk L' 0 = some (.ref 89) → im_lk L' 1 = some (.int x33) → lpn (uc2 (f_MDotRows_turnOnce_L2)) n (x33, M34) = some r1 → ia (tb_G L xs) (dep + 1) J_MDotRows_turnOnce (rwV w Q) (2, L', [], M34) := by
    intro n
    induction n with
    | zero => intro x33 M34 L' hM34 l35 l36 hn; exact (lpn_0 hn).elim
    | succ n ih =>
      intro x33 M34 L' hM34 l35 l36 hn
      have h := lpn_ed2 hn
      unfold f_MDotRows_turnOnce_L2 at h
      refine iq_iload_n hS 3 J_MDotRows_turnOnce_d2 l36 rfl ?_
      refine iq_ldc hS 5 J_MDotRows_turnOnce_d3 lk_12_16 rfl ?_
      refine iq_icmp_ge hS 8 J_MDotRows_turnOnce_d5 (t := 33) rfl (fun q5 => ?_) rfl (fun q5 => ?_)
      · replace h := ed_pos q5 h
        exact K1 _ _ hM34 l35 (lq_r h hq1)
      · replace h := ed_neg q5 h
        refine iq_aload_n hS 9 J_MDotRows_turnOnce_d8 l35 rfl ?_
        refine iq_getR hS 12 J_MDotRows_turnOnce_d9 lf_12_21 (Or.inr ⟨_, rfl⟩) (ka_89 hM34) (ra_89_5 hM34) rfl ?_
        refine iq_iload_n hS 13 J_MDotRows_turnOnce_d12 l36 rfl ?_
        refine iq_aload_n hS 14 J_MDotRows_turnOnce_d13 l35 rfl ?_
        refine iq_getR hS 17 J_MDotRows_turnOnce_d14 lf_12_17 (Or.inr ⟨_, rfl⟩) (ka_89 hM34) (ra_89_4 hM34) rfl ?_
        refine iq_iload_n hS 18 J_MDotRows_turnOnce_d17 l36 rfl ?_
        obtain ⟨g18, h⟩ := ed_gd h
        refine iq_iaload hS 19 J_MDotRows_turnOnce_d18 ⟨(ka_90 hM34).1, (ka_90 hM34).2, g18.1, ix_lt (kl_90 hM34) g18.2⟩ rfl ?_
        obtain ⟨g19, h⟩ := ed_gd h
        refine iq_iastore hS 20 J_MDotRows_turnOnce_d19 ⟨(ka_91 hM34).1, (ka_91 hM34).2, g19.1, ix_lt (kl_91 hM34) g19.2⟩ rfl ?_
        refine iq_aload_n hS 21 J_MDotRows_turnOnce_d20 l35 rfl ?_
        refine iq_getR hS 24 J_MDotRows_turnOnce_d21 lf_12_17 (Or.inr ⟨_, rfl⟩) (ka_89 (lw_sI hM34)) (ra_89_4 (lw_sI hM34)) rfl ?_
        refine iq_iload_n hS 25 J_MDotRows_turnOnce_d24 l36 rfl ?_
        refine iq_iconst hS 26 J_MDotRows_turnOnce_d25 (v := 0) (by decide +kernel) rfl ?_
        obtain ⟨g26, h⟩ := ed_gd h
        refine iq_iastore hS 27 J_MDotRows_turnOnce_d26 ⟨(ka_90 (lw_sI hM34)).1, (ka_90 (lw_sI hM34)).2, g26.1, ix_lt (kl_90 (lw_sI hM34)) g26.2⟩ rfl ?_
        refine iq_iincv hS 30 J_MDotRows_turnOnce_d27 (c := 1) (by decide +kernel) l36 (by decide) rfl ?_
        refine iq_goto hS J_MDotRows_turnOnce_d30 (t := 2) rfl ?_
        exact ih _ _ _ (lw_sI (lw_sI hM34)) (lk_1r l35 (by decide)) lk_1s (lq_l h)
  exact I1 n1 _ _ _ hM (lk_1r l0 (by decide)) lk_1s hn1
theorem f_MDotRows_turnOnce_fr {M : im_M} {r : im_M} (h : f_MDotRows_turnOnce M = some r) : fr 3713820117856140824697372672 [(89, 1), (89, 2)] M r := by
  replace h : ed (f_MDotRows_turnOnce M) (fun x => x = r) := ⟨r, h, rfl⟩
  unfold f_MDotRows_turnOnce at h
  obtain ⟨Q1, hQ1, h⟩ := bd1_ed h
  have K1 : ∀ (M2 : im_M), fr 3713820117856140824697372672 [(89, 1), (89, 2)] M M2 → Q1 M2 → fr 3713820117856140824697372672 [(89, 1), (89, 2)] M r := by
    intro M2 hM2 h
    replace h := hQ1 _ h
    obtain ⟨Q3, hQ3, h⟩ := bd1_ed h
    have K3 : ∀ (M4 : im_M), fr 3713820117856140824697372672 [(89, 1), (89, 2)] M M4 → Q3 M4 → fr 3713820117856140824697372672 [(89, 1), (89, 2)] M r := by
      intro M4 hM4 h
      replace h := hQ3 _ h
      exact fr_retV h hM4
    obtain ⟨r3, hr3, hq3⟩ := h
    obtain ⟨n3, hn3⟩ := lp_n hr3
    have I3 : ∀ (n : Nat) (x5 : Int32) (M6 : im_M), fr 3713820117856140824697372672 [(89, 1), (89, 2)] M M6 → lpn (uc2 (f_MDotRows_turnOnce_L55 (im_i M2 89 1) (im_i M2 89 2))) n (x5, M6) = some r3 → fr 3713820117856140824697372672 [(89, 1), (89, 2)] M r := by
      intro n
      induction n with
      | zero => intro x5 M6 hM6 hn; exact (lpn_0 hn).elim
      | succ n ih =>
        intro x5 M6 hM6 hn
        have h := lpn_ed2 hn
        unfold f_MDotRows_turnOnce_L55 at h
        by_cases q57 : (im_i M2 89 2) ≤ x5
        · replace h := ed_pos q57 h
          exact K3 _ hM6 (lq_r h hq3)
        · replace h := ed_neg q57 h
          obtain ⟨Q7, hQ7, h⟩ := bd1_ed h
          have K7 : ∀ (M8 : im_M), fr 3713820117856140824697372672 [(89, 1), (89, 2)] M M8 → Q7 M8 → fr 3713820117856140824697372672 [(89, 1), (89, 2)] M r := by
            intro M8 hM8 h
            replace h := hQ7 _ h
            exact ih _ _ hM8 (lq_l h)
          obtain ⟨r7, hr7, hq7⟩ := h
          obtain ⟨n7, hn7⟩ := lp_n hr7
          have I7 : ∀ (n : Nat) (x9 : Int32) (M10 : im_M), fr 3713820117856140824697372672 [(89, 1), (89, 2)] M M10 → lpn (uc2 (f_MDotRows_turnOnce_L63 (im_i M2 89 1) (im_i M2 89 2) x5)) n (x9, M10) = some r7 → fr 3713820117856140824697372672 [(89, 1), (89, 2)] M r := by
            intro n
            induction n with
            | zero => intro x9 M10 hM10 hn; exact (lpn_0 hn).elim
            | succ n ih =>
              intro x9 M10 hM10 hn
              have h := lpn_ed2 hn
              unfold f_MDotRows_turnOnce_L63 at h
              by_cases q66 : (im_i M2 89 1) ≤ x9
              · replace h := ed_pos q66 h
                exact K7 _ hM10 (lq_r h hq7)
              · replace h := ed_neg q66 h
                obtain ⟨g83, h⟩ := ed_gd h
                obtain ⟨Q11, hQ11, h⟩ := bd1_ed h
                have J11 : ∀ (M13 : im_M), fr 3713820117856140824697372672 [(89, 1), (89, 2)] M M13 → Q11 M13 → fr 3713820117856140824697372672 [(89, 1), (89, 2)] M r := by
                  intro M13 hM13 h
                  replace h := hQ11 _ h
                  exact ih _ _ hM13 (lq_l h)
                by_cases q93 : ¬ (((im_i M10 91 (Int32.toNatClampNeg (((32 : Int32) * x5) + (x9 / 32)))) >>> ((x9 - x9 / 32 * 32) &&& 31 : Int32) : Int32) &&& 1) = 1
                · replace h := ed_pos q93 h
                  exact J11 _ hM10 (ed_some h)
                · replace h := ed_neg q93 h
                  obtain ⟨Q12, hQ12, h⟩ := bd1_ed h
                  obtain ⟨M12, e12, h⟩ := h
                  replace h := hQ12 _ h
                  exact J11 _ (fr_tr (fr_mono (by decide) (by decide +kernel) (f_MDotRows_other_fr e12)) hM10) (ed_some h)
          exact I7 n7 _ _ hM6 hn7
    exact I3 n3 _ _ (fr_F (by decide) (fr_F (by decide) hM2)) hn3
  obtain ⟨r1, hr1, hq1⟩ := h
  obtain ⟨n1, hn1⟩ := lp_n hr1
  have I1 : ∀ (n : Nat) (x19 : Int32) (M20 : im_M), fr 3713820117856140824697372672 [(89, 1), (89, 2)] M M20 → lpn (uc2 (f_MDotRows_turnOnce_L2)) n (x19, M20) = some r1 → fr 3713820117856140824697372672 [(89, 1), (89, 2)] M r := by
    intro n
    induction n with
    | zero => intro x19 M20 hM20 hn; exact (lpn_0 hn).elim
    | succ n ih =>
      intro x19 M20 hM20 hn
      have h := lpn_ed2 hn
      unfold f_MDotRows_turnOnce_L2 at h
      by_cases q5 : 32768 ≤ x19
      · replace h := ed_pos q5 h
        exact K1 _ hM20 (lq_r h hq1)
      · replace h := ed_neg q5 h
        obtain ⟨g18, h⟩ := ed_gd h
        obtain ⟨g19, h⟩ := ed_gd h
        obtain ⟨g26, h⟩ := ed_gd h
        exact ih _ _ (fr_I (by decide) (fr_I (by decide) hM20)) (lq_l h)
  exact I1 n1 _ _ fr_refl hn1
noncomputable def f_MDotRows_turn_L20 (v4 : Int32) (x5 : Int32) (M6 : im_M) : Option ((Int32 × im_M) ⊕ (im_M)) := if v4 ≤ x5 then some (.inr M6) else if ¬ (im_i M6 89 0) = 0 then some (.inr M6) else bd1 (f_MDotRows_turnOnce M6) fun (M7 : im_M) => some (.inl ((x5 + 1), M7))
noncomputable def f_MDotRows_turn (p0 : Int32) (M : im_M) : Option (im_M) := bd1 (f_MDotRows_isNot p0 0 3 M) fun (x1 : Int32) => bd1 (lp (uc2 (f_MDotRows_turn_L20 p0)) (0, (im_setI M 89 0 ((if x1 = 0 then 0 else 1) : Int32)))) fun (M8 : im_M) => some M8
theorem J_MDotRows_turn_d0 : decode J_MDotRows_turn.2.1 0 = .ok (.aload_n 0, 1) := by decide +kernel
theorem J_MDotRows_turn_d1 : decode J_MDotRows_turn.2.1 1 = .ok (.iload_n 1, 1) := by decide +kernel
theorem J_MDotRows_turn_d2 : decode J_MDotRows_turn.2.1 2 = .ok (.iconst 0, 1) := by decide +kernel
theorem J_MDotRows_turn_d3 : decode J_MDotRows_turn.2.1 3 = .ok (.iconst 3, 1) := by decide +kernel
theorem J_MDotRows_turn_d4 : decode J_MDotRows_turn.2.1 4 = .ok (.invokestatic 121, 3) := by decide +kernel
theorem J_MDotRows_turn_d7 : decode J_MDotRows_turn.2.1 7 = .ok (.ifCond .eq 7, 3) := by decide +kernel
theorem J_MDotRows_turn_d10 : decode J_MDotRows_turn.2.1 10 = .ok (.iconst 1, 1) := by decide +kernel
theorem J_MDotRows_turn_d11 : decode J_MDotRows_turn.2.1 11 = .ok (.goto 4, 3) := by decide +kernel
theorem J_MDotRows_turn_d14 : decode J_MDotRows_turn.2.1 14 = .ok (.iconst 0, 1) := by decide +kernel
theorem J_MDotRows_turn_d15 : decode J_MDotRows_turn.2.1 15 = .ok (.putfield 37, 3) := by decide +kernel
theorem J_MDotRows_turn_d18 : decode J_MDotRows_turn.2.1 18 = .ok (.iconst 0, 1) := by decide +kernel
theorem J_MDotRows_turn_d19 : decode J_MDotRows_turn.2.1 19 = .ok (.istore_n 2, 1) := by decide +kernel
theorem J_MDotRows_turn_d20 : decode J_MDotRows_turn.2.1 20 = .ok (.iload_n 2, 1) := by decide +kernel
theorem J_MDotRows_turn_d21 : decode J_MDotRows_turn.2.1 21 = .ok (.iload_n 1, 1) := by decide +kernel
theorem J_MDotRows_turn_d22 : decode J_MDotRows_turn.2.1 22 = .ok (.if_icmp .ge 20, 3) := by decide +kernel
theorem J_MDotRows_turn_d25 : decode J_MDotRows_turn.2.1 25 = .ok (.aload_n 0, 1) := by decide +kernel
theorem J_MDotRows_turn_d26 : decode J_MDotRows_turn.2.1 26 = .ok (.getfield 37, 3) := by decide +kernel
theorem J_MDotRows_turn_d29 : decode J_MDotRows_turn.2.1 29 = .ok (.ifCond .ne 13, 3) := by decide +kernel
theorem J_MDotRows_turn_d32 : decode J_MDotRows_turn.2.1 32 = .ok (.aload_n 0, 1) := by decide +kernel
theorem J_MDotRows_turn_d33 : decode J_MDotRows_turn.2.1 33 = .ok (.invokevirtual 138, 3) := by decide +kernel
theorem J_MDotRows_turn_d36 : decode J_MDotRows_turn.2.1 36 = .ok (.iinc 2 1, 3) := by decide +kernel
theorem J_MDotRows_turn_d39 : decode J_MDotRows_turn.2.1 39 = .ok (.goto (-19), 3) := by decide +kernel
theorem J_MDotRows_turn_d42 : decode J_MDotRows_turn.2.1 42 = .ok (.return_, 1) := by decide +kernel
theorem f_MDotRows_turn_ok {L : Nat} {xs : Nat → Int32} {dep : Nat} {w : Bool} {p0 : Int32} {M : im_M} {Q : im_M → Prop} (hM : lw_S w M) (h : ed (f_MDotRows_turn p0 M) Q) : ia (tb_G L xs) (dep + 2) J_MDotRows_turn (rwV w Q) (0, lv_args 0 [.ref 89, .int p0], [], M) := by
  have hS : im_St (tb_G L xs) (dep + 2) J_MDotRows_turn (ia (tb_G L xs) (dep + 2) J_MDotRows_turn (rwV w Q)) := ia_St
  unfold f_MDotRows_turn at h
  have l0 : im_lk (lv_args 0 [.ref 89, .int p0]) 0 = some (.ref 89) := rfl
  have l1 : im_lk (lv_args 0 [.ref 89, .int p0]) 1 = some (.int p0) := rfl
  refine iq_aload_n hS 1 J_MDotRows_turn_d0 l0 rfl ?_
  refine iq_iload_n hS 2 J_MDotRows_turn_d1 l1 rfl ?_
  refine iq_iconst hS 3 J_MDotRows_turn_d2 (v := 0) (by decide +kernel) rfl ?_
  refine iq_iconst hS 4 J_MDotRows_turn_d3 (v := 3) (by decide +kernel) rfl ?_
  obtain ⟨Q1, hQ1, h⟩ := bd1_ed h
  refine iq_cpI hS 7 J_MDotRows_turn_d4 rfl (pr_stat (vs := [_, _, _]) lc_12_121 lT_273 rfl rfl (by decide) rfl (Nat.le_of_ble_eq_true rfl) (Nat.le_of_ble_eq_true rfl)) (f_MDotRows_isNot_ok (dep := dep + 1) hM h) rfl ?_
  intro x1 h
  replace h := hQ1 _ h
  have J2 : ∀ (z3 : Int32) (L' : List (Nat × Value)), z3 = ((if x1 = 0 then 0 else 1) : Int32) → im_lk L' 0 = some (.ref 89) → im_lk L' 1 = some (.int p0) → ia (tb_G L xs) (dep + 2) J_MDotRows_turn (rwV w Q) (15, L', [.int z3, .ref 89], M) := by
    intro z3 L' e4 l5 l6
    subst e4
    refine iq_putI hS 18 J_MDotRows_turn_d15 lf_12_37 (Or.inl rfl) rfl (ka_89 hM) rfl ?_
    refine iq_iconst hS 19 J_MDotRows_turn_d18 (v := 0) (by decide +kernel) rfl ?_
    refine iq_istore_n hS 20 J_MDotRows_turn_d19 (by decide) rfl ?_
    obtain ⟨Q7, hQ7, h⟩ := bd1_ed h
    have K7 : ∀ (M8 : im_M) (L' : List (Nat × Value)), lw_S w M8 → Q7 M8 → ia (tb_G L xs) (dep + 2) J_MDotRows_turn (rwV w Q) (42, L', [], M8) := by
      intro M8 L' hM8  h
      replace h := hQ7 _ h
      exact iq_ret J_MDotRows_turn_d42 rfl ⟨rfl, hM8, ed_some h⟩
    obtain ⟨r7, hr7, hq7⟩ := h
    obtain ⟨n7, hn7⟩ := lp_n hr7
    have I7 : ∀ (n : Nat) (x9 : Int32) (M10 : im_M) (L' : List (Nat × Value)), lw_S w M10 → im_lk L' 0 = some (.ref 89) → im_lk L' 1 = some (.int p0) → im_lk L' 2 = some (.int x9) → lpn (uc2 (f_MDotRows_turn_L20 p0)) n (x9, M10) = some r7 → ia (tb_G L xs) (dep + 2) J_MDotRows_turn (rwV w Q) (20, L', [], M10) := by
      intro n
      induction n with
      | zero => intro x9 M10 L' hM10 l11 l12 l13 hn; exact (lpn_0 hn).elim
      | succ n ih =>
        intro x9 M10 L' hM10 l11 l12 l13 hn
        have h := lpn_ed2 hn
        unfold f_MDotRows_turn_L20 at h
        refine iq_iload_n hS 21 J_MDotRows_turn_d20 l13 rfl ?_
        refine iq_iload_n hS 22 J_MDotRows_turn_d21 l12 rfl ?_
        refine iq_icmp_ge hS 25 J_MDotRows_turn_d22 (t := 42) rfl (fun q22 => ?_) rfl (fun q22 => ?_)
        · replace h := ed_pos q22 h
          exact K7 _ _ hM10  (lq_r h hq7)
        · replace h := ed_neg q22 h
          refine iq_aload_n hS 26 J_MDotRows_turn_d25 l11 rfl ?_
          refine iq_getI hS 29 J_MDotRows_turn_d26 lf_12_37 (Or.inl rfl) (ka_89 hM10) rfl ?_
          refine iq_if_ne hS 32 J_MDotRows_turn_d29 (t := 42) rfl (fun q29 => ?_) rfl (fun q29 => ?_)
          · replace h := ed_pos q29 h
            exact K7 _ _ hM10  (lq_r h hq7)
          · replace h := ed_neg q29 h
            refine iq_aload_n hS 33 J_MDotRows_turn_d32 l11 rfl ?_
            obtain ⟨Q14, hQ14, h⟩ := bd1_ed h
            refine iq_cwV hS 36 J_MDotRows_turn_d33 rfl (pr_inst (vs := []) lc_12_138 lT_455 rfl rfl (by decide) (by decide) rfl (Nat.le_of_ble_eq_true rfl) (Nat.le_of_ble_eq_true rfl) (fun _ => Or.inl (pr_b (ka_89 hM10) (by decide) rfl))) (f_MDotRows_turnOnce_ok (dep := dep + 0) hM10 h) rfl ?_
            intro M14 hM14 h
            replace h := hQ14 _ h
            refine iq_iincv hS 39 J_MDotRows_turn_d36 (c := 1) (by decide +kernel) l13 (by decide) rfl ?_
            refine iq_goto hS J_MDotRows_turn_d39 (t := 20) rfl ?_
            exact ih _ _ _ hM14 (lk_1r l11 (by decide)) (lk_1i l12 (by decide)) lk_1s (lq_l h)
    exact I7 n7 _ _ _ (lw_sI hM) (lk_1r l5 (by decide)) (lk_1i l6 (by decide)) lk_1s hn7
  refine iq_if_eq hS 10 J_MDotRows_turn_d7 (t := 14) rfl (fun q7 => ?_) rfl (fun q7 => ?_)
  · refine iq_iconst hS 15 J_MDotRows_turn_d14 (v := 0) (by decide +kernel) rfl ?_
    exact J2 _ _ (by simp only [if_pos q7]) l0 l1
  · refine iq_iconst hS 11 J_MDotRows_turn_d10 (v := 1) (by decide +kernel) rfl ?_
    refine iq_goto hS J_MDotRows_turn_d11 (t := 15) rfl ?_
    exact J2 _ _ (by simp only [if_neg q7]) l0 l1
theorem f_MDotRows_turn_fr {p0 : Int32} {M : im_M} {r : im_M} (h : f_MDotRows_turn p0 M = some r) : fr 3713820117856140824697372672 [(89, 0), (89, 1), (89, 2)] M r := by
  replace h : ed (f_MDotRows_turn p0 M) (fun x => x = r) := ⟨r, h, rfl⟩
  unfold f_MDotRows_turn at h
  obtain ⟨Q1, hQ1, h⟩ := bd1_ed h
  obtain ⟨x1, e1, h⟩ := h
  replace h := hQ1 _ h
  obtain ⟨Q3, hQ3, h⟩ := bd1_ed h
  have K3 : ∀ (M4 : im_M), fr 3713820117856140824697372672 [(89, 0), (89, 1), (89, 2)] M M4 → Q3 M4 → fr 3713820117856140824697372672 [(89, 0), (89, 1), (89, 2)] M r := by
    intro M4 hM4 h
    replace h := hQ3 _ h
    exact fr_retV h hM4
  obtain ⟨r3, hr3, hq3⟩ := h
  obtain ⟨n3, hn3⟩ := lp_n hr3
  have I3 : ∀ (n : Nat) (x5 : Int32) (M6 : im_M), fr 3713820117856140824697372672 [(89, 0), (89, 1), (89, 2)] M M6 → lpn (uc2 (f_MDotRows_turn_L20 p0)) n (x5, M6) = some r3 → fr 3713820117856140824697372672 [(89, 0), (89, 1), (89, 2)] M r := by
    intro n
    induction n with
    | zero => intro x5 M6 hM6 hn; exact (lpn_0 hn).elim
    | succ n ih =>
      intro x5 M6 hM6 hn
      have h := lpn_ed2 hn
      unfold f_MDotRows_turn_L20 at h
      by_cases q22 : p0 ≤ x5
      · replace h := ed_pos q22 h
        exact K3 _ hM6 (lq_r h hq3)
      · replace h := ed_neg q22 h
        by_cases q29 : ¬ (im_i M6 89 0) = 0
        · replace h := ed_pos q29 h
          exact K3 _ hM6 (lq_r h hq3)
        · replace h := ed_neg q29 h
          obtain ⟨Q7, hQ7, h⟩ := bd1_ed h
          obtain ⟨M7, e7, h⟩ := h
          replace h := hQ7 _ h
          exact ih _ _ (fr_tr (fr_mono (by decide) (by decide +kernel) (f_MDotRows_turnOnce_fr e7)) hM6) (lq_l h)
  exact I3 n3 _ _ (fr_F (by decide) fr_refl) hn3
noncomputable def f_M_turn (p0 : Int32) (M : im_M) : Option (im_M) := bd1 (f_MDotRows_turn p0 M) fun (M1 : im_M) => bd1 (f_MDotRows_thrown M1) fun (x2 : Int32) => if ¬ (im_i (im_setI M1 69 0 x2) 69 0) = 0 then some (im_setI M1 69 0 x2) else bd1 (f_M_follow (im_setI M1 69 0 x2)) fun (M3 : im_M) => some M3
theorem J_M_turn_d0 : decode J_M_turn.2.1 0 = .ok (.aload_n 0, 1) := by decide +kernel
theorem J_M_turn_d1 : decode J_M_turn.2.1 1 = .ok (.getfield 23, 3) := by decide +kernel
theorem J_M_turn_d4 : decode J_M_turn.2.1 4 = .ok (.iload_n 1, 1) := by decide +kernel
theorem J_M_turn_d5 : decode J_M_turn.2.1 5 = .ok (.invokevirtual 217, 3) := by decide +kernel
theorem J_M_turn_d8 : decode J_M_turn.2.1 8 = .ok (.aload_n 0, 1) := by decide +kernel
theorem J_M_turn_d9 : decode J_M_turn.2.1 9 = .ok (.aload_n 0, 1) := by decide +kernel
theorem J_M_turn_d10 : decode J_M_turn.2.1 10 = .ok (.getfield 23, 3) := by decide +kernel
theorem J_M_turn_d13 : decode J_M_turn.2.1 13 = .ok (.invokevirtual 70, 3) := by decide +kernel
theorem J_M_turn_d16 : decode J_M_turn.2.1 16 = .ok (.putfield 58, 3) := by decide +kernel
theorem J_M_turn_d19 : decode J_M_turn.2.1 19 = .ok (.aload_n 0, 1) := by decide +kernel
theorem J_M_turn_d20 : decode J_M_turn.2.1 20 = .ok (.getfield 58, 3) := by decide +kernel
theorem J_M_turn_d23 : decode J_M_turn.2.1 23 = .ok (.ifCond .ne 7, 3) := by decide +kernel
theorem J_M_turn_d26 : decode J_M_turn.2.1 26 = .ok (.aload_n 0, 1) := by decide +kernel
theorem J_M_turn_d27 : decode J_M_turn.2.1 27 = .ok (.invokevirtual 203, 3) := by decide +kernel
theorem J_M_turn_d30 : decode J_M_turn.2.1 30 = .ok (.return_, 1) := by decide +kernel
theorem f_M_turn_ok {L : Nat} {xs : Nat → Int32} {dep : Nat} {w : Bool} {p0 : Int32} {M : im_M} {Q : im_M → Prop} (hM : lw_S w M) (h : ed (f_M_turn p0 M) Q) : ia (tb_G L xs) (dep + 6) J_M_turn (rwV w Q) (0, lv_args 0 [.ref 69, .int p0], [], M) := by
  have hS : im_St (tb_G L xs) (dep + 6) J_M_turn (ia (tb_G L xs) (dep + 6) J_M_turn (rwV w Q)) := ia_St
  unfold f_M_turn at h
  have l0 : im_lk (lv_args 0 [.ref 69, .int p0]) 0 = some (.ref 69) := rfl
  have l1 : im_lk (lv_args 0 [.ref 69, .int p0]) 1 = some (.int p0) := rfl
  refine iq_aload_n hS 1 J_M_turn_d0 l0 rfl ?_
  refine iq_getR hS 4 J_M_turn_d1 lf_17_23 (Or.inl ⟨_, rfl⟩) (ka_69 hM) (ra_69_4 hM) rfl ?_
  refine iq_iload_n hS 5 J_M_turn_d4 l1 rfl ?_
  obtain ⟨Q1, hQ1, h⟩ := bd1_ed h
  refine iq_cwV hS 8 J_M_turn_d5 rfl (pr_inst (vs := [_]) lc_17_217 lT_454 rfl rfl (by decide) (by decide) rfl (Nat.le_of_ble_eq_true rfl) (Nat.le_of_ble_eq_true rfl) (fun _ => Or.inl (pr_b (ka_89 hM) (by decide) rfl))) (f_MDotRows_turn_ok (dep := dep + 3) hM h) rfl ?_
  intro M1 hM1 h
  replace h := hQ1 _ h
  refine iq_aload_n hS 9 J_M_turn_d8 l0 rfl ?_
  refine iq_aload_n hS 10 J_M_turn_d9 l0 rfl ?_
  refine iq_getR hS 13 J_M_turn_d10 lf_17_23 (Or.inl ⟨_, rfl⟩) (ka_69 hM1) (ra_69_4 hM1) rfl ?_
  obtain ⟨Q2, hQ2, h⟩ := bd1_ed h
  refine iq_cpI hS 16 J_M_turn_d13 rfl (pr_inst (vs := []) lc_17_70 lT_274 rfl rfl (by decide) (by decide) rfl (Nat.le_of_ble_eq_true rfl) (Nat.le_of_ble_eq_true rfl) (fun _ => Or.inl (pr_b (ka_89 hM1) (by decide) rfl))) (f_MDotRows_thrown_ok (dep := dep + 5) hM1 h) rfl ?_
  intro x2 h
  replace h := hQ2 _ h
  refine iq_putI hS 19 J_M_turn_d16 lf_17_58 (Or.inl rfl) rfl (ka_69 hM1) rfl ?_
  refine iq_aload_n hS 20 J_M_turn_d19 l0 rfl ?_
  refine iq_getI hS 23 J_M_turn_d20 lf_17_58 (Or.inl rfl) (ka_69 (lw_sI hM1)) rfl ?_
  refine iq_if_ne hS 26 J_M_turn_d23 (t := 30) rfl (fun q23 => ?_) rfl (fun q23 => ?_)
  · replace h := ed_pos q23 h
    exact iq_ret J_M_turn_d30 rfl ⟨rfl, (lw_sI hM1), ed_some h⟩
  · replace h := ed_neg q23 h
    refine iq_aload_n hS 27 J_M_turn_d26 l0 rfl ?_
    obtain ⟨Q3, hQ3, h⟩ := bd1_ed h
    refine iq_cwV hS 30 J_M_turn_d27 rfl (pr_inst (vs := []) lc_17_203 lT_440 rfl rfl (by decide) (by decide) rfl (Nat.le_of_ble_eq_true rfl) (Nat.le_of_ble_eq_true rfl) (fun _ => Or.inl (pr_b (ka_69 (lw_sI hM1)) (by decide) rfl))) (f_M_follow_ok (dep := dep + 0) (lw_sI hM1) h) rfl ?_
    intro M3 hM3 h
    replace h := hQ3 _ h
    exact iq_ret J_M_turn_d30 rfl ⟨rfl, hM3, ed_some h⟩
theorem f_M_turn_fr {p0 : Int32} {M : im_M} {r : im_M} (h : f_M_turn p0 M = some r) : fr 2722258935371221527824853000278843064320 [(69, 0), (89, 0), (89, 1), (89, 2), (130, 0), (130, 1), (130, 2), (130, 8), (130, 10)] M r := by
  replace h : ed (f_M_turn p0 M) (fun x => x = r) := ⟨r, h, rfl⟩
  unfold f_M_turn at h
  obtain ⟨Q1, hQ1, h⟩ := bd1_ed h
  obtain ⟨M1, e1, h⟩ := h
  replace h := hQ1 _ h
  obtain ⟨Q2, hQ2, h⟩ := bd1_ed h
  obtain ⟨x2, e2, h⟩ := h
  replace h := hQ2 _ h
  by_cases q23 : ¬ (im_i (im_setI M1 69 0 x2) 69 0) = 0
  · replace h := ed_pos q23 h
    exact fr_retV h (fr_F (by decide) (fr_tr (fr_mono (by decide) (by decide +kernel) (f_MDotRows_turn_fr e1)) fr_refl))
  · replace h := ed_neg q23 h
    obtain ⟨Q3, hQ3, h⟩ := bd1_ed h
    obtain ⟨M3, e3, h⟩ := h
    replace h := hQ3 _ h
    exact fr_retV h (fr_tr (fr_mono (by decide) (by decide +kernel) (f_M_follow_fr e3)) (fr_F (by decide) (fr_tr (fr_mono (by decide) (by decide +kernel) (f_MDotRows_turn_fr e1)) fr_refl)))
noncomputable def f_M_told (p0 : Int32) (M : im_M) : Option (Int32 × im_M) := bd2 (f_MDotRows_told p0 M) fun (x1 : Int32) (M1 : im_M) => bd1 (f_MDotRows_thrown M1) fun (x2 : Int32) => some (x1, (im_setI M1 69 0 x2))
theorem J_M_told_d0 : decode J_M_told.2.1 0 = .ok (.aload_n 0, 1) := by decide +kernel
theorem J_M_told_d1 : decode J_M_told.2.1 1 = .ok (.getfield 23, 3) := by decide +kernel
theorem J_M_told_d4 : decode J_M_told.2.1 4 = .ok (.iload_n 1, 1) := by decide +kernel
theorem J_M_told_d5 : decode J_M_told.2.1 5 = .ok (.invokevirtual 184, 3) := by decide +kernel
theorem J_M_told_d8 : decode J_M_told.2.1 8 = .ok (.istore_n 2, 1) := by decide +kernel
theorem J_M_told_d9 : decode J_M_told.2.1 9 = .ok (.aload_n 0, 1) := by decide +kernel
theorem J_M_told_d10 : decode J_M_told.2.1 10 = .ok (.aload_n 0, 1) := by decide +kernel
theorem J_M_told_d11 : decode J_M_told.2.1 11 = .ok (.getfield 23, 3) := by decide +kernel
theorem J_M_told_d14 : decode J_M_told.2.1 14 = .ok (.invokevirtual 70, 3) := by decide +kernel
theorem J_M_told_d17 : decode J_M_told.2.1 17 = .ok (.putfield 58, 3) := by decide +kernel
theorem J_M_told_d20 : decode J_M_told.2.1 20 = .ok (.iload_n 2, 1) := by decide +kernel
theorem J_M_told_d21 : decode J_M_told.2.1 21 = .ok (.ireturn, 1) := by decide +kernel
theorem f_M_told_ok {L : Nat} {xs : Nat → Int32} {dep : Nat} {w : Bool} {p0 : Int32} {M : im_M} {Q : Int32 × im_M → Prop} (hM : lw_S w M) (h : ed (f_M_told p0 M) Q) : ia (tb_G L xs) (dep + 3) J_M_told (rwI w Q) (0, lv_args 0 [.ref 69, .int p0], [], M) := by
  have hS : im_St (tb_G L xs) (dep + 3) J_M_told (ia (tb_G L xs) (dep + 3) J_M_told (rwI w Q)) := ia_St
  unfold f_M_told at h
  have l0 : im_lk (lv_args 0 [.ref 69, .int p0]) 0 = some (.ref 69) := rfl
  have l1 : im_lk (lv_args 0 [.ref 69, .int p0]) 1 = some (.int p0) := rfl
  refine iq_aload_n hS 1 J_M_told_d0 l0 rfl ?_
  refine iq_getR hS 4 J_M_told_d1 lf_17_23 (Or.inl ⟨_, rfl⟩) (ka_69 hM) (ra_69_4 hM) rfl ?_
  refine iq_iload_n hS 5 J_M_told_d4 l1 rfl ?_
  obtain ⟨Q1, hQ1, h⟩ := bd2_ed h
  refine iq_cwI hS 8 J_M_told_d5 rfl (pr_inst (vs := [_]) lc_17_184 lT_441 rfl rfl (by decide) (by decide) rfl (Nat.le_of_ble_eq_true rfl) (Nat.le_of_ble_eq_true rfl) (fun _ => Or.inl (pr_b (ka_89 hM) (by decide) rfl))) (f_MDotRows_told_ok (dep := dep + 0) hM h) rfl ?_
  intro x1 M1 hM1 h
  replace h := hQ1 _ _ h
  refine iq_istore_n hS 9 J_M_told_d8 (by decide) rfl ?_
  refine iq_aload_n hS 10 J_M_told_d9 (lk_1r l0 (by decide)) rfl ?_
  refine iq_aload_n hS 11 J_M_told_d10 (lk_1r l0 (by decide)) rfl ?_
  refine iq_getR hS 14 J_M_told_d11 lf_17_23 (Or.inl ⟨_, rfl⟩) (ka_69 hM1) (ra_69_4 hM1) rfl ?_
  obtain ⟨Q2, hQ2, h⟩ := bd1_ed h
  refine iq_cpI hS 17 J_M_told_d14 rfl (pr_inst (vs := []) lc_17_70 lT_274 rfl rfl (by decide) (by decide) rfl (Nat.le_of_ble_eq_true rfl) (Nat.le_of_ble_eq_true rfl) (fun _ => Or.inl (pr_b (ka_89 hM1) (by decide) rfl))) (f_MDotRows_thrown_ok (dep := dep + 2) hM1 h) rfl ?_
  intro x2 h
  replace h := hQ2 _ h
  refine iq_putI hS 20 J_M_told_d17 lf_17_58 (Or.inl rfl) rfl (ka_69 hM1) rfl ?_
  refine iq_iload_n hS 21 J_M_told_d20 lk_1s rfl ?_
  exact iq_iret J_M_told_d21 rfl rfl ⟨_, rfl, (lw_sI hM1), ed_some h⟩
theorem f_M_told_fr {p0 : Int32} {M : im_M} {r : Int32 × im_M} (h : f_M_told p0 M = some r) : fr 0 [(69, 0), (89, 0)] M r.2 := by
  replace h : ed (f_M_told p0 M) (fun x => x = r) := ⟨r, h, rfl⟩
  unfold f_M_told at h
  obtain ⟨Q1, hQ1, h⟩ := bd2_ed h
  obtain ⟨⟨x1, M1⟩, e1, h⟩ := h
  replace h := hQ1 _ _ h
  obtain ⟨Q2, hQ2, h⟩ := bd1_ed h
  obtain ⟨x2, e2, h⟩ := h
  replace h := hQ2 _ h
  exact fr_ret h (fr_F (by decide) (fr_tr (fr_mono (by decide) (by decide +kernel) (f_MDotRows_told_fr e1)) fr_refl))
noncomputable def f_M_dots (p0 : Int32) (p1 : Int32) (M : im_M) : Option (Int64 × im_M) := bd2 (f_M_row p0 p1 (im_setI M 69 0 0)) fun (x1 : Int64) (M1 : im_M) => some (x1, M1)
theorem J_M_dots_d0 : decode J_M_dots.2.1 0 = .ok (.aload_n 0, 1) := by decide +kernel
theorem J_M_dots_d1 : decode J_M_dots.2.1 1 = .ok (.iconst 0, 1) := by decide +kernel
theorem J_M_dots_d2 : decode J_M_dots.2.1 2 = .ok (.putfield 58, 3) := by decide +kernel
theorem J_M_dots_d5 : decode J_M_dots.2.1 5 = .ok (.aload_n 0, 1) := by decide +kernel
theorem J_M_dots_d6 : decode J_M_dots.2.1 6 = .ok (.iload_n 1, 1) := by decide +kernel
theorem J_M_dots_d7 : decode J_M_dots.2.1 7 = .ok (.iload_n 2, 1) := by decide +kernel
theorem J_M_dots_d8 : decode J_M_dots.2.1 8 = .ok (.invokevirtual 191, 3) := by decide +kernel
theorem J_M_dots_d11 : decode J_M_dots.2.1 11 = .ok (.lreturn, 1) := by decide +kernel
theorem f_M_dots_ok {L : Nat} {xs : Nat → Int32} {dep : Nat} {w : Bool} {p0 : Int32} {p1 : Int32} {M : im_M} {Q : Int64 × im_M → Prop} (hM : lw_S w M) (h : ed (f_M_dots p0 p1 M) Q) : ia (tb_G L xs) (dep + 5) J_M_dots (rwL w Q) (0, lv_args 0 [.ref 69, .int p0, .int p1], [], M) := by
  have hS : im_St (tb_G L xs) (dep + 5) J_M_dots (ia (tb_G L xs) (dep + 5) J_M_dots (rwL w Q)) := ia_St
  unfold f_M_dots at h
  have l0 : im_lk (lv_args 0 [.ref 69, .int p0, .int p1]) 0 = some (.ref 69) := rfl
  have l1 : im_lk (lv_args 0 [.ref 69, .int p0, .int p1]) 1 = some (.int p0) := rfl
  have l2 : im_lk (lv_args 0 [.ref 69, .int p0, .int p1]) 2 = some (.int p1) := rfl
  refine iq_aload_n hS 1 J_M_dots_d0 l0 rfl ?_
  refine iq_iconst hS 2 J_M_dots_d1 (v := 0) (by decide +kernel) rfl ?_
  refine iq_putI hS 5 J_M_dots_d2 lf_17_58 (Or.inl rfl) rfl (ka_69 hM) rfl ?_
  refine iq_aload_n hS 6 J_M_dots_d5 l0 rfl ?_
  refine iq_iload_n hS 7 J_M_dots_d6 l1 rfl ?_
  refine iq_iload_n hS 8 J_M_dots_d7 l2 rfl ?_
  obtain ⟨Q1, hQ1, h⟩ := bd2_ed h
  refine iq_cwL hS 11 J_M_dots_d8 rfl (pr_inst (vs := [_, _]) lc_17_191 lT_444 rfl rfl (by decide) (by decide) rfl (Nat.le_of_ble_eq_true rfl) (Nat.le_of_ble_eq_true rfl) (fun _ => Or.inl (pr_b (ka_69 (lw_sI hM)) (by decide) rfl))) (f_M_row_ok (dep := dep + 0) (lw_sI hM) h) rfl ?_
  intro x1 M1 hM1 h
  replace h := hQ1 _ _ h
  exact iq_lret J_M_dots_d11 rfl ⟨_, rfl, hM1, ed_some h⟩
theorem f_M_dots_fr {p0 : Int32} {p1 : Int32} {M : im_M} {r : Int64 × im_M} (h : f_M_dots p0 p1 M = some r) : fr 0 [(69, 0), (89, 0)] M r.2 := by
  replace h : ed (f_M_dots p0 p1 M) (fun x => x = r) := ⟨r, h, rfl⟩
  unfold f_M_dots at h
  obtain ⟨Q1, hQ1, h⟩ := bd2_ed h
  obtain ⟨⟨x1, M1⟩, e1, h⟩ := h
  replace h := hQ1 _ _ h
  exact fr_ret h (fr_tr (fr_mono (by decide) (by decide +kernel) (f_M_row_fr e1)) (fr_F (by decide) fr_refl))
noncomputable def f_MDotRows_run_L72 (v13 : Int32) (v14 : Int32) (v15 : Int32) (v16 : Int32) (v17 : Int32) (M21 : im_M) (x18 : Int32) (x19 : Int32) (x20 : Int32) : Option ((Int32 × Int32 × Int32) ⊕ (Int32)) := bd1 (f_MDotRows_isOn (v13 + (x20 * v16)) (v14 + (x20 * v17)) M21) fun (x22 : Int32) => if x22 = 0 then some (.inr x19) else bd1 (f_MDotRows_isDark (v13 + (x20 * v16)) (v14 + (x20 * v17)) M21) fun (x23 : Int32) => bd1 (if x20 ≤ 0 then some x18 else bd1 (f_MDotRows_isDark (v13 + ((x20 - 1) * v16)) (v14 + ((x20 - 1) * v17)) M21) fun (x25 : Int32) => if x23 = x25 then some x18 else some (x18 + 1)) fun (y26 : Int32) => some (.inl (y26, (x19 + ((if ¬ y26 = v15 then 0 else 1) : Int32)), (x20 + 1)))
noncomputable def f_MDotRows_run (p0 : Int32) (p1 : Int32) (p2 : Int32) (p3 : Int32) (M : im_M) : Option (Int32 × im_M) := bd1 (f_MDotRows_noPlace p0 p1 M) fun (x1 : Int32) => bd1 (if x1 = 0 then bd1 (f_MDotRows_isOn p0 p1 M) fun (x3 : Int32) => if x3 = 0 then some 2 else some 0 else some 1) fun (y4 : Int32) => if (im_i (im_setI M 89 0 y4) 89 0) ≤ 0 then bd1 (lp (uc3 (f_MDotRows_run_L72 p0 p1 p2 ((if p3 = 0 then 1 else 0) : Int32) ((if p3 = 0 then 0 else 1) : Int32) (im_setI M 89 0 y4))) (0, 0, 0)) fun (y37 : Int32) => if ¬ y37 = 0 then some (y37, (im_setI M 89 0 y4)) else some ((-1), (im_setI M 89 0 y4)) else some (0, (im_setI M 89 0 y4))
theorem J_MDotRows_run_d0 : decode J_MDotRows_run.2.1 0 = .ok (.aload_n 0, 1) := by decide +kernel
theorem J_MDotRows_run_d1 : decode J_MDotRows_run.2.1 1 = .ok (.iload_n 1, 1) := by decide +kernel
theorem J_MDotRows_run_d2 : decode J_MDotRows_run.2.1 2 = .ok (.iload_n 2, 1) := by decide +kernel
theorem J_MDotRows_run_d3 : decode J_MDotRows_run.2.1 3 = .ok (.invokestatic 124, 3) := by decide +kernel
theorem J_MDotRows_run_d6 : decode J_MDotRows_run.2.1 6 = .ok (.ifCond .eq 7, 3) := by decide +kernel
theorem J_MDotRows_run_d9 : decode J_MDotRows_run.2.1 9 = .ok (.iconst 1, 1) := by decide +kernel
theorem J_MDotRows_run_d10 : decode J_MDotRows_run.2.1 10 = .ok (.goto 17, 3) := by decide +kernel
theorem J_MDotRows_run_d13 : decode J_MDotRows_run.2.1 13 = .ok (.aload_n 0, 1) := by decide +kernel
theorem J_MDotRows_run_d14 : decode J_MDotRows_run.2.1 14 = .ok (.iload_n 1, 1) := by decide +kernel
theorem J_MDotRows_run_d15 : decode J_MDotRows_run.2.1 15 = .ok (.iload_n 2, 1) := by decide +kernel
theorem J_MDotRows_run_d16 : decode J_MDotRows_run.2.1 16 = .ok (.invokevirtual 40, 3) := by decide +kernel
theorem J_MDotRows_run_d19 : decode J_MDotRows_run.2.1 19 = .ok (.ifCond .eq 7, 3) := by decide +kernel
theorem J_MDotRows_run_d22 : decode J_MDotRows_run.2.1 22 = .ok (.iconst 0, 1) := by decide +kernel
theorem J_MDotRows_run_d23 : decode J_MDotRows_run.2.1 23 = .ok (.goto 4, 3) := by decide +kernel
theorem J_MDotRows_run_d26 : decode J_MDotRows_run.2.1 26 = .ok (.iconst 2, 1) := by decide +kernel
theorem J_MDotRows_run_d27 : decode J_MDotRows_run.2.1 27 = .ok (.putfield 37, 3) := by decide +kernel
theorem J_MDotRows_run_d30 : decode J_MDotRows_run.2.1 30 = .ok (.aload_n 0, 1) := by decide +kernel
theorem J_MDotRows_run_d31 : decode J_MDotRows_run.2.1 31 = .ok (.getfield 37, 3) := by decide +kernel
theorem J_MDotRows_run_d34 : decode J_MDotRows_run.2.1 34 = .ok (.ifCond .le 5, 3) := by decide +kernel
theorem J_MDotRows_run_d37 : decode J_MDotRows_run.2.1 37 = .ok (.iconst 0, 1) := by decide +kernel
theorem J_MDotRows_run_d38 : decode J_MDotRows_run.2.1 38 = .ok (.ireturn, 1) := by decide +kernel
theorem J_MDotRows_run_d39 : decode J_MDotRows_run.2.1 39 = .ok (.iload 4, 2) := by decide +kernel
theorem J_MDotRows_run_d41 : decode J_MDotRows_run.2.1 41 = .ok (.ifCond .eq 7, 3) := by decide +kernel
theorem J_MDotRows_run_d44 : decode J_MDotRows_run.2.1 44 = .ok (.iconst 0, 1) := by decide +kernel
theorem J_MDotRows_run_d45 : decode J_MDotRows_run.2.1 45 = .ok (.goto 4, 3) := by decide +kernel
theorem J_MDotRows_run_d48 : decode J_MDotRows_run.2.1 48 = .ok (.iconst 1, 1) := by decide +kernel
theorem J_MDotRows_run_d49 : decode J_MDotRows_run.2.1 49 = .ok (.istore 5, 2) := by decide +kernel
theorem J_MDotRows_run_d51 : decode J_MDotRows_run.2.1 51 = .ok (.iload 4, 2) := by decide +kernel
theorem J_MDotRows_run_d53 : decode J_MDotRows_run.2.1 53 = .ok (.ifCond .eq 7, 3) := by decide +kernel
theorem J_MDotRows_run_d56 : decode J_MDotRows_run.2.1 56 = .ok (.iconst 1, 1) := by decide +kernel
theorem J_MDotRows_run_d57 : decode J_MDotRows_run.2.1 57 = .ok (.goto 4, 3) := by decide +kernel
theorem J_MDotRows_run_d60 : decode J_MDotRows_run.2.1 60 = .ok (.iconst 0, 1) := by decide +kernel
theorem J_MDotRows_run_d61 : decode J_MDotRows_run.2.1 61 = .ok (.istore 6, 2) := by decide +kernel
theorem J_MDotRows_run_d63 : decode J_MDotRows_run.2.1 63 = .ok (.iconst 0, 1) := by decide +kernel
theorem J_MDotRows_run_d64 : decode J_MDotRows_run.2.1 64 = .ok (.istore 7, 2) := by decide +kernel
theorem J_MDotRows_run_d66 : decode J_MDotRows_run.2.1 66 = .ok (.iconst 0, 1) := by decide +kernel
theorem J_MDotRows_run_d67 : decode J_MDotRows_run.2.1 67 = .ok (.istore 8, 2) := by decide +kernel
theorem J_MDotRows_run_d69 : decode J_MDotRows_run.2.1 69 = .ok (.iconst 0, 1) := by decide +kernel
theorem J_MDotRows_run_d70 : decode J_MDotRows_run.2.1 70 = .ok (.istore 9, 2) := by decide +kernel
theorem J_MDotRows_run_d72 : decode J_MDotRows_run.2.1 72 = .ok (.aload_n 0, 1) := by decide +kernel
theorem J_MDotRows_run_d73 : decode J_MDotRows_run.2.1 73 = .ok (.iload_n 1, 1) := by decide +kernel
theorem J_MDotRows_run_d74 : decode J_MDotRows_run.2.1 74 = .ok (.iload 9, 2) := by decide +kernel
theorem J_MDotRows_run_d76 : decode J_MDotRows_run.2.1 76 = .ok (.iload 5, 2) := by decide +kernel
theorem J_MDotRows_run_d78 : decode J_MDotRows_run.2.1 78 = .ok (.imul, 1) := by decide +kernel
theorem J_MDotRows_run_d79 : decode J_MDotRows_run.2.1 79 = .ok (.iadd, 1) := by decide +kernel
theorem J_MDotRows_run_d80 : decode J_MDotRows_run.2.1 80 = .ok (.iload_n 2, 1) := by decide +kernel
theorem J_MDotRows_run_d81 : decode J_MDotRows_run.2.1 81 = .ok (.iload 9, 2) := by decide +kernel
theorem J_MDotRows_run_d83 : decode J_MDotRows_run.2.1 83 = .ok (.iload 6, 2) := by decide +kernel
theorem J_MDotRows_run_d85 : decode J_MDotRows_run.2.1 85 = .ok (.imul, 1) := by decide +kernel
theorem J_MDotRows_run_d86 : decode J_MDotRows_run.2.1 86 = .ok (.iadd, 1) := by decide +kernel
theorem J_MDotRows_run_d87 : decode J_MDotRows_run.2.1 87 = .ok (.invokevirtual 40, 3) := by decide +kernel
theorem J_MDotRows_run_d90 : decode J_MDotRows_run.2.1 90 = .ok (.ifCond .eq 80, 3) := by decide +kernel
theorem J_MDotRows_run_d93 : decode J_MDotRows_run.2.1 93 = .ok (.aload_n 0, 1) := by decide +kernel
theorem J_MDotRows_run_d94 : decode J_MDotRows_run.2.1 94 = .ok (.iload_n 1, 1) := by decide +kernel
theorem J_MDotRows_run_d95 : decode J_MDotRows_run.2.1 95 = .ok (.iload 9, 2) := by decide +kernel
theorem J_MDotRows_run_d97 : decode J_MDotRows_run.2.1 97 = .ok (.iload 5, 2) := by decide +kernel
theorem J_MDotRows_run_d99 : decode J_MDotRows_run.2.1 99 = .ok (.imul, 1) := by decide +kernel
theorem J_MDotRows_run_d100 : decode J_MDotRows_run.2.1 100 = .ok (.iadd, 1) := by decide +kernel
theorem J_MDotRows_run_d101 : decode J_MDotRows_run.2.1 101 = .ok (.iload_n 2, 1) := by decide +kernel
theorem J_MDotRows_run_d102 : decode J_MDotRows_run.2.1 102 = .ok (.iload 9, 2) := by decide +kernel
theorem J_MDotRows_run_d104 : decode J_MDotRows_run.2.1 104 = .ok (.iload 6, 2) := by decide +kernel
theorem J_MDotRows_run_d106 : decode J_MDotRows_run.2.1 106 = .ok (.imul, 1) := by decide +kernel
theorem J_MDotRows_run_d107 : decode J_MDotRows_run.2.1 107 = .ok (.iadd, 1) := by decide +kernel
theorem J_MDotRows_run_d108 : decode J_MDotRows_run.2.1 108 = .ok (.invokevirtual 114, 3) := by decide +kernel
theorem J_MDotRows_run_d111 : decode J_MDotRows_run.2.1 111 = .ok (.istore 10, 2) := by decide +kernel
theorem J_MDotRows_run_d113 : decode J_MDotRows_run.2.1 113 = .ok (.iload 9, 2) := by decide +kernel
theorem J_MDotRows_run_d115 : decode J_MDotRows_run.2.1 115 = .ok (.ifCond .le 33, 3) := by decide +kernel
theorem J_MDotRows_run_d118 : decode J_MDotRows_run.2.1 118 = .ok (.iload 10, 2) := by decide +kernel
theorem J_MDotRows_run_d120 : decode J_MDotRows_run.2.1 120 = .ok (.aload_n 0, 1) := by decide +kernel
theorem J_MDotRows_run_d121 : decode J_MDotRows_run.2.1 121 = .ok (.iload_n 1, 1) := by decide +kernel
theorem J_MDotRows_run_d122 : decode J_MDotRows_run.2.1 122 = .ok (.iload 9, 2) := by decide +kernel
theorem J_MDotRows_run_d124 : decode J_MDotRows_run.2.1 124 = .ok (.iconst 1, 1) := by decide +kernel
theorem J_MDotRows_run_d125 : decode J_MDotRows_run.2.1 125 = .ok (.isub, 1) := by decide +kernel
theorem J_MDotRows_run_d126 : decode J_MDotRows_run.2.1 126 = .ok (.iload 5, 2) := by decide +kernel
theorem J_MDotRows_run_d128 : decode J_MDotRows_run.2.1 128 = .ok (.imul, 1) := by decide +kernel
theorem J_MDotRows_run_d129 : decode J_MDotRows_run.2.1 129 = .ok (.iadd, 1) := by decide +kernel
theorem J_MDotRows_run_d130 : decode J_MDotRows_run.2.1 130 = .ok (.iload_n 2, 1) := by decide +kernel
theorem J_MDotRows_run_d131 : decode J_MDotRows_run.2.1 131 = .ok (.iload 9, 2) := by decide +kernel
theorem J_MDotRows_run_d133 : decode J_MDotRows_run.2.1 133 = .ok (.iconst 1, 1) := by decide +kernel
theorem J_MDotRows_run_d134 : decode J_MDotRows_run.2.1 134 = .ok (.isub, 1) := by decide +kernel
theorem J_MDotRows_run_d135 : decode J_MDotRows_run.2.1 135 = .ok (.iload 6, 2) := by decide +kernel
theorem J_MDotRows_run_d137 : decode J_MDotRows_run.2.1 137 = .ok (.imul, 1) := by decide +kernel
theorem J_MDotRows_run_d138 : decode J_MDotRows_run.2.1 138 = .ok (.iadd, 1) := by decide +kernel
theorem J_MDotRows_run_d139 : decode J_MDotRows_run.2.1 139 = .ok (.invokevirtual 114, 3) := by decide +kernel
theorem J_MDotRows_run_d142 : decode J_MDotRows_run.2.1 142 = .ok (.if_icmp .eq 6, 3) := by decide +kernel
theorem J_MDotRows_run_d145 : decode J_MDotRows_run.2.1 145 = .ok (.iinc 7 1, 3) := by decide +kernel
theorem J_MDotRows_run_d148 : decode J_MDotRows_run.2.1 148 = .ok (.iload 8, 2) := by decide +kernel
theorem J_MDotRows_run_d150 : decode J_MDotRows_run.2.1 150 = .ok (.iload 7, 2) := by decide +kernel
theorem J_MDotRows_run_d152 : decode J_MDotRows_run.2.1 152 = .ok (.iload_n 3, 1) := by decide +kernel
theorem J_MDotRows_run_d153 : decode J_MDotRows_run.2.1 153 = .ok (.if_icmp .ne 7, 3) := by decide +kernel
theorem J_MDotRows_run_d156 : decode J_MDotRows_run.2.1 156 = .ok (.iconst 1, 1) := by decide +kernel
theorem J_MDotRows_run_d157 : decode J_MDotRows_run.2.1 157 = .ok (.goto 4, 3) := by decide +kernel
theorem J_MDotRows_run_d160 : decode J_MDotRows_run.2.1 160 = .ok (.iconst 0, 1) := by decide +kernel
theorem J_MDotRows_run_d161 : decode J_MDotRows_run.2.1 161 = .ok (.iadd, 1) := by decide +kernel
theorem J_MDotRows_run_d162 : decode J_MDotRows_run.2.1 162 = .ok (.istore 8, 2) := by decide +kernel
theorem J_MDotRows_run_d164 : decode J_MDotRows_run.2.1 164 = .ok (.iinc 9 1, 3) := by decide +kernel
theorem J_MDotRows_run_d167 : decode J_MDotRows_run.2.1 167 = .ok (.goto (-95), 3) := by decide +kernel
theorem J_MDotRows_run_d170 : decode J_MDotRows_run.2.1 170 = .ok (.iload 8, 2) := by decide +kernel
theorem J_MDotRows_run_d172 : decode J_MDotRows_run.2.1 172 = .ok (.ifCond .ne 7, 3) := by decide +kernel
theorem J_MDotRows_run_d175 : decode J_MDotRows_run.2.1 175 = .ok (.iconst (-1), 1) := by decide +kernel
theorem J_MDotRows_run_d176 : decode J_MDotRows_run.2.1 176 = .ok (.goto 5, 3) := by decide +kernel
theorem J_MDotRows_run_d179 : decode J_MDotRows_run.2.1 179 = .ok (.iload 8, 2) := by decide +kernel
theorem J_MDotRows_run_d181 : decode J_MDotRows_run.2.1 181 = .ok (.ireturn, 1) := by decide +kernel
theorem f_MDotRows_run_ok {L : Nat} {xs : Nat → Int32} {dep : Nat} {w : Bool} {p0 : Int32} {p1 : Int32} {p2 : Int32} {p3 : Int32} {M : im_M} {Q : Int32 × im_M → Prop} (hM : lw_S w M) (h : ed (f_MDotRows_run p0 p1 p2 p3 M) Q) : ia (tb_G L xs) (dep + 2) J_MDotRows_run (rwI w Q) (0, lv_args 0 [.ref 89, .int p0, .int p1, .int p2, .int p3], [], M) := by
  have hS : im_St (tb_G L xs) (dep + 2) J_MDotRows_run (ia (tb_G L xs) (dep + 2) J_MDotRows_run (rwI w Q)) := ia_St
  unfold f_MDotRows_run at h
  have l0 : im_lk (lv_args 0 [.ref 89, .int p0, .int p1, .int p2, .int p3]) 0 = some (.ref 89) := rfl
  have l1 : im_lk (lv_args 0 [.ref 89, .int p0, .int p1, .int p2, .int p3]) 1 = some (.int p0) := rfl
  have l2 : im_lk (lv_args 0 [.ref 89, .int p0, .int p1, .int p2, .int p3]) 2 = some (.int p1) := rfl
  have l3 : im_lk (lv_args 0 [.ref 89, .int p0, .int p1, .int p2, .int p3]) 3 = some (.int p2) := rfl
  have l4 : im_lk (lv_args 0 [.ref 89, .int p0, .int p1, .int p2, .int p3]) 4 = some (.int p3) := rfl
  refine iq_aload_n hS 1 J_MDotRows_run_d0 l0 rfl ?_
  refine iq_iload_n hS 2 J_MDotRows_run_d1 l1 rfl ?_
  refine iq_iload_n hS 3 J_MDotRows_run_d2 l2 rfl ?_
  obtain ⟨Q1, hQ1, h⟩ := bd1_ed h
  refine iq_cpI hS 6 J_MDotRows_run_d3 rfl (pr_stat (vs := [_, _]) lc_12_124 lT_340 rfl rfl (by decide) rfl (Nat.le_of_ble_eq_true rfl) (Nat.le_of_ble_eq_true rfl)) (f_MDotRows_noPlace_ok (dep := dep + 1) hM h) rfl ?_
  intro x1 h
  replace h := hQ1 _ h
  obtain ⟨Q2, hQ2, h⟩ := bd1_ed h
  have J2 : ∀ (y4 : Int32) (L' : List (Nat × Value)), im_lk L' 0 = some (.ref 89) → im_lk L' 1 = some (.int p0) → im_lk L' 2 = some (.int p1) → im_lk L' 3 = some (.int p2) → im_lk L' 4 = some (.int p3) → Q2 y4 → ia (tb_G L xs) (dep + 2) J_MDotRows_run (rwI w Q) (27, L', [.int y4, .ref 89], M) := by
    intro y4 L' l5 l6 l7 l8 l9 h
    replace h := hQ2 _ h
    refine iq_putI hS 30 J_MDotRows_run_d27 lf_12_37 (Or.inl rfl) rfl (ka_89 hM) rfl ?_
    refine iq_aload_n hS 31 J_MDotRows_run_d30 l5 rfl ?_
    refine iq_getI hS 34 J_MDotRows_run_d31 lf_12_37 (Or.inl rfl) (ka_89 (lw_sI hM)) rfl ?_
    refine iq_if_le hS 37 J_MDotRows_run_d34 (t := 39) rfl (fun q34 => ?_) rfl (fun q34 => ?_)
    · replace h := ed_pos q34 h
      refine iq_iload hS 41 J_MDotRows_run_d39 l9 rfl ?_
      have J10 : ∀ (z11 : Int32) (L' : List (Nat × Value)), z11 = ((if p3 = 0 then 1 else 0) : Int32) → im_lk L' 0 = some (.ref 89) → im_lk L' 1 = some (.int p0) → im_lk L' 2 = some (.int p1) → im_lk L' 3 = some (.int p2) → im_lk L' 4 = some (.int p3) → ia (tb_G L xs) (dep + 2) J_MDotRows_run (rwI w Q) (49, L', [.int z11], (im_setI M 89 0 y4)) := by
        intro z11 L' e12 l13 l14 l15 l16 l17
        subst e12
        refine iq_istore hS 51 J_MDotRows_run_d49 (by decide) rfl ?_
        refine iq_iload hS 53 J_MDotRows_run_d51 (lk_1i l17 (by decide)) rfl ?_
        have J18 : ∀ (z19 : Int32) (L' : List (Nat × Value)), z19 = ((if p3 = 0 then 0 else 1) : Int32) → im_lk L' 0 = some (.ref 89) → im_lk L' 1 = some (.int p0) → im_lk L' 2 = some (.int p1) → im_lk L' 3 = some (.int p2) → im_lk L' 5 = some (.int ((if p3 = 0 then 1 else 0) : Int32)) → ia (tb_G L xs) (dep + 2) J_MDotRows_run (rwI w Q) (61, L', [.int z19], (im_setI M 89 0 y4)) := by
          intro z19 L' e20 l21 l22 l23 l24 l25
          subst e20
          refine iq_istore hS 63 J_MDotRows_run_d61 (by decide) rfl ?_
          refine iq_iconst hS 64 J_MDotRows_run_d63 (v := 0) (by decide +kernel) rfl ?_
          refine iq_istore hS 66 J_MDotRows_run_d64 (by decide) rfl ?_
          refine iq_iconst hS 67 J_MDotRows_run_d66 (v := 0) (by decide +kernel) rfl ?_
          refine iq_istore hS 69 J_MDotRows_run_d67 (by decide) rfl ?_
          refine iq_iconst hS 70 J_MDotRows_run_d69 (v := 0) (by decide +kernel) rfl ?_
          refine iq_istore hS 72 J_MDotRows_run_d70 (by decide) rfl ?_
          obtain ⟨Q26, hQ26, h⟩ := bd1_ed h
          have K26 : ∀ (y27 : Int32) (L' : List (Nat × Value)), im_lk L' 8 = some (.int y27) → Q26 y27 → ia (tb_G L xs) (dep + 2) J_MDotRows_run (rwI w Q) (170, L', [], (im_setI M 89 0 y4)) := by
            intro y27 L' l28 h
            replace h := hQ26 _ h
            refine iq_iload hS 172 J_MDotRows_run_d170 l28 rfl ?_
            refine iq_if_ne hS 175 J_MDotRows_run_d172 (t := 179) rfl (fun q172 => ?_) rfl (fun q172 => ?_)
            · replace h := ed_pos q172 h
              refine iq_iload hS 181 J_MDotRows_run_d179 l28 rfl ?_
              exact iq_iret J_MDotRows_run_d181 rfl rfl ⟨_, rfl, (lw_sI hM), ed_some h⟩
            · replace h := ed_neg q172 h
              refine iq_iconst hS 176 J_MDotRows_run_d175 (v := (-1)) (by decide +kernel) rfl ?_
              refine iq_goto hS J_MDotRows_run_d176 (t := 181) rfl ?_
              exact iq_iret J_MDotRows_run_d181 rfl rfl ⟨_, rfl, (lw_sI hM), ed_some h⟩
          obtain ⟨r26, hr26, hq26⟩ := h
          obtain ⟨n26, hn26⟩ := lp_n hr26
          have I26 : ∀ (n : Nat) (x29 : Int32) (x30 : Int32) (x31 : Int32) (L' : List (Nat × Value)), im_lk L' 0 = some (.ref 89) → im_lk L' 1 = some (.int p0) → im_lk L' 2 = some (.int p1) → im_lk L' 3 = some (.int p2) → im_lk L' 5 = some (.int ((if p3 = 0 then 1 else 0) : Int32)) → im_lk L' 6 = some (.int ((if p3 = 0 then 0 else 1) : Int32)) → im_lk L' 7 = some (.int x29) → im_lk L' 8 = some (.int x30) → im_lk L' 9 = some (.int x31) → lpn (uc3 (f_MDotRows_run_L72 p0 p1 p2 ((if p3 = 0 then 1 else 0) : Int32) ((if p3 = 0 then 0 else 1) : Int32) (im_setI M 89 0 y4))) n (x29, x30, x31) = some r26 → ia (tb_G L xs) (dep + 2) J_MDotRows_run (rwI w Q) (72, L', [], (im_setI M 89 0 y4)) := by
            intro n
            induction n with
            | zero => intro x29 x30 x31 L' l32 l33 l34 l35 l36 l37 l38 l39 l40 hn; exact (lpn_0 hn).elim
            | succ n ih =>
              intro x29 x30 x31 L' l32 l33 l34 l35 l36 l37 l38 l39 l40 hn
              have h := lpn_ed3 hn
              unfold f_MDotRows_run_L72 at h
              refine iq_aload_n hS 73 J_MDotRows_run_d72 l32 rfl ?_
              refine iq_iload_n hS 74 J_MDotRows_run_d73 l33 rfl ?_
              refine iq_iload hS 76 J_MDotRows_run_d74 l40 rfl ?_
              refine iq_iload hS 78 J_MDotRows_run_d76 l36 rfl ?_
              refine iq_imul hS 79 J_MDotRows_run_d78 rfl ?_
              refine iq_iadd hS 80 J_MDotRows_run_d79 rfl ?_
              refine iq_iload_n hS 81 J_MDotRows_run_d80 l34 rfl ?_
              refine iq_iload hS 83 J_MDotRows_run_d81 l40 rfl ?_
              refine iq_iload hS 85 J_MDotRows_run_d83 l37 rfl ?_
              refine iq_imul hS 86 J_MDotRows_run_d85 rfl ?_
              refine iq_iadd hS 87 J_MDotRows_run_d86 rfl ?_
              obtain ⟨Q41, hQ41, h⟩ := bd1_ed h
              refine iq_cpI hS 90 J_MDotRows_run_d87 rfl (pr_inst (vs := [_, _]) lc_12_40 lT_355 rfl rfl (by decide) (by decide) rfl (Nat.le_of_ble_eq_true rfl) (Nat.le_of_ble_eq_true rfl) (fun _ => Or.inl (pr_b (ka_89 (lw_sI hM)) (by decide) rfl))) (f_MDotRows_isOn_ok (dep := dep + 1) (lw_sI hM) h) rfl ?_
              intro x41 h
              replace h := hQ41 _ h
              refine iq_if_eq hS 93 J_MDotRows_run_d90 (t := 170) rfl (fun q90 => ?_) rfl (fun q90 => ?_)
              · replace h := ed_pos q90 h
                exact K26 _ _ l39 (lq_r h hq26)
              · replace h := ed_neg q90 h
                refine iq_aload_n hS 94 J_MDotRows_run_d93 l32 rfl ?_
                refine iq_iload_n hS 95 J_MDotRows_run_d94 l33 rfl ?_
                refine iq_iload hS 97 J_MDotRows_run_d95 l40 rfl ?_
                refine iq_iload hS 99 J_MDotRows_run_d97 l36 rfl ?_
                refine iq_imul hS 100 J_MDotRows_run_d99 rfl ?_
                refine iq_iadd hS 101 J_MDotRows_run_d100 rfl ?_
                refine iq_iload_n hS 102 J_MDotRows_run_d101 l34 rfl ?_
                refine iq_iload hS 104 J_MDotRows_run_d102 l40 rfl ?_
                refine iq_iload hS 106 J_MDotRows_run_d104 l37 rfl ?_
                refine iq_imul hS 107 J_MDotRows_run_d106 rfl ?_
                refine iq_iadd hS 108 J_MDotRows_run_d107 rfl ?_
                obtain ⟨Q42, hQ42, h⟩ := bd1_ed h
                refine iq_cpI hS 111 J_MDotRows_run_d108 rfl (pr_inst (vs := [_, _]) lc_12_114 lT_354 rfl rfl (by decide) (by decide) rfl (Nat.le_of_ble_eq_true rfl) (Nat.le_of_ble_eq_true rfl) (fun _ => Or.inl (pr_b (ka_89 (lw_sI hM)) (by decide) rfl))) (f_MDotRows_isDark_ok (dep := dep + 0) (lw_sI hM) h) rfl ?_
                intro x42 h
                replace h := hQ42 _ h
                refine iq_istore hS 113 J_MDotRows_run_d111 (by decide) rfl ?_
                refine iq_iload hS 115 J_MDotRows_run_d113 (lk_1i l40 (by decide)) rfl ?_
                obtain ⟨Q43, hQ43, h⟩ := bd1_ed h
                have J43 : ∀ (y45 : Int32) (L' : List (Nat × Value)), im_lk L' 0 = some (.ref 89) → im_lk L' 1 = some (.int p0) → im_lk L' 2 = some (.int p1) → im_lk L' 3 = some (.int p2) → im_lk L' 5 = some (.int ((if p3 = 0 then 1 else 0) : Int32)) → im_lk L' 6 = some (.int ((if p3 = 0 then 0 else 1) : Int32)) → im_lk L' 7 = some (.int y45) → im_lk L' 8 = some (.int x30) → im_lk L' 9 = some (.int x31) → Q43 y45 → ia (tb_G L xs) (dep + 2) J_MDotRows_run (rwI w Q) (148, L', [], (im_setI M 89 0 y4)) := by
                  intro y45 L' l46 l47 l48 l49 l50 l51 l52 l53 l54 h
                  replace h := hQ43 _ h
                  refine iq_iload hS 150 J_MDotRows_run_d148 l53 rfl ?_
                  refine iq_iload hS 152 J_MDotRows_run_d150 l52 rfl ?_
                  refine iq_iload_n hS 153 J_MDotRows_run_d152 l49 rfl ?_
                  have J55 : ∀ (z56 : Int32) (L' : List (Nat × Value)), z56 = ((if ¬ y45 = p2 then 0 else 1) : Int32) → im_lk L' 0 = some (.ref 89) → im_lk L' 1 = some (.int p0) → im_lk L' 2 = some (.int p1) → im_lk L' 3 = some (.int p2) → im_lk L' 5 = some (.int ((if p3 = 0 then 1 else 0) : Int32)) → im_lk L' 6 = some (.int ((if p3 = 0 then 0 else 1) : Int32)) → im_lk L' 7 = some (.int y45) → im_lk L' 9 = some (.int x31) → ia (tb_G L xs) (dep + 2) J_MDotRows_run (rwI w Q) (161, L', [.int z56, .int x30], (im_setI M 89 0 y4)) := by
                    intro z56 L' e57 l58 l59 l60 l61 l62 l63 l64 l65
                    subst e57
                    refine iq_iadd hS 162 J_MDotRows_run_d161 rfl ?_
                    refine iq_istore hS 164 J_MDotRows_run_d162 (by decide) rfl ?_
                    refine iq_iincv hS 167 J_MDotRows_run_d164 (c := 1) (by decide +kernel) (lk_1i l65 (by decide)) (by decide) rfl ?_
                    refine iq_goto hS J_MDotRows_run_d167 (t := 72) rfl ?_
                    exact ih _ _ _ _ (lk_1r (lk_1r l58 (by decide)) (by decide)) (lk_1i (lk_1i l59 (by decide)) (by decide)) (lk_1i (lk_1i l60 (by decide)) (by decide)) (lk_1i (lk_1i l61 (by decide)) (by decide)) (lk_1i (lk_1i l62 (by decide)) (by decide)) (lk_1i (lk_1i l63 (by decide)) (by decide)) (lk_1i (lk_1i l64 (by decide)) (by decide)) (lk_1i lk_1s (by decide)) lk_1s (lq_l h)
                  refine iq_icmp_ne hS 156 J_MDotRows_run_d153 (t := 160) rfl (fun q153 => ?_) rfl (fun q153 => ?_)
                  · refine iq_iconst hS 161 J_MDotRows_run_d160 (v := 0) (by decide +kernel) rfl ?_
                    exact J55 _ _ (by simp only [if_pos q153]) l46 l47 l48 l49 l50 l51 l52 l54
                  · refine iq_iconst hS 157 J_MDotRows_run_d156 (v := 1) (by decide +kernel) rfl ?_
                    refine iq_goto hS J_MDotRows_run_d157 (t := 161) rfl ?_
                    exact J55 _ _ (by simp only [if_neg q153]) l46 l47 l48 l49 l50 l51 l52 l54
                refine iq_if_le hS 118 J_MDotRows_run_d115 (t := 148) rfl (fun q115 => ?_) rfl (fun q115 => ?_)
                · replace h := ed_pos q115 h
                  exact J43 _ _ (lk_1r l32 (by decide)) (lk_1i l33 (by decide)) (lk_1i l34 (by decide)) (lk_1i l35 (by decide)) (lk_1i l36 (by decide)) (lk_1i l37 (by decide)) (lk_1i l38 (by decide)) (lk_1i l39 (by decide)) (lk_1i l40 (by decide)) (ed_some h)
                · replace h := ed_neg q115 h
                  refine iq_iload hS 120 J_MDotRows_run_d118 lk_1s rfl ?_
                  refine iq_aload_n hS 121 J_MDotRows_run_d120 (lk_1r l32 (by decide)) rfl ?_
                  refine iq_iload_n hS 122 J_MDotRows_run_d121 (lk_1i l33 (by decide)) rfl ?_
                  refine iq_iload hS 124 J_MDotRows_run_d122 (lk_1i l40 (by decide)) rfl ?_
                  refine iq_iconst hS 125 J_MDotRows_run_d124 (v := 1) (by decide +kernel) rfl ?_
                  refine iq_isub hS 126 J_MDotRows_run_d125 rfl ?_
                  refine iq_iload hS 128 J_MDotRows_run_d126 (lk_1i l36 (by decide)) rfl ?_
                  refine iq_imul hS 129 J_MDotRows_run_d128 rfl ?_
                  refine iq_iadd hS 130 J_MDotRows_run_d129 rfl ?_
                  refine iq_iload_n hS 131 J_MDotRows_run_d130 (lk_1i l34 (by decide)) rfl ?_
                  refine iq_iload hS 133 J_MDotRows_run_d131 (lk_1i l40 (by decide)) rfl ?_
                  refine iq_iconst hS 134 J_MDotRows_run_d133 (v := 1) (by decide +kernel) rfl ?_
                  refine iq_isub hS 135 J_MDotRows_run_d134 rfl ?_
                  refine iq_iload hS 137 J_MDotRows_run_d135 (lk_1i l37 (by decide)) rfl ?_
                  refine iq_imul hS 138 J_MDotRows_run_d137 rfl ?_
                  refine iq_iadd hS 139 J_MDotRows_run_d138 rfl ?_
                  obtain ⟨Q44, hQ44, h⟩ := bd1_ed h
                  refine iq_cpI hS 142 J_MDotRows_run_d139 rfl (pr_inst (vs := [_, _]) lc_12_114 lT_354 rfl rfl (by decide) (by decide) rfl (Nat.le_of_ble_eq_true rfl) (Nat.le_of_ble_eq_true rfl) (fun _ => Or.inl (pr_b (ka_89 (lw_sI hM)) (by decide) rfl))) (f_MDotRows_isDark_ok (dep := dep + 0) (lw_sI hM) h) rfl ?_
                  intro x44 h
                  replace h := hQ44 _ h
                  refine iq_icmp_eq hS 145 J_MDotRows_run_d142 (t := 148) rfl (fun q142 => ?_) rfl (fun q142 => ?_)
                  · replace h := ed_pos q142 h
                    exact J43 _ _ (lk_1r l32 (by decide)) (lk_1i l33 (by decide)) (lk_1i l34 (by decide)) (lk_1i l35 (by decide)) (lk_1i l36 (by decide)) (lk_1i l37 (by decide)) (lk_1i l38 (by decide)) (lk_1i l39 (by decide)) (lk_1i l40 (by decide)) (ed_some h)
                  · replace h := ed_neg q142 h
                    refine iq_iincv hS 148 J_MDotRows_run_d145 (c := 1) (by decide +kernel) (lk_1i l38 (by decide)) (by decide) rfl ?_
                    exact J43 _ _ (lk_1r (lk_1r l32 (by decide)) (by decide)) (lk_1i (lk_1i l33 (by decide)) (by decide)) (lk_1i (lk_1i l34 (by decide)) (by decide)) (lk_1i (lk_1i l35 (by decide)) (by decide)) (lk_1i (lk_1i l36 (by decide)) (by decide)) (lk_1i (lk_1i l37 (by decide)) (by decide)) lk_1s (lk_1i (lk_1i l39 (by decide)) (by decide)) (lk_1i (lk_1i l40 (by decide)) (by decide)) (ed_some h)
          exact I26 n26 _ _ _ _ (lk_1r (lk_1r (lk_1r (lk_1r l21 (by decide)) (by decide)) (by decide)) (by decide)) (lk_1i (lk_1i (lk_1i (lk_1i l22 (by decide)) (by decide)) (by decide)) (by decide)) (lk_1i (lk_1i (lk_1i (lk_1i l23 (by decide)) (by decide)) (by decide)) (by decide)) (lk_1i (lk_1i (lk_1i (lk_1i l24 (by decide)) (by decide)) (by decide)) (by decide)) (lk_1i (lk_1i (lk_1i (lk_1i l25 (by decide)) (by decide)) (by decide)) (by decide)) (lk_1i (lk_1i (lk_1i lk_1s (by decide)) (by decide)) (by decide)) (lk_1i (lk_1i lk_1s (by decide)) (by decide)) (lk_1i lk_1s (by decide)) lk_1s hn26
        refine iq_if_eq hS 56 J_MDotRows_run_d53 (t := 60) rfl (fun q53 => ?_) rfl (fun q53 => ?_)
        · refine iq_iconst hS 61 J_MDotRows_run_d60 (v := 0) (by decide +kernel) rfl ?_
          exact J18 _ _ (by simp only [if_pos q53]) (lk_1r l13 (by decide)) (lk_1i l14 (by decide)) (lk_1i l15 (by decide)) (lk_1i l16 (by decide)) lk_1s
        · refine iq_iconst hS 57 J_MDotRows_run_d56 (v := 1) (by decide +kernel) rfl ?_
          refine iq_goto hS J_MDotRows_run_d57 (t := 61) rfl ?_
          exact J18 _ _ (by simp only [if_neg q53]) (lk_1r l13 (by decide)) (lk_1i l14 (by decide)) (lk_1i l15 (by decide)) (lk_1i l16 (by decide)) lk_1s
      refine iq_if_eq hS 44 J_MDotRows_run_d41 (t := 48) rfl (fun q41 => ?_) rfl (fun q41 => ?_)
      · refine iq_iconst hS 49 J_MDotRows_run_d48 (v := 1) (by decide +kernel) rfl ?_
        exact J10 _ _ (by simp only [if_pos q41]) l5 l6 l7 l8 l9
      · refine iq_iconst hS 45 J_MDotRows_run_d44 (v := 0) (by decide +kernel) rfl ?_
        refine iq_goto hS J_MDotRows_run_d45 (t := 49) rfl ?_
        exact J10 _ _ (by simp only [if_neg q41]) l5 l6 l7 l8 l9
    · replace h := ed_neg q34 h
      refine iq_iconst hS 38 J_MDotRows_run_d37 (v := 0) (by decide +kernel) rfl ?_
      exact iq_iret J_MDotRows_run_d38 rfl rfl ⟨_, rfl, (lw_sI hM), ed_some h⟩
  refine iq_if_eq hS 9 J_MDotRows_run_d6 (t := 13) rfl (fun q6 => ?_) rfl (fun q6 => ?_)
  · replace h := ed_pos q6 h
    refine iq_aload_n hS 14 J_MDotRows_run_d13 l0 rfl ?_
    refine iq_iload_n hS 15 J_MDotRows_run_d14 l1 rfl ?_
    refine iq_iload_n hS 16 J_MDotRows_run_d15 l2 rfl ?_
    obtain ⟨Q3, hQ3, h⟩ := bd1_ed h
    refine iq_cpI hS 19 J_MDotRows_run_d16 rfl (pr_inst (vs := [_, _]) lc_12_40 lT_355 rfl rfl (by decide) (by decide) rfl (Nat.le_of_ble_eq_true rfl) (Nat.le_of_ble_eq_true rfl) (fun _ => Or.inl (pr_b (ka_89 hM) (by decide) rfl))) (f_MDotRows_isOn_ok (dep := dep + 1) hM h) rfl ?_
    intro x3 h
    replace h := hQ3 _ h
    refine iq_if_eq hS 22 J_MDotRows_run_d19 (t := 26) rfl (fun q19 => ?_) rfl (fun q19 => ?_)
    · replace h := ed_pos q19 h
      refine iq_iconst hS 27 J_MDotRows_run_d26 (v := 2) (by decide +kernel) rfl ?_
      exact J2 _ _ l0 l1 l2 l3 l4 (ed_some h)
    · replace h := ed_neg q19 h
      refine iq_iconst hS 23 J_MDotRows_run_d22 (v := 0) (by decide +kernel) rfl ?_
      refine iq_goto hS J_MDotRows_run_d23 (t := 27) rfl ?_
      exact J2 _ _ l0 l1 l2 l3 l4 (ed_some h)
  · replace h := ed_neg q6 h
    refine iq_iconst hS 10 J_MDotRows_run_d9 (v := 1) (by decide +kernel) rfl ?_
    refine iq_goto hS J_MDotRows_run_d10 (t := 27) rfl ?_
    exact J2 _ _ l0 l1 l2 l3 l4 (ed_some h)
theorem f_MDotRows_run_fr {p0 : Int32} {p1 : Int32} {p2 : Int32} {p3 : Int32} {M : im_M} {r : Int32 × im_M} (h : f_MDotRows_run p0 p1 p2 p3 M = some r) : fr 0 [(89, 0)] M r.2 := by
  replace h : ed (f_MDotRows_run p0 p1 p2 p3 M) (fun x => x = r) := ⟨r, h, rfl⟩
  unfold f_MDotRows_run at h
  obtain ⟨Q1, hQ1, h⟩ := bd1_ed h
  obtain ⟨x1, e1, h⟩ := h
  replace h := hQ1 _ h
  obtain ⟨Q2, hQ2, h⟩ := bd1_ed h
  have J2 : ∀ (y4 : Int32), Q2 y4 → fr 0 [(89, 0)] M r.2 := by
    intro y4 h
    replace h := hQ2 _ h
    by_cases q34 : (im_i (im_setI M 89 0 y4) 89 0) ≤ 0
    · replace h := ed_pos q34 h
      obtain ⟨Q12, hQ12, h⟩ := bd1_ed h
      have K12 : ∀ (y13 : Int32), Q12 y13 → fr 0 [(89, 0)] M r.2 := by
        intro y13 h
        replace h := hQ12 _ h
        by_cases q172 : ¬ y13 = 0
        · replace h := ed_pos q172 h
          exact fr_ret h (fr_F (by decide) fr_refl)
        · replace h := ed_neg q172 h
          exact fr_ret h (fr_F (by decide) fr_refl)
      obtain ⟨r12, hr12, hq12⟩ := h
      obtain ⟨n12, hn12⟩ := lp_n hr12
      have I12 : ∀ (n : Nat) (x14 : Int32) (x15 : Int32) (x16 : Int32), lpn (uc3 (f_MDotRows_run_L72 p0 p1 p2 ((if p3 = 0 then 1 else 0) : Int32) ((if p3 = 0 then 0 else 1) : Int32) (im_setI M 89 0 y4))) n (x14, x15, x16) = some r12 → fr 0 [(89, 0)] M r.2 := by
        intro n
        induction n with
        | zero => intro x14 x15 x16 hn; exact (lpn_0 hn).elim
        | succ n ih =>
          intro x14 x15 x16 hn
          have h := lpn_ed3 hn
          unfold f_MDotRows_run_L72 at h
          obtain ⟨Q17, hQ17, h⟩ := bd1_ed h
          obtain ⟨x17, e17, h⟩ := h
          replace h := hQ17 _ h
          by_cases q90 : x17 = 0
          · replace h := ed_pos q90 h
            exact K12 _ (lq_r h hq12)
          · replace h := ed_neg q90 h
            obtain ⟨Q18, hQ18, h⟩ := bd1_ed h
            obtain ⟨x18, e18, h⟩ := h
            replace h := hQ18 _ h
            obtain ⟨Q19, hQ19, h⟩ := bd1_ed h
            have J19 : ∀ (y21 : Int32), Q19 y21 → fr 0 [(89, 0)] M r.2 := by
              intro y21 h
              replace h := hQ19 _ h
              exact ih _ _ _ (lq_l h)
            by_cases q115 : x16 ≤ 0
            · replace h := ed_pos q115 h
              exact J19 _ (ed_some h)
            · replace h := ed_neg q115 h
              obtain ⟨Q20, hQ20, h⟩ := bd1_ed h
              obtain ⟨x20, e20, h⟩ := h
              replace h := hQ20 _ h
              by_cases q142 : x18 = x20
              · replace h := ed_pos q142 h
                exact J19 _ (ed_some h)
              · replace h := ed_neg q142 h
                exact J19 _ (ed_some h)
      exact I12 n12 _ _ _ hn12
    · replace h := ed_neg q34 h
      exact fr_ret h (fr_F (by decide) fr_refl)
  by_cases q6 : x1 = 0
  · replace h := ed_pos q6 h
    obtain ⟨Q3, hQ3, h⟩ := bd1_ed h
    obtain ⟨x3, e3, h⟩ := h
    replace h := hQ3 _ h
    by_cases q19 : x3 = 0
    · replace h := ed_pos q19 h
      exact J2 _ (ed_some h)
    · replace h := ed_neg q19 h
      exact J2 _ (ed_some h)
  · replace h := ed_neg q6 h
    exact J2 _ (ed_some h)
noncomputable def f_M_run (p0 : Int32) (p1 : Int32) (p2 : Int32) (p3 : Int32) (M : im_M) : Option (Int32 × im_M) := bd2 (f_M_isOn (Int32.toInt64 p0) (Int32.toInt64 p1) M) fun (x1 : Int32) (M1 : im_M) => if (im_i (im_setI M1 69 0 ((if x1 = 0 then 1 else 0) : Int32)) 69 0) ≤ 0 then bd2 (f_MDotRows_run p0 p1 p2 p3 (im_setI M1 69 0 ((if x1 = 0 then 1 else 0) : Int32))) fun (x3 : Int32) (M3 : im_M) => some (x3, M3) else some (0, (im_setI M1 69 0 ((if x1 = 0 then 1 else 0) : Int32)))
theorem J_M_run_d0 : decode J_M_run.2.1 0 = .ok (.aload_n 0, 1) := by decide +kernel
theorem J_M_run_d1 : decode J_M_run.2.1 1 = .ok (.aload_n 0, 1) := by decide +kernel
theorem J_M_run_d2 : decode J_M_run.2.1 2 = .ok (.iload_n 1, 1) := by decide +kernel
theorem J_M_run_d3 : decode J_M_run.2.1 3 = .ok (.i2l, 1) := by decide +kernel
theorem J_M_run_d4 : decode J_M_run.2.1 4 = .ok (.iload_n 2, 1) := by decide +kernel
theorem J_M_run_d5 : decode J_M_run.2.1 5 = .ok (.i2l, 1) := by decide +kernel
theorem J_M_run_d6 : decode J_M_run.2.1 6 = .ok (.invokevirtual 209, 3) := by decide +kernel
theorem J_M_run_d9 : decode J_M_run.2.1 9 = .ok (.ifCond .eq 7, 3) := by decide +kernel
theorem J_M_run_d12 : decode J_M_run.2.1 12 = .ok (.iconst 0, 1) := by decide +kernel
theorem J_M_run_d13 : decode J_M_run.2.1 13 = .ok (.goto 4, 3) := by decide +kernel
theorem J_M_run_d16 : decode J_M_run.2.1 16 = .ok (.iconst 1, 1) := by decide +kernel
theorem J_M_run_d17 : decode J_M_run.2.1 17 = .ok (.putfield 58, 3) := by decide +kernel
theorem J_M_run_d20 : decode J_M_run.2.1 20 = .ok (.aload_n 0, 1) := by decide +kernel
theorem J_M_run_d21 : decode J_M_run.2.1 21 = .ok (.getfield 58, 3) := by decide +kernel
theorem J_M_run_d24 : decode J_M_run.2.1 24 = .ok (.ifCond .le 7, 3) := by decide +kernel
theorem J_M_run_d27 : decode J_M_run.2.1 27 = .ok (.iconst 0, 1) := by decide +kernel
theorem J_M_run_d28 : decode J_M_run.2.1 28 = .ok (.goto 15, 3) := by decide +kernel
theorem J_M_run_d31 : decode J_M_run.2.1 31 = .ok (.aload_n 0, 1) := by decide +kernel
theorem J_M_run_d32 : decode J_M_run.2.1 32 = .ok (.getfield 23, 3) := by decide +kernel
theorem J_M_run_d35 : decode J_M_run.2.1 35 = .ok (.iload_n 1, 1) := by decide +kernel
theorem J_M_run_d36 : decode J_M_run.2.1 36 = .ok (.iload_n 2, 1) := by decide +kernel
theorem J_M_run_d37 : decode J_M_run.2.1 37 = .ok (.iload_n 3, 1) := by decide +kernel
theorem J_M_run_d38 : decode J_M_run.2.1 38 = .ok (.iload 4, 2) := by decide +kernel
theorem J_M_run_d40 : decode J_M_run.2.1 40 = .ok (.invokevirtual 219, 3) := by decide +kernel
theorem J_M_run_d43 : decode J_M_run.2.1 43 = .ok (.ireturn, 1) := by decide +kernel
theorem f_M_run_ok {L : Nat} {xs : Nat → Int32} {dep : Nat} {w : Bool} {p0 : Int32} {p1 : Int32} {p2 : Int32} {p3 : Int32} {M : im_M} {Q : Int32 × im_M → Prop} (hM : lw_S w M) (h : ed (f_M_run p0 p1 p2 p3 M) Q) : ia (tb_G L xs) (dep + 4) J_M_run (rwI w Q) (0, lv_args 0 [.ref 69, .int p0, .int p1, .int p2, .int p3], [], M) := by
  have hS : im_St (tb_G L xs) (dep + 4) J_M_run (ia (tb_G L xs) (dep + 4) J_M_run (rwI w Q)) := ia_St
  unfold f_M_run at h
  have l0 : im_lk (lv_args 0 [.ref 69, .int p0, .int p1, .int p2, .int p3]) 0 = some (.ref 69) := rfl
  have l1 : im_lk (lv_args 0 [.ref 69, .int p0, .int p1, .int p2, .int p3]) 1 = some (.int p0) := rfl
  have l2 : im_lk (lv_args 0 [.ref 69, .int p0, .int p1, .int p2, .int p3]) 2 = some (.int p1) := rfl
  have l3 : im_lk (lv_args 0 [.ref 69, .int p0, .int p1, .int p2, .int p3]) 3 = some (.int p2) := rfl
  have l4 : im_lk (lv_args 0 [.ref 69, .int p0, .int p1, .int p2, .int p3]) 4 = some (.int p3) := rfl
  refine iq_aload_n hS 1 J_M_run_d0 l0 rfl ?_
  refine iq_aload_n hS 2 J_M_run_d1 l0 rfl ?_
  refine iq_iload_n hS 3 J_M_run_d2 l1 rfl ?_
  refine iq_i2l hS 4 J_M_run_d3 rfl ?_
  refine iq_iload_n hS 5 J_M_run_d4 l2 rfl ?_
  refine iq_i2l hS 6 J_M_run_d5 rfl ?_
  obtain ⟨Q1, hQ1, h⟩ := bd2_ed h
  refine iq_cwI hS 9 J_M_run_d6 rfl (pr_inst (vs := [_, _]) lc_17_209 lT_445 rfl rfl (by decide) (by decide) rfl (Nat.le_of_ble_eq_true rfl) (Nat.le_of_ble_eq_true rfl) (fun _ => Or.inl (pr_b (ka_69 hM) (by decide) rfl))) (f_M_isOn_ok (dep := dep + 0) hM h) rfl ?_
  intro x1 M1 hM1 h
  replace h := hQ1 _ _ h
  have J2 : ∀ (z3 : Int32) (L' : List (Nat × Value)), z3 = ((if x1 = 0 then 1 else 0) : Int32) → im_lk L' 0 = some (.ref 69) → im_lk L' 1 = some (.int p0) → im_lk L' 2 = some (.int p1) → im_lk L' 3 = some (.int p2) → im_lk L' 4 = some (.int p3) → ia (tb_G L xs) (dep + 4) J_M_run (rwI w Q) (17, L', [.int z3, .ref 69], M1) := by
    intro z3 L' e4 l5 l6 l7 l8 l9
    subst e4
    refine iq_putI hS 20 J_M_run_d17 lf_17_58 (Or.inl rfl) rfl (ka_69 hM1) rfl ?_
    refine iq_aload_n hS 21 J_M_run_d20 l5 rfl ?_
    refine iq_getI hS 24 J_M_run_d21 lf_17_58 (Or.inl rfl) (ka_69 (lw_sI hM1)) rfl ?_
    refine iq_if_le hS 27 J_M_run_d24 (t := 31) rfl (fun q24 => ?_) rfl (fun q24 => ?_)
    · replace h := ed_pos q24 h
      refine iq_aload_n hS 32 J_M_run_d31 l5 rfl ?_
      refine iq_getR hS 35 J_M_run_d32 lf_17_23 (Or.inl ⟨_, rfl⟩) (ka_69 (lw_sI hM1)) (ra_69_4 (lw_sI hM1)) rfl ?_
      refine iq_iload_n hS 36 J_M_run_d35 l6 rfl ?_
      refine iq_iload_n hS 37 J_M_run_d36 l7 rfl ?_
      refine iq_iload_n hS 38 J_M_run_d37 l8 rfl ?_
      refine iq_iload hS 40 J_M_run_d38 l9 rfl ?_
      obtain ⟨Q10, hQ10, h⟩ := bd2_ed h
      refine iq_cwI hS 43 J_M_run_d40 rfl (pr_inst (vs := [_, _, _, _]) lc_17_219 lT_459 rfl rfl (by decide) (by decide) rfl (Nat.le_of_ble_eq_true rfl) (Nat.le_of_ble_eq_true rfl) (fun _ => Or.inl (pr_b (ka_89 (lw_sI hM1)) (by decide) rfl))) (f_MDotRows_run_ok (dep := dep + 1) (lw_sI hM1) h) rfl ?_
      intro x10 M10 hM10 h
      replace h := hQ10 _ _ h
      exact iq_iret J_M_run_d43 rfl rfl ⟨_, rfl, hM10, ed_some h⟩
    · replace h := ed_neg q24 h
      refine iq_iconst hS 28 J_M_run_d27 (v := 0) (by decide +kernel) rfl ?_
      refine iq_goto hS J_M_run_d28 (t := 43) rfl ?_
      exact iq_iret J_M_run_d43 rfl rfl ⟨_, rfl, (lw_sI hM1), ed_some h⟩
  refine iq_if_eq hS 12 J_M_run_d9 (t := 16) rfl (fun q9 => ?_) rfl (fun q9 => ?_)
  · refine iq_iconst hS 17 J_M_run_d16 (v := 1) (by decide +kernel) rfl ?_
    exact J2 _ _ (by simp only [if_pos q9]) l0 l1 l2 l3 l4
  · refine iq_iconst hS 13 J_M_run_d12 (v := 0) (by decide +kernel) rfl ?_
    refine iq_goto hS J_M_run_d13 (t := 17) rfl ?_
    exact J2 _ _ (by simp only [if_neg q9]) l0 l1 l2 l3 l4
theorem f_M_run_fr {p0 : Int32} {p1 : Int32} {p2 : Int32} {p3 : Int32} {M : im_M} {r : Int32 × im_M} (h : f_M_run p0 p1 p2 p3 M = some r) : fr 0 [(69, 0), (89, 0)] M r.2 := by
  replace h : ed (f_M_run p0 p1 p2 p3 M) (fun x => x = r) := ⟨r, h, rfl⟩
  unfold f_M_run at h
  obtain ⟨Q1, hQ1, h⟩ := bd2_ed h
  obtain ⟨⟨x1, M1⟩, e1, h⟩ := h
  replace h := hQ1 _ _ h
  by_cases q24 : (im_i (im_setI M1 69 0 ((if x1 = 0 then 1 else 0) : Int32)) 69 0) ≤ 0
  · replace h := ed_pos q24 h
    obtain ⟨Q3, hQ3, h⟩ := bd2_ed h
    obtain ⟨⟨x3, M3⟩, e3, h⟩ := h
    replace h := hQ3 _ _ h
    exact fr_ret h (fr_tr (fr_mono (by decide) (by decide +kernel) (f_MDotRows_run_fr e3)) (fr_F (by decide) (fr_tr (fr_mono (by decide) (by decide +kernel) (f_M_isOn_fr e1)) fr_refl)))
  · replace h := ed_neg q24 h
    exact fr_ret h (fr_F (by decide) (fr_tr (fr_mono (by decide) (by decide +kernel) (f_M_isOn_fr e1)) fr_refl))
noncomputable def f_MPlaceRows_add_L14 (v5 : Int32) (x6 : Int32) (x7 : Int32) (M8 : im_M) : Option ((Int32 × Int32 × im_M) ⊕ (im_M)) := if (im_i M8 130 1) ≤ x7 then some (.inr M8) else bd1 (f_MPlaceRows_isDark x7 v5 M8) fun (x9 : Int32) => gd (inb ((((513 : Int32) * v5) + x7) + 1) 263169) <| gd (inb ((((513 : Int32) * (v5 + 1)) + x7) + 1) 263169) <| some (.inl ((x6 + ((if x9 = 0 then 0 else 1) : Int32)), (x7 + 1), (im_setI M8 132 (Int32.toNatClampNeg ((((513 : Int32) * (v5 + 1)) + x7) + 1)) ((im_i M8 132 (Int32.toNatClampNeg ((((513 : Int32) * v5) + x7) + 1))) + (x6 + ((if x9 = 0 then 0 else 1) : Int32))))))
noncomputable def f_MPlaceRows_add_L2 (x2 : Int32) (M3 : im_M) : Option ((Int32 × im_M) ⊕ (im_M)) := if (im_i M3 130 2) ≤ x2 then some (.inr M3) else bd1 (lp (uc3 (f_MPlaceRows_add_L14 x2)) (0, 0, M3)) fun (M11 : im_M) => some (.inl ((x2 + 1), M11))
noncomputable def f_MPlaceRows_add (M : im_M) : Option (im_M) := bd1 (lp (uc2 (f_MPlaceRows_add_L2)) (0, M)) fun (M12 : im_M) => some M12
theorem J_MPlaceRows_add_d0 : decode J_MPlaceRows_add.2.1 0 = .ok (.iconst 0, 1) := by decide +kernel
theorem J_MPlaceRows_add_d1 : decode J_MPlaceRows_add.2.1 1 = .ok (.istore_n 1, 1) := by decide +kernel
theorem J_MPlaceRows_add_d2 : decode J_MPlaceRows_add.2.1 2 = .ok (.iload_n 1, 1) := by decide +kernel
theorem J_MPlaceRows_add_d3 : decode J_MPlaceRows_add.2.1 3 = .ok (.aload_n 0, 1) := by decide +kernel
theorem J_MPlaceRows_add_d4 : decode J_MPlaceRows_add.2.1 4 = .ok (.getfield 13, 3) := by decide +kernel
theorem J_MPlaceRows_add_d7 : decode J_MPlaceRows_add.2.1 7 = .ok (.if_icmp .ge 76, 3) := by decide +kernel
theorem J_MPlaceRows_add_d10 : decode J_MPlaceRows_add.2.1 10 = .ok (.iconst 0, 1) := by decide +kernel
theorem J_MPlaceRows_add_d11 : decode J_MPlaceRows_add.2.1 11 = .ok (.istore_n 2, 1) := by decide +kernel
theorem J_MPlaceRows_add_d12 : decode J_MPlaceRows_add.2.1 12 = .ok (.iconst 0, 1) := by decide +kernel
theorem J_MPlaceRows_add_d13 : decode J_MPlaceRows_add.2.1 13 = .ok (.istore_n 3, 1) := by decide +kernel
theorem J_MPlaceRows_add_d14 : decode J_MPlaceRows_add.2.1 14 = .ok (.iload_n 3, 1) := by decide +kernel
theorem J_MPlaceRows_add_d15 : decode J_MPlaceRows_add.2.1 15 = .ok (.aload_n 0, 1) := by decide +kernel
theorem J_MPlaceRows_add_d16 : decode J_MPlaceRows_add.2.1 16 = .ok (.getfield 7, 3) := by decide +kernel
theorem J_MPlaceRows_add_d19 : decode J_MPlaceRows_add.2.1 19 = .ok (.if_icmp .ge 58, 3) := by decide +kernel
theorem J_MPlaceRows_add_d22 : decode J_MPlaceRows_add.2.1 22 = .ok (.iload_n 2, 1) := by decide +kernel
theorem J_MPlaceRows_add_d23 : decode J_MPlaceRows_add.2.1 23 = .ok (.aload_n 0, 1) := by decide +kernel
theorem J_MPlaceRows_add_d24 : decode J_MPlaceRows_add.2.1 24 = .ok (.iload_n 3, 1) := by decide +kernel
theorem J_MPlaceRows_add_d25 : decode J_MPlaceRows_add.2.1 25 = .ok (.iload_n 1, 1) := by decide +kernel
theorem J_MPlaceRows_add_d26 : decode J_MPlaceRows_add.2.1 26 = .ok (.invokevirtual 51, 3) := by decide +kernel
theorem J_MPlaceRows_add_d29 : decode J_MPlaceRows_add.2.1 29 = .ok (.ifCond .eq 7, 3) := by decide +kernel
theorem J_MPlaceRows_add_d32 : decode J_MPlaceRows_add.2.1 32 = .ok (.iconst 1, 1) := by decide +kernel
theorem J_MPlaceRows_add_d33 : decode J_MPlaceRows_add.2.1 33 = .ok (.goto 4, 3) := by decide +kernel
theorem J_MPlaceRows_add_d36 : decode J_MPlaceRows_add.2.1 36 = .ok (.iconst 0, 1) := by decide +kernel
theorem J_MPlaceRows_add_d37 : decode J_MPlaceRows_add.2.1 37 = .ok (.iadd, 1) := by decide +kernel
theorem J_MPlaceRows_add_d38 : decode J_MPlaceRows_add.2.1 38 = .ok (.istore_n 2, 1) := by decide +kernel
theorem J_MPlaceRows_add_d39 : decode J_MPlaceRows_add.2.1 39 = .ok (.aload_n 0, 1) := by decide +kernel
theorem J_MPlaceRows_add_d40 : decode J_MPlaceRows_add.2.1 40 = .ok (.getfield 22, 3) := by decide +kernel
theorem J_MPlaceRows_add_d43 : decode J_MPlaceRows_add.2.1 43 = .ok (.sipush 513, 3) := by decide +kernel
theorem J_MPlaceRows_add_d46 : decode J_MPlaceRows_add.2.1 46 = .ok (.iload_n 1, 1) := by decide +kernel
theorem J_MPlaceRows_add_d47 : decode J_MPlaceRows_add.2.1 47 = .ok (.iconst 1, 1) := by decide +kernel
theorem J_MPlaceRows_add_d48 : decode J_MPlaceRows_add.2.1 48 = .ok (.iadd, 1) := by decide +kernel
theorem J_MPlaceRows_add_d49 : decode J_MPlaceRows_add.2.1 49 = .ok (.imul, 1) := by decide +kernel
theorem J_MPlaceRows_add_d50 : decode J_MPlaceRows_add.2.1 50 = .ok (.iload_n 3, 1) := by decide +kernel
theorem J_MPlaceRows_add_d51 : decode J_MPlaceRows_add.2.1 51 = .ok (.iadd, 1) := by decide +kernel
theorem J_MPlaceRows_add_d52 : decode J_MPlaceRows_add.2.1 52 = .ok (.iconst 1, 1) := by decide +kernel
theorem J_MPlaceRows_add_d53 : decode J_MPlaceRows_add.2.1 53 = .ok (.iadd, 1) := by decide +kernel
theorem J_MPlaceRows_add_d54 : decode J_MPlaceRows_add.2.1 54 = .ok (.aload_n 0, 1) := by decide +kernel
theorem J_MPlaceRows_add_d55 : decode J_MPlaceRows_add.2.1 55 = .ok (.getfield 22, 3) := by decide +kernel
theorem J_MPlaceRows_add_d58 : decode J_MPlaceRows_add.2.1 58 = .ok (.sipush 513, 3) := by decide +kernel
theorem J_MPlaceRows_add_d61 : decode J_MPlaceRows_add.2.1 61 = .ok (.iload_n 1, 1) := by decide +kernel
theorem J_MPlaceRows_add_d62 : decode J_MPlaceRows_add.2.1 62 = .ok (.imul, 1) := by decide +kernel
theorem J_MPlaceRows_add_d63 : decode J_MPlaceRows_add.2.1 63 = .ok (.iload_n 3, 1) := by decide +kernel
theorem J_MPlaceRows_add_d64 : decode J_MPlaceRows_add.2.1 64 = .ok (.iadd, 1) := by decide +kernel
theorem J_MPlaceRows_add_d65 : decode J_MPlaceRows_add.2.1 65 = .ok (.iconst 1, 1) := by decide +kernel
theorem J_MPlaceRows_add_d66 : decode J_MPlaceRows_add.2.1 66 = .ok (.iadd, 1) := by decide +kernel
theorem J_MPlaceRows_add_d67 : decode J_MPlaceRows_add.2.1 67 = .ok (.iaload, 1) := by decide +kernel
theorem J_MPlaceRows_add_d68 : decode J_MPlaceRows_add.2.1 68 = .ok (.iload_n 2, 1) := by decide +kernel
theorem J_MPlaceRows_add_d69 : decode J_MPlaceRows_add.2.1 69 = .ok (.iadd, 1) := by decide +kernel
theorem J_MPlaceRows_add_d70 : decode J_MPlaceRows_add.2.1 70 = .ok (.iastore, 1) := by decide +kernel
theorem J_MPlaceRows_add_d71 : decode J_MPlaceRows_add.2.1 71 = .ok (.iinc 3 1, 3) := by decide +kernel
theorem J_MPlaceRows_add_d74 : decode J_MPlaceRows_add.2.1 74 = .ok (.goto (-60), 3) := by decide +kernel
theorem J_MPlaceRows_add_d77 : decode J_MPlaceRows_add.2.1 77 = .ok (.iinc 1 1, 3) := by decide +kernel
theorem J_MPlaceRows_add_d80 : decode J_MPlaceRows_add.2.1 80 = .ok (.goto (-78), 3) := by decide +kernel
theorem J_MPlaceRows_add_d83 : decode J_MPlaceRows_add.2.1 83 = .ok (.return_, 1) := by decide +kernel
theorem f_MPlaceRows_add_ok {L : Nat} {xs : Nat → Int32} {dep : Nat} {w : Bool} {M : im_M} {Q : im_M → Prop} (hM : lw_S w M) (h : ed (f_MPlaceRows_add M) Q) : ia (tb_G L xs) (dep + 1) J_MPlaceRows_add (rwV w Q) (0, lv_args 0 [.ref 130], [], M) := by
  have hS : im_St (tb_G L xs) (dep + 1) J_MPlaceRows_add (ia (tb_G L xs) (dep + 1) J_MPlaceRows_add (rwV w Q)) := ia_St
  unfold f_MPlaceRows_add at h
  have l0 : im_lk (lv_args 0 [.ref 130]) 0 = some (.ref 130) := rfl
  refine iq_iconst hS 1 J_MPlaceRows_add_d0 (v := 0) (by decide +kernel) rfl ?_
  refine iq_istore_n hS 2 J_MPlaceRows_add_d1 (by decide) rfl ?_
  obtain ⟨Q1, hQ1, h⟩ := bd1_ed h
  have K1 : ∀ (M2 : im_M) (L' : List (Nat × Value)), lw_S w M2 → Q1 M2 → ia (tb_G L xs) (dep + 1) J_MPlaceRows_add (rwV w Q) (83, L', [], M2) := by
    intro M2 L' hM2  h
    replace h := hQ1 _ h
    exact iq_ret J_MPlaceRows_add_d83 rfl ⟨rfl, hM2, ed_some h⟩
  obtain ⟨r1, hr1, hq1⟩ := h
  obtain ⟨n1, hn1⟩ := lp_n hr1
  have I1 : ∀ (n : Nat) (x3 : Int32) (M4 : im_M) (L' : List (Nat × Value)), lw_S w M4 → im_lk L' 0 = some (.ref 130) → im_lk L' 1 = some (.int x3) → lpn (uc2 (f_MPlaceRows_add_L2)) n (x3, M4) = some r1 → ia (tb_G L xs) (dep + 1) J_MPlaceRows_add (rwV w Q) (2, L', [], M4) := by
    intro n
    induction n with
    | zero => intro x3 M4 L' hM4 l5 l6 hn; exact (lpn_0 hn).elim
    | succ n ih =>
      intro x3 M4 L' hM4 l5 l6 hn
      have h := lpn_ed2 hn
      unfold f_MPlaceRows_add_L2 at h
      refine iq_iload_n hS 3 J_MPlaceRows_add_d2 l6 rfl ?_
      refine iq_aload_n hS 4 J_MPlaceRows_add_d3 l5 rfl ?_
      refine iq_getI hS 7 J_MPlaceRows_add_d4 lf_14_13 (Or.inl rfl) (ka_130 hM4) rfl ?_
      refine iq_icmp_ge hS 10 J_MPlaceRows_add_d7 (t := 83) rfl (fun q7 => ?_) rfl (fun q7 => ?_)
      · replace h := ed_pos q7 h
        exact K1 _ _ hM4  (lq_r h hq1)
      · replace h := ed_neg q7 h
        refine iq_iconst hS 11 J_MPlaceRows_add_d10 (v := 0) (by decide +kernel) rfl ?_
        refine iq_istore_n hS 12 J_MPlaceRows_add_d11 (by decide) rfl ?_
        refine iq_iconst hS 13 J_MPlaceRows_add_d12 (v := 0) (by decide +kernel) rfl ?_
        refine iq_istore_n hS 14 J_MPlaceRows_add_d13 (by decide) rfl ?_
        obtain ⟨Q7, hQ7, h⟩ := bd1_ed h
        have K7 : ∀ (M8 : im_M) (L' : List (Nat × Value)), lw_S w M8 → im_lk L' 0 = some (.ref 130) → im_lk L' 1 = some (.int x3) → Q7 M8 → ia (tb_G L xs) (dep + 1) J_MPlaceRows_add (rwV w Q) (77, L', [], M8) := by
          intro M8 L' hM8 l9 l10 h
          replace h := hQ7 _ h
          refine iq_iincv hS 80 J_MPlaceRows_add_d77 (c := 1) (by decide +kernel) l10 (by decide) rfl ?_
          refine iq_goto hS J_MPlaceRows_add_d80 (t := 2) rfl ?_
          exact ih _ _ _ hM8 (lk_1r l9 (by decide)) lk_1s (lq_l h)
        obtain ⟨r7, hr7, hq7⟩ := h
        obtain ⟨n7, hn7⟩ := lp_n hr7
        have I7 : ∀ (n : Nat) (x11 : Int32) (x12 : Int32) (M13 : im_M) (L' : List (Nat × Value)), lw_S w M13 → im_lk L' 0 = some (.ref 130) → im_lk L' 1 = some (.int x3) → im_lk L' 2 = some (.int x11) → im_lk L' 3 = some (.int x12) → lpn (uc3 (f_MPlaceRows_add_L14 x3)) n (x11, x12, M13) = some r7 → ia (tb_G L xs) (dep + 1) J_MPlaceRows_add (rwV w Q) (14, L', [], M13) := by
          intro n
          induction n with
          | zero => intro x11 x12 M13 L' hM13 l14 l15 l16 l17 hn; exact (lpn_0 hn).elim
          | succ n ih =>
            intro x11 x12 M13 L' hM13 l14 l15 l16 l17 hn
            have h := lpn_ed3 hn
            unfold f_MPlaceRows_add_L14 at h
            refine iq_iload_n hS 15 J_MPlaceRows_add_d14 l17 rfl ?_
            refine iq_aload_n hS 16 J_MPlaceRows_add_d15 l14 rfl ?_
            refine iq_getI hS 19 J_MPlaceRows_add_d16 lf_14_7 (Or.inl rfl) (ka_130 hM13) rfl ?_
            refine iq_icmp_ge hS 22 J_MPlaceRows_add_d19 (t := 77) rfl (fun q19 => ?_) rfl (fun q19 => ?_)
            · replace h := ed_pos q19 h
              exact K7 _ _ hM13 l14 l15 (lq_r h hq7)
            · replace h := ed_neg q19 h
              refine iq_iload_n hS 23 J_MPlaceRows_add_d22 l16 rfl ?_
              refine iq_aload_n hS 24 J_MPlaceRows_add_d23 l14 rfl ?_
              refine iq_iload_n hS 25 J_MPlaceRows_add_d24 l17 rfl ?_
              refine iq_iload_n hS 26 J_MPlaceRows_add_d25 l15 rfl ?_
              obtain ⟨Q18, hQ18, h⟩ := bd1_ed h
              refine iq_cpI hS 29 J_MPlaceRows_add_d26 rfl (pr_inst (vs := [_, _]) lc_14_51 lT_450 rfl rfl (by decide) (by decide) rfl (Nat.le_of_ble_eq_true rfl) (Nat.le_of_ble_eq_true rfl) (fun _ => Or.inl (pr_b (ka_130 hM13) (by decide) rfl))) (f_MPlaceRows_isDark_ok (dep := dep + 0) hM13 h) rfl ?_
              intro x18 h
              replace h := hQ18 _ h
              have J19 : ∀ (z20 : Int32) (L' : List (Nat × Value)), z20 = ((if x18 = 0 then 0 else 1) : Int32) → im_lk L' 0 = some (.ref 130) → im_lk L' 1 = some (.int x3) → im_lk L' 3 = some (.int x12) → ia (tb_G L xs) (dep + 1) J_MPlaceRows_add (rwV w Q) (37, L', [.int z20, .int x11], M13) := by
                intro z20 L' e21 l22 l23 l24
                subst e21
                refine iq_iadd hS 38 J_MPlaceRows_add_d37 rfl ?_
                refine iq_istore_n hS 39 J_MPlaceRows_add_d38 (by decide) rfl ?_
                refine iq_aload_n hS 40 J_MPlaceRows_add_d39 (lk_1r l22 (by decide)) rfl ?_
                refine iq_getR hS 43 J_MPlaceRows_add_d40 lf_14_22 (Or.inr ⟨_, rfl⟩) (ka_130 hM13) (ra_130_4 hM13) rfl ?_
                refine iq_sipush hS 46 J_MPlaceRows_add_d43 (v := 513) (by decide +kernel) rfl ?_
                refine iq_iload_n hS 47 J_MPlaceRows_add_d46 (lk_1i l23 (by decide)) rfl ?_
                refine iq_iconst hS 48 J_MPlaceRows_add_d47 (v := 1) (by decide +kernel) rfl ?_
                refine iq_iadd hS 49 J_MPlaceRows_add_d48 rfl ?_
                refine iq_imul hS 50 J_MPlaceRows_add_d49 rfl ?_
                refine iq_iload_n hS 51 J_MPlaceRows_add_d50 (lk_1i l24 (by decide)) rfl ?_
                refine iq_iadd hS 52 J_MPlaceRows_add_d51 rfl ?_
                refine iq_iconst hS 53 J_MPlaceRows_add_d52 (v := 1) (by decide +kernel) rfl ?_
                refine iq_iadd hS 54 J_MPlaceRows_add_d53 rfl ?_
                refine iq_aload_n hS 55 J_MPlaceRows_add_d54 (lk_1r l22 (by decide)) rfl ?_
                refine iq_getR hS 58 J_MPlaceRows_add_d55 lf_14_22 (Or.inr ⟨_, rfl⟩) (ka_130 hM13) (ra_130_4 hM13) rfl ?_
                refine iq_sipush hS 61 J_MPlaceRows_add_d58 (v := 513) (by decide +kernel) rfl ?_
                refine iq_iload_n hS 62 J_MPlaceRows_add_d61 (lk_1i l23 (by decide)) rfl ?_
                refine iq_imul hS 63 J_MPlaceRows_add_d62 rfl ?_
                refine iq_iload_n hS 64 J_MPlaceRows_add_d63 (lk_1i l24 (by decide)) rfl ?_
                refine iq_iadd hS 65 J_MPlaceRows_add_d64 rfl ?_
                refine iq_iconst hS 66 J_MPlaceRows_add_d65 (v := 1) (by decide +kernel) rfl ?_
                refine iq_iadd hS 67 J_MPlaceRows_add_d66 rfl ?_
                obtain ⟨g67, h⟩ := ed_gd h
                refine iq_iaload hS 68 J_MPlaceRows_add_d67 ⟨(ka_132 hM13).1, (ka_132 hM13).2, g67.1, ix_lt (kl_132 hM13) g67.2⟩ rfl ?_
                refine iq_iload_n hS 69 J_MPlaceRows_add_d68 lk_1s rfl ?_
                refine iq_iadd hS 70 J_MPlaceRows_add_d69 rfl ?_
                obtain ⟨g70, h⟩ := ed_gd h
                refine iq_iastore hS 71 J_MPlaceRows_add_d70 ⟨(ka_132 hM13).1, (ka_132 hM13).2, g70.1, ix_lt (kl_132 hM13) g70.2⟩ rfl ?_
                refine iq_iincv hS 74 J_MPlaceRows_add_d71 (c := 1) (by decide +kernel) (lk_1i l24 (by decide)) (by decide) rfl ?_
                refine iq_goto hS J_MPlaceRows_add_d74 (t := 14) rfl ?_
                exact ih _ _ _ _ (lw_sI hM13) (lk_1r (lk_1r l22 (by decide)) (by decide)) (lk_1i (lk_1i l23 (by decide)) (by decide)) (lk_1i lk_1s (by decide)) lk_1s (lq_l h)
              refine iq_if_eq hS 32 J_MPlaceRows_add_d29 (t := 36) rfl (fun q29 => ?_) rfl (fun q29 => ?_)
              · refine iq_iconst hS 37 J_MPlaceRows_add_d36 (v := 0) (by decide +kernel) rfl ?_
                exact J19 _ _ (by simp only [if_pos q29]) l14 l15 l17
              · refine iq_iconst hS 33 J_MPlaceRows_add_d32 (v := 1) (by decide +kernel) rfl ?_
                refine iq_goto hS J_MPlaceRows_add_d33 (t := 37) rfl ?_
                exact J19 _ _ (by simp only [if_neg q29]) l14 l15 l17
        exact I7 n7 _ _ _ _ hM4 (lk_1r (lk_1r l5 (by decide)) (by decide)) (lk_1i (lk_1i l6 (by decide)) (by decide)) (lk_1i lk_1s (by decide)) lk_1s hn7
  exact I1 n1 _ _ _ hM (lk_1r l0 (by decide)) lk_1s hn1
theorem f_MPlaceRows_add_fr {M : im_M} {r : im_M} (h : f_MPlaceRows_add M = some r) : fr 5444517870735015415413993718908291383296 [] M r := by
  replace h : ed (f_MPlaceRows_add M) (fun x => x = r) := ⟨r, h, rfl⟩
  unfold f_MPlaceRows_add at h
  obtain ⟨Q1, hQ1, h⟩ := bd1_ed h
  have K1 : ∀ (M2 : im_M), fr 5444517870735015415413993718908291383296 [] M M2 → Q1 M2 → fr 5444517870735015415413993718908291383296 [] M r := by
    intro M2 hM2 h
    replace h := hQ1 _ h
    exact fr_retV h hM2
  obtain ⟨r1, hr1, hq1⟩ := h
  obtain ⟨n1, hn1⟩ := lp_n hr1
  have I1 : ∀ (n : Nat) (x3 : Int32) (M4 : im_M), fr 5444517870735015415413993718908291383296 [] M M4 → lpn (uc2 (f_MPlaceRows_add_L2)) n (x3, M4) = some r1 → fr 5444517870735015415413993718908291383296 [] M r := by
    intro n
    induction n with
    | zero => intro x3 M4 hM4 hn; exact (lpn_0 hn).elim
    | succ n ih =>
      intro x3 M4 hM4 hn
      have h := lpn_ed2 hn
      unfold f_MPlaceRows_add_L2 at h
      by_cases q7 : (im_i M4 130 2) ≤ x3
      · replace h := ed_pos q7 h
        exact K1 _ hM4 (lq_r h hq1)
      · replace h := ed_neg q7 h
        obtain ⟨Q5, hQ5, h⟩ := bd1_ed h
        have K5 : ∀ (M6 : im_M), fr 5444517870735015415413993718908291383296 [] M M6 → Q5 M6 → fr 5444517870735015415413993718908291383296 [] M r := by
          intro M6 hM6 h
          replace h := hQ5 _ h
          exact ih _ _ hM6 (lq_l h)
        obtain ⟨r5, hr5, hq5⟩ := h
        obtain ⟨n5, hn5⟩ := lp_n hr5
        have I5 : ∀ (n : Nat) (x7 : Int32) (x8 : Int32) (M9 : im_M), fr 5444517870735015415413993718908291383296 [] M M9 → lpn (uc3 (f_MPlaceRows_add_L14 x3)) n (x7, x8, M9) = some r5 → fr 5444517870735015415413993718908291383296 [] M r := by
          intro n
          induction n with
          | zero => intro x7 x8 M9 hM9 hn; exact (lpn_0 hn).elim
          | succ n ih =>
            intro x7 x8 M9 hM9 hn
            have h := lpn_ed3 hn
            unfold f_MPlaceRows_add_L14 at h
            by_cases q19 : (im_i M9 130 1) ≤ x8
            · replace h := ed_pos q19 h
              exact K5 _ hM9 (lq_r h hq5)
            · replace h := ed_neg q19 h
              obtain ⟨Q10, hQ10, h⟩ := bd1_ed h
              obtain ⟨x10, e10, h⟩ := h
              replace h := hQ10 _ h
              obtain ⟨g67, h⟩ := ed_gd h
              obtain ⟨g70, h⟩ := ed_gd h
              exact ih _ _ _ (fr_I (by decide) hM9) (lq_l h)
        exact I5 n5 _ _ _ hM4 hn5
  exact I1 n1 _ _ fr_refl hn1
noncomputable def f_MPlaceRows_side (p0 : Int32) (M : im_M) : Option (Int32) := some ((17 : Int32) + ((4 : Int32) * p0))
theorem J_MPlaceRows_side_d0 : decode J_MPlaceRows_side.2.1 0 = .ok (.bipush 17, 2) := by decide +kernel
theorem J_MPlaceRows_side_d2 : decode J_MPlaceRows_side.2.1 2 = .ok (.iconst 4, 1) := by decide +kernel
theorem J_MPlaceRows_side_d3 : decode J_MPlaceRows_side.2.1 3 = .ok (.iload_n 0, 1) := by decide +kernel
theorem J_MPlaceRows_side_d4 : decode J_MPlaceRows_side.2.1 4 = .ok (.imul, 1) := by decide +kernel
theorem J_MPlaceRows_side_d5 : decode J_MPlaceRows_side.2.1 5 = .ok (.iadd, 1) := by decide +kernel
theorem J_MPlaceRows_side_d6 : decode J_MPlaceRows_side.2.1 6 = .ok (.ireturn, 1) := by decide +kernel
theorem f_MPlaceRows_side_ok {L : Nat} {xs : Nat → Int32} {dep : Nat} {w : Bool} {p0 : Int32} {M : im_M} {Q : Int32 → Prop} (hM : lw_S w M) (h : ed (f_MPlaceRows_side p0 M) Q) : ia (tb_G L xs) dep J_MPlaceRows_side (rpI M Q) (0, lv_args 0 [.int p0], [], M) := by
  have hS : im_St (tb_G L xs) dep J_MPlaceRows_side (ia (tb_G L xs) dep J_MPlaceRows_side (rpI M Q)) := ia_St
  unfold f_MPlaceRows_side at h
  have l0 : im_lk (lv_args 0 [.int p0]) 0 = some (.int p0) := rfl
  refine iq_bipush hS 2 J_MPlaceRows_side_d0 (v := 17) (by decide +kernel) rfl ?_
  refine iq_iconst hS 3 J_MPlaceRows_side_d2 (v := 4) (by decide +kernel) rfl ?_
  refine iq_iload_n hS 4 J_MPlaceRows_side_d3 l0 rfl ?_
  refine iq_imul hS 5 J_MPlaceRows_side_d4 rfl ?_
  refine iq_iadd hS 6 J_MPlaceRows_side_d5 rfl ?_
  exact iq_iret J_MPlaceRows_side_d6 rfl rfl ⟨_, rfl, rfl, ed_some h⟩
noncomputable def f_MPlaceRows_apart (p0 : Int32) (p1 : Int32) (M : im_M) : Option (Int32) := if p1 ≤ p0 then some (p0 - p1) else some (p1 - p0)
theorem J_MPlaceRows_apart_d0 : decode J_MPlaceRows_apart.2.1 0 = .ok (.iload_n 0, 1) := by decide +kernel
theorem J_MPlaceRows_apart_d1 : decode J_MPlaceRows_apart.2.1 1 = .ok (.iload_n 1, 1) := by decide +kernel
theorem J_MPlaceRows_apart_d2 : decode J_MPlaceRows_apart.2.1 2 = .ok (.if_icmp .ge 9, 3) := by decide +kernel
theorem J_MPlaceRows_apart_d5 : decode J_MPlaceRows_apart.2.1 5 = .ok (.iload_n 1, 1) := by decide +kernel
theorem J_MPlaceRows_apart_d6 : decode J_MPlaceRows_apart.2.1 6 = .ok (.iload_n 0, 1) := by decide +kernel
theorem J_MPlaceRows_apart_d7 : decode J_MPlaceRows_apart.2.1 7 = .ok (.isub, 1) := by decide +kernel
theorem J_MPlaceRows_apart_d8 : decode J_MPlaceRows_apart.2.1 8 = .ok (.goto 6, 3) := by decide +kernel
theorem J_MPlaceRows_apart_d11 : decode J_MPlaceRows_apart.2.1 11 = .ok (.iload_n 0, 1) := by decide +kernel
theorem J_MPlaceRows_apart_d12 : decode J_MPlaceRows_apart.2.1 12 = .ok (.iload_n 1, 1) := by decide +kernel
theorem J_MPlaceRows_apart_d13 : decode J_MPlaceRows_apart.2.1 13 = .ok (.isub, 1) := by decide +kernel
theorem J_MPlaceRows_apart_d14 : decode J_MPlaceRows_apart.2.1 14 = .ok (.ireturn, 1) := by decide +kernel
theorem f_MPlaceRows_apart_ok {L : Nat} {xs : Nat → Int32} {dep : Nat} {w : Bool} {p0 : Int32} {p1 : Int32} {M : im_M} {Q : Int32 → Prop} (hM : lw_S w M) (h : ed (f_MPlaceRows_apart p0 p1 M) Q) : ia (tb_G L xs) dep J_MPlaceRows_apart (rpI M Q) (0, lv_args 0 [.int p0, .int p1], [], M) := by
  have hS : im_St (tb_G L xs) dep J_MPlaceRows_apart (ia (tb_G L xs) dep J_MPlaceRows_apart (rpI M Q)) := ia_St
  unfold f_MPlaceRows_apart at h
  have l0 : im_lk (lv_args 0 [.int p0, .int p1]) 0 = some (.int p0) := rfl
  have l1 : im_lk (lv_args 0 [.int p0, .int p1]) 1 = some (.int p1) := rfl
  refine iq_iload_n hS 1 J_MPlaceRows_apart_d0 l0 rfl ?_
  refine iq_iload_n hS 2 J_MPlaceRows_apart_d1 l1 rfl ?_
  refine iq_icmp_ge hS 5 J_MPlaceRows_apart_d2 (t := 11) rfl (fun q2 => ?_) rfl (fun q2 => ?_)
  · replace h := ed_pos q2 h
    refine iq_iload_n hS 12 J_MPlaceRows_apart_d11 l0 rfl ?_
    refine iq_iload_n hS 13 J_MPlaceRows_apart_d12 l1 rfl ?_
    refine iq_isub hS 14 J_MPlaceRows_apart_d13 rfl ?_
    exact iq_iret J_MPlaceRows_apart_d14 rfl rfl ⟨_, rfl, rfl, ed_some h⟩
  · replace h := ed_neg q2 h
    refine iq_iload_n hS 6 J_MPlaceRows_apart_d5 l1 rfl ?_
    refine iq_iload_n hS 7 J_MPlaceRows_apart_d6 l0 rfl ?_
    refine iq_isub hS 8 J_MPlaceRows_apart_d7 rfl ?_
    refine iq_goto hS J_MPlaceRows_apart_d8 (t := 14) rfl ?_
    exact iq_iret J_MPlaceRows_apart_d14 rfl rfl ⟨_, rfl, rfl, ed_some h⟩
noncomputable def f_MPlaceRows_distance (p0 : Int32) (p1 : Int32) (p2 : Int32) (p3 : Int32) (M : im_M) : Option (Int32) := bd1 (f_MPlaceRows_apart p0 p2 M) fun (x1 : Int32) => bd1 (f_MPlaceRows_apart p1 p3 M) fun (x2 : Int32) => if x1 ≤ x2 then bd1 (f_MPlaceRows_apart p1 p3 M) fun (x3 : Int32) => some x3 else bd1 (f_MPlaceRows_apart p0 p2 M) fun (x4 : Int32) => some x4
theorem J_MPlaceRows_distance_d0 : decode J_MPlaceRows_distance.2.1 0 = .ok (.iload_n 0, 1) := by decide +kernel
theorem J_MPlaceRows_distance_d1 : decode J_MPlaceRows_distance.2.1 1 = .ok (.iload_n 2, 1) := by decide +kernel
theorem J_MPlaceRows_distance_d2 : decode J_MPlaceRows_distance.2.1 2 = .ok (.invokestatic 55, 3) := by decide +kernel
theorem J_MPlaceRows_distance_d5 : decode J_MPlaceRows_distance.2.1 5 = .ok (.iload_n 1, 1) := by decide +kernel
theorem J_MPlaceRows_distance_d6 : decode J_MPlaceRows_distance.2.1 6 = .ok (.iload_n 3, 1) := by decide +kernel
theorem J_MPlaceRows_distance_d7 : decode J_MPlaceRows_distance.2.1 7 = .ok (.invokestatic 55, 3) := by decide +kernel
theorem J_MPlaceRows_distance_d10 : decode J_MPlaceRows_distance.2.1 10 = .ok (.if_icmp .le 11, 3) := by decide +kernel
theorem J_MPlaceRows_distance_d13 : decode J_MPlaceRows_distance.2.1 13 = .ok (.iload_n 0, 1) := by decide +kernel
theorem J_MPlaceRows_distance_d14 : decode J_MPlaceRows_distance.2.1 14 = .ok (.iload_n 2, 1) := by decide +kernel
theorem J_MPlaceRows_distance_d15 : decode J_MPlaceRows_distance.2.1 15 = .ok (.invokestatic 55, 3) := by decide +kernel
theorem J_MPlaceRows_distance_d18 : decode J_MPlaceRows_distance.2.1 18 = .ok (.goto 8, 3) := by decide +kernel
theorem J_MPlaceRows_distance_d21 : decode J_MPlaceRows_distance.2.1 21 = .ok (.iload_n 1, 1) := by decide +kernel
theorem J_MPlaceRows_distance_d22 : decode J_MPlaceRows_distance.2.1 22 = .ok (.iload_n 3, 1) := by decide +kernel
theorem J_MPlaceRows_distance_d23 : decode J_MPlaceRows_distance.2.1 23 = .ok (.invokestatic 55, 3) := by decide +kernel
theorem J_MPlaceRows_distance_d26 : decode J_MPlaceRows_distance.2.1 26 = .ok (.ireturn, 1) := by decide +kernel
theorem f_MPlaceRows_distance_ok {L : Nat} {xs : Nat → Int32} {dep : Nat} {w : Bool} {p0 : Int32} {p1 : Int32} {p2 : Int32} {p3 : Int32} {M : im_M} {Q : Int32 → Prop} (hM : lw_S w M) (h : ed (f_MPlaceRows_distance p0 p1 p2 p3 M) Q) : ia (tb_G L xs) (dep + 1) J_MPlaceRows_distance (rpI M Q) (0, lv_args 0 [.int p0, .int p1, .int p2, .int p3], [], M) := by
  have hS : im_St (tb_G L xs) (dep + 1) J_MPlaceRows_distance (ia (tb_G L xs) (dep + 1) J_MPlaceRows_distance (rpI M Q)) := ia_St
  unfold f_MPlaceRows_distance at h
  have l0 : im_lk (lv_args 0 [.int p0, .int p1, .int p2, .int p3]) 0 = some (.int p0) := rfl
  have l1 : im_lk (lv_args 0 [.int p0, .int p1, .int p2, .int p3]) 1 = some (.int p1) := rfl
  have l2 : im_lk (lv_args 0 [.int p0, .int p1, .int p2, .int p3]) 2 = some (.int p2) := rfl
  have l3 : im_lk (lv_args 0 [.int p0, .int p1, .int p2, .int p3]) 3 = some (.int p3) := rfl
  refine iq_iload_n hS 1 J_MPlaceRows_distance_d0 l0 rfl ?_
  refine iq_iload_n hS 2 J_MPlaceRows_distance_d1 l2 rfl ?_
  obtain ⟨Q1, hQ1, h⟩ := bd1_ed h
  refine iq_cpI hS 5 J_MPlaceRows_distance_d2 rfl (pr_stat (vs := [_, _]) lc_14_55 lT_467 rfl rfl (by decide) rfl (Nat.le_of_ble_eq_true rfl) (Nat.le_of_ble_eq_true rfl)) (f_MPlaceRows_apart_ok (dep := dep + 0) hM h) rfl ?_
  intro x1 h
  replace h := hQ1 _ h
  refine iq_iload_n hS 6 J_MPlaceRows_distance_d5 l1 rfl ?_
  refine iq_iload_n hS 7 J_MPlaceRows_distance_d6 l3 rfl ?_
  obtain ⟨Q2, hQ2, h⟩ := bd1_ed h
  refine iq_cpI hS 10 J_MPlaceRows_distance_d7 rfl (pr_stat (vs := [_, _]) lc_14_55 lT_467 rfl rfl (by decide) rfl (Nat.le_of_ble_eq_true rfl) (Nat.le_of_ble_eq_true rfl)) (f_MPlaceRows_apart_ok (dep := dep + 0) hM h) rfl ?_
  intro x2 h
  replace h := hQ2 _ h
  refine iq_icmp_le hS 13 J_MPlaceRows_distance_d10 (t := 21) rfl (fun q10 => ?_) rfl (fun q10 => ?_)
  · replace h := ed_pos q10 h
    refine iq_iload_n hS 22 J_MPlaceRows_distance_d21 l1 rfl ?_
    refine iq_iload_n hS 23 J_MPlaceRows_distance_d22 l3 rfl ?_
    obtain ⟨Q3, hQ3, h⟩ := bd1_ed h
    refine iq_cpI hS 26 J_MPlaceRows_distance_d23 rfl (pr_stat (vs := [_, _]) lc_14_55 lT_467 rfl rfl (by decide) rfl (Nat.le_of_ble_eq_true rfl) (Nat.le_of_ble_eq_true rfl)) (f_MPlaceRows_apart_ok (dep := dep + 0) hM h) rfl ?_
    intro x3 h
    replace h := hQ3 _ h
    exact iq_iret J_MPlaceRows_distance_d26 rfl rfl ⟨_, rfl, rfl, ed_some h⟩
  · replace h := ed_neg q10 h
    refine iq_iload_n hS 14 J_MPlaceRows_distance_d13 l0 rfl ?_
    refine iq_iload_n hS 15 J_MPlaceRows_distance_d14 l2 rfl ?_
    obtain ⟨Q4, hQ4, h⟩ := bd1_ed h
    refine iq_cpI hS 18 J_MPlaceRows_distance_d15 rfl (pr_stat (vs := [_, _]) lc_14_55 lT_467 rfl rfl (by decide) rfl (Nat.le_of_ble_eq_true rfl) (Nat.le_of_ble_eq_true rfl)) (f_MPlaceRows_apart_ok (dep := dep + 0) hM h) rfl ?_
    intro x4 h
    replace h := hQ4 _ h
    refine iq_goto hS J_MPlaceRows_distance_d18 (t := 26) rfl ?_
    exact iq_iret J_MPlaceRows_distance_d26 rfl rfl ⟨_, rfl, rfl, ed_some h⟩
noncomputable def f_MPlaceRows_module (p0 : Int32) (p1 : Int32) (p2 : Int32) (M : im_M) : Option (Int32) := bd1 (f_MPlaceRows_side p0 M) fun (x1 : Int32) => bd1 (f_MPlaceRows_distance p1 p2 3 3 M) fun (x2 : Int32) => bd1 (if x2 ≤ 4 then some x2 else bd1 (f_MPlaceRows_distance p1 p2 (x1 - 4) 3 M) fun (x4 : Int32) => some x4) fun (y5 : Int32) => bd1 (if y5 ≤ 4 then some y5 else bd1 (f_MPlaceRows_distance p1 p2 3 (x1 - 4) M) fun (x10 : Int32) => some x10) fun (y11 : Int32) => if 4 < y11 then jn0 (fun (_ : Unit) => jn0 (fun (_ : Unit) => if ¬ p1 = 8 then some (-1) else if ¬ p2 = (x1 - 8) then some (-1) else some 1) fun k19 => if ¬ p1 = 6 then k19 () else if p2 < 8 then k19 () else if (x1 - 9) < p2 then k19 () else if ¬ (p2 - p2 / 2 * 2) = 0 then some 0 else some 1) fun k15 => if ¬ p2 = 6 then k15 () else if p1 < 8 then k15 () else if (x1 - 9) < p1 then k15 () else if ¬ (p1 - p1 / 2 * 2) = 0 then some 0 else some 1 else jn0 (fun (_ : Unit) => some 0) fun k23 => if y11 = 2 then k23 () else if ¬ y11 = 4 then some 1 else k23 ()
theorem J_MPlaceRows_module_d0 : decode J_MPlaceRows_module.2.1 0 = .ok (.iload_n 0, 1) := by decide +kernel
theorem J_MPlaceRows_module_d1 : decode J_MPlaceRows_module.2.1 1 = .ok (.invokestatic 59, 3) := by decide +kernel
theorem J_MPlaceRows_module_d4 : decode J_MPlaceRows_module.2.1 4 = .ok (.istore_n 3, 1) := by decide +kernel
theorem J_MPlaceRows_module_d5 : decode J_MPlaceRows_module.2.1 5 = .ok (.iload_n 1, 1) := by decide +kernel
theorem J_MPlaceRows_module_d6 : decode J_MPlaceRows_module.2.1 6 = .ok (.iload_n 2, 1) := by decide +kernel
theorem J_MPlaceRows_module_d7 : decode J_MPlaceRows_module.2.1 7 = .ok (.iconst 3, 1) := by decide +kernel
theorem J_MPlaceRows_module_d8 : decode J_MPlaceRows_module.2.1 8 = .ok (.iconst 3, 1) := by decide +kernel
theorem J_MPlaceRows_module_d9 : decode J_MPlaceRows_module.2.1 9 = .ok (.invokestatic 63, 3) := by decide +kernel
theorem J_MPlaceRows_module_d12 : decode J_MPlaceRows_module.2.1 12 = .ok (.istore 4, 2) := by decide +kernel
theorem J_MPlaceRows_module_d14 : decode J_MPlaceRows_module.2.1 14 = .ok (.iload 4, 2) := by decide +kernel
theorem J_MPlaceRows_module_d16 : decode J_MPlaceRows_module.2.1 16 = .ok (.iconst 4, 1) := by decide +kernel
theorem J_MPlaceRows_module_d17 : decode J_MPlaceRows_module.2.1 17 = .ok (.if_icmp .le 15, 3) := by decide +kernel
theorem J_MPlaceRows_module_d20 : decode J_MPlaceRows_module.2.1 20 = .ok (.iload_n 1, 1) := by decide +kernel
theorem J_MPlaceRows_module_d21 : decode J_MPlaceRows_module.2.1 21 = .ok (.iload_n 2, 1) := by decide +kernel
theorem J_MPlaceRows_module_d22 : decode J_MPlaceRows_module.2.1 22 = .ok (.iload_n 3, 1) := by decide +kernel
theorem J_MPlaceRows_module_d23 : decode J_MPlaceRows_module.2.1 23 = .ok (.iconst 4, 1) := by decide +kernel
theorem J_MPlaceRows_module_d24 : decode J_MPlaceRows_module.2.1 24 = .ok (.isub, 1) := by decide +kernel
theorem J_MPlaceRows_module_d25 : decode J_MPlaceRows_module.2.1 25 = .ok (.iconst 3, 1) := by decide +kernel
theorem J_MPlaceRows_module_d26 : decode J_MPlaceRows_module.2.1 26 = .ok (.invokestatic 63, 3) := by decide +kernel
theorem J_MPlaceRows_module_d29 : decode J_MPlaceRows_module.2.1 29 = .ok (.goto 5, 3) := by decide +kernel
theorem J_MPlaceRows_module_d32 : decode J_MPlaceRows_module.2.1 32 = .ok (.iload 4, 2) := by decide +kernel
theorem J_MPlaceRows_module_d34 : decode J_MPlaceRows_module.2.1 34 = .ok (.istore 4, 2) := by decide +kernel
theorem J_MPlaceRows_module_d36 : decode J_MPlaceRows_module.2.1 36 = .ok (.iload 4, 2) := by decide +kernel
theorem J_MPlaceRows_module_d38 : decode J_MPlaceRows_module.2.1 38 = .ok (.iconst 4, 1) := by decide +kernel
theorem J_MPlaceRows_module_d39 : decode J_MPlaceRows_module.2.1 39 = .ok (.if_icmp .le 15, 3) := by decide +kernel
theorem J_MPlaceRows_module_d42 : decode J_MPlaceRows_module.2.1 42 = .ok (.iload_n 1, 1) := by decide +kernel
theorem J_MPlaceRows_module_d43 : decode J_MPlaceRows_module.2.1 43 = .ok (.iload_n 2, 1) := by decide +kernel
theorem J_MPlaceRows_module_d44 : decode J_MPlaceRows_module.2.1 44 = .ok (.iconst 3, 1) := by decide +kernel
theorem J_MPlaceRows_module_d45 : decode J_MPlaceRows_module.2.1 45 = .ok (.iload_n 3, 1) := by decide +kernel
theorem J_MPlaceRows_module_d46 : decode J_MPlaceRows_module.2.1 46 = .ok (.iconst 4, 1) := by decide +kernel
theorem J_MPlaceRows_module_d47 : decode J_MPlaceRows_module.2.1 47 = .ok (.isub, 1) := by decide +kernel
theorem J_MPlaceRows_module_d48 : decode J_MPlaceRows_module.2.1 48 = .ok (.invokestatic 63, 3) := by decide +kernel
theorem J_MPlaceRows_module_d51 : decode J_MPlaceRows_module.2.1 51 = .ok (.goto 5, 3) := by decide +kernel
theorem J_MPlaceRows_module_d54 : decode J_MPlaceRows_module.2.1 54 = .ok (.iload 4, 2) := by decide +kernel
theorem J_MPlaceRows_module_d56 : decode J_MPlaceRows_module.2.1 56 = .ok (.istore 4, 2) := by decide +kernel
theorem J_MPlaceRows_module_d58 : decode J_MPlaceRows_module.2.1 58 = .ok (.iload 4, 2) := by decide +kernel
theorem J_MPlaceRows_module_d60 : decode J_MPlaceRows_module.2.1 60 = .ok (.iconst 4, 1) := by decide +kernel
theorem J_MPlaceRows_module_d61 : decode J_MPlaceRows_module.2.1 61 = .ok (.if_icmp .gt 21, 3) := by decide +kernel
theorem J_MPlaceRows_module_d64 : decode J_MPlaceRows_module.2.1 64 = .ok (.iload 4, 2) := by decide +kernel
theorem J_MPlaceRows_module_d66 : decode J_MPlaceRows_module.2.1 66 = .ok (.iconst 2, 1) := by decide +kernel
theorem J_MPlaceRows_module_d67 : decode J_MPlaceRows_module.2.1 67 = .ok (.if_icmp .eq 9, 3) := by decide +kernel
theorem J_MPlaceRows_module_d70 : decode J_MPlaceRows_module.2.1 70 = .ok (.iload 4, 2) := by decide +kernel
theorem J_MPlaceRows_module_d72 : decode J_MPlaceRows_module.2.1 72 = .ok (.iconst 4, 1) := by decide +kernel
theorem J_MPlaceRows_module_d73 : decode J_MPlaceRows_module.2.1 73 = .ok (.if_icmp .ne 7, 3) := by decide +kernel
theorem J_MPlaceRows_module_d76 : decode J_MPlaceRows_module.2.1 76 = .ok (.iconst 0, 1) := by decide +kernel
theorem J_MPlaceRows_module_d77 : decode J_MPlaceRows_module.2.1 77 = .ok (.goto 4, 3) := by decide +kernel
theorem J_MPlaceRows_module_d80 : decode J_MPlaceRows_module.2.1 80 = .ok (.iconst 1, 1) := by decide +kernel
theorem J_MPlaceRows_module_d81 : decode J_MPlaceRows_module.2.1 81 = .ok (.ireturn, 1) := by decide +kernel
theorem J_MPlaceRows_module_d82 : decode J_MPlaceRows_module.2.1 82 = .ok (.iload_n 2, 1) := by decide +kernel
theorem J_MPlaceRows_module_d83 : decode J_MPlaceRows_module.2.1 83 = .ok (.bipush 6, 2) := by decide +kernel
theorem J_MPlaceRows_module_d85 : decode J_MPlaceRows_module.2.1 85 = .ok (.if_icmp .ne 29, 3) := by decide +kernel
theorem J_MPlaceRows_module_d88 : decode J_MPlaceRows_module.2.1 88 = .ok (.iload_n 1, 1) := by decide +kernel
theorem J_MPlaceRows_module_d89 : decode J_MPlaceRows_module.2.1 89 = .ok (.bipush 8, 2) := by decide +kernel
theorem J_MPlaceRows_module_d91 : decode J_MPlaceRows_module.2.1 91 = .ok (.if_icmp .lt 23, 3) := by decide +kernel
theorem J_MPlaceRows_module_d94 : decode J_MPlaceRows_module.2.1 94 = .ok (.iload_n 1, 1) := by decide +kernel
theorem J_MPlaceRows_module_d95 : decode J_MPlaceRows_module.2.1 95 = .ok (.iload_n 3, 1) := by decide +kernel
theorem J_MPlaceRows_module_d96 : decode J_MPlaceRows_module.2.1 96 = .ok (.bipush 9, 2) := by decide +kernel
theorem J_MPlaceRows_module_d98 : decode J_MPlaceRows_module.2.1 98 = .ok (.isub, 1) := by decide +kernel
theorem J_MPlaceRows_module_d99 : decode J_MPlaceRows_module.2.1 99 = .ok (.if_icmp .gt 15, 3) := by decide +kernel
theorem J_MPlaceRows_module_d102 : decode J_MPlaceRows_module.2.1 102 = .ok (.iload_n 1, 1) := by decide +kernel
theorem J_MPlaceRows_module_d103 : decode J_MPlaceRows_module.2.1 103 = .ok (.iconst 2, 1) := by decide +kernel
theorem J_MPlaceRows_module_d104 : decode J_MPlaceRows_module.2.1 104 = .ok (.irem, 1) := by decide +kernel
theorem J_MPlaceRows_module_d105 : decode J_MPlaceRows_module.2.1 105 = .ok (.ifCond .ne 7, 3) := by decide +kernel
theorem J_MPlaceRows_module_d108 : decode J_MPlaceRows_module.2.1 108 = .ok (.iconst 1, 1) := by decide +kernel
theorem J_MPlaceRows_module_d109 : decode J_MPlaceRows_module.2.1 109 = .ok (.goto 4, 3) := by decide +kernel
theorem J_MPlaceRows_module_d112 : decode J_MPlaceRows_module.2.1 112 = .ok (.iconst 0, 1) := by decide +kernel
theorem J_MPlaceRows_module_d113 : decode J_MPlaceRows_module.2.1 113 = .ok (.ireturn, 1) := by decide +kernel
theorem J_MPlaceRows_module_d114 : decode J_MPlaceRows_module.2.1 114 = .ok (.iload_n 1, 1) := by decide +kernel
theorem J_MPlaceRows_module_d115 : decode J_MPlaceRows_module.2.1 115 = .ok (.bipush 6, 2) := by decide +kernel
theorem J_MPlaceRows_module_d117 : decode J_MPlaceRows_module.2.1 117 = .ok (.if_icmp .ne 29, 3) := by decide +kernel
theorem J_MPlaceRows_module_d120 : decode J_MPlaceRows_module.2.1 120 = .ok (.iload_n 2, 1) := by decide +kernel
theorem J_MPlaceRows_module_d121 : decode J_MPlaceRows_module.2.1 121 = .ok (.bipush 8, 2) := by decide +kernel
theorem J_MPlaceRows_module_d123 : decode J_MPlaceRows_module.2.1 123 = .ok (.if_icmp .lt 23, 3) := by decide +kernel
theorem J_MPlaceRows_module_d126 : decode J_MPlaceRows_module.2.1 126 = .ok (.iload_n 2, 1) := by decide +kernel
theorem J_MPlaceRows_module_d127 : decode J_MPlaceRows_module.2.1 127 = .ok (.iload_n 3, 1) := by decide +kernel
theorem J_MPlaceRows_module_d128 : decode J_MPlaceRows_module.2.1 128 = .ok (.bipush 9, 2) := by decide +kernel
theorem J_MPlaceRows_module_d130 : decode J_MPlaceRows_module.2.1 130 = .ok (.isub, 1) := by decide +kernel
theorem J_MPlaceRows_module_d131 : decode J_MPlaceRows_module.2.1 131 = .ok (.if_icmp .gt 15, 3) := by decide +kernel
theorem J_MPlaceRows_module_d134 : decode J_MPlaceRows_module.2.1 134 = .ok (.iload_n 2, 1) := by decide +kernel
theorem J_MPlaceRows_module_d135 : decode J_MPlaceRows_module.2.1 135 = .ok (.iconst 2, 1) := by decide +kernel
theorem J_MPlaceRows_module_d136 : decode J_MPlaceRows_module.2.1 136 = .ok (.irem, 1) := by decide +kernel
theorem J_MPlaceRows_module_d137 : decode J_MPlaceRows_module.2.1 137 = .ok (.ifCond .ne 7, 3) := by decide +kernel
theorem J_MPlaceRows_module_d140 : decode J_MPlaceRows_module.2.1 140 = .ok (.iconst 1, 1) := by decide +kernel
theorem J_MPlaceRows_module_d141 : decode J_MPlaceRows_module.2.1 141 = .ok (.goto 4, 3) := by decide +kernel
theorem J_MPlaceRows_module_d144 : decode J_MPlaceRows_module.2.1 144 = .ok (.iconst 0, 1) := by decide +kernel
theorem J_MPlaceRows_module_d145 : decode J_MPlaceRows_module.2.1 145 = .ok (.ireturn, 1) := by decide +kernel
theorem J_MPlaceRows_module_d146 : decode J_MPlaceRows_module.2.1 146 = .ok (.iload_n 1, 1) := by decide +kernel
theorem J_MPlaceRows_module_d147 : decode J_MPlaceRows_module.2.1 147 = .ok (.bipush 8, 2) := by decide +kernel
theorem J_MPlaceRows_module_d149 : decode J_MPlaceRows_module.2.1 149 = .ok (.if_icmp .ne 15, 3) := by decide +kernel
theorem J_MPlaceRows_module_d152 : decode J_MPlaceRows_module.2.1 152 = .ok (.iload_n 2, 1) := by decide +kernel
theorem J_MPlaceRows_module_d153 : decode J_MPlaceRows_module.2.1 153 = .ok (.iload_n 3, 1) := by decide +kernel
theorem J_MPlaceRows_module_d154 : decode J_MPlaceRows_module.2.1 154 = .ok (.bipush 8, 2) := by decide +kernel
theorem J_MPlaceRows_module_d156 : decode J_MPlaceRows_module.2.1 156 = .ok (.isub, 1) := by decide +kernel
theorem J_MPlaceRows_module_d157 : decode J_MPlaceRows_module.2.1 157 = .ok (.if_icmp .ne 7, 3) := by decide +kernel
theorem J_MPlaceRows_module_d160 : decode J_MPlaceRows_module.2.1 160 = .ok (.iconst 1, 1) := by decide +kernel
theorem J_MPlaceRows_module_d161 : decode J_MPlaceRows_module.2.1 161 = .ok (.goto 4, 3) := by decide +kernel
theorem J_MPlaceRows_module_d164 : decode J_MPlaceRows_module.2.1 164 = .ok (.iconst (-1), 1) := by decide +kernel
theorem J_MPlaceRows_module_d165 : decode J_MPlaceRows_module.2.1 165 = .ok (.ireturn, 1) := by decide +kernel
theorem f_MPlaceRows_module_ok {L : Nat} {xs : Nat → Int32} {dep : Nat} {w : Bool} {p0 : Int32} {p1 : Int32} {p2 : Int32} {M : im_M} {Q : Int32 → Prop} (hM : lw_S w M) (h : ed (f_MPlaceRows_module p0 p1 p2 M) Q) : ia (tb_G L xs) (dep + 2) J_MPlaceRows_module (rpI M Q) (0, lv_args 0 [.int p0, .int p1, .int p2], [], M) := by
  have hS : im_St (tb_G L xs) (dep + 2) J_MPlaceRows_module (ia (tb_G L xs) (dep + 2) J_MPlaceRows_module (rpI M Q)) := ia_St
  unfold f_MPlaceRows_module at h
  have l0 : im_lk (lv_args 0 [.int p0, .int p1, .int p2]) 0 = some (.int p0) := rfl
  have l1 : im_lk (lv_args 0 [.int p0, .int p1, .int p2]) 1 = some (.int p1) := rfl
  have l2 : im_lk (lv_args 0 [.int p0, .int p1, .int p2]) 2 = some (.int p2) := rfl
  refine iq_iload_n hS 1 J_MPlaceRows_module_d0 l0 rfl ?_
  obtain ⟨Q1, hQ1, h⟩ := bd1_ed h
  refine iq_cpI hS 4 J_MPlaceRows_module_d1 rfl (pr_stat (vs := [_]) lc_14_59 lT_464 rfl rfl (by decide) rfl (Nat.le_of_ble_eq_true rfl) (Nat.le_of_ble_eq_true rfl)) (f_MPlaceRows_side_ok (dep := dep + 1) hM h) rfl ?_
  intro x1 h
  replace h := hQ1 _ h
  refine iq_istore_n hS 5 J_MPlaceRows_module_d4 (by decide) rfl ?_
  refine iq_iload_n hS 6 J_MPlaceRows_module_d5 (lk_1i l1 (by decide)) rfl ?_
  refine iq_iload_n hS 7 J_MPlaceRows_module_d6 (lk_1i l2 (by decide)) rfl ?_
  refine iq_iconst hS 8 J_MPlaceRows_module_d7 (v := 3) (by decide +kernel) rfl ?_
  refine iq_iconst hS 9 J_MPlaceRows_module_d8 (v := 3) (by decide +kernel) rfl ?_
  obtain ⟨Q2, hQ2, h⟩ := bd1_ed h
  refine iq_cpI hS 12 J_MPlaceRows_module_d9 rfl (pr_stat (vs := [_, _, _, _]) lc_14_63 lT_466 rfl rfl (by decide) rfl (Nat.le_of_ble_eq_true rfl) (Nat.le_of_ble_eq_true rfl)) (f_MPlaceRows_distance_ok (dep := dep + 0) hM h) rfl ?_
  intro x2 h
  replace h := hQ2 _ h
  refine iq_istore hS 14 J_MPlaceRows_module_d12 (by decide) rfl ?_
  refine iq_iload hS 16 J_MPlaceRows_module_d14 lk_1s rfl ?_
  refine iq_iconst hS 17 J_MPlaceRows_module_d16 (v := 4) (by decide +kernel) rfl ?_
  obtain ⟨Q3, hQ3, h⟩ := bd1_ed h
  have J3 : ∀ (y5 : Int32) (L' : List (Nat × Value)), im_lk L' 1 = some (.int p1) → im_lk L' 2 = some (.int p2) → im_lk L' 3 = some (.int x1) → Q3 y5 → ia (tb_G L xs) (dep + 2) J_MPlaceRows_module (rpI M Q) (34, L', [.int y5], M) := by
    intro y5 L' l6 l7 l8 h
    replace h := hQ3 _ h
    refine iq_istore hS 36 J_MPlaceRows_module_d34 (by decide) rfl ?_
    refine iq_iload hS 38 J_MPlaceRows_module_d36 lk_1s rfl ?_
    refine iq_iconst hS 39 J_MPlaceRows_module_d38 (v := 4) (by decide +kernel) rfl ?_
    obtain ⟨Q9, hQ9, h⟩ := bd1_ed h
    have J9 : ∀ (y11 : Int32) (L' : List (Nat × Value)), im_lk L' 1 = some (.int p1) → im_lk L' 2 = some (.int p2) → im_lk L' 3 = some (.int x1) → Q9 y11 → ia (tb_G L xs) (dep + 2) J_MPlaceRows_module (rpI M Q) (56, L', [.int y11], M) := by
      intro y11 L' l12 l13 l14 h
      replace h := hQ9 _ h
      refine iq_istore hS 58 J_MPlaceRows_module_d56 (by decide) rfl ?_
      refine iq_iload hS 60 J_MPlaceRows_module_d58 lk_1s rfl ?_
      refine iq_iconst hS 61 J_MPlaceRows_module_d60 (v := 4) (by decide +kernel) rfl ?_
      refine iq_icmp_gt hS 64 J_MPlaceRows_module_d61 (t := 82) rfl (fun q61 => ?_) rfl (fun q61 => ?_)
      · replace h := ed_pos q61 h
        refine iq_iload_n hS 83 J_MPlaceRows_module_d82 (lk_1i l13 (by decide)) rfl ?_
        refine iq_bipush hS 85 J_MPlaceRows_module_d83 (v := 6) (by decide +kernel) rfl ?_
        obtain ⟨k15, Q15, hQ15, hk15, h⟩ := jn0_ed h
        have J15 : ∀  (L' : List (Nat × Value)), im_lk L' 1 = some (.int p1) → im_lk L' 2 = some (.int p2) → im_lk L' 3 = some (.int x1) → Q15 () → ia (tb_G L xs) (dep + 2) J_MPlaceRows_module (rpI M Q) (114, L', [], M) := by
          intro  L' l16 l17 l18 h
          replace h := hQ15  h
          refine iq_iload_n hS 115 J_MPlaceRows_module_d114 l16 rfl ?_
          refine iq_bipush hS 117 J_MPlaceRows_module_d115 (v := 6) (by decide +kernel) rfl ?_
          obtain ⟨k19, Q19, hQ19, hk19, h⟩ := jn0_ed h
          have J19 : ∀  (L' : List (Nat × Value)), im_lk L' 1 = some (.int p1) → im_lk L' 2 = some (.int p2) → im_lk L' 3 = some (.int x1) → Q19 () → ia (tb_G L xs) (dep + 2) J_MPlaceRows_module (rpI M Q) (146, L', [], M) := by
            intro  L' l20 l21 l22 h
            replace h := hQ19  h
            refine iq_iload_n hS 147 J_MPlaceRows_module_d146 l20 rfl ?_
            refine iq_bipush hS 149 J_MPlaceRows_module_d147 (v := 8) (by decide +kernel) rfl ?_
            refine iq_icmp_ne hS 152 J_MPlaceRows_module_d149 (t := 164) rfl (fun q149 => ?_) rfl (fun q149 => ?_)
            · replace h := ed_pos q149 h
              refine iq_iconst hS 165 J_MPlaceRows_module_d164 (v := (-1)) (by decide +kernel) rfl ?_
              exact iq_iret J_MPlaceRows_module_d165 rfl rfl ⟨_, rfl, rfl, ed_some h⟩
            · replace h := ed_neg q149 h
              refine iq_iload_n hS 153 J_MPlaceRows_module_d152 l21 rfl ?_
              refine iq_iload_n hS 154 J_MPlaceRows_module_d153 l22 rfl ?_
              refine iq_bipush hS 156 J_MPlaceRows_module_d154 (v := 8) (by decide +kernel) rfl ?_
              refine iq_isub hS 157 J_MPlaceRows_module_d156 rfl ?_
              refine iq_icmp_ne hS 160 J_MPlaceRows_module_d157 (t := 164) rfl (fun q157 => ?_) rfl (fun q157 => ?_)
              · replace h := ed_pos q157 h
                refine iq_iconst hS 165 J_MPlaceRows_module_d164 (v := (-1)) (by decide +kernel) rfl ?_
                exact iq_iret J_MPlaceRows_module_d165 rfl rfl ⟨_, rfl, rfl, ed_some h⟩
              · replace h := ed_neg q157 h
                refine iq_iconst hS 161 J_MPlaceRows_module_d160 (v := 1) (by decide +kernel) rfl ?_
                refine iq_goto hS J_MPlaceRows_module_d161 (t := 165) rfl ?_
                exact iq_iret J_MPlaceRows_module_d165 rfl rfl ⟨_, rfl, rfl, ed_some h⟩
          refine iq_icmp_ne hS 120 J_MPlaceRows_module_d117 (t := 146) rfl (fun q117 => ?_) rfl (fun q117 => ?_)
          · replace h := ed_pos q117 h
            exact J19  _ l16 l17 l18 (hk19  h)
          · replace h := ed_neg q117 h
            refine iq_iload_n hS 121 J_MPlaceRows_module_d120 l17 rfl ?_
            refine iq_bipush hS 123 J_MPlaceRows_module_d121 (v := 8) (by decide +kernel) rfl ?_
            refine iq_icmp_lt hS 126 J_MPlaceRows_module_d123 (t := 146) rfl (fun q123 => ?_) rfl (fun q123 => ?_)
            · replace h := ed_pos q123 h
              exact J19  _ l16 l17 l18 (hk19  h)
            · replace h := ed_neg q123 h
              refine iq_iload_n hS 127 J_MPlaceRows_module_d126 l17 rfl ?_
              refine iq_iload_n hS 128 J_MPlaceRows_module_d127 l18 rfl ?_
              refine iq_bipush hS 130 J_MPlaceRows_module_d128 (v := 9) (by decide +kernel) rfl ?_
              refine iq_isub hS 131 J_MPlaceRows_module_d130 rfl ?_
              refine iq_icmp_gt hS 134 J_MPlaceRows_module_d131 (t := 146) rfl (fun q131 => ?_) rfl (fun q131 => ?_)
              · replace h := ed_pos q131 h
                exact J19  _ l16 l17 l18 (hk19  h)
              · replace h := ed_neg q131 h
                refine iq_iload_n hS 135 J_MPlaceRows_module_d134 l17 rfl ?_
                refine iq_iconst hS 136 J_MPlaceRows_module_d135 (v := 2) (by decide +kernel) rfl ?_
                refine iq_irem hS 137 J_MPlaceRows_module_d136 (by decide) rfl ?_
                refine iq_if_ne hS 140 J_MPlaceRows_module_d137 (t := 144) rfl (fun q137 => ?_) rfl (fun q137 => ?_)
                · replace h := ed_pos q137 h
                  refine iq_iconst hS 145 J_MPlaceRows_module_d144 (v := 0) (by decide +kernel) rfl ?_
                  exact iq_iret J_MPlaceRows_module_d145 rfl rfl ⟨_, rfl, rfl, ed_some h⟩
                · replace h := ed_neg q137 h
                  refine iq_iconst hS 141 J_MPlaceRows_module_d140 (v := 1) (by decide +kernel) rfl ?_
                  refine iq_goto hS J_MPlaceRows_module_d141 (t := 145) rfl ?_
                  exact iq_iret J_MPlaceRows_module_d145 rfl rfl ⟨_, rfl, rfl, ed_some h⟩
        refine iq_icmp_ne hS 88 J_MPlaceRows_module_d85 (t := 114) rfl (fun q85 => ?_) rfl (fun q85 => ?_)
        · replace h := ed_pos q85 h
          exact J15  _ (lk_1i l12 (by decide)) (lk_1i l13 (by decide)) (lk_1i l14 (by decide)) (hk15  h)
        · replace h := ed_neg q85 h
          refine iq_iload_n hS 89 J_MPlaceRows_module_d88 (lk_1i l12 (by decide)) rfl ?_
          refine iq_bipush hS 91 J_MPlaceRows_module_d89 (v := 8) (by decide +kernel) rfl ?_
          refine iq_icmp_lt hS 94 J_MPlaceRows_module_d91 (t := 114) rfl (fun q91 => ?_) rfl (fun q91 => ?_)
          · replace h := ed_pos q91 h
            exact J15  _ (lk_1i l12 (by decide)) (lk_1i l13 (by decide)) (lk_1i l14 (by decide)) (hk15  h)
          · replace h := ed_neg q91 h
            refine iq_iload_n hS 95 J_MPlaceRows_module_d94 (lk_1i l12 (by decide)) rfl ?_
            refine iq_iload_n hS 96 J_MPlaceRows_module_d95 (lk_1i l14 (by decide)) rfl ?_
            refine iq_bipush hS 98 J_MPlaceRows_module_d96 (v := 9) (by decide +kernel) rfl ?_
            refine iq_isub hS 99 J_MPlaceRows_module_d98 rfl ?_
            refine iq_icmp_gt hS 102 J_MPlaceRows_module_d99 (t := 114) rfl (fun q99 => ?_) rfl (fun q99 => ?_)
            · replace h := ed_pos q99 h
              exact J15  _ (lk_1i l12 (by decide)) (lk_1i l13 (by decide)) (lk_1i l14 (by decide)) (hk15  h)
            · replace h := ed_neg q99 h
              refine iq_iload_n hS 103 J_MPlaceRows_module_d102 (lk_1i l12 (by decide)) rfl ?_
              refine iq_iconst hS 104 J_MPlaceRows_module_d103 (v := 2) (by decide +kernel) rfl ?_
              refine iq_irem hS 105 J_MPlaceRows_module_d104 (by decide) rfl ?_
              refine iq_if_ne hS 108 J_MPlaceRows_module_d105 (t := 112) rfl (fun q105 => ?_) rfl (fun q105 => ?_)
              · replace h := ed_pos q105 h
                refine iq_iconst hS 113 J_MPlaceRows_module_d112 (v := 0) (by decide +kernel) rfl ?_
                exact iq_iret J_MPlaceRows_module_d113 rfl rfl ⟨_, rfl, rfl, ed_some h⟩
              · replace h := ed_neg q105 h
                refine iq_iconst hS 109 J_MPlaceRows_module_d108 (v := 1) (by decide +kernel) rfl ?_
                refine iq_goto hS J_MPlaceRows_module_d109 (t := 113) rfl ?_
                exact iq_iret J_MPlaceRows_module_d113 rfl rfl ⟨_, rfl, rfl, ed_some h⟩
      · replace h := ed_neg q61 h
        refine iq_iload hS 66 J_MPlaceRows_module_d64 lk_1s rfl ?_
        refine iq_iconst hS 67 J_MPlaceRows_module_d66 (v := 2) (by decide +kernel) rfl ?_
        obtain ⟨k23, Q23, hQ23, hk23, h⟩ := jn0_ed h
        have J23 : ∀  (L' : List (Nat × Value)), Q23 () → ia (tb_G L xs) (dep + 2) J_MPlaceRows_module (rpI M Q) (76, L', [], M) := by
          intro  L'  h
          replace h := hQ23  h
          refine iq_iconst hS 77 J_MPlaceRows_module_d76 (v := 0) (by decide +kernel) rfl ?_
          refine iq_goto hS J_MPlaceRows_module_d77 (t := 81) rfl ?_
          exact iq_iret J_MPlaceRows_module_d81 rfl rfl ⟨_, rfl, rfl, ed_some h⟩
        refine iq_icmp_eq hS 70 J_MPlaceRows_module_d67 (t := 76) rfl (fun q67 => ?_) rfl (fun q67 => ?_)
        · replace h := ed_pos q67 h
          exact J23  _  (hk23  h)
        · replace h := ed_neg q67 h
          refine iq_iload hS 72 J_MPlaceRows_module_d70 lk_1s rfl ?_
          refine iq_iconst hS 73 J_MPlaceRows_module_d72 (v := 4) (by decide +kernel) rfl ?_
          refine iq_icmp_ne hS 76 J_MPlaceRows_module_d73 (t := 80) rfl (fun q73 => ?_) rfl (fun q73 => ?_)
          · replace h := ed_pos q73 h
            refine iq_iconst hS 81 J_MPlaceRows_module_d80 (v := 1) (by decide +kernel) rfl ?_
            exact iq_iret J_MPlaceRows_module_d81 rfl rfl ⟨_, rfl, rfl, ed_some h⟩
          · replace h := ed_neg q73 h
            exact J23  _  (hk23  h)
    refine iq_icmp_le hS 42 J_MPlaceRows_module_d39 (t := 54) rfl (fun q39 => ?_) rfl (fun q39 => ?_)
    · replace h := ed_pos q39 h
      refine iq_iload hS 56 J_MPlaceRows_module_d54 lk_1s rfl ?_
      exact J9 _ _ (lk_1i l6 (by decide)) (lk_1i l7 (by decide)) (lk_1i l8 (by decide)) (ed_some h)
    · replace h := ed_neg q39 h
      refine iq_iload_n hS 43 J_MPlaceRows_module_d42 (lk_1i l6 (by decide)) rfl ?_
      refine iq_iload_n hS 44 J_MPlaceRows_module_d43 (lk_1i l7 (by decide)) rfl ?_
      refine iq_iconst hS 45 J_MPlaceRows_module_d44 (v := 3) (by decide +kernel) rfl ?_
      refine iq_iload_n hS 46 J_MPlaceRows_module_d45 (lk_1i l8 (by decide)) rfl ?_
      refine iq_iconst hS 47 J_MPlaceRows_module_d46 (v := 4) (by decide +kernel) rfl ?_
      refine iq_isub hS 48 J_MPlaceRows_module_d47 rfl ?_
      obtain ⟨Q10, hQ10, h⟩ := bd1_ed h
      refine iq_cpI hS 51 J_MPlaceRows_module_d48 rfl (pr_stat (vs := [_, _, _, _]) lc_14_63 lT_466 rfl rfl (by decide) rfl (Nat.le_of_ble_eq_true rfl) (Nat.le_of_ble_eq_true rfl)) (f_MPlaceRows_distance_ok (dep := dep + 0) hM h) rfl ?_
      intro x10 h
      replace h := hQ10 _ h
      refine iq_goto hS J_MPlaceRows_module_d51 (t := 56) rfl ?_
      exact J9 _ _ (lk_1i l6 (by decide)) (lk_1i l7 (by decide)) (lk_1i l8 (by decide)) (ed_some h)
  refine iq_icmp_le hS 20 J_MPlaceRows_module_d17 (t := 32) rfl (fun q17 => ?_) rfl (fun q17 => ?_)
  · replace h := ed_pos q17 h
    refine iq_iload hS 34 J_MPlaceRows_module_d32 lk_1s rfl ?_
    exact J3 _ _ (lk_1i (lk_1i l1 (by decide)) (by decide)) (lk_1i (lk_1i l2 (by decide)) (by decide)) (lk_1i lk_1s (by decide)) (ed_some h)
  · replace h := ed_neg q17 h
    refine iq_iload_n hS 21 J_MPlaceRows_module_d20 (lk_1i (lk_1i l1 (by decide)) (by decide)) rfl ?_
    refine iq_iload_n hS 22 J_MPlaceRows_module_d21 (lk_1i (lk_1i l2 (by decide)) (by decide)) rfl ?_
    refine iq_iload_n hS 23 J_MPlaceRows_module_d22 (lk_1i lk_1s (by decide)) rfl ?_
    refine iq_iconst hS 24 J_MPlaceRows_module_d23 (v := 4) (by decide +kernel) rfl ?_
    refine iq_isub hS 25 J_MPlaceRows_module_d24 rfl ?_
    refine iq_iconst hS 26 J_MPlaceRows_module_d25 (v := 3) (by decide +kernel) rfl ?_
    obtain ⟨Q4, hQ4, h⟩ := bd1_ed h
    refine iq_cpI hS 29 J_MPlaceRows_module_d26 rfl (pr_stat (vs := [_, _, _, _]) lc_14_63 lT_466 rfl rfl (by decide) rfl (Nat.le_of_ble_eq_true rfl) (Nat.le_of_ble_eq_true rfl)) (f_MPlaceRows_distance_ok (dep := dep + 0) hM h) rfl ?_
    intro x4 h
    replace h := hQ4 _ h
    refine iq_goto hS J_MPlaceRows_module_d29 (t := 34) rfl ?_
    exact J3 _ _ (lk_1i (lk_1i l1 (by decide)) (by decide)) (lk_1i (lk_1i l2 (by decide)) (by decide)) (lk_1i lk_1s (by decide)) (ed_some h)
noncomputable def f_MPlaceRows_list_L20 (v8 : Int32) (v9 : Int32) (v10 : Int32) (x11 : Int32) (M12 : im_M) : Option ((Int32 × im_M) ⊕ (im_M)) := if v9 ≤ x11 then some (.inr M12) else bd1 (f_MPlaceRows_module v8 x11 v10 M12) fun (x13 : Int32) => bd1 (jn1 (fun (M17 : im_M) => if x13 = (-1) then some M17 else gd (inb ((4 : Int32) * (im_i M17 130 6)) 2100) <| gd (inb (((4 : Int32) * (im_i (im_setI M17 133 (Int32.toNatClampNeg ((4 : Int32) * (im_i M17 130 6))) x11) 130 6)) + 1) 2100) <| gd (inb (((4 : Int32) * (im_i (im_setI (im_setI M17 133 (Int32.toNatClampNeg ((4 : Int32) * (im_i M17 130 6))) x11) 133 (Int32.toNatClampNeg (((4 : Int32) * (im_i (im_setI M17 133 (Int32.toNatClampNeg ((4 : Int32) * (im_i M17 130 6))) x11) 130 6)) + 1)) v10) 130 6)) + 2) 2100) <| gd (inb (((4 : Int32) * (im_i (im_setI (im_setI (im_setI M17 133 (Int32.toNatClampNeg ((4 : Int32) * (im_i M17 130 6))) x11) 133 (Int32.toNatClampNeg (((4 : Int32) * (im_i (im_setI M17 133 (Int32.toNatClampNeg ((4 : Int32) * (im_i M17 130 6))) x11) 130 6)) + 1)) v10) 133 (Int32.toNatClampNeg (((4 : Int32) * (im_i (im_setI (im_setI M17 133 (Int32.toNatClampNeg ((4 : Int32) * (im_i M17 130 6))) x11) 133 (Int32.toNatClampNeg (((4 : Int32) * (im_i (im_setI M17 133 (Int32.toNatClampNeg ((4 : Int32) * (im_i M17 130 6))) x11) 130 6)) + 1)) v10) 130 6)) + 2)) 1) 130 6)) + 3) 2100) <| some (im_setI (im_setI (im_setI (im_setI (im_setI M17 133 (Int32.toNatClampNeg ((4 : Int32) * (im_i M17 130 6))) x11) 133 (Int32.toNatClampNeg (((4 : Int32) * (im_i (im_setI M17 133 (Int32.toNatClampNeg ((4 : Int32) * (im_i M17 130 6))) x11) 130 6)) + 1)) v10) 133 (Int32.toNatClampNeg (((4 : Int32) * (im_i (im_setI (im_setI M17 133 (Int32.toNatClampNeg ((4 : Int32) * (im_i M17 130 6))) x11) 133 (Int32.toNatClampNeg (((4 : Int32) * (im_i (im_setI M17 133 (Int32.toNatClampNeg ((4 : Int32) * (im_i M17 130 6))) x11) 130 6)) + 1)) v10) 130 6)) + 2)) 1) 133 (Int32.toNatClampNeg (((4 : Int32) * (im_i (im_setI (im_setI (im_setI M17 133 (Int32.toNatClampNeg ((4 : Int32) * (im_i M17 130 6))) x11) 133 (Int32.toNatClampNeg (((4 : Int32) * (im_i (im_setI M17 133 (Int32.toNatClampNeg ((4 : Int32) * (im_i M17 130 6))) x11) 130 6)) + 1)) v10) 133 (Int32.toNatClampNeg (((4 : Int32) * (im_i (im_setI (im_setI M17 133 (Int32.toNatClampNeg ((4 : Int32) * (im_i M17 130 6))) x11) 133 (Int32.toNatClampNeg (((4 : Int32) * (im_i (im_setI M17 133 (Int32.toNatClampNeg ((4 : Int32) * (im_i M17 130 6))) x11) 130 6)) + 1)) v10) 130 6)) + 2)) 1) 130 6)) + 3)) x13) 130 6 ((im_i (im_setI (im_setI (im_setI (im_setI M17 133 (Int32.toNatClampNeg ((4 : Int32) * (im_i M17 130 6))) x11) 133 (Int32.toNatClampNeg (((4 : Int32) * (im_i (im_setI M17 133 (Int32.toNatClampNeg ((4 : Int32) * (im_i M17 130 6))) x11) 130 6)) + 1)) v10) 133 (Int32.toNatClampNeg (((4 : Int32) * (im_i (im_setI (im_setI M17 133 (Int32.toNatClampNeg ((4 : Int32) * (im_i M17 130 6))) x11) 133 (Int32.toNatClampNeg (((4 : Int32) * (im_i (im_setI M17 133 (Int32.toNatClampNeg ((4 : Int32) * (im_i M17 130 6))) x11) 130 6)) + 1)) v10) 130 6)) + 2)) 1) 133 (Int32.toNatClampNeg (((4 : Int32) * (im_i (im_setI (im_setI (im_setI M17 133 (Int32.toNatClampNeg ((4 : Int32) * (im_i M17 130 6))) x11) 133 (Int32.toNatClampNeg (((4 : Int32) * (im_i (im_setI M17 133 (Int32.toNatClampNeg ((4 : Int32) * (im_i M17 130 6))) x11) 130 6)) + 1)) v10) 133 (Int32.toNatClampNeg (((4 : Int32) * (im_i (im_setI (im_setI M17 133 (Int32.toNatClampNeg ((4 : Int32) * (im_i M17 130 6))) x11) 133 (Int32.toNatClampNeg (((4 : Int32) * (im_i (im_setI M17 133 (Int32.toNatClampNeg ((4 : Int32) * (im_i M17 130 6))) x11) 130 6)) + 1)) v10) 130 6)) + 2)) 1) 130 6)) + 3)) x13) 130 6) + 1))) fun k15 => if x13 = (-1) then k15 M12 else if x11 ≤ 0 then k15 M12 else bd1 (f_MPlaceRows_module v8 (x11 - 1) v10 M12) fun (x16 : Int32) => if ¬ x16 = x13 then k15 M12 else gd (inb (((4 : Int32) * (im_i M12 130 6)) - 2) 2100) <| gd (inb (((4 : Int32) * (im_i M12 130 6)) - 2) 2100) <| some (im_setI M12 133 (Int32.toNatClampNeg (((4 : Int32) * (im_i M12 130 6)) - 2)) ((im_i M12 133 (Int32.toNatClampNeg (((4 : Int32) * (im_i M12 130 6)) - 2))) + 1))) fun (M24 : im_M) => some (.inl ((x11 + 1), M24))
noncomputable def f_MPlaceRows_list_L12 (v3 : Int32) (v4 : Int32) (x5 : Int32) (M6 : im_M) : Option ((Int32 × im_M) ⊕ (im_M)) := if v4 ≤ x5 then some (.inr M6) else bd1 (lp (uc2 (f_MPlaceRows_list_L20 v3 v4 x5)) (0, M6)) fun (M30 : im_M) => some (.inl ((x5 + 1), M30))
noncomputable def f_MPlaceRows_list (p0 : Int32) (M : im_M) : Option (im_M) := bd1 (f_MPlaceRows_side p0 M) fun (x1 : Int32) => bd1 (lp (uc2 (f_MPlaceRows_list_L12 p0 x1)) (0, (im_setI M 130 6 0))) fun (M31 : im_M) => some M31
theorem J_MPlaceRows_list_d0 : decode J_MPlaceRows_list.2.1 0 = .ok (.iload_n 1, 1) := by decide +kernel
theorem J_MPlaceRows_list_d1 : decode J_MPlaceRows_list.2.1 1 = .ok (.invokestatic 59, 3) := by decide +kernel
theorem J_MPlaceRows_list_d4 : decode J_MPlaceRows_list.2.1 4 = .ok (.istore_n 2, 1) := by decide +kernel
theorem J_MPlaceRows_list_d5 : decode J_MPlaceRows_list.2.1 5 = .ok (.aload_n 0, 1) := by decide +kernel
theorem J_MPlaceRows_list_d6 : decode J_MPlaceRows_list.2.1 6 = .ok (.iconst 0, 1) := by decide +kernel
theorem J_MPlaceRows_list_d7 : decode J_MPlaceRows_list.2.1 7 = .ok (.putfield 85, 3) := by decide +kernel
theorem J_MPlaceRows_list_d10 : decode J_MPlaceRows_list.2.1 10 = .ok (.iconst 0, 1) := by decide +kernel
theorem J_MPlaceRows_list_d11 : decode J_MPlaceRows_list.2.1 11 = .ok (.istore_n 3, 1) := by decide +kernel
theorem J_MPlaceRows_list_d12 : decode J_MPlaceRows_list.2.1 12 = .ok (.iload_n 3, 1) := by decide +kernel
theorem J_MPlaceRows_list_d13 : decode J_MPlaceRows_list.2.1 13 = .ok (.iload_n 2, 1) := by decide +kernel
theorem J_MPlaceRows_list_d14 : decode J_MPlaceRows_list.2.1 14 = .ok (.if_icmp .ge 150, 3) := by decide +kernel
theorem J_MPlaceRows_list_d17 : decode J_MPlaceRows_list.2.1 17 = .ok (.iconst 0, 1) := by decide +kernel
theorem J_MPlaceRows_list_d18 : decode J_MPlaceRows_list.2.1 18 = .ok (.istore 4, 2) := by decide +kernel
theorem J_MPlaceRows_list_d20 : decode J_MPlaceRows_list.2.1 20 = .ok (.iload 4, 2) := by decide +kernel
theorem J_MPlaceRows_list_d22 : decode J_MPlaceRows_list.2.1 22 = .ok (.iload_n 2, 1) := by decide +kernel
theorem J_MPlaceRows_list_d23 : decode J_MPlaceRows_list.2.1 23 = .ok (.if_icmp .ge 135, 3) := by decide +kernel
theorem J_MPlaceRows_list_d26 : decode J_MPlaceRows_list.2.1 26 = .ok (.iload_n 1, 1) := by decide +kernel
theorem J_MPlaceRows_list_d27 : decode J_MPlaceRows_list.2.1 27 = .ok (.iload 4, 2) := by decide +kernel
theorem J_MPlaceRows_list_d29 : decode J_MPlaceRows_list.2.1 29 = .ok (.iload_n 3, 1) := by decide +kernel
theorem J_MPlaceRows_list_d30 : decode J_MPlaceRows_list.2.1 30 = .ok (.invokestatic 71, 3) := by decide +kernel
theorem J_MPlaceRows_list_d33 : decode J_MPlaceRows_list.2.1 33 = .ok (.istore 5, 2) := by decide +kernel
theorem J_MPlaceRows_list_d35 : decode J_MPlaceRows_list.2.1 35 = .ok (.iload 5, 2) := by decide +kernel
theorem J_MPlaceRows_list_d37 : decode J_MPlaceRows_list.2.1 37 = .ok (.iconst (-1), 1) := by decide +kernel
theorem J_MPlaceRows_list_d38 : decode J_MPlaceRows_list.2.1 38 = .ok (.if_icmp .eq 42, 3) := by decide +kernel
theorem J_MPlaceRows_list_d41 : decode J_MPlaceRows_list.2.1 41 = .ok (.iload 4, 2) := by decide +kernel
theorem J_MPlaceRows_list_d43 : decode J_MPlaceRows_list.2.1 43 = .ok (.ifCond .le 37, 3) := by decide +kernel
theorem J_MPlaceRows_list_d46 : decode J_MPlaceRows_list.2.1 46 = .ok (.iload_n 1, 1) := by decide +kernel
theorem J_MPlaceRows_list_d47 : decode J_MPlaceRows_list.2.1 47 = .ok (.iload 4, 2) := by decide +kernel
theorem J_MPlaceRows_list_d49 : decode J_MPlaceRows_list.2.1 49 = .ok (.iconst 1, 1) := by decide +kernel
theorem J_MPlaceRows_list_d50 : decode J_MPlaceRows_list.2.1 50 = .ok (.isub, 1) := by decide +kernel
theorem J_MPlaceRows_list_d51 : decode J_MPlaceRows_list.2.1 51 = .ok (.iload_n 3, 1) := by decide +kernel
theorem J_MPlaceRows_list_d52 : decode J_MPlaceRows_list.2.1 52 = .ok (.invokestatic 71, 3) := by decide +kernel
theorem J_MPlaceRows_list_d55 : decode J_MPlaceRows_list.2.1 55 = .ok (.iload 5, 2) := by decide +kernel
theorem J_MPlaceRows_list_d57 : decode J_MPlaceRows_list.2.1 57 = .ok (.if_icmp .ne 23, 3) := by decide +kernel
theorem J_MPlaceRows_list_d60 : decode J_MPlaceRows_list.2.1 60 = .ok (.aload_n 0, 1) := by decide +kernel
theorem J_MPlaceRows_list_d61 : decode J_MPlaceRows_list.2.1 61 = .ok (.getfield 26, 3) := by decide +kernel
theorem J_MPlaceRows_list_d64 : decode J_MPlaceRows_list.2.1 64 = .ok (.iconst 4, 1) := by decide +kernel
theorem J_MPlaceRows_list_d65 : decode J_MPlaceRows_list.2.1 65 = .ok (.aload_n 0, 1) := by decide +kernel
theorem J_MPlaceRows_list_d66 : decode J_MPlaceRows_list.2.1 66 = .ok (.getfield 85, 3) := by decide +kernel
theorem J_MPlaceRows_list_d69 : decode J_MPlaceRows_list.2.1 69 = .ok (.imul, 1) := by decide +kernel
theorem J_MPlaceRows_list_d70 : decode J_MPlaceRows_list.2.1 70 = .ok (.iconst 2, 1) := by decide +kernel
theorem J_MPlaceRows_list_d71 : decode J_MPlaceRows_list.2.1 71 = .ok (.isub, 1) := by decide +kernel
theorem J_MPlaceRows_list_d72 : decode J_MPlaceRows_list.2.1 72 = .ok (.dup2, 1) := by decide +kernel
theorem J_MPlaceRows_list_d73 : decode J_MPlaceRows_list.2.1 73 = .ok (.iaload, 1) := by decide +kernel
theorem J_MPlaceRows_list_d74 : decode J_MPlaceRows_list.2.1 74 = .ok (.iconst 1, 1) := by decide +kernel
theorem J_MPlaceRows_list_d75 : decode J_MPlaceRows_list.2.1 75 = .ok (.iadd, 1) := by decide +kernel
theorem J_MPlaceRows_list_d76 : decode J_MPlaceRows_list.2.1 76 = .ok (.iastore, 1) := by decide +kernel
theorem J_MPlaceRows_list_d77 : decode J_MPlaceRows_list.2.1 77 = .ok (.goto 75, 3) := by decide +kernel
theorem J_MPlaceRows_list_d80 : decode J_MPlaceRows_list.2.1 80 = .ok (.iload 5, 2) := by decide +kernel
theorem J_MPlaceRows_list_d82 : decode J_MPlaceRows_list.2.1 82 = .ok (.iconst (-1), 1) := by decide +kernel
theorem J_MPlaceRows_list_d83 : decode J_MPlaceRows_list.2.1 83 = .ok (.if_icmp .eq 69, 3) := by decide +kernel
theorem J_MPlaceRows_list_d86 : decode J_MPlaceRows_list.2.1 86 = .ok (.aload_n 0, 1) := by decide +kernel
theorem J_MPlaceRows_list_d87 : decode J_MPlaceRows_list.2.1 87 = .ok (.getfield 26, 3) := by decide +kernel
theorem J_MPlaceRows_list_d90 : decode J_MPlaceRows_list.2.1 90 = .ok (.iconst 4, 1) := by decide +kernel
theorem J_MPlaceRows_list_d91 : decode J_MPlaceRows_list.2.1 91 = .ok (.aload_n 0, 1) := by decide +kernel
theorem J_MPlaceRows_list_d92 : decode J_MPlaceRows_list.2.1 92 = .ok (.getfield 85, 3) := by decide +kernel
theorem J_MPlaceRows_list_d95 : decode J_MPlaceRows_list.2.1 95 = .ok (.imul, 1) := by decide +kernel
theorem J_MPlaceRows_list_d96 : decode J_MPlaceRows_list.2.1 96 = .ok (.iload 4, 2) := by decide +kernel
theorem J_MPlaceRows_list_d98 : decode J_MPlaceRows_list.2.1 98 = .ok (.iastore, 1) := by decide +kernel
theorem J_MPlaceRows_list_d99 : decode J_MPlaceRows_list.2.1 99 = .ok (.aload_n 0, 1) := by decide +kernel
theorem J_MPlaceRows_list_d100 : decode J_MPlaceRows_list.2.1 100 = .ok (.getfield 26, 3) := by decide +kernel
theorem J_MPlaceRows_list_d103 : decode J_MPlaceRows_list.2.1 103 = .ok (.iconst 4, 1) := by decide +kernel
theorem J_MPlaceRows_list_d104 : decode J_MPlaceRows_list.2.1 104 = .ok (.aload_n 0, 1) := by decide +kernel
theorem J_MPlaceRows_list_d105 : decode J_MPlaceRows_list.2.1 105 = .ok (.getfield 85, 3) := by decide +kernel
theorem J_MPlaceRows_list_d108 : decode J_MPlaceRows_list.2.1 108 = .ok (.imul, 1) := by decide +kernel
theorem J_MPlaceRows_list_d109 : decode J_MPlaceRows_list.2.1 109 = .ok (.iconst 1, 1) := by decide +kernel
theorem J_MPlaceRows_list_d110 : decode J_MPlaceRows_list.2.1 110 = .ok (.iadd, 1) := by decide +kernel
theorem J_MPlaceRows_list_d111 : decode J_MPlaceRows_list.2.1 111 = .ok (.iload_n 3, 1) := by decide +kernel
theorem J_MPlaceRows_list_d112 : decode J_MPlaceRows_list.2.1 112 = .ok (.iastore, 1) := by decide +kernel
theorem J_MPlaceRows_list_d113 : decode J_MPlaceRows_list.2.1 113 = .ok (.aload_n 0, 1) := by decide +kernel
theorem J_MPlaceRows_list_d114 : decode J_MPlaceRows_list.2.1 114 = .ok (.getfield 26, 3) := by decide +kernel
theorem J_MPlaceRows_list_d117 : decode J_MPlaceRows_list.2.1 117 = .ok (.iconst 4, 1) := by decide +kernel
theorem J_MPlaceRows_list_d118 : decode J_MPlaceRows_list.2.1 118 = .ok (.aload_n 0, 1) := by decide +kernel
theorem J_MPlaceRows_list_d119 : decode J_MPlaceRows_list.2.1 119 = .ok (.getfield 85, 3) := by decide +kernel
theorem J_MPlaceRows_list_d122 : decode J_MPlaceRows_list.2.1 122 = .ok (.imul, 1) := by decide +kernel
theorem J_MPlaceRows_list_d123 : decode J_MPlaceRows_list.2.1 123 = .ok (.iconst 2, 1) := by decide +kernel
theorem J_MPlaceRows_list_d124 : decode J_MPlaceRows_list.2.1 124 = .ok (.iadd, 1) := by decide +kernel
theorem J_MPlaceRows_list_d125 : decode J_MPlaceRows_list.2.1 125 = .ok (.iconst 1, 1) := by decide +kernel
theorem J_MPlaceRows_list_d126 : decode J_MPlaceRows_list.2.1 126 = .ok (.iastore, 1) := by decide +kernel
theorem J_MPlaceRows_list_d127 : decode J_MPlaceRows_list.2.1 127 = .ok (.aload_n 0, 1) := by decide +kernel
theorem J_MPlaceRows_list_d128 : decode J_MPlaceRows_list.2.1 128 = .ok (.getfield 26, 3) := by decide +kernel
theorem J_MPlaceRows_list_d131 : decode J_MPlaceRows_list.2.1 131 = .ok (.iconst 4, 1) := by decide +kernel
theorem J_MPlaceRows_list_d132 : decode J_MPlaceRows_list.2.1 132 = .ok (.aload_n 0, 1) := by decide +kernel
theorem J_MPlaceRows_list_d133 : decode J_MPlaceRows_list.2.1 133 = .ok (.getfield 85, 3) := by decide +kernel
theorem J_MPlaceRows_list_d136 : decode J_MPlaceRows_list.2.1 136 = .ok (.imul, 1) := by decide +kernel
theorem J_MPlaceRows_list_d137 : decode J_MPlaceRows_list.2.1 137 = .ok (.iconst 3, 1) := by decide +kernel
theorem J_MPlaceRows_list_d138 : decode J_MPlaceRows_list.2.1 138 = .ok (.iadd, 1) := by decide +kernel
theorem J_MPlaceRows_list_d139 : decode J_MPlaceRows_list.2.1 139 = .ok (.iload 5, 2) := by decide +kernel
theorem J_MPlaceRows_list_d141 : decode J_MPlaceRows_list.2.1 141 = .ok (.iastore, 1) := by decide +kernel
theorem J_MPlaceRows_list_d142 : decode J_MPlaceRows_list.2.1 142 = .ok (.aload_n 0, 1) := by decide +kernel
theorem J_MPlaceRows_list_d143 : decode J_MPlaceRows_list.2.1 143 = .ok (.dup, 1) := by decide +kernel
theorem J_MPlaceRows_list_d144 : decode J_MPlaceRows_list.2.1 144 = .ok (.getfield 85, 3) := by decide +kernel
theorem J_MPlaceRows_list_d147 : decode J_MPlaceRows_list.2.1 147 = .ok (.iconst 1, 1) := by decide +kernel
theorem J_MPlaceRows_list_d148 : decode J_MPlaceRows_list.2.1 148 = .ok (.iadd, 1) := by decide +kernel
theorem J_MPlaceRows_list_d149 : decode J_MPlaceRows_list.2.1 149 = .ok (.putfield 85, 3) := by decide +kernel
theorem J_MPlaceRows_list_d152 : decode J_MPlaceRows_list.2.1 152 = .ok (.iinc 4 1, 3) := by decide +kernel
theorem J_MPlaceRows_list_d155 : decode J_MPlaceRows_list.2.1 155 = .ok (.goto (-135), 3) := by decide +kernel
theorem J_MPlaceRows_list_d158 : decode J_MPlaceRows_list.2.1 158 = .ok (.iinc 3 1, 3) := by decide +kernel
theorem J_MPlaceRows_list_d161 : decode J_MPlaceRows_list.2.1 161 = .ok (.goto (-149), 3) := by decide +kernel
theorem J_MPlaceRows_list_d164 : decode J_MPlaceRows_list.2.1 164 = .ok (.return_, 1) := by decide +kernel
theorem f_MPlaceRows_list_ok {L : Nat} {xs : Nat → Int32} {dep : Nat} {w : Bool} {p0 : Int32} {M : im_M} {Q : im_M → Prop} (hM : lw_S w M) (h : ed (f_MPlaceRows_list p0 M) Q) : ia (tb_G L xs) (dep + 3) J_MPlaceRows_list (rwV w Q) (0, lv_args 0 [.ref 130, .int p0], [], M) := by
  have hS : im_St (tb_G L xs) (dep + 3) J_MPlaceRows_list (ia (tb_G L xs) (dep + 3) J_MPlaceRows_list (rwV w Q)) := ia_St
  unfold f_MPlaceRows_list at h
  have l0 : im_lk (lv_args 0 [.ref 130, .int p0]) 0 = some (.ref 130) := rfl
  have l1 : im_lk (lv_args 0 [.ref 130, .int p0]) 1 = some (.int p0) := rfl
  refine iq_iload_n hS 1 J_MPlaceRows_list_d0 l1 rfl ?_
  obtain ⟨Q1, hQ1, h⟩ := bd1_ed h
  refine iq_cpI hS 4 J_MPlaceRows_list_d1 rfl (pr_stat (vs := [_]) lc_14_59 lT_464 rfl rfl (by decide) rfl (Nat.le_of_ble_eq_true rfl) (Nat.le_of_ble_eq_true rfl)) (f_MPlaceRows_side_ok (dep := dep + 2) hM h) rfl ?_
  intro x1 h
  replace h := hQ1 _ h
  refine iq_istore_n hS 5 J_MPlaceRows_list_d4 (by decide) rfl ?_
  refine iq_aload_n hS 6 J_MPlaceRows_list_d5 (lk_1r l0 (by decide)) rfl ?_
  refine iq_iconst hS 7 J_MPlaceRows_list_d6 (v := 0) (by decide +kernel) rfl ?_
  refine iq_putI hS 10 J_MPlaceRows_list_d7 lf_14_85 (Or.inl rfl) rfl (ka_130 hM) rfl ?_
  refine iq_iconst hS 11 J_MPlaceRows_list_d10 (v := 0) (by decide +kernel) rfl ?_
  refine iq_istore_n hS 12 J_MPlaceRows_list_d11 (by decide) rfl ?_
  obtain ⟨Q2, hQ2, h⟩ := bd1_ed h
  have K2 : ∀ (M3 : im_M) (L' : List (Nat × Value)), lw_S w M3 → Q2 M3 → ia (tb_G L xs) (dep + 3) J_MPlaceRows_list (rwV w Q) (164, L', [], M3) := by
    intro M3 L' hM3  h
    replace h := hQ2 _ h
    exact iq_ret J_MPlaceRows_list_d164 rfl ⟨rfl, hM3, ed_some h⟩
  obtain ⟨r2, hr2, hq2⟩ := h
  obtain ⟨n2, hn2⟩ := lp_n hr2
  have I2 : ∀ (n : Nat) (x4 : Int32) (M5 : im_M) (L' : List (Nat × Value)), lw_S w M5 → im_lk L' 0 = some (.ref 130) → im_lk L' 1 = some (.int p0) → im_lk L' 2 = some (.int x1) → im_lk L' 3 = some (.int x4) → lpn (uc2 (f_MPlaceRows_list_L12 p0 x1)) n (x4, M5) = some r2 → ia (tb_G L xs) (dep + 3) J_MPlaceRows_list (rwV w Q) (12, L', [], M5) := by
    intro n
    induction n with
    | zero => intro x4 M5 L' hM5 l6 l7 l8 l9 hn; exact (lpn_0 hn).elim
    | succ n ih =>
      intro x4 M5 L' hM5 l6 l7 l8 l9 hn
      have h := lpn_ed2 hn
      unfold f_MPlaceRows_list_L12 at h
      refine iq_iload_n hS 13 J_MPlaceRows_list_d12 l9 rfl ?_
      refine iq_iload_n hS 14 J_MPlaceRows_list_d13 l8 rfl ?_
      refine iq_icmp_ge hS 17 J_MPlaceRows_list_d14 (t := 164) rfl (fun q14 => ?_) rfl (fun q14 => ?_)
      · replace h := ed_pos q14 h
        exact K2 _ _ hM5  (lq_r h hq2)
      · replace h := ed_neg q14 h
        refine iq_iconst hS 18 J_MPlaceRows_list_d17 (v := 0) (by decide +kernel) rfl ?_
        refine iq_istore hS 20 J_MPlaceRows_list_d18 (by decide) rfl ?_
        obtain ⟨Q10, hQ10, h⟩ := bd1_ed h
        have K10 : ∀ (M11 : im_M) (L' : List (Nat × Value)), lw_S w M11 → im_lk L' 0 = some (.ref 130) → im_lk L' 1 = some (.int p0) → im_lk L' 2 = some (.int x1) → im_lk L' 3 = some (.int x4) → Q10 M11 → ia (tb_G L xs) (dep + 3) J_MPlaceRows_list (rwV w Q) (158, L', [], M11) := by
          intro M11 L' hM11 l12 l13 l14 l15 h
          replace h := hQ10 _ h
          refine iq_iincv hS 161 J_MPlaceRows_list_d158 (c := 1) (by decide +kernel) l15 (by decide) rfl ?_
          refine iq_goto hS J_MPlaceRows_list_d161 (t := 12) rfl ?_
          exact ih _ _ _ hM11 (lk_1r l12 (by decide)) (lk_1i l13 (by decide)) (lk_1i l14 (by decide)) lk_1s (lq_l h)
        obtain ⟨r10, hr10, hq10⟩ := h
        obtain ⟨n10, hn10⟩ := lp_n hr10
        have I10 : ∀ (n : Nat) (x16 : Int32) (M17 : im_M) (L' : List (Nat × Value)), lw_S w M17 → im_lk L' 0 = some (.ref 130) → im_lk L' 1 = some (.int p0) → im_lk L' 2 = some (.int x1) → im_lk L' 3 = some (.int x4) → im_lk L' 4 = some (.int x16) → lpn (uc2 (f_MPlaceRows_list_L20 p0 x1 x4)) n (x16, M17) = some r10 → ia (tb_G L xs) (dep + 3) J_MPlaceRows_list (rwV w Q) (20, L', [], M17) := by
          intro n
          induction n with
          | zero => intro x16 M17 L' hM17 l18 l19 l20 l21 l22 hn; exact (lpn_0 hn).elim
          | succ n ih =>
            intro x16 M17 L' hM17 l18 l19 l20 l21 l22 hn
            have h := lpn_ed2 hn
            unfold f_MPlaceRows_list_L20 at h
            refine iq_iload hS 22 J_MPlaceRows_list_d20 l22 rfl ?_
            refine iq_iload_n hS 23 J_MPlaceRows_list_d22 l20 rfl ?_
            refine iq_icmp_ge hS 26 J_MPlaceRows_list_d23 (t := 158) rfl (fun q23 => ?_) rfl (fun q23 => ?_)
            · replace h := ed_pos q23 h
              exact K10 _ _ hM17 l18 l19 l20 l21 (lq_r h hq10)
            · replace h := ed_neg q23 h
              refine iq_iload_n hS 27 J_MPlaceRows_list_d26 l19 rfl ?_
              refine iq_iload hS 29 J_MPlaceRows_list_d27 l22 rfl ?_
              refine iq_iload_n hS 30 J_MPlaceRows_list_d29 l21 rfl ?_
              obtain ⟨Q23, hQ23, h⟩ := bd1_ed h
              refine iq_cpI hS 33 J_MPlaceRows_list_d30 rfl (pr_stat (vs := [_, _, _]) lc_14_71 lT_465 rfl rfl (by decide) rfl (Nat.le_of_ble_eq_true rfl) (Nat.le_of_ble_eq_true rfl)) (f_MPlaceRows_module_ok (dep := dep + 0) hM17 h) rfl ?_
              intro x23 h
              replace h := hQ23 _ h
              refine iq_istore hS 35 J_MPlaceRows_list_d33 (by decide) rfl ?_
              refine iq_iload hS 37 J_MPlaceRows_list_d35 lk_1s rfl ?_
              refine iq_iconst hS 38 J_MPlaceRows_list_d37 (v := (-1)) (by decide +kernel) rfl ?_
              obtain ⟨Q24, hQ24, h⟩ := bd1_ed h
              have J24 : ∀ (M34 : im_M) (L' : List (Nat × Value)), lw_S w M34 → im_lk L' 0 = some (.ref 130) → im_lk L' 1 = some (.int p0) → im_lk L' 2 = some (.int x1) → im_lk L' 3 = some (.int x4) → im_lk L' 4 = some (.int x16) → Q24 M34 → ia (tb_G L xs) (dep + 3) J_MPlaceRows_list (rwV w Q) (152, L', [], M34) := by
                intro M34 L' hM34 l35 l36 l37 l38 l39 h
                replace h := hQ24 _ h
                refine iq_iincv hS 155 J_MPlaceRows_list_d152 (c := 1) (by decide +kernel) l39 (by decide) rfl ?_
                refine iq_goto hS J_MPlaceRows_list_d155 (t := 20) rfl ?_
                exact ih _ _ _ hM34 (lk_1r l35 (by decide)) (lk_1i l36 (by decide)) (lk_1i l37 (by decide)) (lk_1i l38 (by decide)) lk_1s (lq_l h)
              obtain ⟨k25, Q25, hQ25, hk25, h⟩ := jn1_ed h
              have J25 : ∀ (M27 : im_M) (L' : List (Nat × Value)), lw_S w M27 → im_lk L' 0 = some (.ref 130) → im_lk L' 1 = some (.int p0) → im_lk L' 2 = some (.int x1) → im_lk L' 3 = some (.int x4) → im_lk L' 4 = some (.int x16) → im_lk L' 5 = some (.int x23) → Q25 M27 → ia (tb_G L xs) (dep + 3) J_MPlaceRows_list (rwV w Q) (80, L', [], M27) := by
                intro M27 L' hM27 l28 l29 l30 l31 l32 l33 h
                replace h := hQ25 _ h
                refine iq_iload hS 82 J_MPlaceRows_list_d80 l33 rfl ?_
                refine iq_iconst hS 83 J_MPlaceRows_list_d82 (v := (-1)) (by decide +kernel) rfl ?_
                refine iq_icmp_eq hS 86 J_MPlaceRows_list_d83 (t := 152) rfl (fun q83 => ?_) rfl (fun q83 => ?_)
                · replace h := ed_pos q83 h
                  exact J24 _ _ hM27 l28 l29 l30 l31 l32 (ed_some h)
                · replace h := ed_neg q83 h
                  refine iq_aload_n hS 87 J_MPlaceRows_list_d86 l28 rfl ?_
                  refine iq_getR hS 90 J_MPlaceRows_list_d87 lf_14_26 (Or.inr ⟨_, rfl⟩) (ka_130 hM27) (ra_130_5 hM27) rfl ?_
                  refine iq_iconst hS 91 J_MPlaceRows_list_d90 (v := 4) (by decide +kernel) rfl ?_
                  refine iq_aload_n hS 92 J_MPlaceRows_list_d91 l28 rfl ?_
                  refine iq_getI hS 95 J_MPlaceRows_list_d92 lf_14_85 (Or.inl rfl) (ka_130 hM27) rfl ?_
                  refine iq_imul hS 96 J_MPlaceRows_list_d95 rfl ?_
                  refine iq_iload hS 98 J_MPlaceRows_list_d96 l32 rfl ?_
                  obtain ⟨g98, h⟩ := ed_gd h
                  refine iq_iastore hS 99 J_MPlaceRows_list_d98 ⟨(ka_133 hM27).1, (ka_133 hM27).2, g98.1, ix_lt (kl_133 hM27) g98.2⟩ rfl ?_
                  refine iq_aload_n hS 100 J_MPlaceRows_list_d99 l28 rfl ?_
                  refine iq_getR hS 103 J_MPlaceRows_list_d100 lf_14_26 (Or.inr ⟨_, rfl⟩) (ka_130 (lw_sI hM27)) (ra_130_5 (lw_sI hM27)) rfl ?_
                  refine iq_iconst hS 104 J_MPlaceRows_list_d103 (v := 4) (by decide +kernel) rfl ?_
                  refine iq_aload_n hS 105 J_MPlaceRows_list_d104 l28 rfl ?_
                  refine iq_getI hS 108 J_MPlaceRows_list_d105 lf_14_85 (Or.inl rfl) (ka_130 (lw_sI hM27)) rfl ?_
                  refine iq_imul hS 109 J_MPlaceRows_list_d108 rfl ?_
                  refine iq_iconst hS 110 J_MPlaceRows_list_d109 (v := 1) (by decide +kernel) rfl ?_
                  refine iq_iadd hS 111 J_MPlaceRows_list_d110 rfl ?_
                  refine iq_iload_n hS 112 J_MPlaceRows_list_d111 l31 rfl ?_
                  obtain ⟨g112, h⟩ := ed_gd h
                  refine iq_iastore hS 113 J_MPlaceRows_list_d112 ⟨(ka_133 (lw_sI hM27)).1, (ka_133 (lw_sI hM27)).2, g112.1, ix_lt (kl_133 (lw_sI hM27)) g112.2⟩ rfl ?_
                  refine iq_aload_n hS 114 J_MPlaceRows_list_d113 l28 rfl ?_
                  refine iq_getR hS 117 J_MPlaceRows_list_d114 lf_14_26 (Or.inr ⟨_, rfl⟩) (ka_130 (lw_sI (lw_sI hM27))) (ra_130_5 (lw_sI (lw_sI hM27))) rfl ?_
                  refine iq_iconst hS 118 J_MPlaceRows_list_d117 (v := 4) (by decide +kernel) rfl ?_
                  refine iq_aload_n hS 119 J_MPlaceRows_list_d118 l28 rfl ?_
                  refine iq_getI hS 122 J_MPlaceRows_list_d119 lf_14_85 (Or.inl rfl) (ka_130 (lw_sI (lw_sI hM27))) rfl ?_
                  refine iq_imul hS 123 J_MPlaceRows_list_d122 rfl ?_
                  refine iq_iconst hS 124 J_MPlaceRows_list_d123 (v := 2) (by decide +kernel) rfl ?_
                  refine iq_iadd hS 125 J_MPlaceRows_list_d124 rfl ?_
                  refine iq_iconst hS 126 J_MPlaceRows_list_d125 (v := 1) (by decide +kernel) rfl ?_
                  obtain ⟨g126, h⟩ := ed_gd h
                  refine iq_iastore hS 127 J_MPlaceRows_list_d126 ⟨(ka_133 (lw_sI (lw_sI hM27))).1, (ka_133 (lw_sI (lw_sI hM27))).2, g126.1, ix_lt (kl_133 (lw_sI (lw_sI hM27))) g126.2⟩ rfl ?_
                  refine iq_aload_n hS 128 J_MPlaceRows_list_d127 l28 rfl ?_
                  refine iq_getR hS 131 J_MPlaceRows_list_d128 lf_14_26 (Or.inr ⟨_, rfl⟩) (ka_130 (lw_sI (lw_sI (lw_sI hM27)))) (ra_130_5 (lw_sI (lw_sI (lw_sI hM27)))) rfl ?_
                  refine iq_iconst hS 132 J_MPlaceRows_list_d131 (v := 4) (by decide +kernel) rfl ?_
                  refine iq_aload_n hS 133 J_MPlaceRows_list_d132 l28 rfl ?_
                  refine iq_getI hS 136 J_MPlaceRows_list_d133 lf_14_85 (Or.inl rfl) (ka_130 (lw_sI (lw_sI (lw_sI hM27)))) rfl ?_
                  refine iq_imul hS 137 J_MPlaceRows_list_d136 rfl ?_
                  refine iq_iconst hS 138 J_MPlaceRows_list_d137 (v := 3) (by decide +kernel) rfl ?_
                  refine iq_iadd hS 139 J_MPlaceRows_list_d138 rfl ?_
                  refine iq_iload hS 141 J_MPlaceRows_list_d139 l33 rfl ?_
                  obtain ⟨g141, h⟩ := ed_gd h
                  refine iq_iastore hS 142 J_MPlaceRows_list_d141 ⟨(ka_133 (lw_sI (lw_sI (lw_sI hM27)))).1, (ka_133 (lw_sI (lw_sI (lw_sI hM27)))).2, g141.1, ix_lt (kl_133 (lw_sI (lw_sI (lw_sI hM27)))) g141.2⟩ rfl ?_
                  refine iq_aload_n hS 143 J_MPlaceRows_list_d142 l28 rfl ?_
                  refine iq_dup hS 144 J_MPlaceRows_list_d143 rfl rfl ?_
                  refine iq_getI hS 147 J_MPlaceRows_list_d144 lf_14_85 (Or.inl rfl) (ka_130 (lw_sI (lw_sI (lw_sI (lw_sI hM27))))) rfl ?_
                  refine iq_iconst hS 148 J_MPlaceRows_list_d147 (v := 1) (by decide +kernel) rfl ?_
                  refine iq_iadd hS 149 J_MPlaceRows_list_d148 rfl ?_
                  refine iq_putI hS 152 J_MPlaceRows_list_d149 lf_14_85 (Or.inl rfl) rfl (ka_130 (lw_sI (lw_sI (lw_sI (lw_sI hM27))))) rfl ?_
                  exact J24 _ _ (lw_sI (lw_sI (lw_sI (lw_sI (lw_sI hM27))))) l28 l29 l30 l31 l32 (ed_some h)
              refine iq_icmp_eq hS 41 J_MPlaceRows_list_d38 (t := 80) rfl (fun q38 => ?_) rfl (fun q38 => ?_)
              · replace h := ed_pos q38 h
                exact J25 _ _ hM17 (lk_1r l18 (by decide)) (lk_1i l19 (by decide)) (lk_1i l20 (by decide)) (lk_1i l21 (by decide)) (lk_1i l22 (by decide)) lk_1s (hk25 _ h)
              · replace h := ed_neg q38 h
                refine iq_iload hS 43 J_MPlaceRows_list_d41 (lk_1i l22 (by decide)) rfl ?_
                refine iq_if_le hS 46 J_MPlaceRows_list_d43 (t := 80) rfl (fun q43 => ?_) rfl (fun q43 => ?_)
                · replace h := ed_pos q43 h
                  exact J25 _ _ hM17 (lk_1r l18 (by decide)) (lk_1i l19 (by decide)) (lk_1i l20 (by decide)) (lk_1i l21 (by decide)) (lk_1i l22 (by decide)) lk_1s (hk25 _ h)
                · replace h := ed_neg q43 h
                  refine iq_iload_n hS 47 J_MPlaceRows_list_d46 (lk_1i l19 (by decide)) rfl ?_
                  refine iq_iload hS 49 J_MPlaceRows_list_d47 (lk_1i l22 (by decide)) rfl ?_
                  refine iq_iconst hS 50 J_MPlaceRows_list_d49 (v := 1) (by decide +kernel) rfl ?_
                  refine iq_isub hS 51 J_MPlaceRows_list_d50 rfl ?_
                  refine iq_iload_n hS 52 J_MPlaceRows_list_d51 (lk_1i l21 (by decide)) rfl ?_
                  obtain ⟨Q26, hQ26, h⟩ := bd1_ed h
                  refine iq_cpI hS 55 J_MPlaceRows_list_d52 rfl (pr_stat (vs := [_, _, _]) lc_14_71 lT_465 rfl rfl (by decide) rfl (Nat.le_of_ble_eq_true rfl) (Nat.le_of_ble_eq_true rfl)) (f_MPlaceRows_module_ok (dep := dep + 0) hM17 h) rfl ?_
                  intro x26 h
                  replace h := hQ26 _ h
                  refine iq_iload hS 57 J_MPlaceRows_list_d55 lk_1s rfl ?_
                  refine iq_icmp_ne hS 60 J_MPlaceRows_list_d57 (t := 80) rfl (fun q57 => ?_) rfl (fun q57 => ?_)
                  · replace h := ed_pos q57 h
                    exact J25 _ _ hM17 (lk_1r l18 (by decide)) (lk_1i l19 (by decide)) (lk_1i l20 (by decide)) (lk_1i l21 (by decide)) (lk_1i l22 (by decide)) lk_1s (hk25 _ h)
                  · replace h := ed_neg q57 h
                    refine iq_aload_n hS 61 J_MPlaceRows_list_d60 (lk_1r l18 (by decide)) rfl ?_
                    refine iq_getR hS 64 J_MPlaceRows_list_d61 lf_14_26 (Or.inr ⟨_, rfl⟩) (ka_130 hM17) (ra_130_5 hM17) rfl ?_
                    refine iq_iconst hS 65 J_MPlaceRows_list_d64 (v := 4) (by decide +kernel) rfl ?_
                    refine iq_aload_n hS 66 J_MPlaceRows_list_d65 (lk_1r l18 (by decide)) rfl ?_
                    refine iq_getI hS 69 J_MPlaceRows_list_d66 lf_14_85 (Or.inl rfl) (ka_130 hM17) rfl ?_
                    refine iq_imul hS 70 J_MPlaceRows_list_d69 rfl ?_
                    refine iq_iconst hS 71 J_MPlaceRows_list_d70 (v := 2) (by decide +kernel) rfl ?_
                    refine iq_isub hS 72 J_MPlaceRows_list_d71 rfl ?_
                    refine iq_dup2 hS 73 J_MPlaceRows_list_d72 rfl rfl rfl ?_
                    obtain ⟨g73, h⟩ := ed_gd h
                    refine iq_iaload hS 74 J_MPlaceRows_list_d73 ⟨(ka_133 hM17).1, (ka_133 hM17).2, g73.1, ix_lt (kl_133 hM17) g73.2⟩ rfl ?_
                    refine iq_iconst hS 75 J_MPlaceRows_list_d74 (v := 1) (by decide +kernel) rfl ?_
                    refine iq_iadd hS 76 J_MPlaceRows_list_d75 rfl ?_
                    obtain ⟨g76, h⟩ := ed_gd h
                    refine iq_iastore hS 77 J_MPlaceRows_list_d76 ⟨(ka_133 hM17).1, (ka_133 hM17).2, g76.1, ix_lt (kl_133 hM17) g76.2⟩ rfl ?_
                    refine iq_goto hS J_MPlaceRows_list_d77 (t := 152) rfl ?_
                    exact J24 _ _ (lw_sI hM17) (lk_1r l18 (by decide)) (lk_1i l19 (by decide)) (lk_1i l20 (by decide)) (lk_1i l21 (by decide)) (lk_1i l22 (by decide)) (ed_some h)
        exact I10 n10 _ _ _ hM5 (lk_1r l6 (by decide)) (lk_1i l7 (by decide)) (lk_1i l8 (by decide)) (lk_1i l9 (by decide)) lk_1s hn10
  exact I2 n2 _ _ _ (lw_sI hM) (lk_1r (lk_1r l0 (by decide)) (by decide)) (lk_1i (lk_1i l1 (by decide)) (by decide)) (lk_1i lk_1s (by decide)) lk_1s hn2
theorem f_MPlaceRows_list_fr {p0 : Int32} {M : im_M} {r : im_M} (h : f_MPlaceRows_list p0 M = some r) : fr 10889035741470030830827987437816582766592 [(130, 6)] M r := by
  replace h : ed (f_MPlaceRows_list p0 M) (fun x => x = r) := ⟨r, h, rfl⟩
  unfold f_MPlaceRows_list at h
  obtain ⟨Q1, hQ1, h⟩ := bd1_ed h
  obtain ⟨x1, e1, h⟩ := h
  replace h := hQ1 _ h
  obtain ⟨Q2, hQ2, h⟩ := bd1_ed h
  have K2 : ∀ (M3 : im_M), fr 10889035741470030830827987437816582766592 [(130, 6)] M M3 → Q2 M3 → fr 10889035741470030830827987437816582766592 [(130, 6)] M r := by
    intro M3 hM3 h
    replace h := hQ2 _ h
    exact fr_retV h hM3
  obtain ⟨r2, hr2, hq2⟩ := h
  obtain ⟨n2, hn2⟩ := lp_n hr2
  have I2 : ∀ (n : Nat) (x4 : Int32) (M5 : im_M), fr 10889035741470030830827987437816582766592 [(130, 6)] M M5 → lpn (uc2 (f_MPlaceRows_list_L12 p0 x1)) n (x4, M5) = some r2 → fr 10889035741470030830827987437816582766592 [(130, 6)] M r := by
    intro n
    induction n with
    | zero => intro x4 M5 hM5 hn; exact (lpn_0 hn).elim
    | succ n ih =>
      intro x4 M5 hM5 hn
      have h := lpn_ed2 hn
      unfold f_MPlaceRows_list_L12 at h
      by_cases q14 : x1 ≤ x4
      · replace h := ed_pos q14 h
        exact K2 _ hM5 (lq_r h hq2)
      · replace h := ed_neg q14 h
        obtain ⟨Q6, hQ6, h⟩ := bd1_ed h
        have K6 : ∀ (M7 : im_M), fr 10889035741470030830827987437816582766592 [(130, 6)] M M7 → Q6 M7 → fr 10889035741470030830827987437816582766592 [(130, 6)] M r := by
          intro M7 hM7 h
          replace h := hQ6 _ h
          exact ih _ _ hM7 (lq_l h)
        obtain ⟨r6, hr6, hq6⟩ := h
        obtain ⟨n6, hn6⟩ := lp_n hr6
        have I6 : ∀ (n : Nat) (x8 : Int32) (M9 : im_M), fr 10889035741470030830827987437816582766592 [(130, 6)] M M9 → lpn (uc2 (f_MPlaceRows_list_L20 p0 x1 x4)) n (x8, M9) = some r6 → fr 10889035741470030830827987437816582766592 [(130, 6)] M r := by
          intro n
          induction n with
          | zero => intro x8 M9 hM9 hn; exact (lpn_0 hn).elim
          | succ n ih =>
            intro x8 M9 hM9 hn
            have h := lpn_ed2 hn
            unfold f_MPlaceRows_list_L20 at h
            by_cases q23 : x1 ≤ x8
            · replace h := ed_pos q23 h
              exact K6 _ hM9 (lq_r h hq6)
            · replace h := ed_neg q23 h
              obtain ⟨Q10, hQ10, h⟩ := bd1_ed h
              obtain ⟨x10, e10, h⟩ := h
              replace h := hQ10 _ h
              obtain ⟨Q11, hQ11, h⟩ := bd1_ed h
              have J11 : ∀ (M21 : im_M), fr 10889035741470030830827987437816582766592 [(130, 6)] M M21 → Q11 M21 → fr 10889035741470030830827987437816582766592 [(130, 6)] M r := by
                intro M21 hM21 h
                replace h := hQ11 _ h
                exact ih _ _ hM21 (lq_l h)
              obtain ⟨k12, Q12, hQ12, hk12, h⟩ := jn1_ed h
              have J12 : ∀ (M14 : im_M), fr 10889035741470030830827987437816582766592 [(130, 6)] M M14 → Q12 M14 → fr 10889035741470030830827987437816582766592 [(130, 6)] M r := by
                intro M14 hM14 h
                replace h := hQ12 _ h
                by_cases q83 : x10 = (-1)
                · replace h := ed_pos q83 h
                  exact J11 _ hM14 (ed_some h)
                · replace h := ed_neg q83 h
                  obtain ⟨g98, h⟩ := ed_gd h
                  obtain ⟨g112, h⟩ := ed_gd h
                  obtain ⟨g126, h⟩ := ed_gd h
                  obtain ⟨g141, h⟩ := ed_gd h
                  exact J11 _ (fr_F (by decide) (fr_I (by decide) (fr_I (by decide) (fr_I (by decide) (fr_I (by decide) hM14))))) (ed_some h)
              by_cases q38 : x10 = (-1)
              · replace h := ed_pos q38 h
                exact J12 _ hM9 (hk12 _ h)
              · replace h := ed_neg q38 h
                by_cases q43 : x8 ≤ 0
                · replace h := ed_pos q43 h
                  exact J12 _ hM9 (hk12 _ h)
                · replace h := ed_neg q43 h
                  obtain ⟨Q13, hQ13, h⟩ := bd1_ed h
                  obtain ⟨x13, e13, h⟩ := h
                  replace h := hQ13 _ h
                  by_cases q57 : ¬ x13 = x10
                  · replace h := ed_pos q57 h
                    exact J12 _ hM9 (hk12 _ h)
                  · replace h := ed_neg q57 h
                    obtain ⟨g73, h⟩ := ed_gd h
                    obtain ⟨g76, h⟩ := ed_gd h
                    exact J11 _ (fr_I (by decide) hM9) (ed_some h)
        exact I6 n6 _ _ hM5 hn6
  exact I2 n2 _ _ (fr_F (by decide) fr_refl) hn2
noncomputable def f_MPlaceRows_isPlace (p0 : Int32) (p1 : Int32) (p2 : Int32) (M : im_M) : Option (Int32) := if p0 < 0 then some 0 else if ((im_i M 130 1) - p2) < p0 then some 0 else if p1 < 0 then some 0 else if ((im_i M 130 2) - p2) < p1 then some 0 else some 1
theorem J_MPlaceRows_isPlace_d0 : decode J_MPlaceRows_isPlace.2.1 0 = .ok (.iload_n 1, 1) := by decide +kernel
theorem J_MPlaceRows_isPlace_d1 : decode J_MPlaceRows_isPlace.2.1 1 = .ok (.ifCond .lt 31, 3) := by decide +kernel
theorem J_MPlaceRows_isPlace_d4 : decode J_MPlaceRows_isPlace.2.1 4 = .ok (.iload_n 1, 1) := by decide +kernel
theorem J_MPlaceRows_isPlace_d5 : decode J_MPlaceRows_isPlace.2.1 5 = .ok (.aload_n 0, 1) := by decide +kernel
theorem J_MPlaceRows_isPlace_d6 : decode J_MPlaceRows_isPlace.2.1 6 = .ok (.getfield 7, 3) := by decide +kernel
theorem J_MPlaceRows_isPlace_d9 : decode J_MPlaceRows_isPlace.2.1 9 = .ok (.iload_n 3, 1) := by decide +kernel
theorem J_MPlaceRows_isPlace_d10 : decode J_MPlaceRows_isPlace.2.1 10 = .ok (.isub, 1) := by decide +kernel
theorem J_MPlaceRows_isPlace_d11 : decode J_MPlaceRows_isPlace.2.1 11 = .ok (.if_icmp .gt 21, 3) := by decide +kernel
theorem J_MPlaceRows_isPlace_d14 : decode J_MPlaceRows_isPlace.2.1 14 = .ok (.iload_n 2, 1) := by decide +kernel
theorem J_MPlaceRows_isPlace_d15 : decode J_MPlaceRows_isPlace.2.1 15 = .ok (.ifCond .lt 17, 3) := by decide +kernel
theorem J_MPlaceRows_isPlace_d18 : decode J_MPlaceRows_isPlace.2.1 18 = .ok (.iload_n 2, 1) := by decide +kernel
theorem J_MPlaceRows_isPlace_d19 : decode J_MPlaceRows_isPlace.2.1 19 = .ok (.aload_n 0, 1) := by decide +kernel
theorem J_MPlaceRows_isPlace_d20 : decode J_MPlaceRows_isPlace.2.1 20 = .ok (.getfield 13, 3) := by decide +kernel
theorem J_MPlaceRows_isPlace_d23 : decode J_MPlaceRows_isPlace.2.1 23 = .ok (.iload_n 3, 1) := by decide +kernel
theorem J_MPlaceRows_isPlace_d24 : decode J_MPlaceRows_isPlace.2.1 24 = .ok (.isub, 1) := by decide +kernel
theorem J_MPlaceRows_isPlace_d25 : decode J_MPlaceRows_isPlace.2.1 25 = .ok (.if_icmp .gt 7, 3) := by decide +kernel
theorem J_MPlaceRows_isPlace_d28 : decode J_MPlaceRows_isPlace.2.1 28 = .ok (.iconst 1, 1) := by decide +kernel
theorem J_MPlaceRows_isPlace_d29 : decode J_MPlaceRows_isPlace.2.1 29 = .ok (.goto 4, 3) := by decide +kernel
theorem J_MPlaceRows_isPlace_d32 : decode J_MPlaceRows_isPlace.2.1 32 = .ok (.iconst 0, 1) := by decide +kernel
theorem J_MPlaceRows_isPlace_d33 : decode J_MPlaceRows_isPlace.2.1 33 = .ok (.ireturn, 1) := by decide +kernel
theorem f_MPlaceRows_isPlace_ok {L : Nat} {xs : Nat → Int32} {dep : Nat} {w : Bool} {p0 : Int32} {p1 : Int32} {p2 : Int32} {M : im_M} {Q : Int32 → Prop} (hM : lw_S w M) (h : ed (f_MPlaceRows_isPlace p0 p1 p2 M) Q) : ia (tb_G L xs) dep J_MPlaceRows_isPlace (rpI M Q) (0, lv_args 0 [.ref 130, .int p0, .int p1, .int p2], [], M) := by
  have hS : im_St (tb_G L xs) dep J_MPlaceRows_isPlace (ia (tb_G L xs) dep J_MPlaceRows_isPlace (rpI M Q)) := ia_St
  unfold f_MPlaceRows_isPlace at h
  have l0 : im_lk (lv_args 0 [.ref 130, .int p0, .int p1, .int p2]) 0 = some (.ref 130) := rfl
  have l1 : im_lk (lv_args 0 [.ref 130, .int p0, .int p1, .int p2]) 1 = some (.int p0) := rfl
  have l2 : im_lk (lv_args 0 [.ref 130, .int p0, .int p1, .int p2]) 2 = some (.int p1) := rfl
  have l3 : im_lk (lv_args 0 [.ref 130, .int p0, .int p1, .int p2]) 3 = some (.int p2) := rfl
  refine iq_iload_n hS 1 J_MPlaceRows_isPlace_d0 l1 rfl ?_
  refine iq_if_lt hS 4 J_MPlaceRows_isPlace_d1 (t := 32) rfl (fun q1 => ?_) rfl (fun q1 => ?_)
  · replace h := ed_pos q1 h
    refine iq_iconst hS 33 J_MPlaceRows_isPlace_d32 (v := 0) (by decide +kernel) rfl ?_
    exact iq_iret J_MPlaceRows_isPlace_d33 rfl rfl ⟨_, rfl, rfl, ed_some h⟩
  · replace h := ed_neg q1 h
    refine iq_iload_n hS 5 J_MPlaceRows_isPlace_d4 l1 rfl ?_
    refine iq_aload_n hS 6 J_MPlaceRows_isPlace_d5 l0 rfl ?_
    refine iq_getI hS 9 J_MPlaceRows_isPlace_d6 lf_14_7 (Or.inl rfl) (ka_130 hM) rfl ?_
    refine iq_iload_n hS 10 J_MPlaceRows_isPlace_d9 l3 rfl ?_
    refine iq_isub hS 11 J_MPlaceRows_isPlace_d10 rfl ?_
    refine iq_icmp_gt hS 14 J_MPlaceRows_isPlace_d11 (t := 32) rfl (fun q11 => ?_) rfl (fun q11 => ?_)
    · replace h := ed_pos q11 h
      refine iq_iconst hS 33 J_MPlaceRows_isPlace_d32 (v := 0) (by decide +kernel) rfl ?_
      exact iq_iret J_MPlaceRows_isPlace_d33 rfl rfl ⟨_, rfl, rfl, ed_some h⟩
    · replace h := ed_neg q11 h
      refine iq_iload_n hS 15 J_MPlaceRows_isPlace_d14 l2 rfl ?_
      refine iq_if_lt hS 18 J_MPlaceRows_isPlace_d15 (t := 32) rfl (fun q15 => ?_) rfl (fun q15 => ?_)
      · replace h := ed_pos q15 h
        refine iq_iconst hS 33 J_MPlaceRows_isPlace_d32 (v := 0) (by decide +kernel) rfl ?_
        exact iq_iret J_MPlaceRows_isPlace_d33 rfl rfl ⟨_, rfl, rfl, ed_some h⟩
      · replace h := ed_neg q15 h
        refine iq_iload_n hS 19 J_MPlaceRows_isPlace_d18 l2 rfl ?_
        refine iq_aload_n hS 20 J_MPlaceRows_isPlace_d19 l0 rfl ?_
        refine iq_getI hS 23 J_MPlaceRows_isPlace_d20 lf_14_13 (Or.inl rfl) (ka_130 hM) rfl ?_
        refine iq_iload_n hS 24 J_MPlaceRows_isPlace_d23 l3 rfl ?_
        refine iq_isub hS 25 J_MPlaceRows_isPlace_d24 rfl ?_
        refine iq_icmp_gt hS 28 J_MPlaceRows_isPlace_d25 (t := 32) rfl (fun q25 => ?_) rfl (fun q25 => ?_)
        · replace h := ed_pos q25 h
          refine iq_iconst hS 33 J_MPlaceRows_isPlace_d32 (v := 0) (by decide +kernel) rfl ?_
          exact iq_iret J_MPlaceRows_isPlace_d33 rfl rfl ⟨_, rfl, rfl, ed_some h⟩
        · replace h := ed_neg q25 h
          refine iq_iconst hS 29 J_MPlaceRows_isPlace_d28 (v := 1) (by decide +kernel) rfl ?_
          refine iq_goto hS J_MPlaceRows_isPlace_d29 (t := 33) rfl ?_
          exact iq_iret J_MPlaceRows_isPlace_d33 rfl rfl ⟨_, rfl, rfl, ed_some h⟩
noncomputable def f_MPlaceRows_blockX (p0 : Int32) (p1 : Int32) (p2 : Int32) (p3 : Int32) (M : im_M) : Option (Int32) := if ¬ p3 = 0 then if ¬ p3 = 1 then if ¬ p3 = 2 then some p2 else some ((p0 - 1) - p1) else some ((p0 - 1) - p2) else some p1
theorem J_MPlaceRows_blockX_d0 : decode J_MPlaceRows_blockX.2.1 0 = .ok (.iload_n 3, 1) := by decide +kernel
theorem J_MPlaceRows_blockX_d1 : decode J_MPlaceRows_blockX.2.1 1 = .ok (.ifCond .ne 7, 3) := by decide +kernel
theorem J_MPlaceRows_blockX_d4 : decode J_MPlaceRows_blockX.2.1 4 = .ok (.iload_n 1, 1) := by decide +kernel
theorem J_MPlaceRows_blockX_d5 : decode J_MPlaceRows_blockX.2.1 5 = .ok (.goto 30, 3) := by decide +kernel
theorem J_MPlaceRows_blockX_d8 : decode J_MPlaceRows_blockX.2.1 8 = .ok (.iload_n 3, 1) := by decide +kernel
theorem J_MPlaceRows_blockX_d9 : decode J_MPlaceRows_blockX.2.1 9 = .ok (.iconst 1, 1) := by decide +kernel
theorem J_MPlaceRows_blockX_d10 : decode J_MPlaceRows_blockX.2.1 10 = .ok (.if_icmp .ne 11, 3) := by decide +kernel
theorem J_MPlaceRows_blockX_d13 : decode J_MPlaceRows_blockX.2.1 13 = .ok (.iload_n 0, 1) := by decide +kernel
theorem J_MPlaceRows_blockX_d14 : decode J_MPlaceRows_blockX.2.1 14 = .ok (.iconst 1, 1) := by decide +kernel
theorem J_MPlaceRows_blockX_d15 : decode J_MPlaceRows_blockX.2.1 15 = .ok (.isub, 1) := by decide +kernel
theorem J_MPlaceRows_blockX_d16 : decode J_MPlaceRows_blockX.2.1 16 = .ok (.iload_n 2, 1) := by decide +kernel
theorem J_MPlaceRows_blockX_d17 : decode J_MPlaceRows_blockX.2.1 17 = .ok (.isub, 1) := by decide +kernel
theorem J_MPlaceRows_blockX_d18 : decode J_MPlaceRows_blockX.2.1 18 = .ok (.goto 17, 3) := by decide +kernel
theorem J_MPlaceRows_blockX_d21 : decode J_MPlaceRows_blockX.2.1 21 = .ok (.iload_n 3, 1) := by decide +kernel
theorem J_MPlaceRows_blockX_d22 : decode J_MPlaceRows_blockX.2.1 22 = .ok (.iconst 2, 1) := by decide +kernel
theorem J_MPlaceRows_blockX_d23 : decode J_MPlaceRows_blockX.2.1 23 = .ok (.if_icmp .ne 11, 3) := by decide +kernel
theorem J_MPlaceRows_blockX_d26 : decode J_MPlaceRows_blockX.2.1 26 = .ok (.iload_n 0, 1) := by decide +kernel
theorem J_MPlaceRows_blockX_d27 : decode J_MPlaceRows_blockX.2.1 27 = .ok (.iconst 1, 1) := by decide +kernel
theorem J_MPlaceRows_blockX_d28 : decode J_MPlaceRows_blockX.2.1 28 = .ok (.isub, 1) := by decide +kernel
theorem J_MPlaceRows_blockX_d29 : decode J_MPlaceRows_blockX.2.1 29 = .ok (.iload_n 1, 1) := by decide +kernel
theorem J_MPlaceRows_blockX_d30 : decode J_MPlaceRows_blockX.2.1 30 = .ok (.isub, 1) := by decide +kernel
theorem J_MPlaceRows_blockX_d31 : decode J_MPlaceRows_blockX.2.1 31 = .ok (.goto 4, 3) := by decide +kernel
theorem J_MPlaceRows_blockX_d34 : decode J_MPlaceRows_blockX.2.1 34 = .ok (.iload_n 2, 1) := by decide +kernel
theorem J_MPlaceRows_blockX_d35 : decode J_MPlaceRows_blockX.2.1 35 = .ok (.ireturn, 1) := by decide +kernel
theorem f_MPlaceRows_blockX_ok {L : Nat} {xs : Nat → Int32} {dep : Nat} {w : Bool} {p0 : Int32} {p1 : Int32} {p2 : Int32} {p3 : Int32} {M : im_M} {Q : Int32 → Prop} (hM : lw_S w M) (h : ed (f_MPlaceRows_blockX p0 p1 p2 p3 M) Q) : ia (tb_G L xs) dep J_MPlaceRows_blockX (rpI M Q) (0, lv_args 0 [.int p0, .int p1, .int p2, .int p3], [], M) := by
  have hS : im_St (tb_G L xs) dep J_MPlaceRows_blockX (ia (tb_G L xs) dep J_MPlaceRows_blockX (rpI M Q)) := ia_St
  unfold f_MPlaceRows_blockX at h
  have l0 : im_lk (lv_args 0 [.int p0, .int p1, .int p2, .int p3]) 0 = some (.int p0) := rfl
  have l1 : im_lk (lv_args 0 [.int p0, .int p1, .int p2, .int p3]) 1 = some (.int p1) := rfl
  have l2 : im_lk (lv_args 0 [.int p0, .int p1, .int p2, .int p3]) 2 = some (.int p2) := rfl
  have l3 : im_lk (lv_args 0 [.int p0, .int p1, .int p2, .int p3]) 3 = some (.int p3) := rfl
  refine iq_iload_n hS 1 J_MPlaceRows_blockX_d0 l3 rfl ?_
  refine iq_if_ne hS 4 J_MPlaceRows_blockX_d1 (t := 8) rfl (fun q1 => ?_) rfl (fun q1 => ?_)
  · replace h := ed_pos q1 h
    refine iq_iload_n hS 9 J_MPlaceRows_blockX_d8 l3 rfl ?_
    refine iq_iconst hS 10 J_MPlaceRows_blockX_d9 (v := 1) (by decide +kernel) rfl ?_
    refine iq_icmp_ne hS 13 J_MPlaceRows_blockX_d10 (t := 21) rfl (fun q10 => ?_) rfl (fun q10 => ?_)
    · replace h := ed_pos q10 h
      refine iq_iload_n hS 22 J_MPlaceRows_blockX_d21 l3 rfl ?_
      refine iq_iconst hS 23 J_MPlaceRows_blockX_d22 (v := 2) (by decide +kernel) rfl ?_
      refine iq_icmp_ne hS 26 J_MPlaceRows_blockX_d23 (t := 34) rfl (fun q23 => ?_) rfl (fun q23 => ?_)
      · replace h := ed_pos q23 h
        refine iq_iload_n hS 35 J_MPlaceRows_blockX_d34 l2 rfl ?_
        exact iq_iret J_MPlaceRows_blockX_d35 rfl rfl ⟨_, rfl, rfl, ed_some h⟩
      · replace h := ed_neg q23 h
        refine iq_iload_n hS 27 J_MPlaceRows_blockX_d26 l0 rfl ?_
        refine iq_iconst hS 28 J_MPlaceRows_blockX_d27 (v := 1) (by decide +kernel) rfl ?_
        refine iq_isub hS 29 J_MPlaceRows_blockX_d28 rfl ?_
        refine iq_iload_n hS 30 J_MPlaceRows_blockX_d29 l1 rfl ?_
        refine iq_isub hS 31 J_MPlaceRows_blockX_d30 rfl ?_
        refine iq_goto hS J_MPlaceRows_blockX_d31 (t := 35) rfl ?_
        exact iq_iret J_MPlaceRows_blockX_d35 rfl rfl ⟨_, rfl, rfl, ed_some h⟩
    · replace h := ed_neg q10 h
      refine iq_iload_n hS 14 J_MPlaceRows_blockX_d13 l0 rfl ?_
      refine iq_iconst hS 15 J_MPlaceRows_blockX_d14 (v := 1) (by decide +kernel) rfl ?_
      refine iq_isub hS 16 J_MPlaceRows_blockX_d15 rfl ?_
      refine iq_iload_n hS 17 J_MPlaceRows_blockX_d16 l2 rfl ?_
      refine iq_isub hS 18 J_MPlaceRows_blockX_d17 rfl ?_
      refine iq_goto hS J_MPlaceRows_blockX_d18 (t := 35) rfl ?_
      exact iq_iret J_MPlaceRows_blockX_d35 rfl rfl ⟨_, rfl, rfl, ed_some h⟩
  · replace h := ed_neg q1 h
    refine iq_iload_n hS 5 J_MPlaceRows_blockX_d4 l1 rfl ?_
    refine iq_goto hS J_MPlaceRows_blockX_d5 (t := 35) rfl ?_
    exact iq_iret J_MPlaceRows_blockX_d35 rfl rfl ⟨_, rfl, rfl, ed_some h⟩
noncomputable def f_MPlaceRows_least (p0 : Int32) (p1 : Int32) (M : im_M) : Option (Int32) := if p1 ≤ p0 then some p1 else some p0
theorem J_MPlaceRows_least_d0 : decode J_MPlaceRows_least.2.1 0 = .ok (.iload_n 0, 1) := by decide +kernel
theorem J_MPlaceRows_least_d1 : decode J_MPlaceRows_least.2.1 1 = .ok (.iload_n 1, 1) := by decide +kernel
theorem J_MPlaceRows_least_d2 : decode J_MPlaceRows_least.2.1 2 = .ok (.if_icmp .ge 7, 3) := by decide +kernel
theorem J_MPlaceRows_least_d5 : decode J_MPlaceRows_least.2.1 5 = .ok (.iload_n 0, 1) := by decide +kernel
theorem J_MPlaceRows_least_d6 : decode J_MPlaceRows_least.2.1 6 = .ok (.goto 4, 3) := by decide +kernel
theorem J_MPlaceRows_least_d9 : decode J_MPlaceRows_least.2.1 9 = .ok (.iload_n 1, 1) := by decide +kernel
theorem J_MPlaceRows_least_d10 : decode J_MPlaceRows_least.2.1 10 = .ok (.ireturn, 1) := by decide +kernel
theorem f_MPlaceRows_least_ok {L : Nat} {xs : Nat → Int32} {dep : Nat} {w : Bool} {p0 : Int32} {p1 : Int32} {M : im_M} {Q : Int32 → Prop} (hM : lw_S w M) (h : ed (f_MPlaceRows_least p0 p1 M) Q) : ia (tb_G L xs) dep J_MPlaceRows_least (rpI M Q) (0, lv_args 0 [.int p0, .int p1], [], M) := by
  have hS : im_St (tb_G L xs) dep J_MPlaceRows_least (ia (tb_G L xs) dep J_MPlaceRows_least (rpI M Q)) := ia_St
  unfold f_MPlaceRows_least at h
  have l0 : im_lk (lv_args 0 [.int p0, .int p1]) 0 = some (.int p0) := rfl
  have l1 : im_lk (lv_args 0 [.int p0, .int p1]) 1 = some (.int p1) := rfl
  refine iq_iload_n hS 1 J_MPlaceRows_least_d0 l0 rfl ?_
  refine iq_iload_n hS 2 J_MPlaceRows_least_d1 l1 rfl ?_
  refine iq_icmp_ge hS 5 J_MPlaceRows_least_d2 (t := 9) rfl (fun q2 => ?_) rfl (fun q2 => ?_)
  · replace h := ed_pos q2 h
    refine iq_iload_n hS 10 J_MPlaceRows_least_d9 l1 rfl ?_
    exact iq_iret J_MPlaceRows_least_d10 rfl rfl ⟨_, rfl, rfl, ed_some h⟩
  · replace h := ed_neg q2 h
    refine iq_iload_n hS 6 J_MPlaceRows_least_d5 l0 rfl ?_
    refine iq_goto hS J_MPlaceRows_least_d6 (t := 10) rfl ?_
    exact iq_iret J_MPlaceRows_least_d10 rfl rfl ⟨_, rfl, rfl, ed_some h⟩
noncomputable def f_MPlaceRows_blockY (p0 : Int32) (p1 : Int32) (p2 : Int32) (p3 : Int32) (M : im_M) : Option (Int32) := if ¬ p3 = 0 then if ¬ p3 = 1 then if ¬ p3 = 2 then some ((p0 - 1) - p1) else some ((p0 - 1) - p2) else some p1 else some p2
theorem J_MPlaceRows_blockY_d0 : decode J_MPlaceRows_blockY.2.1 0 = .ok (.iload_n 3, 1) := by decide +kernel
theorem J_MPlaceRows_blockY_d1 : decode J_MPlaceRows_blockY.2.1 1 = .ok (.ifCond .ne 7, 3) := by decide +kernel
theorem J_MPlaceRows_blockY_d4 : decode J_MPlaceRows_blockY.2.1 4 = .ok (.iload_n 2, 1) := by decide +kernel
theorem J_MPlaceRows_blockY_d5 : decode J_MPlaceRows_blockY.2.1 5 = .ok (.goto 30, 3) := by decide +kernel
theorem J_MPlaceRows_blockY_d8 : decode J_MPlaceRows_blockY.2.1 8 = .ok (.iload_n 3, 1) := by decide +kernel
theorem J_MPlaceRows_blockY_d9 : decode J_MPlaceRows_blockY.2.1 9 = .ok (.iconst 1, 1) := by decide +kernel
theorem J_MPlaceRows_blockY_d10 : decode J_MPlaceRows_blockY.2.1 10 = .ok (.if_icmp .ne 7, 3) := by decide +kernel
theorem J_MPlaceRows_blockY_d13 : decode J_MPlaceRows_blockY.2.1 13 = .ok (.iload_n 1, 1) := by decide +kernel
theorem J_MPlaceRows_blockY_d14 : decode J_MPlaceRows_blockY.2.1 14 = .ok (.goto 21, 3) := by decide +kernel
theorem J_MPlaceRows_blockY_d17 : decode J_MPlaceRows_blockY.2.1 17 = .ok (.iload_n 3, 1) := by decide +kernel
theorem J_MPlaceRows_blockY_d18 : decode J_MPlaceRows_blockY.2.1 18 = .ok (.iconst 2, 1) := by decide +kernel
theorem J_MPlaceRows_blockY_d19 : decode J_MPlaceRows_blockY.2.1 19 = .ok (.if_icmp .ne 11, 3) := by decide +kernel
theorem J_MPlaceRows_blockY_d22 : decode J_MPlaceRows_blockY.2.1 22 = .ok (.iload_n 0, 1) := by decide +kernel
theorem J_MPlaceRows_blockY_d23 : decode J_MPlaceRows_blockY.2.1 23 = .ok (.iconst 1, 1) := by decide +kernel
theorem J_MPlaceRows_blockY_d24 : decode J_MPlaceRows_blockY.2.1 24 = .ok (.isub, 1) := by decide +kernel
theorem J_MPlaceRows_blockY_d25 : decode J_MPlaceRows_blockY.2.1 25 = .ok (.iload_n 2, 1) := by decide +kernel
theorem J_MPlaceRows_blockY_d26 : decode J_MPlaceRows_blockY.2.1 26 = .ok (.isub, 1) := by decide +kernel
theorem J_MPlaceRows_blockY_d27 : decode J_MPlaceRows_blockY.2.1 27 = .ok (.goto 8, 3) := by decide +kernel
theorem J_MPlaceRows_blockY_d30 : decode J_MPlaceRows_blockY.2.1 30 = .ok (.iload_n 0, 1) := by decide +kernel
theorem J_MPlaceRows_blockY_d31 : decode J_MPlaceRows_blockY.2.1 31 = .ok (.iconst 1, 1) := by decide +kernel
theorem J_MPlaceRows_blockY_d32 : decode J_MPlaceRows_blockY.2.1 32 = .ok (.isub, 1) := by decide +kernel
theorem J_MPlaceRows_blockY_d33 : decode J_MPlaceRows_blockY.2.1 33 = .ok (.iload_n 1, 1) := by decide +kernel
theorem J_MPlaceRows_blockY_d34 : decode J_MPlaceRows_blockY.2.1 34 = .ok (.isub, 1) := by decide +kernel
theorem J_MPlaceRows_blockY_d35 : decode J_MPlaceRows_blockY.2.1 35 = .ok (.ireturn, 1) := by decide +kernel
theorem f_MPlaceRows_blockY_ok {L : Nat} {xs : Nat → Int32} {dep : Nat} {w : Bool} {p0 : Int32} {p1 : Int32} {p2 : Int32} {p3 : Int32} {M : im_M} {Q : Int32 → Prop} (hM : lw_S w M) (h : ed (f_MPlaceRows_blockY p0 p1 p2 p3 M) Q) : ia (tb_G L xs) dep J_MPlaceRows_blockY (rpI M Q) (0, lv_args 0 [.int p0, .int p1, .int p2, .int p3], [], M) := by
  have hS : im_St (tb_G L xs) dep J_MPlaceRows_blockY (ia (tb_G L xs) dep J_MPlaceRows_blockY (rpI M Q)) := ia_St
  unfold f_MPlaceRows_blockY at h
  have l0 : im_lk (lv_args 0 [.int p0, .int p1, .int p2, .int p3]) 0 = some (.int p0) := rfl
  have l1 : im_lk (lv_args 0 [.int p0, .int p1, .int p2, .int p3]) 1 = some (.int p1) := rfl
  have l2 : im_lk (lv_args 0 [.int p0, .int p1, .int p2, .int p3]) 2 = some (.int p2) := rfl
  have l3 : im_lk (lv_args 0 [.int p0, .int p1, .int p2, .int p3]) 3 = some (.int p3) := rfl
  refine iq_iload_n hS 1 J_MPlaceRows_blockY_d0 l3 rfl ?_
  refine iq_if_ne hS 4 J_MPlaceRows_blockY_d1 (t := 8) rfl (fun q1 => ?_) rfl (fun q1 => ?_)
  · replace h := ed_pos q1 h
    refine iq_iload_n hS 9 J_MPlaceRows_blockY_d8 l3 rfl ?_
    refine iq_iconst hS 10 J_MPlaceRows_blockY_d9 (v := 1) (by decide +kernel) rfl ?_
    refine iq_icmp_ne hS 13 J_MPlaceRows_blockY_d10 (t := 17) rfl (fun q10 => ?_) rfl (fun q10 => ?_)
    · replace h := ed_pos q10 h
      refine iq_iload_n hS 18 J_MPlaceRows_blockY_d17 l3 rfl ?_
      refine iq_iconst hS 19 J_MPlaceRows_blockY_d18 (v := 2) (by decide +kernel) rfl ?_
      refine iq_icmp_ne hS 22 J_MPlaceRows_blockY_d19 (t := 30) rfl (fun q19 => ?_) rfl (fun q19 => ?_)
      · replace h := ed_pos q19 h
        refine iq_iload_n hS 31 J_MPlaceRows_blockY_d30 l0 rfl ?_
        refine iq_iconst hS 32 J_MPlaceRows_blockY_d31 (v := 1) (by decide +kernel) rfl ?_
        refine iq_isub hS 33 J_MPlaceRows_blockY_d32 rfl ?_
        refine iq_iload_n hS 34 J_MPlaceRows_blockY_d33 l1 rfl ?_
        refine iq_isub hS 35 J_MPlaceRows_blockY_d34 rfl ?_
        exact iq_iret J_MPlaceRows_blockY_d35 rfl rfl ⟨_, rfl, rfl, ed_some h⟩
      · replace h := ed_neg q19 h
        refine iq_iload_n hS 23 J_MPlaceRows_blockY_d22 l0 rfl ?_
        refine iq_iconst hS 24 J_MPlaceRows_blockY_d23 (v := 1) (by decide +kernel) rfl ?_
        refine iq_isub hS 25 J_MPlaceRows_blockY_d24 rfl ?_
        refine iq_iload_n hS 26 J_MPlaceRows_blockY_d25 l2 rfl ?_
        refine iq_isub hS 27 J_MPlaceRows_blockY_d26 rfl ?_
        refine iq_goto hS J_MPlaceRows_blockY_d27 (t := 35) rfl ?_
        exact iq_iret J_MPlaceRows_blockY_d35 rfl rfl ⟨_, rfl, rfl, ed_some h⟩
    · replace h := ed_neg q10 h
      refine iq_iload_n hS 14 J_MPlaceRows_blockY_d13 l1 rfl ?_
      refine iq_goto hS J_MPlaceRows_blockY_d14 (t := 35) rfl ?_
      exact iq_iret J_MPlaceRows_blockY_d35 rfl rfl ⟨_, rfl, rfl, ed_some h⟩
  · replace h := ed_neg q1 h
    refine iq_iload_n hS 5 J_MPlaceRows_blockY_d4 l2 rfl ?_
    refine iq_goto hS J_MPlaceRows_blockY_d5 (t := 35) rfl ?_
    exact iq_iret J_MPlaceRows_blockY_d35 rfl rfl ⟨_, rfl, rfl, ed_some h⟩
noncomputable def f_MPlaceRows_darkIn (p0 : Int32) (p1 : Int32) (p2 : Int32) (p3 : Int32) (p4 : Int32) (p5 : Int32) (M : im_M) : Option (Int32) := gd (inb ((4 : Int32) * p0) 2100) <| gd (inb (((4 : Int32) * p0) + 1) 2100) <| gd (inb (((4 : Int32) * p0) + 2) 2100) <| bd1 (f_MPlaceRows_blockX p4 (im_i M 133 (Int32.toNatClampNeg ((4 : Int32) * p0))) (im_i M 133 (Int32.toNatClampNeg (((4 : Int32) * p0) + 1))) p5 M) fun (x1 : Int32) => bd1 (f_MPlaceRows_blockX p4 (((im_i M 133 (Int32.toNatClampNeg ((4 : Int32) * p0))) + (im_i M 133 (Int32.toNatClampNeg (((4 : Int32) * p0) + 2)))) - 1) (im_i M 133 (Int32.toNatClampNeg (((4 : Int32) * p0) + 1))) p5 M) fun (x2 : Int32) => bd1 (f_MPlaceRows_least x1 x2 M) fun (x3 : Int32) => bd1 (f_MPlaceRows_blockY p4 (im_i M 133 (Int32.toNatClampNeg ((4 : Int32) * p0))) (im_i M 133 (Int32.toNatClampNeg (((4 : Int32) * p0) + 1))) p5 M) fun (x4 : Int32) => bd1 (f_MPlaceRows_blockY p4 (((im_i M 133 (Int32.toNatClampNeg ((4 : Int32) * p0))) + (im_i M 133 (Int32.toNatClampNeg (((4 : Int32) * p0) + 2)))) - 1) (im_i M 133 (Int32.toNatClampNeg (((4 : Int32) * p0) + 1))) p5 M) fun (x5 : Int32) => bd1 (f_MPlaceRows_least x4 x5 M) fun (x6 : Int32) => bd1 (if ¬ (p5 - p5 / 2 * 2) = 0 then some 1 else gd (inb (((4 : Int32) * p0) + 2) 2100) <| some (im_i M 133 (Int32.toNatClampNeg (((4 : Int32) * p0) + 2)))) fun (y8 : Int32) => bd1 (if ¬ (p5 - p5 / 2 * 2) = 0 then gd (inb (((4 : Int32) * p0) + 2) 2100) <| some (im_i M 133 (Int32.toNatClampNeg (((4 : Int32) * p0) + 2))) else some 1) fun (y18 : Int32) => gd (inb ((((((513 : Int32) * (p2 + (p3 * x6))) + p1) + (p3 * x3)) + (((513 : Int32) * p3) * y18)) + (p3 * y8)) 263169) <| gd (inb (((((513 : Int32) * (p2 + (p3 * x6))) + p1) + (p3 * x3)) + (((513 : Int32) * p3) * y18)) 263169) <| gd (inb (((((513 : Int32) * (p2 + (p3 * x6))) + p1) + (p3 * x3)) + (p3 * y8)) 263169) <| gd (inb ((((513 : Int32) * (p2 + (p3 * x6))) + p1) + (p3 * x3)) 263169) <| some ((((im_i M 132 (Int32.toNatClampNeg ((((((513 : Int32) * (p2 + (p3 * x6))) + p1) + (p3 * x3)) + (((513 : Int32) * p3) * y18)) + (p3 * y8)))) - (im_i M 132 (Int32.toNatClampNeg (((((513 : Int32) * (p2 + (p3 * x6))) + p1) + (p3 * x3)) + (((513 : Int32) * p3) * y18))))) - (im_i M 132 (Int32.toNatClampNeg (((((513 : Int32) * (p2 + (p3 * x6))) + p1) + (p3 * x3)) + (p3 * y8))))) + (im_i M 132 (Int32.toNatClampNeg ((((513 : Int32) * (p2 + (p3 * x6))) + p1) + (p3 * x3)))))
theorem J_MPlaceRows_darkIn_d0 : decode J_MPlaceRows_darkIn.2.1 0 = .ok (.aload_n 0, 1) := by decide +kernel
theorem J_MPlaceRows_darkIn_d1 : decode J_MPlaceRows_darkIn.2.1 1 = .ok (.getfield 26, 3) := by decide +kernel
theorem J_MPlaceRows_darkIn_d4 : decode J_MPlaceRows_darkIn.2.1 4 = .ok (.iconst 4, 1) := by decide +kernel
theorem J_MPlaceRows_darkIn_d5 : decode J_MPlaceRows_darkIn.2.1 5 = .ok (.iload_n 1, 1) := by decide +kernel
theorem J_MPlaceRows_darkIn_d6 : decode J_MPlaceRows_darkIn.2.1 6 = .ok (.imul, 1) := by decide +kernel
theorem J_MPlaceRows_darkIn_d7 : decode J_MPlaceRows_darkIn.2.1 7 = .ok (.iaload, 1) := by decide +kernel
theorem J_MPlaceRows_darkIn_d8 : decode J_MPlaceRows_darkIn.2.1 8 = .ok (.istore 7, 2) := by decide +kernel
theorem J_MPlaceRows_darkIn_d10 : decode J_MPlaceRows_darkIn.2.1 10 = .ok (.aload_n 0, 1) := by decide +kernel
theorem J_MPlaceRows_darkIn_d11 : decode J_MPlaceRows_darkIn.2.1 11 = .ok (.getfield 26, 3) := by decide +kernel
theorem J_MPlaceRows_darkIn_d14 : decode J_MPlaceRows_darkIn.2.1 14 = .ok (.iconst 4, 1) := by decide +kernel
theorem J_MPlaceRows_darkIn_d15 : decode J_MPlaceRows_darkIn.2.1 15 = .ok (.iload_n 1, 1) := by decide +kernel
theorem J_MPlaceRows_darkIn_d16 : decode J_MPlaceRows_darkIn.2.1 16 = .ok (.imul, 1) := by decide +kernel
theorem J_MPlaceRows_darkIn_d17 : decode J_MPlaceRows_darkIn.2.1 17 = .ok (.iconst 1, 1) := by decide +kernel
theorem J_MPlaceRows_darkIn_d18 : decode J_MPlaceRows_darkIn.2.1 18 = .ok (.iadd, 1) := by decide +kernel
theorem J_MPlaceRows_darkIn_d19 : decode J_MPlaceRows_darkIn.2.1 19 = .ok (.iaload, 1) := by decide +kernel
theorem J_MPlaceRows_darkIn_d20 : decode J_MPlaceRows_darkIn.2.1 20 = .ok (.istore 8, 2) := by decide +kernel
theorem J_MPlaceRows_darkIn_d22 : decode J_MPlaceRows_darkIn.2.1 22 = .ok (.iload 7, 2) := by decide +kernel
theorem J_MPlaceRows_darkIn_d24 : decode J_MPlaceRows_darkIn.2.1 24 = .ok (.aload_n 0, 1) := by decide +kernel
theorem J_MPlaceRows_darkIn_d25 : decode J_MPlaceRows_darkIn.2.1 25 = .ok (.getfield 26, 3) := by decide +kernel
theorem J_MPlaceRows_darkIn_d28 : decode J_MPlaceRows_darkIn.2.1 28 = .ok (.iconst 4, 1) := by decide +kernel
theorem J_MPlaceRows_darkIn_d29 : decode J_MPlaceRows_darkIn.2.1 29 = .ok (.iload_n 1, 1) := by decide +kernel
theorem J_MPlaceRows_darkIn_d30 : decode J_MPlaceRows_darkIn.2.1 30 = .ok (.imul, 1) := by decide +kernel
theorem J_MPlaceRows_darkIn_d31 : decode J_MPlaceRows_darkIn.2.1 31 = .ok (.iconst 2, 1) := by decide +kernel
theorem J_MPlaceRows_darkIn_d32 : decode J_MPlaceRows_darkIn.2.1 32 = .ok (.iadd, 1) := by decide +kernel
theorem J_MPlaceRows_darkIn_d33 : decode J_MPlaceRows_darkIn.2.1 33 = .ok (.iaload, 1) := by decide +kernel
theorem J_MPlaceRows_darkIn_d34 : decode J_MPlaceRows_darkIn.2.1 34 = .ok (.iadd, 1) := by decide +kernel
theorem J_MPlaceRows_darkIn_d35 : decode J_MPlaceRows_darkIn.2.1 35 = .ok (.iconst 1, 1) := by decide +kernel
theorem J_MPlaceRows_darkIn_d36 : decode J_MPlaceRows_darkIn.2.1 36 = .ok (.isub, 1) := by decide +kernel
theorem J_MPlaceRows_darkIn_d37 : decode J_MPlaceRows_darkIn.2.1 37 = .ok (.istore 9, 2) := by decide +kernel
theorem J_MPlaceRows_darkIn_d39 : decode J_MPlaceRows_darkIn.2.1 39 = .ok (.iload 5, 2) := by decide +kernel
theorem J_MPlaceRows_darkIn_d41 : decode J_MPlaceRows_darkIn.2.1 41 = .ok (.iload 7, 2) := by decide +kernel
theorem J_MPlaceRows_darkIn_d43 : decode J_MPlaceRows_darkIn.2.1 43 = .ok (.iload 8, 2) := by decide +kernel
theorem J_MPlaceRows_darkIn_d45 : decode J_MPlaceRows_darkIn.2.1 45 = .ok (.iload 6, 2) := by decide +kernel
theorem J_MPlaceRows_darkIn_d47 : decode J_MPlaceRows_darkIn.2.1 47 = .ok (.invokestatic 75, 3) := by decide +kernel
theorem J_MPlaceRows_darkIn_d50 : decode J_MPlaceRows_darkIn.2.1 50 = .ok (.iload 5, 2) := by decide +kernel
theorem J_MPlaceRows_darkIn_d52 : decode J_MPlaceRows_darkIn.2.1 52 = .ok (.iload 9, 2) := by decide +kernel
theorem J_MPlaceRows_darkIn_d54 : decode J_MPlaceRows_darkIn.2.1 54 = .ok (.iload 8, 2) := by decide +kernel
theorem J_MPlaceRows_darkIn_d56 : decode J_MPlaceRows_darkIn.2.1 56 = .ok (.iload 6, 2) := by decide +kernel
theorem J_MPlaceRows_darkIn_d58 : decode J_MPlaceRows_darkIn.2.1 58 = .ok (.invokestatic 75, 3) := by decide +kernel
theorem J_MPlaceRows_darkIn_d61 : decode J_MPlaceRows_darkIn.2.1 61 = .ok (.invokestatic 88, 3) := by decide +kernel
theorem J_MPlaceRows_darkIn_d64 : decode J_MPlaceRows_darkIn.2.1 64 = .ok (.istore 10, 2) := by decide +kernel
theorem J_MPlaceRows_darkIn_d66 : decode J_MPlaceRows_darkIn.2.1 66 = .ok (.iload 5, 2) := by decide +kernel
theorem J_MPlaceRows_darkIn_d68 : decode J_MPlaceRows_darkIn.2.1 68 = .ok (.iload 7, 2) := by decide +kernel
theorem J_MPlaceRows_darkIn_d70 : decode J_MPlaceRows_darkIn.2.1 70 = .ok (.iload 8, 2) := by decide +kernel
theorem J_MPlaceRows_darkIn_d72 : decode J_MPlaceRows_darkIn.2.1 72 = .ok (.iload 6, 2) := by decide +kernel
theorem J_MPlaceRows_darkIn_d74 : decode J_MPlaceRows_darkIn.2.1 74 = .ok (.invokestatic 78, 3) := by decide +kernel
theorem J_MPlaceRows_darkIn_d77 : decode J_MPlaceRows_darkIn.2.1 77 = .ok (.iload 5, 2) := by decide +kernel
theorem J_MPlaceRows_darkIn_d79 : decode J_MPlaceRows_darkIn.2.1 79 = .ok (.iload 9, 2) := by decide +kernel
theorem J_MPlaceRows_darkIn_d81 : decode J_MPlaceRows_darkIn.2.1 81 = .ok (.iload 8, 2) := by decide +kernel
theorem J_MPlaceRows_darkIn_d83 : decode J_MPlaceRows_darkIn.2.1 83 = .ok (.iload 6, 2) := by decide +kernel
theorem J_MPlaceRows_darkIn_d85 : decode J_MPlaceRows_darkIn.2.1 85 = .ok (.invokestatic 78, 3) := by decide +kernel
theorem J_MPlaceRows_darkIn_d88 : decode J_MPlaceRows_darkIn.2.1 88 = .ok (.invokestatic 88, 3) := by decide +kernel
theorem J_MPlaceRows_darkIn_d91 : decode J_MPlaceRows_darkIn.2.1 91 = .ok (.istore 11, 2) := by decide +kernel
theorem J_MPlaceRows_darkIn_d93 : decode J_MPlaceRows_darkIn.2.1 93 = .ok (.iload 6, 2) := by decide +kernel
theorem J_MPlaceRows_darkIn_d95 : decode J_MPlaceRows_darkIn.2.1 95 = .ok (.iconst 2, 1) := by decide +kernel
theorem J_MPlaceRows_darkIn_d96 : decode J_MPlaceRows_darkIn.2.1 96 = .ok (.irem, 1) := by decide +kernel
theorem J_MPlaceRows_darkIn_d97 : decode J_MPlaceRows_darkIn.2.1 97 = .ok (.ifCond .ne 16, 3) := by decide +kernel
theorem J_MPlaceRows_darkIn_d100 : decode J_MPlaceRows_darkIn.2.1 100 = .ok (.aload_n 0, 1) := by decide +kernel
theorem J_MPlaceRows_darkIn_d101 : decode J_MPlaceRows_darkIn.2.1 101 = .ok (.getfield 26, 3) := by decide +kernel
theorem J_MPlaceRows_darkIn_d104 : decode J_MPlaceRows_darkIn.2.1 104 = .ok (.iconst 4, 1) := by decide +kernel
theorem J_MPlaceRows_darkIn_d105 : decode J_MPlaceRows_darkIn.2.1 105 = .ok (.iload_n 1, 1) := by decide +kernel
theorem J_MPlaceRows_darkIn_d106 : decode J_MPlaceRows_darkIn.2.1 106 = .ok (.imul, 1) := by decide +kernel
theorem J_MPlaceRows_darkIn_d107 : decode J_MPlaceRows_darkIn.2.1 107 = .ok (.iconst 2, 1) := by decide +kernel
theorem J_MPlaceRows_darkIn_d108 : decode J_MPlaceRows_darkIn.2.1 108 = .ok (.iadd, 1) := by decide +kernel
theorem J_MPlaceRows_darkIn_d109 : decode J_MPlaceRows_darkIn.2.1 109 = .ok (.iaload, 1) := by decide +kernel
theorem J_MPlaceRows_darkIn_d110 : decode J_MPlaceRows_darkIn.2.1 110 = .ok (.goto 4, 3) := by decide +kernel
theorem J_MPlaceRows_darkIn_d113 : decode J_MPlaceRows_darkIn.2.1 113 = .ok (.iconst 1, 1) := by decide +kernel
theorem J_MPlaceRows_darkIn_d114 : decode J_MPlaceRows_darkIn.2.1 114 = .ok (.istore 12, 2) := by decide +kernel
theorem J_MPlaceRows_darkIn_d116 : decode J_MPlaceRows_darkIn.2.1 116 = .ok (.iload 6, 2) := by decide +kernel
theorem J_MPlaceRows_darkIn_d118 : decode J_MPlaceRows_darkIn.2.1 118 = .ok (.iconst 2, 1) := by decide +kernel
theorem J_MPlaceRows_darkIn_d119 : decode J_MPlaceRows_darkIn.2.1 119 = .ok (.irem, 1) := by decide +kernel
theorem J_MPlaceRows_darkIn_d120 : decode J_MPlaceRows_darkIn.2.1 120 = .ok (.ifCond .ne 7, 3) := by decide +kernel
theorem J_MPlaceRows_darkIn_d123 : decode J_MPlaceRows_darkIn.2.1 123 = .ok (.iconst 1, 1) := by decide +kernel
theorem J_MPlaceRows_darkIn_d124 : decode J_MPlaceRows_darkIn.2.1 124 = .ok (.goto 13, 3) := by decide +kernel
theorem J_MPlaceRows_darkIn_d127 : decode J_MPlaceRows_darkIn.2.1 127 = .ok (.aload_n 0, 1) := by decide +kernel
theorem J_MPlaceRows_darkIn_d128 : decode J_MPlaceRows_darkIn.2.1 128 = .ok (.getfield 26, 3) := by decide +kernel
theorem J_MPlaceRows_darkIn_d131 : decode J_MPlaceRows_darkIn.2.1 131 = .ok (.iconst 4, 1) := by decide +kernel
theorem J_MPlaceRows_darkIn_d132 : decode J_MPlaceRows_darkIn.2.1 132 = .ok (.iload_n 1, 1) := by decide +kernel
theorem J_MPlaceRows_darkIn_d133 : decode J_MPlaceRows_darkIn.2.1 133 = .ok (.imul, 1) := by decide +kernel
theorem J_MPlaceRows_darkIn_d134 : decode J_MPlaceRows_darkIn.2.1 134 = .ok (.iconst 2, 1) := by decide +kernel
theorem J_MPlaceRows_darkIn_d135 : decode J_MPlaceRows_darkIn.2.1 135 = .ok (.iadd, 1) := by decide +kernel
theorem J_MPlaceRows_darkIn_d136 : decode J_MPlaceRows_darkIn.2.1 136 = .ok (.iaload, 1) := by decide +kernel
theorem J_MPlaceRows_darkIn_d137 : decode J_MPlaceRows_darkIn.2.1 137 = .ok (.istore 13, 2) := by decide +kernel
theorem J_MPlaceRows_darkIn_d139 : decode J_MPlaceRows_darkIn.2.1 139 = .ok (.sipush 513, 3) := by decide +kernel
theorem J_MPlaceRows_darkIn_d142 : decode J_MPlaceRows_darkIn.2.1 142 = .ok (.iload_n 3, 1) := by decide +kernel
theorem J_MPlaceRows_darkIn_d143 : decode J_MPlaceRows_darkIn.2.1 143 = .ok (.iload 4, 2) := by decide +kernel
theorem J_MPlaceRows_darkIn_d145 : decode J_MPlaceRows_darkIn.2.1 145 = .ok (.iload 11, 2) := by decide +kernel
theorem J_MPlaceRows_darkIn_d147 : decode J_MPlaceRows_darkIn.2.1 147 = .ok (.imul, 1) := by decide +kernel
theorem J_MPlaceRows_darkIn_d148 : decode J_MPlaceRows_darkIn.2.1 148 = .ok (.iadd, 1) := by decide +kernel
theorem J_MPlaceRows_darkIn_d149 : decode J_MPlaceRows_darkIn.2.1 149 = .ok (.imul, 1) := by decide +kernel
theorem J_MPlaceRows_darkIn_d150 : decode J_MPlaceRows_darkIn.2.1 150 = .ok (.iload_n 2, 1) := by decide +kernel
theorem J_MPlaceRows_darkIn_d151 : decode J_MPlaceRows_darkIn.2.1 151 = .ok (.iadd, 1) := by decide +kernel
theorem J_MPlaceRows_darkIn_d152 : decode J_MPlaceRows_darkIn.2.1 152 = .ok (.iload 4, 2) := by decide +kernel
theorem J_MPlaceRows_darkIn_d154 : decode J_MPlaceRows_darkIn.2.1 154 = .ok (.iload 10, 2) := by decide +kernel
theorem J_MPlaceRows_darkIn_d156 : decode J_MPlaceRows_darkIn.2.1 156 = .ok (.imul, 1) := by decide +kernel
theorem J_MPlaceRows_darkIn_d157 : decode J_MPlaceRows_darkIn.2.1 157 = .ok (.iadd, 1) := by decide +kernel
theorem J_MPlaceRows_darkIn_d158 : decode J_MPlaceRows_darkIn.2.1 158 = .ok (.istore 14, 2) := by decide +kernel
theorem J_MPlaceRows_darkIn_d160 : decode J_MPlaceRows_darkIn.2.1 160 = .ok (.iload 14, 2) := by decide +kernel
theorem J_MPlaceRows_darkIn_d162 : decode J_MPlaceRows_darkIn.2.1 162 = .ok (.sipush 513, 3) := by decide +kernel
theorem J_MPlaceRows_darkIn_d165 : decode J_MPlaceRows_darkIn.2.1 165 = .ok (.iload 4, 2) := by decide +kernel
theorem J_MPlaceRows_darkIn_d167 : decode J_MPlaceRows_darkIn.2.1 167 = .ok (.imul, 1) := by decide +kernel
theorem J_MPlaceRows_darkIn_d168 : decode J_MPlaceRows_darkIn.2.1 168 = .ok (.iload 13, 2) := by decide +kernel
theorem J_MPlaceRows_darkIn_d170 : decode J_MPlaceRows_darkIn.2.1 170 = .ok (.imul, 1) := by decide +kernel
theorem J_MPlaceRows_darkIn_d171 : decode J_MPlaceRows_darkIn.2.1 171 = .ok (.iadd, 1) := by decide +kernel
theorem J_MPlaceRows_darkIn_d172 : decode J_MPlaceRows_darkIn.2.1 172 = .ok (.istore 15, 2) := by decide +kernel
theorem J_MPlaceRows_darkIn_d174 : decode J_MPlaceRows_darkIn.2.1 174 = .ok (.aload_n 0, 1) := by decide +kernel
theorem J_MPlaceRows_darkIn_d175 : decode J_MPlaceRows_darkIn.2.1 175 = .ok (.getfield 22, 3) := by decide +kernel
theorem J_MPlaceRows_darkIn_d178 : decode J_MPlaceRows_darkIn.2.1 178 = .ok (.iload 15, 2) := by decide +kernel
theorem J_MPlaceRows_darkIn_d180 : decode J_MPlaceRows_darkIn.2.1 180 = .ok (.iload 4, 2) := by decide +kernel
theorem J_MPlaceRows_darkIn_d182 : decode J_MPlaceRows_darkIn.2.1 182 = .ok (.iload 12, 2) := by decide +kernel
theorem J_MPlaceRows_darkIn_d184 : decode J_MPlaceRows_darkIn.2.1 184 = .ok (.imul, 1) := by decide +kernel
theorem J_MPlaceRows_darkIn_d185 : decode J_MPlaceRows_darkIn.2.1 185 = .ok (.iadd, 1) := by decide +kernel
theorem J_MPlaceRows_darkIn_d186 : decode J_MPlaceRows_darkIn.2.1 186 = .ok (.iaload, 1) := by decide +kernel
theorem J_MPlaceRows_darkIn_d187 : decode J_MPlaceRows_darkIn.2.1 187 = .ok (.aload_n 0, 1) := by decide +kernel
theorem J_MPlaceRows_darkIn_d188 : decode J_MPlaceRows_darkIn.2.1 188 = .ok (.getfield 22, 3) := by decide +kernel
theorem J_MPlaceRows_darkIn_d191 : decode J_MPlaceRows_darkIn.2.1 191 = .ok (.iload 15, 2) := by decide +kernel
theorem J_MPlaceRows_darkIn_d193 : decode J_MPlaceRows_darkIn.2.1 193 = .ok (.iaload, 1) := by decide +kernel
theorem J_MPlaceRows_darkIn_d194 : decode J_MPlaceRows_darkIn.2.1 194 = .ok (.isub, 1) := by decide +kernel
theorem J_MPlaceRows_darkIn_d195 : decode J_MPlaceRows_darkIn.2.1 195 = .ok (.aload_n 0, 1) := by decide +kernel
theorem J_MPlaceRows_darkIn_d196 : decode J_MPlaceRows_darkIn.2.1 196 = .ok (.getfield 22, 3) := by decide +kernel
theorem J_MPlaceRows_darkIn_d199 : decode J_MPlaceRows_darkIn.2.1 199 = .ok (.iload 14, 2) := by decide +kernel
theorem J_MPlaceRows_darkIn_d201 : decode J_MPlaceRows_darkIn.2.1 201 = .ok (.iload 4, 2) := by decide +kernel
theorem J_MPlaceRows_darkIn_d203 : decode J_MPlaceRows_darkIn.2.1 203 = .ok (.iload 12, 2) := by decide +kernel
theorem J_MPlaceRows_darkIn_d205 : decode J_MPlaceRows_darkIn.2.1 205 = .ok (.imul, 1) := by decide +kernel
theorem J_MPlaceRows_darkIn_d206 : decode J_MPlaceRows_darkIn.2.1 206 = .ok (.iadd, 1) := by decide +kernel
theorem J_MPlaceRows_darkIn_d207 : decode J_MPlaceRows_darkIn.2.1 207 = .ok (.iaload, 1) := by decide +kernel
theorem J_MPlaceRows_darkIn_d208 : decode J_MPlaceRows_darkIn.2.1 208 = .ok (.isub, 1) := by decide +kernel
theorem J_MPlaceRows_darkIn_d209 : decode J_MPlaceRows_darkIn.2.1 209 = .ok (.aload_n 0, 1) := by decide +kernel
theorem J_MPlaceRows_darkIn_d210 : decode J_MPlaceRows_darkIn.2.1 210 = .ok (.getfield 22, 3) := by decide +kernel
theorem J_MPlaceRows_darkIn_d213 : decode J_MPlaceRows_darkIn.2.1 213 = .ok (.iload 14, 2) := by decide +kernel
theorem J_MPlaceRows_darkIn_d215 : decode J_MPlaceRows_darkIn.2.1 215 = .ok (.iaload, 1) := by decide +kernel
theorem J_MPlaceRows_darkIn_d216 : decode J_MPlaceRows_darkIn.2.1 216 = .ok (.iadd, 1) := by decide +kernel
theorem J_MPlaceRows_darkIn_d217 : decode J_MPlaceRows_darkIn.2.1 217 = .ok (.ireturn, 1) := by decide +kernel
theorem f_MPlaceRows_darkIn_ok {L : Nat} {xs : Nat → Int32} {dep : Nat} {w : Bool} {p0 : Int32} {p1 : Int32} {p2 : Int32} {p3 : Int32} {p4 : Int32} {p5 : Int32} {M : im_M} {Q : Int32 → Prop} (hM : lw_S w M) (h : ed (f_MPlaceRows_darkIn p0 p1 p2 p3 p4 p5 M) Q) : ia (tb_G L xs) (dep + 1) J_MPlaceRows_darkIn (rpI M Q) (0, lv_args 0 [.ref 130, .int p0, .int p1, .int p2, .int p3, .int p4, .int p5], [], M) := by
  have hS : im_St (tb_G L xs) (dep + 1) J_MPlaceRows_darkIn (ia (tb_G L xs) (dep + 1) J_MPlaceRows_darkIn (rpI M Q)) := ia_St
  unfold f_MPlaceRows_darkIn at h
  have l0 : im_lk (lv_args 0 [.ref 130, .int p0, .int p1, .int p2, .int p3, .int p4, .int p5]) 0 = some (.ref 130) := rfl
  have l1 : im_lk (lv_args 0 [.ref 130, .int p0, .int p1, .int p2, .int p3, .int p4, .int p5]) 1 = some (.int p0) := rfl
  have l2 : im_lk (lv_args 0 [.ref 130, .int p0, .int p1, .int p2, .int p3, .int p4, .int p5]) 2 = some (.int p1) := rfl
  have l3 : im_lk (lv_args 0 [.ref 130, .int p0, .int p1, .int p2, .int p3, .int p4, .int p5]) 3 = some (.int p2) := rfl
  have l4 : im_lk (lv_args 0 [.ref 130, .int p0, .int p1, .int p2, .int p3, .int p4, .int p5]) 4 = some (.int p3) := rfl
  have l5 : im_lk (lv_args 0 [.ref 130, .int p0, .int p1, .int p2, .int p3, .int p4, .int p5]) 5 = some (.int p4) := rfl
  have l6 : im_lk (lv_args 0 [.ref 130, .int p0, .int p1, .int p2, .int p3, .int p4, .int p5]) 6 = some (.int p5) := rfl
  refine iq_aload_n hS 1 J_MPlaceRows_darkIn_d0 l0 rfl ?_
  refine iq_getR hS 4 J_MPlaceRows_darkIn_d1 lf_14_26 (Or.inr ⟨_, rfl⟩) (ka_130 hM) (ra_130_5 hM) rfl ?_
  refine iq_iconst hS 5 J_MPlaceRows_darkIn_d4 (v := 4) (by decide +kernel) rfl ?_
  refine iq_iload_n hS 6 J_MPlaceRows_darkIn_d5 l1 rfl ?_
  refine iq_imul hS 7 J_MPlaceRows_darkIn_d6 rfl ?_
  obtain ⟨g7, h⟩ := ed_gd h
  refine iq_iaload hS 8 J_MPlaceRows_darkIn_d7 ⟨(ka_133 hM).1, (ka_133 hM).2, g7.1, ix_lt (kl_133 hM) g7.2⟩ rfl ?_
  refine iq_istore hS 10 J_MPlaceRows_darkIn_d8 (by decide) rfl ?_
  refine iq_aload_n hS 11 J_MPlaceRows_darkIn_d10 (lk_1r l0 (by decide)) rfl ?_
  refine iq_getR hS 14 J_MPlaceRows_darkIn_d11 lf_14_26 (Or.inr ⟨_, rfl⟩) (ka_130 hM) (ra_130_5 hM) rfl ?_
  refine iq_iconst hS 15 J_MPlaceRows_darkIn_d14 (v := 4) (by decide +kernel) rfl ?_
  refine iq_iload_n hS 16 J_MPlaceRows_darkIn_d15 (lk_1i l1 (by decide)) rfl ?_
  refine iq_imul hS 17 J_MPlaceRows_darkIn_d16 rfl ?_
  refine iq_iconst hS 18 J_MPlaceRows_darkIn_d17 (v := 1) (by decide +kernel) rfl ?_
  refine iq_iadd hS 19 J_MPlaceRows_darkIn_d18 rfl ?_
  obtain ⟨g19, h⟩ := ed_gd h
  refine iq_iaload hS 20 J_MPlaceRows_darkIn_d19 ⟨(ka_133 hM).1, (ka_133 hM).2, g19.1, ix_lt (kl_133 hM) g19.2⟩ rfl ?_
  refine iq_istore hS 22 J_MPlaceRows_darkIn_d20 (by decide) rfl ?_
  refine iq_iload hS 24 J_MPlaceRows_darkIn_d22 (lk_1i lk_1s (by decide)) rfl ?_
  refine iq_aload_n hS 25 J_MPlaceRows_darkIn_d24 (lk_1r (lk_1r l0 (by decide)) (by decide)) rfl ?_
  refine iq_getR hS 28 J_MPlaceRows_darkIn_d25 lf_14_26 (Or.inr ⟨_, rfl⟩) (ka_130 hM) (ra_130_5 hM) rfl ?_
  refine iq_iconst hS 29 J_MPlaceRows_darkIn_d28 (v := 4) (by decide +kernel) rfl ?_
  refine iq_iload_n hS 30 J_MPlaceRows_darkIn_d29 (lk_1i (lk_1i l1 (by decide)) (by decide)) rfl ?_
  refine iq_imul hS 31 J_MPlaceRows_darkIn_d30 rfl ?_
  refine iq_iconst hS 32 J_MPlaceRows_darkIn_d31 (v := 2) (by decide +kernel) rfl ?_
  refine iq_iadd hS 33 J_MPlaceRows_darkIn_d32 rfl ?_
  obtain ⟨g33, h⟩ := ed_gd h
  refine iq_iaload hS 34 J_MPlaceRows_darkIn_d33 ⟨(ka_133 hM).1, (ka_133 hM).2, g33.1, ix_lt (kl_133 hM) g33.2⟩ rfl ?_
  refine iq_iadd hS 35 J_MPlaceRows_darkIn_d34 rfl ?_
  refine iq_iconst hS 36 J_MPlaceRows_darkIn_d35 (v := 1) (by decide +kernel) rfl ?_
  refine iq_isub hS 37 J_MPlaceRows_darkIn_d36 rfl ?_
  refine iq_istore hS 39 J_MPlaceRows_darkIn_d37 (by decide) rfl ?_
  refine iq_iload hS 41 J_MPlaceRows_darkIn_d39 (lk_1i (lk_1i (lk_1i l5 (by decide)) (by decide)) (by decide)) rfl ?_
  refine iq_iload hS 43 J_MPlaceRows_darkIn_d41 (lk_1i (lk_1i lk_1s (by decide)) (by decide)) rfl ?_
  refine iq_iload hS 45 J_MPlaceRows_darkIn_d43 (lk_1i lk_1s (by decide)) rfl ?_
  refine iq_iload hS 47 J_MPlaceRows_darkIn_d45 (lk_1i (lk_1i (lk_1i l6 (by decide)) (by decide)) (by decide)) rfl ?_
  obtain ⟨Q1, hQ1, h⟩ := bd1_ed h
  refine iq_cpI hS 50 J_MPlaceRows_darkIn_d47 rfl (pr_stat (vs := [_, _, _, _]) lc_14_75 lT_472 rfl rfl (by decide) rfl (Nat.le_of_ble_eq_true rfl) (Nat.le_of_ble_eq_true rfl)) (f_MPlaceRows_blockX_ok (dep := dep + 0) hM h) rfl ?_
  intro x1 h
  replace h := hQ1 _ h
  refine iq_iload hS 52 J_MPlaceRows_darkIn_d50 (lk_1i (lk_1i (lk_1i l5 (by decide)) (by decide)) (by decide)) rfl ?_
  refine iq_iload hS 54 J_MPlaceRows_darkIn_d52 lk_1s rfl ?_
  refine iq_iload hS 56 J_MPlaceRows_darkIn_d54 (lk_1i lk_1s (by decide)) rfl ?_
  refine iq_iload hS 58 J_MPlaceRows_darkIn_d56 (lk_1i (lk_1i (lk_1i l6 (by decide)) (by decide)) (by decide)) rfl ?_
  obtain ⟨Q2, hQ2, h⟩ := bd1_ed h
  refine iq_cpI hS 61 J_MPlaceRows_darkIn_d58 rfl (pr_stat (vs := [_, _, _, _]) lc_14_75 lT_472 rfl rfl (by decide) rfl (Nat.le_of_ble_eq_true rfl) (Nat.le_of_ble_eq_true rfl)) (f_MPlaceRows_blockX_ok (dep := dep + 0) hM h) rfl ?_
  intro x2 h
  replace h := hQ2 _ h
  obtain ⟨Q3, hQ3, h⟩ := bd1_ed h
  refine iq_cpI hS 64 J_MPlaceRows_darkIn_d61 rfl (pr_stat (vs := [_, _]) lc_14_88 lT_473 rfl rfl (by decide) rfl (Nat.le_of_ble_eq_true rfl) (Nat.le_of_ble_eq_true rfl)) (f_MPlaceRows_least_ok (dep := dep + 0) hM h) rfl ?_
  intro x3 h
  replace h := hQ3 _ h
  refine iq_istore hS 66 J_MPlaceRows_darkIn_d64 (by decide) rfl ?_
  refine iq_iload hS 68 J_MPlaceRows_darkIn_d66 (lk_1i (lk_1i (lk_1i (lk_1i l5 (by decide)) (by decide)) (by decide)) (by decide)) rfl ?_
  refine iq_iload hS 70 J_MPlaceRows_darkIn_d68 (lk_1i (lk_1i (lk_1i lk_1s (by decide)) (by decide)) (by decide)) rfl ?_
  refine iq_iload hS 72 J_MPlaceRows_darkIn_d70 (lk_1i (lk_1i lk_1s (by decide)) (by decide)) rfl ?_
  refine iq_iload hS 74 J_MPlaceRows_darkIn_d72 (lk_1i (lk_1i (lk_1i (lk_1i l6 (by decide)) (by decide)) (by decide)) (by decide)) rfl ?_
  obtain ⟨Q4, hQ4, h⟩ := bd1_ed h
  refine iq_cpI hS 77 J_MPlaceRows_darkIn_d74 rfl (pr_stat (vs := [_, _, _, _]) lc_14_78 lT_474 rfl rfl (by decide) rfl (Nat.le_of_ble_eq_true rfl) (Nat.le_of_ble_eq_true rfl)) (f_MPlaceRows_blockY_ok (dep := dep + 0) hM h) rfl ?_
  intro x4 h
  replace h := hQ4 _ h
  refine iq_iload hS 79 J_MPlaceRows_darkIn_d77 (lk_1i (lk_1i (lk_1i (lk_1i l5 (by decide)) (by decide)) (by decide)) (by decide)) rfl ?_
  refine iq_iload hS 81 J_MPlaceRows_darkIn_d79 (lk_1i lk_1s (by decide)) rfl ?_
  refine iq_iload hS 83 J_MPlaceRows_darkIn_d81 (lk_1i (lk_1i lk_1s (by decide)) (by decide)) rfl ?_
  refine iq_iload hS 85 J_MPlaceRows_darkIn_d83 (lk_1i (lk_1i (lk_1i (lk_1i l6 (by decide)) (by decide)) (by decide)) (by decide)) rfl ?_
  obtain ⟨Q5, hQ5, h⟩ := bd1_ed h
  refine iq_cpI hS 88 J_MPlaceRows_darkIn_d85 rfl (pr_stat (vs := [_, _, _, _]) lc_14_78 lT_474 rfl rfl (by decide) rfl (Nat.le_of_ble_eq_true rfl) (Nat.le_of_ble_eq_true rfl)) (f_MPlaceRows_blockY_ok (dep := dep + 0) hM h) rfl ?_
  intro x5 h
  replace h := hQ5 _ h
  obtain ⟨Q6, hQ6, h⟩ := bd1_ed h
  refine iq_cpI hS 91 J_MPlaceRows_darkIn_d88 rfl (pr_stat (vs := [_, _]) lc_14_88 lT_473 rfl rfl (by decide) rfl (Nat.le_of_ble_eq_true rfl) (Nat.le_of_ble_eq_true rfl)) (f_MPlaceRows_least_ok (dep := dep + 0) hM h) rfl ?_
  intro x6 h
  replace h := hQ6 _ h
  refine iq_istore hS 93 J_MPlaceRows_darkIn_d91 (by decide) rfl ?_
  refine iq_iload hS 95 J_MPlaceRows_darkIn_d93 (lk_1i (lk_1i (lk_1i (lk_1i (lk_1i l6 (by decide)) (by decide)) (by decide)) (by decide)) (by decide)) rfl ?_
  refine iq_iconst hS 96 J_MPlaceRows_darkIn_d95 (v := 2) (by decide +kernel) rfl ?_
  refine iq_irem hS 97 J_MPlaceRows_darkIn_d96 (by decide) rfl ?_
  obtain ⟨Q7, hQ7, h⟩ := bd1_ed h
  have J7 : ∀ (y8 : Int32) (L' : List (Nat × Value)), im_lk L' 0 = some (.ref 130) → im_lk L' 1 = some (.int p0) → im_lk L' 2 = some (.int p1) → im_lk L' 3 = some (.int p2) → im_lk L' 4 = some (.int p3) → im_lk L' 6 = some (.int p5) → im_lk L' 10 = some (.int x3) → im_lk L' 11 = some (.int x6) → Q7 y8 → ia (tb_G L xs) (dep + 1) J_MPlaceRows_darkIn (rpI M Q) (114, L', [.int y8], M) := by
    intro y8 L' l9 l10 l11 l12 l13 l14 l15 l16 h
    replace h := hQ7 _ h
    refine iq_istore hS 116 J_MPlaceRows_darkIn_d114 (by decide) rfl ?_
    refine iq_iload hS 118 J_MPlaceRows_darkIn_d116 (lk_1i l14 (by decide)) rfl ?_
    refine iq_iconst hS 119 J_MPlaceRows_darkIn_d118 (v := 2) (by decide +kernel) rfl ?_
    refine iq_irem hS 120 J_MPlaceRows_darkIn_d119 (by decide) rfl ?_
    obtain ⟨Q17, hQ17, h⟩ := bd1_ed h
    have J17 : ∀ (y18 : Int32) (L' : List (Nat × Value)), im_lk L' 0 = some (.ref 130) → im_lk L' 2 = some (.int p1) → im_lk L' 3 = some (.int p2) → im_lk L' 4 = some (.int p3) → im_lk L' 10 = some (.int x3) → im_lk L' 11 = some (.int x6) → im_lk L' 12 = some (.int y8) → Q17 y18 → ia (tb_G L xs) (dep + 1) J_MPlaceRows_darkIn (rpI M Q) (137, L', [.int y18], M) := by
      intro y18 L' l19 l20 l21 l22 l23 l24 l25 h
      replace h := hQ17 _ h
      refine iq_istore hS 139 J_MPlaceRows_darkIn_d137 (by decide) rfl ?_
      refine iq_sipush hS 142 J_MPlaceRows_darkIn_d139 (v := 513) (by decide +kernel) rfl ?_
      refine iq_iload_n hS 143 J_MPlaceRows_darkIn_d142 (lk_1i l21 (by decide)) rfl ?_
      refine iq_iload hS 145 J_MPlaceRows_darkIn_d143 (lk_1i l22 (by decide)) rfl ?_
      refine iq_iload hS 147 J_MPlaceRows_darkIn_d145 (lk_1i l24 (by decide)) rfl ?_
      refine iq_imul hS 148 J_MPlaceRows_darkIn_d147 rfl ?_
      refine iq_iadd hS 149 J_MPlaceRows_darkIn_d148 rfl ?_
      refine iq_imul hS 150 J_MPlaceRows_darkIn_d149 rfl ?_
      refine iq_iload_n hS 151 J_MPlaceRows_darkIn_d150 (lk_1i l20 (by decide)) rfl ?_
      refine iq_iadd hS 152 J_MPlaceRows_darkIn_d151 rfl ?_
      refine iq_iload hS 154 J_MPlaceRows_darkIn_d152 (lk_1i l22 (by decide)) rfl ?_
      refine iq_iload hS 156 J_MPlaceRows_darkIn_d154 (lk_1i l23 (by decide)) rfl ?_
      refine iq_imul hS 157 J_MPlaceRows_darkIn_d156 rfl ?_
      refine iq_iadd hS 158 J_MPlaceRows_darkIn_d157 rfl ?_
      refine iq_istore hS 160 J_MPlaceRows_darkIn_d158 (by decide) rfl ?_
      refine iq_iload hS 162 J_MPlaceRows_darkIn_d160 lk_1s rfl ?_
      refine iq_sipush hS 165 J_MPlaceRows_darkIn_d162 (v := 513) (by decide +kernel) rfl ?_
      refine iq_iload hS 167 J_MPlaceRows_darkIn_d165 (lk_1i (lk_1i l22 (by decide)) (by decide)) rfl ?_
      refine iq_imul hS 168 J_MPlaceRows_darkIn_d167 rfl ?_
      refine iq_iload hS 170 J_MPlaceRows_darkIn_d168 (lk_1i lk_1s (by decide)) rfl ?_
      refine iq_imul hS 171 J_MPlaceRows_darkIn_d170 rfl ?_
      refine iq_iadd hS 172 J_MPlaceRows_darkIn_d171 rfl ?_
      refine iq_istore hS 174 J_MPlaceRows_darkIn_d172 (by decide) rfl ?_
      refine iq_aload_n hS 175 J_MPlaceRows_darkIn_d174 (lk_1r (lk_1r (lk_1r l19 (by decide)) (by decide)) (by decide)) rfl ?_
      refine iq_getR hS 178 J_MPlaceRows_darkIn_d175 lf_14_22 (Or.inr ⟨_, rfl⟩) (ka_130 hM) (ra_130_4 hM) rfl ?_
      refine iq_iload hS 180 J_MPlaceRows_darkIn_d178 lk_1s rfl ?_
      refine iq_iload hS 182 J_MPlaceRows_darkIn_d180 (lk_1i (lk_1i (lk_1i l22 (by decide)) (by decide)) (by decide)) rfl ?_
      refine iq_iload hS 184 J_MPlaceRows_darkIn_d182 (lk_1i (lk_1i (lk_1i l25 (by decide)) (by decide)) (by decide)) rfl ?_
      refine iq_imul hS 185 J_MPlaceRows_darkIn_d184 rfl ?_
      refine iq_iadd hS 186 J_MPlaceRows_darkIn_d185 rfl ?_
      obtain ⟨g186, h⟩ := ed_gd h
      refine iq_iaload hS 187 J_MPlaceRows_darkIn_d186 ⟨(ka_132 hM).1, (ka_132 hM).2, g186.1, ix_lt (kl_132 hM) g186.2⟩ rfl ?_
      refine iq_aload_n hS 188 J_MPlaceRows_darkIn_d187 (lk_1r (lk_1r (lk_1r l19 (by decide)) (by decide)) (by decide)) rfl ?_
      refine iq_getR hS 191 J_MPlaceRows_darkIn_d188 lf_14_22 (Or.inr ⟨_, rfl⟩) (ka_130 hM) (ra_130_4 hM) rfl ?_
      refine iq_iload hS 193 J_MPlaceRows_darkIn_d191 lk_1s rfl ?_
      obtain ⟨g193, h⟩ := ed_gd h
      refine iq_iaload hS 194 J_MPlaceRows_darkIn_d193 ⟨(ka_132 hM).1, (ka_132 hM).2, g193.1, ix_lt (kl_132 hM) g193.2⟩ rfl ?_
      refine iq_isub hS 195 J_MPlaceRows_darkIn_d194 rfl ?_
      refine iq_aload_n hS 196 J_MPlaceRows_darkIn_d195 (lk_1r (lk_1r (lk_1r l19 (by decide)) (by decide)) (by decide)) rfl ?_
      refine iq_getR hS 199 J_MPlaceRows_darkIn_d196 lf_14_22 (Or.inr ⟨_, rfl⟩) (ka_130 hM) (ra_130_4 hM) rfl ?_
      refine iq_iload hS 201 J_MPlaceRows_darkIn_d199 (lk_1i lk_1s (by decide)) rfl ?_
      refine iq_iload hS 203 J_MPlaceRows_darkIn_d201 (lk_1i (lk_1i (lk_1i l22 (by decide)) (by decide)) (by decide)) rfl ?_
      refine iq_iload hS 205 J_MPlaceRows_darkIn_d203 (lk_1i (lk_1i (lk_1i l25 (by decide)) (by decide)) (by decide)) rfl ?_
      refine iq_imul hS 206 J_MPlaceRows_darkIn_d205 rfl ?_
      refine iq_iadd hS 207 J_MPlaceRows_darkIn_d206 rfl ?_
      obtain ⟨g207, h⟩ := ed_gd h
      refine iq_iaload hS 208 J_MPlaceRows_darkIn_d207 ⟨(ka_132 hM).1, (ka_132 hM).2, g207.1, ix_lt (kl_132 hM) g207.2⟩ rfl ?_
      refine iq_isub hS 209 J_MPlaceRows_darkIn_d208 rfl ?_
      refine iq_aload_n hS 210 J_MPlaceRows_darkIn_d209 (lk_1r (lk_1r (lk_1r l19 (by decide)) (by decide)) (by decide)) rfl ?_
      refine iq_getR hS 213 J_MPlaceRows_darkIn_d210 lf_14_22 (Or.inr ⟨_, rfl⟩) (ka_130 hM) (ra_130_4 hM) rfl ?_
      refine iq_iload hS 215 J_MPlaceRows_darkIn_d213 (lk_1i lk_1s (by decide)) rfl ?_
      obtain ⟨g215, h⟩ := ed_gd h
      refine iq_iaload hS 216 J_MPlaceRows_darkIn_d215 ⟨(ka_132 hM).1, (ka_132 hM).2, g215.1, ix_lt (kl_132 hM) g215.2⟩ rfl ?_
      refine iq_iadd hS 217 J_MPlaceRows_darkIn_d216 rfl ?_
      exact iq_iret J_MPlaceRows_darkIn_d217 rfl rfl ⟨_, rfl, rfl, ed_some h⟩
    refine iq_if_ne hS 123 J_MPlaceRows_darkIn_d120 (t := 127) rfl (fun q120 => ?_) rfl (fun q120 => ?_)
    · replace h := ed_pos q120 h
      refine iq_aload_n hS 128 J_MPlaceRows_darkIn_d127 (lk_1r l9 (by decide)) rfl ?_
      refine iq_getR hS 131 J_MPlaceRows_darkIn_d128 lf_14_26 (Or.inr ⟨_, rfl⟩) (ka_130 hM) (ra_130_5 hM) rfl ?_
      refine iq_iconst hS 132 J_MPlaceRows_darkIn_d131 (v := 4) (by decide +kernel) rfl ?_
      refine iq_iload_n hS 133 J_MPlaceRows_darkIn_d132 (lk_1i l10 (by decide)) rfl ?_
      refine iq_imul hS 134 J_MPlaceRows_darkIn_d133 rfl ?_
      refine iq_iconst hS 135 J_MPlaceRows_darkIn_d134 (v := 2) (by decide +kernel) rfl ?_
      refine iq_iadd hS 136 J_MPlaceRows_darkIn_d135 rfl ?_
      obtain ⟨g136, h⟩ := ed_gd h
      refine iq_iaload hS 137 J_MPlaceRows_darkIn_d136 ⟨(ka_133 hM).1, (ka_133 hM).2, g136.1, ix_lt (kl_133 hM) g136.2⟩ rfl ?_
      exact J17 _ _ (lk_1r l9 (by decide)) (lk_1i l11 (by decide)) (lk_1i l12 (by decide)) (lk_1i l13 (by decide)) (lk_1i l15 (by decide)) (lk_1i l16 (by decide)) lk_1s (ed_some h)
    · replace h := ed_neg q120 h
      refine iq_iconst hS 124 J_MPlaceRows_darkIn_d123 (v := 1) (by decide +kernel) rfl ?_
      refine iq_goto hS J_MPlaceRows_darkIn_d124 (t := 137) rfl ?_
      exact J17 _ _ (lk_1r l9 (by decide)) (lk_1i l11 (by decide)) (lk_1i l12 (by decide)) (lk_1i l13 (by decide)) (lk_1i l15 (by decide)) (lk_1i l16 (by decide)) lk_1s (ed_some h)
  refine iq_if_ne hS 100 J_MPlaceRows_darkIn_d97 (t := 113) rfl (fun q97 => ?_) rfl (fun q97 => ?_)
  · replace h := ed_pos q97 h
    refine iq_iconst hS 114 J_MPlaceRows_darkIn_d113 (v := 1) (by decide +kernel) rfl ?_
    exact J7 _ _ (lk_1r (lk_1r (lk_1r (lk_1r (lk_1r l0 (by decide)) (by decide)) (by decide)) (by decide)) (by decide)) (lk_1i (lk_1i (lk_1i (lk_1i (lk_1i l1 (by decide)) (by decide)) (by decide)) (by decide)) (by decide)) (lk_1i (lk_1i (lk_1i (lk_1i (lk_1i l2 (by decide)) (by decide)) (by decide)) (by decide)) (by decide)) (lk_1i (lk_1i (lk_1i (lk_1i (lk_1i l3 (by decide)) (by decide)) (by decide)) (by decide)) (by decide)) (lk_1i (lk_1i (lk_1i (lk_1i (lk_1i l4 (by decide)) (by decide)) (by decide)) (by decide)) (by decide)) (lk_1i (lk_1i (lk_1i (lk_1i (lk_1i l6 (by decide)) (by decide)) (by decide)) (by decide)) (by decide)) (lk_1i lk_1s (by decide)) lk_1s (ed_some h)
  · replace h := ed_neg q97 h
    refine iq_aload_n hS 101 J_MPlaceRows_darkIn_d100 (lk_1r (lk_1r (lk_1r (lk_1r (lk_1r l0 (by decide)) (by decide)) (by decide)) (by decide)) (by decide)) rfl ?_
    refine iq_getR hS 104 J_MPlaceRows_darkIn_d101 lf_14_26 (Or.inr ⟨_, rfl⟩) (ka_130 hM) (ra_130_5 hM) rfl ?_
    refine iq_iconst hS 105 J_MPlaceRows_darkIn_d104 (v := 4) (by decide +kernel) rfl ?_
    refine iq_iload_n hS 106 J_MPlaceRows_darkIn_d105 (lk_1i (lk_1i (lk_1i (lk_1i (lk_1i l1 (by decide)) (by decide)) (by decide)) (by decide)) (by decide)) rfl ?_
    refine iq_imul hS 107 J_MPlaceRows_darkIn_d106 rfl ?_
    refine iq_iconst hS 108 J_MPlaceRows_darkIn_d107 (v := 2) (by decide +kernel) rfl ?_
    refine iq_iadd hS 109 J_MPlaceRows_darkIn_d108 rfl ?_
    obtain ⟨g109, h⟩ := ed_gd h
    refine iq_iaload hS 110 J_MPlaceRows_darkIn_d109 ⟨(ka_133 hM).1, (ka_133 hM).2, g109.1, ix_lt (kl_133 hM) g109.2⟩ rfl ?_
    refine iq_goto hS J_MPlaceRows_darkIn_d110 (t := 114) rfl ?_
    exact J7 _ _ (lk_1r (lk_1r (lk_1r (lk_1r (lk_1r l0 (by decide)) (by decide)) (by decide)) (by decide)) (by decide)) (lk_1i (lk_1i (lk_1i (lk_1i (lk_1i l1 (by decide)) (by decide)) (by decide)) (by decide)) (by decide)) (lk_1i (lk_1i (lk_1i (lk_1i (lk_1i l2 (by decide)) (by decide)) (by decide)) (by decide)) (by decide)) (lk_1i (lk_1i (lk_1i (lk_1i (lk_1i l3 (by decide)) (by decide)) (by decide)) (by decide)) (by decide)) (lk_1i (lk_1i (lk_1i (lk_1i (lk_1i l4 (by decide)) (by decide)) (by decide)) (by decide)) (by decide)) (lk_1i (lk_1i (lk_1i (lk_1i (lk_1i l6 (by decide)) (by decide)) (by decide)) (by decide)) (by decide)) (lk_1i lk_1s (by decide)) lk_1s (ed_some h)
noncomputable def f_MPlaceRows_wrong_L13 (v3 : Int32) (v4 : Int32) (v5 : Int32) (v6 : Int32) (v7 : Int32) (v8 : Int32) (M11 : im_M) (x9 : Int32) (x10 : Int32) : Option ((Int32 × Int32) ⊕ (Int32)) := if (im_i M11 130 6) ≤ x10 then some (.inr x9) else if v7 < x9 then some (.inr x9) else bd1 (f_MPlaceRows_darkIn x10 v3 v4 v5 v8 v6 M11) fun (x12 : Int32) => gd (inb (((4 : Int32) * x10) + 3) 2100) <| bd1 (if ¬ (im_i M11 133 (Int32.toNatClampNeg (((4 : Int32) * x10) + 3))) = 1 then some x12 else gd (inb (((4 : Int32) * x10) + 2) 2100) <| some (((v5 * v5) * (im_i M11 133 (Int32.toNatClampNeg (((4 : Int32) * x10) + 2)))) - x12)) fun (y14 : Int32) => some (.inl ((x9 + y14), (x10 + 1)))
noncomputable def f_MPlaceRows_wrong (p0 : Int32) (p1 : Int32) (p2 : Int32) (p3 : Int32) (p4 : Int32) (p5 : Int32) (M : im_M) : Option (Int32) := bd1 (f_MPlaceRows_side p3 M) fun (x1 : Int32) => bd1 (lp (uc2 (f_MPlaceRows_wrong_L13 p0 p1 p2 p4 p5 x1 M)) (0, 0)) fun (y23 : Int32) => some y23
theorem J_MPlaceRows_wrong_d0 : decode J_MPlaceRows_wrong.2.1 0 = .ok (.iload 4, 2) := by decide +kernel
theorem J_MPlaceRows_wrong_d2 : decode J_MPlaceRows_wrong.2.1 2 = .ok (.invokestatic 59, 3) := by decide +kernel
theorem J_MPlaceRows_wrong_d5 : decode J_MPlaceRows_wrong.2.1 5 = .ok (.istore 7, 2) := by decide +kernel
theorem J_MPlaceRows_wrong_d7 : decode J_MPlaceRows_wrong.2.1 7 = .ok (.iconst 0, 1) := by decide +kernel
theorem J_MPlaceRows_wrong_d8 : decode J_MPlaceRows_wrong.2.1 8 = .ok (.istore 8, 2) := by decide +kernel
theorem J_MPlaceRows_wrong_d10 : decode J_MPlaceRows_wrong.2.1 10 = .ok (.iconst 0, 1) := by decide +kernel
theorem J_MPlaceRows_wrong_d11 : decode J_MPlaceRows_wrong.2.1 11 = .ok (.istore 9, 2) := by decide +kernel
theorem J_MPlaceRows_wrong_d13 : decode J_MPlaceRows_wrong.2.1 13 = .ok (.iload 9, 2) := by decide +kernel
theorem J_MPlaceRows_wrong_d15 : decode J_MPlaceRows_wrong.2.1 15 = .ok (.aload_n 0, 1) := by decide +kernel
theorem J_MPlaceRows_wrong_d16 : decode J_MPlaceRows_wrong.2.1 16 = .ok (.getfield 85, 3) := by decide +kernel
theorem J_MPlaceRows_wrong_d19 : decode J_MPlaceRows_wrong.2.1 19 = .ok (.if_icmp .ge 74, 3) := by decide +kernel
theorem J_MPlaceRows_wrong_d22 : decode J_MPlaceRows_wrong.2.1 22 = .ok (.iload 8, 2) := by decide +kernel
theorem J_MPlaceRows_wrong_d24 : decode J_MPlaceRows_wrong.2.1 24 = .ok (.iload 6, 2) := by decide +kernel
theorem J_MPlaceRows_wrong_d26 : decode J_MPlaceRows_wrong.2.1 26 = .ok (.if_icmp .gt 67, 3) := by decide +kernel
theorem J_MPlaceRows_wrong_d29 : decode J_MPlaceRows_wrong.2.1 29 = .ok (.aload_n 0, 1) := by decide +kernel
theorem J_MPlaceRows_wrong_d30 : decode J_MPlaceRows_wrong.2.1 30 = .ok (.iload 9, 2) := by decide +kernel
theorem J_MPlaceRows_wrong_d32 : decode J_MPlaceRows_wrong.2.1 32 = .ok (.iload_n 1, 1) := by decide +kernel
theorem J_MPlaceRows_wrong_d33 : decode J_MPlaceRows_wrong.2.1 33 = .ok (.iload_n 2, 1) := by decide +kernel
theorem J_MPlaceRows_wrong_d34 : decode J_MPlaceRows_wrong.2.1 34 = .ok (.iload_n 3, 1) := by decide +kernel
theorem J_MPlaceRows_wrong_d35 : decode J_MPlaceRows_wrong.2.1 35 = .ok (.iload 7, 2) := by decide +kernel
theorem J_MPlaceRows_wrong_d37 : decode J_MPlaceRows_wrong.2.1 37 = .ok (.iload 5, 2) := by decide +kernel
theorem J_MPlaceRows_wrong_d39 : decode J_MPlaceRows_wrong.2.1 39 = .ok (.invokevirtual 91, 3) := by decide +kernel
theorem J_MPlaceRows_wrong_d42 : decode J_MPlaceRows_wrong.2.1 42 = .ok (.istore 10, 2) := by decide +kernel
theorem J_MPlaceRows_wrong_d44 : decode J_MPlaceRows_wrong.2.1 44 = .ok (.iload 8, 2) := by decide +kernel
theorem J_MPlaceRows_wrong_d46 : decode J_MPlaceRows_wrong.2.1 46 = .ok (.aload_n 0, 1) := by decide +kernel
theorem J_MPlaceRows_wrong_d47 : decode J_MPlaceRows_wrong.2.1 47 = .ok (.getfield 26, 3) := by decide +kernel
theorem J_MPlaceRows_wrong_d50 : decode J_MPlaceRows_wrong.2.1 50 = .ok (.iconst 4, 1) := by decide +kernel
theorem J_MPlaceRows_wrong_d51 : decode J_MPlaceRows_wrong.2.1 51 = .ok (.iload 9, 2) := by decide +kernel
theorem J_MPlaceRows_wrong_d53 : decode J_MPlaceRows_wrong.2.1 53 = .ok (.imul, 1) := by decide +kernel
theorem J_MPlaceRows_wrong_d54 : decode J_MPlaceRows_wrong.2.1 54 = .ok (.iconst 3, 1) := by decide +kernel
theorem J_MPlaceRows_wrong_d55 : decode J_MPlaceRows_wrong.2.1 55 = .ok (.iadd, 1) := by decide +kernel
theorem J_MPlaceRows_wrong_d56 : decode J_MPlaceRows_wrong.2.1 56 = .ok (.iaload, 1) := by decide +kernel
theorem J_MPlaceRows_wrong_d57 : decode J_MPlaceRows_wrong.2.1 57 = .ok (.iconst 1, 1) := by decide +kernel
theorem J_MPlaceRows_wrong_d58 : decode J_MPlaceRows_wrong.2.1 58 = .ok (.if_icmp .ne 24, 3) := by decide +kernel
theorem J_MPlaceRows_wrong_d61 : decode J_MPlaceRows_wrong.2.1 61 = .ok (.iload_n 3, 1) := by decide +kernel
theorem J_MPlaceRows_wrong_d62 : decode J_MPlaceRows_wrong.2.1 62 = .ok (.iload_n 3, 1) := by decide +kernel
theorem J_MPlaceRows_wrong_d63 : decode J_MPlaceRows_wrong.2.1 63 = .ok (.imul, 1) := by decide +kernel
theorem J_MPlaceRows_wrong_d64 : decode J_MPlaceRows_wrong.2.1 64 = .ok (.aload_n 0, 1) := by decide +kernel
theorem J_MPlaceRows_wrong_d65 : decode J_MPlaceRows_wrong.2.1 65 = .ok (.getfield 26, 3) := by decide +kernel
theorem J_MPlaceRows_wrong_d68 : decode J_MPlaceRows_wrong.2.1 68 = .ok (.iconst 4, 1) := by decide +kernel
theorem J_MPlaceRows_wrong_d69 : decode J_MPlaceRows_wrong.2.1 69 = .ok (.iload 9, 2) := by decide +kernel
theorem J_MPlaceRows_wrong_d71 : decode J_MPlaceRows_wrong.2.1 71 = .ok (.imul, 1) := by decide +kernel
theorem J_MPlaceRows_wrong_d72 : decode J_MPlaceRows_wrong.2.1 72 = .ok (.iconst 2, 1) := by decide +kernel
theorem J_MPlaceRows_wrong_d73 : decode J_MPlaceRows_wrong.2.1 73 = .ok (.iadd, 1) := by decide +kernel
theorem J_MPlaceRows_wrong_d74 : decode J_MPlaceRows_wrong.2.1 74 = .ok (.iaload, 1) := by decide +kernel
theorem J_MPlaceRows_wrong_d75 : decode J_MPlaceRows_wrong.2.1 75 = .ok (.imul, 1) := by decide +kernel
theorem J_MPlaceRows_wrong_d76 : decode J_MPlaceRows_wrong.2.1 76 = .ok (.iload 10, 2) := by decide +kernel
theorem J_MPlaceRows_wrong_d78 : decode J_MPlaceRows_wrong.2.1 78 = .ok (.isub, 1) := by decide +kernel
theorem J_MPlaceRows_wrong_d79 : decode J_MPlaceRows_wrong.2.1 79 = .ok (.goto 5, 3) := by decide +kernel
theorem J_MPlaceRows_wrong_d82 : decode J_MPlaceRows_wrong.2.1 82 = .ok (.iload 10, 2) := by decide +kernel
theorem J_MPlaceRows_wrong_d84 : decode J_MPlaceRows_wrong.2.1 84 = .ok (.iadd, 1) := by decide +kernel
theorem J_MPlaceRows_wrong_d85 : decode J_MPlaceRows_wrong.2.1 85 = .ok (.istore 8, 2) := by decide +kernel
theorem J_MPlaceRows_wrong_d87 : decode J_MPlaceRows_wrong.2.1 87 = .ok (.iinc 9 1, 3) := by decide +kernel
theorem J_MPlaceRows_wrong_d90 : decode J_MPlaceRows_wrong.2.1 90 = .ok (.goto (-77), 3) := by decide +kernel
theorem J_MPlaceRows_wrong_d93 : decode J_MPlaceRows_wrong.2.1 93 = .ok (.iload 8, 2) := by decide +kernel
theorem J_MPlaceRows_wrong_d95 : decode J_MPlaceRows_wrong.2.1 95 = .ok (.ireturn, 1) := by decide +kernel
theorem f_MPlaceRows_wrong_ok {L : Nat} {xs : Nat → Int32} {dep : Nat} {w : Bool} {p0 : Int32} {p1 : Int32} {p2 : Int32} {p3 : Int32} {p4 : Int32} {p5 : Int32} {M : im_M} {Q : Int32 → Prop} (hM : lw_S w M) (h : ed (f_MPlaceRows_wrong p0 p1 p2 p3 p4 p5 M) Q) : ia (tb_G L xs) (dep + 2) J_MPlaceRows_wrong (rpI M Q) (0, lv_args 0 [.ref 130, .int p0, .int p1, .int p2, .int p3, .int p4, .int p5], [], M) := by
  have hS : im_St (tb_G L xs) (dep + 2) J_MPlaceRows_wrong (ia (tb_G L xs) (dep + 2) J_MPlaceRows_wrong (rpI M Q)) := ia_St
  unfold f_MPlaceRows_wrong at h
  have l0 : im_lk (lv_args 0 [.ref 130, .int p0, .int p1, .int p2, .int p3, .int p4, .int p5]) 0 = some (.ref 130) := rfl
  have l1 : im_lk (lv_args 0 [.ref 130, .int p0, .int p1, .int p2, .int p3, .int p4, .int p5]) 1 = some (.int p0) := rfl
  have l2 : im_lk (lv_args 0 [.ref 130, .int p0, .int p1, .int p2, .int p3, .int p4, .int p5]) 2 = some (.int p1) := rfl
  have l3 : im_lk (lv_args 0 [.ref 130, .int p0, .int p1, .int p2, .int p3, .int p4, .int p5]) 3 = some (.int p2) := rfl
  have l4 : im_lk (lv_args 0 [.ref 130, .int p0, .int p1, .int p2, .int p3, .int p4, .int p5]) 4 = some (.int p3) := rfl
  have l5 : im_lk (lv_args 0 [.ref 130, .int p0, .int p1, .int p2, .int p3, .int p4, .int p5]) 5 = some (.int p4) := rfl
  have l6 : im_lk (lv_args 0 [.ref 130, .int p0, .int p1, .int p2, .int p3, .int p4, .int p5]) 6 = some (.int p5) := rfl
  refine iq_iload hS 2 J_MPlaceRows_wrong_d0 l4 rfl ?_
  obtain ⟨Q1, hQ1, h⟩ := bd1_ed h
  refine iq_cpI hS 5 J_MPlaceRows_wrong_d2 rfl (pr_stat (vs := [_]) lc_14_59 lT_464 rfl rfl (by decide) rfl (Nat.le_of_ble_eq_true rfl) (Nat.le_of_ble_eq_true rfl)) (f_MPlaceRows_side_ok (dep := dep + 1) hM h) rfl ?_
  intro x1 h
  replace h := hQ1 _ h
  refine iq_istore hS 7 J_MPlaceRows_wrong_d5 (by decide) rfl ?_
  refine iq_iconst hS 8 J_MPlaceRows_wrong_d7 (v := 0) (by decide +kernel) rfl ?_
  refine iq_istore hS 10 J_MPlaceRows_wrong_d8 (by decide) rfl ?_
  refine iq_iconst hS 11 J_MPlaceRows_wrong_d10 (v := 0) (by decide +kernel) rfl ?_
  refine iq_istore hS 13 J_MPlaceRows_wrong_d11 (by decide) rfl ?_
  obtain ⟨Q2, hQ2, h⟩ := bd1_ed h
  have K2 : ∀ (y3 : Int32) (L' : List (Nat × Value)), im_lk L' 8 = some (.int y3) → Q2 y3 → ia (tb_G L xs) (dep + 2) J_MPlaceRows_wrong (rpI M Q) (93, L', [], M) := by
    intro y3 L' l4 h
    replace h := hQ2 _ h
    refine iq_iload hS 95 J_MPlaceRows_wrong_d93 l4 rfl ?_
    exact iq_iret J_MPlaceRows_wrong_d95 rfl rfl ⟨_, rfl, rfl, ed_some h⟩
  obtain ⟨r2, hr2, hq2⟩ := h
  obtain ⟨n2, hn2⟩ := lp_n hr2
  have I2 : ∀ (n : Nat) (x5 : Int32) (x6 : Int32) (L' : List (Nat × Value)), im_lk L' 0 = some (.ref 130) → im_lk L' 1 = some (.int p0) → im_lk L' 2 = some (.int p1) → im_lk L' 3 = some (.int p2) → im_lk L' 5 = some (.int p4) → im_lk L' 6 = some (.int p5) → im_lk L' 7 = some (.int x1) → im_lk L' 8 = some (.int x5) → im_lk L' 9 = some (.int x6) → lpn (uc2 (f_MPlaceRows_wrong_L13 p0 p1 p2 p4 p5 x1 M)) n (x5, x6) = some r2 → ia (tb_G L xs) (dep + 2) J_MPlaceRows_wrong (rpI M Q) (13, L', [], M) := by
    intro n
    induction n with
    | zero => intro x5 x6 L' l7 l8 l9 l10 l11 l12 l13 l14 l15 hn; exact (lpn_0 hn).elim
    | succ n ih =>
      intro x5 x6 L' l7 l8 l9 l10 l11 l12 l13 l14 l15 hn
      have h := lpn_ed2 hn
      unfold f_MPlaceRows_wrong_L13 at h
      refine iq_iload hS 15 J_MPlaceRows_wrong_d13 l15 rfl ?_
      refine iq_aload_n hS 16 J_MPlaceRows_wrong_d15 l7 rfl ?_
      refine iq_getI hS 19 J_MPlaceRows_wrong_d16 lf_14_85 (Or.inl rfl) (ka_130 hM) rfl ?_
      refine iq_icmp_ge hS 22 J_MPlaceRows_wrong_d19 (t := 93) rfl (fun q19 => ?_) rfl (fun q19 => ?_)
      · replace h := ed_pos q19 h
        exact K2 _ _ l14 (lq_r h hq2)
      · replace h := ed_neg q19 h
        refine iq_iload hS 24 J_MPlaceRows_wrong_d22 l14 rfl ?_
        refine iq_iload hS 26 J_MPlaceRows_wrong_d24 l12 rfl ?_
        refine iq_icmp_gt hS 29 J_MPlaceRows_wrong_d26 (t := 93) rfl (fun q26 => ?_) rfl (fun q26 => ?_)
        · replace h := ed_pos q26 h
          exact K2 _ _ l14 (lq_r h hq2)
        · replace h := ed_neg q26 h
          refine iq_aload_n hS 30 J_MPlaceRows_wrong_d29 l7 rfl ?_
          refine iq_iload hS 32 J_MPlaceRows_wrong_d30 l15 rfl ?_
          refine iq_iload_n hS 33 J_MPlaceRows_wrong_d32 l8 rfl ?_
          refine iq_iload_n hS 34 J_MPlaceRows_wrong_d33 l9 rfl ?_
          refine iq_iload_n hS 35 J_MPlaceRows_wrong_d34 l10 rfl ?_
          refine iq_iload hS 37 J_MPlaceRows_wrong_d35 l13 rfl ?_
          refine iq_iload hS 39 J_MPlaceRows_wrong_d37 l11 rfl ?_
          obtain ⟨Q16, hQ16, h⟩ := bd1_ed h
          refine iq_cpI hS 42 J_MPlaceRows_wrong_d39 rfl (pr_inst (vs := [_, _, _, _, _, _]) lc_14_91 lT_471 rfl rfl (by decide) (by decide) rfl (Nat.le_of_ble_eq_true rfl) (Nat.le_of_ble_eq_true rfl) (fun _ => Or.inl (pr_b (ka_130 hM) (by decide) rfl))) (f_MPlaceRows_darkIn_ok (dep := dep + 0) hM h) rfl ?_
          intro x16 h
          replace h := hQ16 _ h
          refine iq_istore hS 44 J_MPlaceRows_wrong_d42 (by decide) rfl ?_
          refine iq_iload hS 46 J_MPlaceRows_wrong_d44 (lk_1i l14 (by decide)) rfl ?_
          refine iq_aload_n hS 47 J_MPlaceRows_wrong_d46 (lk_1r l7 (by decide)) rfl ?_
          refine iq_getR hS 50 J_MPlaceRows_wrong_d47 lf_14_26 (Or.inr ⟨_, rfl⟩) (ka_130 hM) (ra_130_5 hM) rfl ?_
          refine iq_iconst hS 51 J_MPlaceRows_wrong_d50 (v := 4) (by decide +kernel) rfl ?_
          refine iq_iload hS 53 J_MPlaceRows_wrong_d51 (lk_1i l15 (by decide)) rfl ?_
          refine iq_imul hS 54 J_MPlaceRows_wrong_d53 rfl ?_
          refine iq_iconst hS 55 J_MPlaceRows_wrong_d54 (v := 3) (by decide +kernel) rfl ?_
          refine iq_iadd hS 56 J_MPlaceRows_wrong_d55 rfl ?_
          obtain ⟨g56, h⟩ := ed_gd h
          refine iq_iaload hS 57 J_MPlaceRows_wrong_d56 ⟨(ka_133 hM).1, (ka_133 hM).2, g56.1, ix_lt (kl_133 hM) g56.2⟩ rfl ?_
          refine iq_iconst hS 58 J_MPlaceRows_wrong_d57 (v := 1) (by decide +kernel) rfl ?_
          obtain ⟨Q17, hQ17, h⟩ := bd1_ed h
          have J17 : ∀ (y18 : Int32) (L' : List (Nat × Value)), im_lk L' 0 = some (.ref 130) → im_lk L' 1 = some (.int p0) → im_lk L' 2 = some (.int p1) → im_lk L' 3 = some (.int p2) → im_lk L' 5 = some (.int p4) → im_lk L' 6 = some (.int p5) → im_lk L' 7 = some (.int x1) → im_lk L' 9 = some (.int x6) → Q17 y18 → ia (tb_G L xs) (dep + 2) J_MPlaceRows_wrong (rpI M Q) (84, L', [.int y18, .int x5], M) := by
            intro y18 L' l19 l20 l21 l22 l23 l24 l25 l26 h
            replace h := hQ17 _ h
            refine iq_iadd hS 85 J_MPlaceRows_wrong_d84 rfl ?_
            refine iq_istore hS 87 J_MPlaceRows_wrong_d85 (by decide) rfl ?_
            refine iq_iincv hS 90 J_MPlaceRows_wrong_d87 (c := 1) (by decide +kernel) (lk_1i l26 (by decide)) (by decide) rfl ?_
            refine iq_goto hS J_MPlaceRows_wrong_d90 (t := 13) rfl ?_
            exact ih _ _ _ (lk_1r (lk_1r l19 (by decide)) (by decide)) (lk_1i (lk_1i l20 (by decide)) (by decide)) (lk_1i (lk_1i l21 (by decide)) (by decide)) (lk_1i (lk_1i l22 (by decide)) (by decide)) (lk_1i (lk_1i l23 (by decide)) (by decide)) (lk_1i (lk_1i l24 (by decide)) (by decide)) (lk_1i (lk_1i l25 (by decide)) (by decide)) (lk_1i lk_1s (by decide)) lk_1s (lq_l h)
          refine iq_icmp_ne hS 61 J_MPlaceRows_wrong_d58 (t := 82) rfl (fun q58 => ?_) rfl (fun q58 => ?_)
          · replace h := ed_pos q58 h
            refine iq_iload hS 84 J_MPlaceRows_wrong_d82 lk_1s rfl ?_
            exact J17 _ _ (lk_1r l7 (by decide)) (lk_1i l8 (by decide)) (lk_1i l9 (by decide)) (lk_1i l10 (by decide)) (lk_1i l11 (by decide)) (lk_1i l12 (by decide)) (lk_1i l13 (by decide)) (lk_1i l15 (by decide)) (ed_some h)
          · replace h := ed_neg q58 h
            refine iq_iload_n hS 62 J_MPlaceRows_wrong_d61 (lk_1i l10 (by decide)) rfl ?_
            refine iq_iload_n hS 63 J_MPlaceRows_wrong_d62 (lk_1i l10 (by decide)) rfl ?_
            refine iq_imul hS 64 J_MPlaceRows_wrong_d63 rfl ?_
            refine iq_aload_n hS 65 J_MPlaceRows_wrong_d64 (lk_1r l7 (by decide)) rfl ?_
            refine iq_getR hS 68 J_MPlaceRows_wrong_d65 lf_14_26 (Or.inr ⟨_, rfl⟩) (ka_130 hM) (ra_130_5 hM) rfl ?_
            refine iq_iconst hS 69 J_MPlaceRows_wrong_d68 (v := 4) (by decide +kernel) rfl ?_
            refine iq_iload hS 71 J_MPlaceRows_wrong_d69 (lk_1i l15 (by decide)) rfl ?_
            refine iq_imul hS 72 J_MPlaceRows_wrong_d71 rfl ?_
            refine iq_iconst hS 73 J_MPlaceRows_wrong_d72 (v := 2) (by decide +kernel) rfl ?_
            refine iq_iadd hS 74 J_MPlaceRows_wrong_d73 rfl ?_
            obtain ⟨g74, h⟩ := ed_gd h
            refine iq_iaload hS 75 J_MPlaceRows_wrong_d74 ⟨(ka_133 hM).1, (ka_133 hM).2, g74.1, ix_lt (kl_133 hM) g74.2⟩ rfl ?_
            refine iq_imul hS 76 J_MPlaceRows_wrong_d75 rfl ?_
            refine iq_iload hS 78 J_MPlaceRows_wrong_d76 lk_1s rfl ?_
            refine iq_isub hS 79 J_MPlaceRows_wrong_d78 rfl ?_
            refine iq_goto hS J_MPlaceRows_wrong_d79 (t := 84) rfl ?_
            exact J17 _ _ (lk_1r l7 (by decide)) (lk_1i l8 (by decide)) (lk_1i l9 (by decide)) (lk_1i l10 (by decide)) (lk_1i l11 (by decide)) (lk_1i l12 (by decide)) (lk_1i l13 (by decide)) (lk_1i l15 (by decide)) (ed_some h)
  exact I2 n2 _ _ _ (lk_1r (lk_1r (lk_1r l0 (by decide)) (by decide)) (by decide)) (lk_1i (lk_1i (lk_1i l1 (by decide)) (by decide)) (by decide)) (lk_1i (lk_1i (lk_1i l2 (by decide)) (by decide)) (by decide)) (lk_1i (lk_1i (lk_1i l3 (by decide)) (by decide)) (by decide)) (lk_1i (lk_1i (lk_1i l5 (by decide)) (by decide)) (by decide)) (lk_1i (lk_1i (lk_1i l6 (by decide)) (by decide)) (by decide)) (lk_1i (lk_1i lk_1s (by decide)) (by decide)) (lk_1i lk_1s (by decide)) lk_1s hn2
