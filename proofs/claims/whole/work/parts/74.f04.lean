/-! METHODS AS FUNCTIONS -/
noncomputable def f_HGrid_fixSmallSquares_L24 (v7 : Int32) (v8 : Int32) (v9 : Int32) (x10 : Int32) (M11 : im_M) : Option ((Int32 × im_M) ⊕ (im_M)) := if v7 ≤ x10 then some (.inr M11) else bd1 (if ¬ ((if ¬ v9 = 0 then (if ¬ v9 = v8 then 0 else (if ¬ x10 = 0 then 0 else 1)) else (if x10 = 0 then 1 else (if x10 = v8 then 1 else (if ¬ v9 = v8 then 0 else (if ¬ x10 = 0 then 0 else 1))))) : Int32) = 0 then some M11 else bd1 (f_HGrid_smallPlace v9 v7 M11) fun (x14 : Int32) => bd1 (f_HGrid_smallPlace x10 v7 M11) fun (x15 : Int32) => bd1 (f_HGrid_fixSquares x14 x15 2 1 M11) fun (M16 : im_M) => some M16) fun (M17 : im_M) => some (.inl ((x10 + 1), M17))
noncomputable def f_HGrid_fixSmallSquares_L16 (v2 : Int32) (v3 : Int32) (x4 : Int32) (M5 : im_M) : Option ((Int32 × im_M) ⊕ (im_M)) := if v2 ≤ x4 then some (.inr M5) else bd1 (lp (uc2 (f_HGrid_fixSmallSquares_L24 v2 v3 x4)) (0, M5)) fun (M23 : im_M) => some (.inl ((x4 + 1), M23))
noncomputable def f_HGrid_fixSmallSquares (M : im_M) : Option (im_M) := bd1 (lp (uc2 (f_HGrid_fixSmallSquares_L16 (((im_i M 38 6) / 7) + 2) ((((im_i M 38 6) / 7) + 2) - 1))) (0, M)) fun (M24 : im_M) => some M24
theorem J_HGrid_fixSmallSquares_d0 : decode J_HGrid_fixSmallSquares.2.1 0 = .ok (.aload_n 0, 1) := by decide +kernel
theorem J_HGrid_fixSmallSquares_d1 : decode J_HGrid_fixSmallSquares.2.1 1 = .ok (.getfield 71, 3) := by decide +kernel
theorem J_HGrid_fixSmallSquares_d4 : decode J_HGrid_fixSmallSquares.2.1 4 = .ok (.bipush 7, 2) := by decide +kernel
theorem J_HGrid_fixSmallSquares_d6 : decode J_HGrid_fixSmallSquares.2.1 6 = .ok (.idiv, 1) := by decide +kernel
theorem J_HGrid_fixSmallSquares_d7 : decode J_HGrid_fixSmallSquares.2.1 7 = .ok (.iconst 2, 1) := by decide +kernel
theorem J_HGrid_fixSmallSquares_d8 : decode J_HGrid_fixSmallSquares.2.1 8 = .ok (.iadd, 1) := by decide +kernel
theorem J_HGrid_fixSmallSquares_d9 : decode J_HGrid_fixSmallSquares.2.1 9 = .ok (.istore_n 1, 1) := by decide +kernel
theorem J_HGrid_fixSmallSquares_d10 : decode J_HGrid_fixSmallSquares.2.1 10 = .ok (.iload_n 1, 1) := by decide +kernel
theorem J_HGrid_fixSmallSquares_d11 : decode J_HGrid_fixSmallSquares.2.1 11 = .ok (.iconst 1, 1) := by decide +kernel
theorem J_HGrid_fixSmallSquares_d12 : decode J_HGrid_fixSmallSquares.2.1 12 = .ok (.isub, 1) := by decide +kernel
theorem J_HGrid_fixSmallSquares_d13 : decode J_HGrid_fixSmallSquares.2.1 13 = .ok (.istore_n 2, 1) := by decide +kernel
theorem J_HGrid_fixSmallSquares_d14 : decode J_HGrid_fixSmallSquares.2.1 14 = .ok (.iconst 0, 1) := by decide +kernel
theorem J_HGrid_fixSmallSquares_d15 : decode J_HGrid_fixSmallSquares.2.1 15 = .ok (.istore_n 3, 1) := by decide +kernel
theorem J_HGrid_fixSmallSquares_d16 : decode J_HGrid_fixSmallSquares.2.1 16 = .ok (.iload_n 3, 1) := by decide +kernel
theorem J_HGrid_fixSmallSquares_d17 : decode J_HGrid_fixSmallSquares.2.1 17 = .ok (.iload_n 1, 1) := by decide +kernel
theorem J_HGrid_fixSmallSquares_d18 : decode J_HGrid_fixSmallSquares.2.1 18 = .ok (.if_icmp .ge 80, 3) := by decide +kernel
theorem J_HGrid_fixSmallSquares_d21 : decode J_HGrid_fixSmallSquares.2.1 21 = .ok (.iconst 0, 1) := by decide +kernel
theorem J_HGrid_fixSmallSquares_d22 : decode J_HGrid_fixSmallSquares.2.1 22 = .ok (.istore 4, 2) := by decide +kernel
theorem J_HGrid_fixSmallSquares_d24 : decode J_HGrid_fixSmallSquares.2.1 24 = .ok (.iload 4, 2) := by decide +kernel
theorem J_HGrid_fixSmallSquares_d26 : decode J_HGrid_fixSmallSquares.2.1 26 = .ok (.iload_n 1, 1) := by decide +kernel
theorem J_HGrid_fixSmallSquares_d27 : decode J_HGrid_fixSmallSquares.2.1 27 = .ok (.if_icmp .ge 65, 3) := by decide +kernel
theorem J_HGrid_fixSmallSquares_d30 : decode J_HGrid_fixSmallSquares.2.1 30 = .ok (.iload_n 3, 1) := by decide +kernel
theorem J_HGrid_fixSmallSquares_d31 : decode J_HGrid_fixSmallSquares.2.1 31 = .ok (.ifCond .ne 14, 3) := by decide +kernel
theorem J_HGrid_fixSmallSquares_d34 : decode J_HGrid_fixSmallSquares.2.1 34 = .ok (.iload 4, 2) := by decide +kernel
theorem J_HGrid_fixSmallSquares_d36 : decode J_HGrid_fixSmallSquares.2.1 36 = .ok (.ifCond .eq 19, 3) := by decide +kernel
theorem J_HGrid_fixSmallSquares_d39 : decode J_HGrid_fixSmallSquares.2.1 39 = .ok (.iload 4, 2) := by decide +kernel
theorem J_HGrid_fixSmallSquares_d41 : decode J_HGrid_fixSmallSquares.2.1 41 = .ok (.iload_n 2, 1) := by decide +kernel
theorem J_HGrid_fixSmallSquares_d42 : decode J_HGrid_fixSmallSquares.2.1 42 = .ok (.if_icmp .eq 13, 3) := by decide +kernel
theorem J_HGrid_fixSmallSquares_d45 : decode J_HGrid_fixSmallSquares.2.1 45 = .ok (.iload_n 3, 1) := by decide +kernel
theorem J_HGrid_fixSmallSquares_d46 : decode J_HGrid_fixSmallSquares.2.1 46 = .ok (.iload_n 2, 1) := by decide +kernel
theorem J_HGrid_fixSmallSquares_d47 : decode J_HGrid_fixSmallSquares.2.1 47 = .ok (.if_icmp .ne 12, 3) := by decide +kernel
theorem J_HGrid_fixSmallSquares_d50 : decode J_HGrid_fixSmallSquares.2.1 50 = .ok (.iload 4, 2) := by decide +kernel
theorem J_HGrid_fixSmallSquares_d52 : decode J_HGrid_fixSmallSquares.2.1 52 = .ok (.ifCond .ne 7, 3) := by decide +kernel
theorem J_HGrid_fixSmallSquares_d55 : decode J_HGrid_fixSmallSquares.2.1 55 = .ok (.iconst 1, 1) := by decide +kernel
theorem J_HGrid_fixSmallSquares_d56 : decode J_HGrid_fixSmallSquares.2.1 56 = .ok (.goto 4, 3) := by decide +kernel
theorem J_HGrid_fixSmallSquares_d59 : decode J_HGrid_fixSmallSquares.2.1 59 = .ok (.iconst 0, 1) := by decide +kernel
theorem J_HGrid_fixSmallSquares_d60 : decode J_HGrid_fixSmallSquares.2.1 60 = .ok (.istore 5, 2) := by decide +kernel
theorem J_HGrid_fixSmallSquares_d62 : decode J_HGrid_fixSmallSquares.2.1 62 = .ok (.iload 5, 2) := by decide +kernel
theorem J_HGrid_fixSmallSquares_d64 : decode J_HGrid_fixSmallSquares.2.1 64 = .ok (.ifCond .ne 22, 3) := by decide +kernel
theorem J_HGrid_fixSmallSquares_d67 : decode J_HGrid_fixSmallSquares.2.1 67 = .ok (.aload_n 0, 1) := by decide +kernel
theorem J_HGrid_fixSmallSquares_d68 : decode J_HGrid_fixSmallSquares.2.1 68 = .ok (.aload_n 0, 1) := by decide +kernel
theorem J_HGrid_fixSmallSquares_d69 : decode J_HGrid_fixSmallSquares.2.1 69 = .ok (.iload_n 3, 1) := by decide +kernel
theorem J_HGrid_fixSmallSquares_d70 : decode J_HGrid_fixSmallSquares.2.1 70 = .ok (.iload_n 1, 1) := by decide +kernel
theorem J_HGrid_fixSmallSquares_d71 : decode J_HGrid_fixSmallSquares.2.1 71 = .ok (.invokevirtual 106, 3) := by decide +kernel
theorem J_HGrid_fixSmallSquares_d74 : decode J_HGrid_fixSmallSquares.2.1 74 = .ok (.aload_n 0, 1) := by decide +kernel
theorem J_HGrid_fixSmallSquares_d75 : decode J_HGrid_fixSmallSquares.2.1 75 = .ok (.iload 4, 2) := by decide +kernel
theorem J_HGrid_fixSmallSquares_d77 : decode J_HGrid_fixSmallSquares.2.1 77 = .ok (.iload_n 1, 1) := by decide +kernel
theorem J_HGrid_fixSmallSquares_d78 : decode J_HGrid_fixSmallSquares.2.1 78 = .ok (.invokevirtual 106, 3) := by decide +kernel
theorem J_HGrid_fixSmallSquares_d81 : decode J_HGrid_fixSmallSquares.2.1 81 = .ok (.iconst 2, 1) := by decide +kernel
theorem J_HGrid_fixSmallSquares_d82 : decode J_HGrid_fixSmallSquares.2.1 82 = .ok (.iconst 1, 1) := by decide +kernel
theorem J_HGrid_fixSmallSquares_d83 : decode J_HGrid_fixSmallSquares.2.1 83 = .ok (.invokevirtual 87, 3) := by decide +kernel
theorem J_HGrid_fixSmallSquares_d86 : decode J_HGrid_fixSmallSquares.2.1 86 = .ok (.iinc 4 1, 3) := by decide +kernel
theorem J_HGrid_fixSmallSquares_d89 : decode J_HGrid_fixSmallSquares.2.1 89 = .ok (.goto (-65), 3) := by decide +kernel
theorem J_HGrid_fixSmallSquares_d92 : decode J_HGrid_fixSmallSquares.2.1 92 = .ok (.iinc 3 1, 3) := by decide +kernel
theorem J_HGrid_fixSmallSquares_d95 : decode J_HGrid_fixSmallSquares.2.1 95 = .ok (.goto (-79), 3) := by decide +kernel
theorem J_HGrid_fixSmallSquares_d98 : decode J_HGrid_fixSmallSquares.2.1 98 = .ok (.return_, 1) := by decide +kernel
theorem f_HGrid_fixSmallSquares_ok {L : Nat} {xs : Nat → Int32} {dep : Nat} {w : Bool} {M : im_M} {Q : im_M → Prop} (hM : lw_S w M) (h : ed (f_HGrid_fixSmallSquares M) Q) : ia (tb_G L xs) (dep + 2) J_HGrid_fixSmallSquares (rwV w Q) (0, lv_args 0 [.ref 38], [], M) := by
  have hS : im_St (tb_G L xs) (dep + 2) J_HGrid_fixSmallSquares (ia (tb_G L xs) (dep + 2) J_HGrid_fixSmallSquares (rwV w Q)) := ia_St
  unfold f_HGrid_fixSmallSquares at h
  have l0 : im_lk (lv_args 0 [.ref 38]) 0 = some (.ref 38) := rfl
  refine iq_aload_n hS 1 J_HGrid_fixSmallSquares_d0 l0 rfl ?_
  refine iq_getI hS 4 J_HGrid_fixSmallSquares_d1 lf_4_71 (Or.inl rfl) (ka_38 hM) rfl ?_
  refine iq_bipush hS 6 J_HGrid_fixSmallSquares_d4 (v := 7) (by decide +kernel) rfl ?_
  refine iq_idiv hS 7 J_HGrid_fixSmallSquares_d6 (by decide) rfl ?_
  refine iq_iconst hS 8 J_HGrid_fixSmallSquares_d7 (v := 2) (by decide +kernel) rfl ?_
  refine iq_iadd hS 9 J_HGrid_fixSmallSquares_d8 rfl ?_
  refine iq_istore_n hS 10 J_HGrid_fixSmallSquares_d9 (by decide) rfl ?_
  refine iq_iload_n hS 11 J_HGrid_fixSmallSquares_d10 lk_1s rfl ?_
  refine iq_iconst hS 12 J_HGrid_fixSmallSquares_d11 (v := 1) (by decide +kernel) rfl ?_
  refine iq_isub hS 13 J_HGrid_fixSmallSquares_d12 rfl ?_
  refine iq_istore_n hS 14 J_HGrid_fixSmallSquares_d13 (by decide) rfl ?_
  refine iq_iconst hS 15 J_HGrid_fixSmallSquares_d14 (v := 0) (by decide +kernel) rfl ?_
  refine iq_istore_n hS 16 J_HGrid_fixSmallSquares_d15 (by decide) rfl ?_
  obtain ⟨Q1, hQ1, h⟩ := bd1_ed h
  have K1 : ∀ (M2 : im_M) (L' : List (Nat × Value)), lw_S w M2 → Q1 M2 → ia (tb_G L xs) (dep + 2) J_HGrid_fixSmallSquares (rwV w Q) (98, L', [], M2) := by
    intro M2 L' hM2  h
    replace h := hQ1 _ h
    exact iq_ret J_HGrid_fixSmallSquares_d98 rfl ⟨rfl, hM2, ed_some h⟩
  obtain ⟨r1, hr1, hq1⟩ := h
  obtain ⟨n1, hn1⟩ := lp_n hr1
  have I1 : ∀ (n : Nat) (x3 : Int32) (M4 : im_M) (L' : List (Nat × Value)), lw_S w M4 → im_lk L' 0 = some (.ref 38) → im_lk L' 1 = some (.int (((im_i M 38 6) / 7) + 2)) → im_lk L' 2 = some (.int ((((im_i M 38 6) / 7) + 2) - 1)) → im_lk L' 3 = some (.int x3) → lpn (uc2 (f_HGrid_fixSmallSquares_L16 (((im_i M 38 6) / 7) + 2) ((((im_i M 38 6) / 7) + 2) - 1))) n (x3, M4) = some r1 → ia (tb_G L xs) (dep + 2) J_HGrid_fixSmallSquares (rwV w Q) (16, L', [], M4) := by
    intro n
    induction n with
    | zero => intro x3 M4 L' hM4 l5 l6 l7 l8 hn; exact (lpn_0 hn).elim
    | succ n ih =>
      intro x3 M4 L' hM4 l5 l6 l7 l8 hn
      have h := lpn_ed2 hn
      unfold f_HGrid_fixSmallSquares_L16 at h
      refine iq_iload_n hS 17 J_HGrid_fixSmallSquares_d16 l8 rfl ?_
      refine iq_iload_n hS 18 J_HGrid_fixSmallSquares_d17 l6 rfl ?_
      refine iq_icmp_ge hS 21 J_HGrid_fixSmallSquares_d18 (t := 98) rfl (fun q18 => ?_) rfl (fun q18 => ?_)
      · replace h := ed_pos q18 h
        exact K1 _ _ hM4  (lq_r h hq1)
      · replace h := ed_neg q18 h
        refine iq_iconst hS 22 J_HGrid_fixSmallSquares_d21 (v := 0) (by decide +kernel) rfl ?_
        refine iq_istore hS 24 J_HGrid_fixSmallSquares_d22 (by decide) rfl ?_
        obtain ⟨Q9, hQ9, h⟩ := bd1_ed h
        have K9 : ∀ (M10 : im_M) (L' : List (Nat × Value)), lw_S w M10 → im_lk L' 0 = some (.ref 38) → im_lk L' 1 = some (.int (((im_i M 38 6) / 7) + 2)) → im_lk L' 2 = some (.int ((((im_i M 38 6) / 7) + 2) - 1)) → im_lk L' 3 = some (.int x3) → Q9 M10 → ia (tb_G L xs) (dep + 2) J_HGrid_fixSmallSquares (rwV w Q) (92, L', [], M10) := by
          intro M10 L' hM10 l11 l12 l13 l14 h
          replace h := hQ9 _ h
          refine iq_iincv hS 95 J_HGrid_fixSmallSquares_d92 (c := 1) (by decide +kernel) l14 (by decide) rfl ?_
          refine iq_goto hS J_HGrid_fixSmallSquares_d95 (t := 16) rfl ?_
          exact ih _ _ _ hM10 (lk_1r l11 (by decide)) (lk_1i l12 (by decide)) (lk_1i l13 (by decide)) lk_1s (lq_l h)
        obtain ⟨r9, hr9, hq9⟩ := h
        obtain ⟨n9, hn9⟩ := lp_n hr9
        have I9 : ∀ (n : Nat) (x15 : Int32) (M16 : im_M) (L' : List (Nat × Value)), lw_S w M16 → im_lk L' 0 = some (.ref 38) → im_lk L' 1 = some (.int (((im_i M 38 6) / 7) + 2)) → im_lk L' 2 = some (.int ((((im_i M 38 6) / 7) + 2) - 1)) → im_lk L' 3 = some (.int x3) → im_lk L' 4 = some (.int x15) → lpn (uc2 (f_HGrid_fixSmallSquares_L24 (((im_i M 38 6) / 7) + 2) ((((im_i M 38 6) / 7) + 2) - 1) x3)) n (x15, M16) = some r9 → ia (tb_G L xs) (dep + 2) J_HGrid_fixSmallSquares (rwV w Q) (24, L', [], M16) := by
          intro n
          induction n with
          | zero => intro x15 M16 L' hM16 l17 l18 l19 l20 l21 hn; exact (lpn_0 hn).elim
          | succ n ih =>
            intro x15 M16 L' hM16 l17 l18 l19 l20 l21 hn
            have h := lpn_ed2 hn
            unfold f_HGrid_fixSmallSquares_L24 at h
            refine iq_iload hS 26 J_HGrid_fixSmallSquares_d24 l21 rfl ?_
            refine iq_iload_n hS 27 J_HGrid_fixSmallSquares_d26 l18 rfl ?_
            refine iq_icmp_ge hS 30 J_HGrid_fixSmallSquares_d27 (t := 92) rfl (fun q27 => ?_) rfl (fun q27 => ?_)
            · replace h := ed_pos q27 h
              exact K9 _ _ hM16 l17 l18 l19 l20 (lq_r h hq9)
            · replace h := ed_neg q27 h
              refine iq_iload_n hS 31 J_HGrid_fixSmallSquares_d30 l20 rfl ?_
              have J22 : ∀ (z23 : Int32) (L' : List (Nat × Value)), z23 = ((if ¬ x3 = 0 then (if ¬ x3 = ((((im_i M 38 6) / 7) + 2) - 1) then 0 else (if ¬ x15 = 0 then 0 else 1)) else (if x15 = 0 then 1 else (if x15 = ((((im_i M 38 6) / 7) + 2) - 1) then 1 else (if ¬ x3 = ((((im_i M 38 6) / 7) + 2) - 1) then 0 else (if ¬ x15 = 0 then 0 else 1))))) : Int32) → im_lk L' 0 = some (.ref 38) → im_lk L' 1 = some (.int (((im_i M 38 6) / 7) + 2)) → im_lk L' 2 = some (.int ((((im_i M 38 6) / 7) + 2) - 1)) → im_lk L' 3 = some (.int x3) → im_lk L' 4 = some (.int x15) → ia (tb_G L xs) (dep + 2) J_HGrid_fixSmallSquares (rwV w Q) (60, L', [.int z23], M16) := by
                intro z23 L' e24 l25 l26 l27 l28 l29
                subst e24
                refine iq_istore hS 62 J_HGrid_fixSmallSquares_d60 (by decide) rfl ?_
                refine iq_iload hS 64 J_HGrid_fixSmallSquares_d62 lk_1s rfl ?_
                obtain ⟨Q30, hQ30, h⟩ := bd1_ed h
                have J30 : ∀ (M34 : im_M) (L' : List (Nat × Value)), lw_S w M34 → im_lk L' 0 = some (.ref 38) → im_lk L' 1 = some (.int (((im_i M 38 6) / 7) + 2)) → im_lk L' 2 = some (.int ((((im_i M 38 6) / 7) + 2) - 1)) → im_lk L' 3 = some (.int x3) → im_lk L' 4 = some (.int x15) → Q30 M34 → ia (tb_G L xs) (dep + 2) J_HGrid_fixSmallSquares (rwV w Q) (86, L', [], M34) := by
                  intro M34 L' hM34 l35 l36 l37 l38 l39 h
                  replace h := hQ30 _ h
                  refine iq_iincv hS 89 J_HGrid_fixSmallSquares_d86 (c := 1) (by decide +kernel) l39 (by decide) rfl ?_
                  refine iq_goto hS J_HGrid_fixSmallSquares_d89 (t := 24) rfl ?_
                  exact ih _ _ _ hM34 (lk_1r l35 (by decide)) (lk_1i l36 (by decide)) (lk_1i l37 (by decide)) (lk_1i l38 (by decide)) lk_1s (lq_l h)
                refine iq_if_ne hS 67 J_HGrid_fixSmallSquares_d64 (t := 86) rfl (fun q64 => ?_) rfl (fun q64 => ?_)
                · replace h := ed_pos q64 h
                  exact J30 _ _ hM16 (lk_1r l25 (by decide)) (lk_1i l26 (by decide)) (lk_1i l27 (by decide)) (lk_1i l28 (by decide)) (lk_1i l29 (by decide)) (ed_some h)
                · replace h := ed_neg q64 h
                  refine iq_aload_n hS 68 J_HGrid_fixSmallSquares_d67 (lk_1r l25 (by decide)) rfl ?_
                  refine iq_aload_n hS 69 J_HGrid_fixSmallSquares_d68 (lk_1r l25 (by decide)) rfl ?_
                  refine iq_iload_n hS 70 J_HGrid_fixSmallSquares_d69 (lk_1i l28 (by decide)) rfl ?_
                  refine iq_iload_n hS 71 J_HGrid_fixSmallSquares_d70 (lk_1i l26 (by decide)) rfl ?_
                  obtain ⟨Q31, hQ31, h⟩ := bd1_ed h
                  refine iq_cpI hS 74 J_HGrid_fixSmallSquares_d71 rfl (pr_inst (vs := [_, _]) lc_4_106 lT_160 rfl rfl (by decide) (by decide) rfl (Nat.le_of_ble_eq_true rfl) (Nat.le_of_ble_eq_true rfl) (fun _ => Or.inl (pr_b (ka_38 hM16) (by decide) rfl))) (f_HGrid_smallPlace_ok (dep := dep + 1) hM16 h) rfl ?_
                  intro x31 h
                  replace h := hQ31 _ h
                  refine iq_aload_n hS 75 J_HGrid_fixSmallSquares_d74 (lk_1r l25 (by decide)) rfl ?_
                  refine iq_iload hS 77 J_HGrid_fixSmallSquares_d75 (lk_1i l29 (by decide)) rfl ?_
                  refine iq_iload_n hS 78 J_HGrid_fixSmallSquares_d77 (lk_1i l26 (by decide)) rfl ?_
                  obtain ⟨Q32, hQ32, h⟩ := bd1_ed h
                  refine iq_cpI hS 81 J_HGrid_fixSmallSquares_d78 rfl (pr_inst (vs := [_, _]) lc_4_106 lT_160 rfl rfl (by decide) (by decide) rfl (Nat.le_of_ble_eq_true rfl) (Nat.le_of_ble_eq_true rfl) (fun _ => Or.inl (pr_b (ka_38 hM16) (by decide) rfl))) (f_HGrid_smallPlace_ok (dep := dep + 1) hM16 h) rfl ?_
                  intro x32 h
                  replace h := hQ32 _ h
                  refine iq_iconst hS 82 J_HGrid_fixSmallSquares_d81 (v := 2) (by decide +kernel) rfl ?_
                  refine iq_iconst hS 83 J_HGrid_fixSmallSquares_d82 (v := 1) (by decide +kernel) rfl ?_
                  obtain ⟨Q33, hQ33, h⟩ := bd1_ed h
                  refine iq_cwV hS 86 J_HGrid_fixSmallSquares_d83 rfl (pr_inst (vs := [_, _, _, _]) lc_4_87 lT_157 rfl rfl (by decide) (by decide) rfl (Nat.le_of_ble_eq_true rfl) (Nat.le_of_ble_eq_true rfl) (fun _ => Or.inl (pr_b (ka_38 hM16) (by decide) rfl))) (f_HGrid_fixSquares_ok (dep := dep + 0) hM16 h) rfl ?_
                  intro M33 hM33 h
                  replace h := hQ33 _ h
                  exact J30 _ _ hM33 (lk_1r l25 (by decide)) (lk_1i l26 (by decide)) (lk_1i l27 (by decide)) (lk_1i l28 (by decide)) (lk_1i l29 (by decide)) (ed_some h)
              refine iq_if_ne hS 34 J_HGrid_fixSmallSquares_d31 (t := 45) rfl (fun q31 => ?_) rfl (fun q31 => ?_)
              · refine iq_iload_n hS 46 J_HGrid_fixSmallSquares_d45 l20 rfl ?_
                refine iq_iload_n hS 47 J_HGrid_fixSmallSquares_d46 l19 rfl ?_
                refine iq_icmp_ne hS 50 J_HGrid_fixSmallSquares_d47 (t := 59) rfl (fun q47 => ?_) rfl (fun q47 => ?_)
                · refine iq_iconst hS 60 J_HGrid_fixSmallSquares_d59 (v := 0) (by decide +kernel) rfl ?_
                  exact J22 _ _ (by simp only [if_pos q31, if_pos q47]) l17 l18 l19 l20 l21
                · refine iq_iload hS 52 J_HGrid_fixSmallSquares_d50 l21 rfl ?_
                  refine iq_if_ne hS 55 J_HGrid_fixSmallSquares_d52 (t := 59) rfl (fun q52 => ?_) rfl (fun q52 => ?_)
                  · refine iq_iconst hS 60 J_HGrid_fixSmallSquares_d59 (v := 0) (by decide +kernel) rfl ?_
                    exact J22 _ _ (by simp only [if_pos q31, if_neg q47, if_pos q52]) l17 l18 l19 l20 l21
                  · refine iq_iconst hS 56 J_HGrid_fixSmallSquares_d55 (v := 1) (by decide +kernel) rfl ?_
                    refine iq_goto hS J_HGrid_fixSmallSquares_d56 (t := 60) rfl ?_
                    exact J22 _ _ (by simp only [if_pos q31, if_neg q47, if_neg q52]) l17 l18 l19 l20 l21
              · refine iq_iload hS 36 J_HGrid_fixSmallSquares_d34 l21 rfl ?_
                refine iq_if_eq hS 39 J_HGrid_fixSmallSquares_d36 (t := 55) rfl (fun q36 => ?_) rfl (fun q36 => ?_)
                · refine iq_iconst hS 56 J_HGrid_fixSmallSquares_d55 (v := 1) (by decide +kernel) rfl ?_
                  refine iq_goto hS J_HGrid_fixSmallSquares_d56 (t := 60) rfl ?_
                  exact J22 _ _ (by simp only [if_neg q31, if_pos q36]) l17 l18 l19 l20 l21
                · refine iq_iload hS 41 J_HGrid_fixSmallSquares_d39 l21 rfl ?_
                  refine iq_iload_n hS 42 J_HGrid_fixSmallSquares_d41 l19 rfl ?_
                  refine iq_icmp_eq hS 45 J_HGrid_fixSmallSquares_d42 (t := 55) rfl (fun q42 => ?_) rfl (fun q42 => ?_)
                  · refine iq_iconst hS 56 J_HGrid_fixSmallSquares_d55 (v := 1) (by decide +kernel) rfl ?_
                    refine iq_goto hS J_HGrid_fixSmallSquares_d56 (t := 60) rfl ?_
                    exact J22 _ _ (by simp only [if_neg q31, if_neg q36, if_pos q42]) l17 l18 l19 l20 l21
                  · refine iq_iload_n hS 46 J_HGrid_fixSmallSquares_d45 l20 rfl ?_
                    refine iq_iload_n hS 47 J_HGrid_fixSmallSquares_d46 l19 rfl ?_
                    refine iq_icmp_ne hS 50 J_HGrid_fixSmallSquares_d47 (t := 59) rfl (fun q47 => ?_) rfl (fun q47 => ?_)
                    · refine iq_iconst hS 60 J_HGrid_fixSmallSquares_d59 (v := 0) (by decide +kernel) rfl ?_
                      exact J22 _ _ (by simp only [if_neg q31, if_neg q36, if_neg q42, if_pos q47]) l17 l18 l19 l20 l21
                    · refine iq_iload hS 52 J_HGrid_fixSmallSquares_d50 l21 rfl ?_
                      refine iq_if_ne hS 55 J_HGrid_fixSmallSquares_d52 (t := 59) rfl (fun q52 => ?_) rfl (fun q52 => ?_)
                      · refine iq_iconst hS 60 J_HGrid_fixSmallSquares_d59 (v := 0) (by decide +kernel) rfl ?_
                        exact J22 _ _ (by simp only [if_neg q31, if_neg q36, if_neg q42, if_neg q47, if_pos q52]) l17 l18 l19 l20 l21
                      · refine iq_iconst hS 56 J_HGrid_fixSmallSquares_d55 (v := 1) (by decide +kernel) rfl ?_
                        refine iq_goto hS J_HGrid_fixSmallSquares_d56 (t := 60) rfl ?_
                        exact J22 _ _ (by simp only [if_neg q31, if_neg q36, if_neg q42, if_neg q47, if_neg q52]) l17 l18 l19 l20 l21
        exact I9 n9 _ _ _ hM4 (lk_1r l5 (by decide)) (lk_1i l6 (by decide)) (lk_1i l7 (by decide)) (lk_1i l8 (by decide)) lk_1s hn9
  exact I1 n1 _ _ _ hM (lk_1r (lk_1r (lk_1r l0 (by decide)) (by decide)) (by decide)) (lk_1i (lk_1i lk_1s (by decide)) (by decide)) (lk_1i lk_1s (by decide)) lk_1s hn1
theorem f_HGrid_fixSmallSquares_fr {M : im_M} {r : im_M} (h : f_HGrid_fixSmallSquares M = some r) : fr 54043195528445952 [] M r := by
  replace h : ed (f_HGrid_fixSmallSquares M) (fun x => x = r) := ⟨r, h, rfl⟩
  unfold f_HGrid_fixSmallSquares at h
  obtain ⟨Q1, hQ1, h⟩ := bd1_ed h
  have K1 : ∀ (M2 : im_M), fr 54043195528445952 [] M M2 → Q1 M2 → fr 54043195528445952 [] M r := by
    intro M2 hM2 h
    replace h := hQ1 _ h
    exact fr_retV h hM2
  obtain ⟨r1, hr1, hq1⟩ := h
  obtain ⟨n1, hn1⟩ := lp_n hr1
  have I1 : ∀ (n : Nat) (x3 : Int32) (M4 : im_M), fr 54043195528445952 [] M M4 → lpn (uc2 (f_HGrid_fixSmallSquares_L16 (((im_i M 38 6) / 7) + 2) ((((im_i M 38 6) / 7) + 2) - 1))) n (x3, M4) = some r1 → fr 54043195528445952 [] M r := by
    intro n
    induction n with
    | zero => intro x3 M4 hM4 hn; exact (lpn_0 hn).elim
    | succ n ih =>
      intro x3 M4 hM4 hn
      have h := lpn_ed2 hn
      unfold f_HGrid_fixSmallSquares_L16 at h
      by_cases q18 : (((im_i M 38 6) / 7) + 2) ≤ x3
      · replace h := ed_pos q18 h
        exact K1 _ hM4 (lq_r h hq1)
      · replace h := ed_neg q18 h
        obtain ⟨Q5, hQ5, h⟩ := bd1_ed h
        have K5 : ∀ (M6 : im_M), fr 54043195528445952 [] M M6 → Q5 M6 → fr 54043195528445952 [] M r := by
          intro M6 hM6 h
          replace h := hQ5 _ h
          exact ih _ _ hM6 (lq_l h)
        obtain ⟨r5, hr5, hq5⟩ := h
        obtain ⟨n5, hn5⟩ := lp_n hr5
        have I5 : ∀ (n : Nat) (x7 : Int32) (M8 : im_M), fr 54043195528445952 [] M M8 → lpn (uc2 (f_HGrid_fixSmallSquares_L24 (((im_i M 38 6) / 7) + 2) ((((im_i M 38 6) / 7) + 2) - 1) x3)) n (x7, M8) = some r5 → fr 54043195528445952 [] M r := by
          intro n
          induction n with
          | zero => intro x7 M8 hM8 hn; exact (lpn_0 hn).elim
          | succ n ih =>
            intro x7 M8 hM8 hn
            have h := lpn_ed2 hn
            unfold f_HGrid_fixSmallSquares_L24 at h
            by_cases q27 : (((im_i M 38 6) / 7) + 2) ≤ x7
            · replace h := ed_pos q27 h
              exact K5 _ hM8 (lq_r h hq5)
            · replace h := ed_neg q27 h
              obtain ⟨Q10, hQ10, h⟩ := bd1_ed h
              have J10 : ∀ (M14 : im_M), fr 54043195528445952 [] M M14 → Q10 M14 → fr 54043195528445952 [] M r := by
                intro M14 hM14 h
                replace h := hQ10 _ h
                exact ih _ _ hM14 (lq_l h)
              by_cases q64 : ¬ ((if ¬ x3 = 0 then (if ¬ x3 = ((((im_i M 38 6) / 7) + 2) - 1) then 0 else (if ¬ x7 = 0 then 0 else 1)) else (if x7 = 0 then 1 else (if x7 = ((((im_i M 38 6) / 7) + 2) - 1) then 1 else (if ¬ x3 = ((((im_i M 38 6) / 7) + 2) - 1) then 0 else (if ¬ x7 = 0 then 0 else 1))))) : Int32) = 0
              · replace h := ed_pos q64 h
                exact J10 _ hM8 (ed_some h)
              · replace h := ed_neg q64 h
                obtain ⟨Q11, hQ11, h⟩ := bd1_ed h
                obtain ⟨x11, e11, h⟩ := h
                replace h := hQ11 _ h
                obtain ⟨Q12, hQ12, h⟩ := bd1_ed h
                obtain ⟨x12, e12, h⟩ := h
                replace h := hQ12 _ h
                obtain ⟨Q13, hQ13, h⟩ := bd1_ed h
                obtain ⟨M13, e13, h⟩ := h
                replace h := hQ13 _ h
                exact J10 _ (fr_tr (fr_mono (by decide) (by decide +kernel) (f_HGrid_fixSquares_fr e13)) hM8) (ed_some h)
        exact I5 n5 _ _ hM4 hn5
  exact I1 n1 _ _ fr_refl hn1
noncomputable def f_HGrid_rest_L8 (v2 : Int32) (v3 : Int32) (M6 : im_M) (x4 : Int32) (x5 : Int32) : Option ((Int32 × Int32) ⊕ (Int32)) := if x5 < v3 then some (.inr x4) else some (.inl (((if ((x4 >>> (x5 &&& 31 : Int32) : Int32) &&& 1) = 0 then x4 else (x4 ^^^ (v2 <<< ((x5 - v3) &&& 31 : Int32) : Int32))) : Int32), (x5 + (-1))))
noncomputable def f_HGrid_rest (p0 : Int32) (p1 : Int32) (p2 : Int32) (p3 : Int32) (M : im_M) : Option (Int32) := bd1 (lp (uc2 (f_HGrid_rest_L8 p1 p2 M)) (p0, (p3 - 1))) fun (y8 : Int32) => some y8
theorem J_HGrid_rest_d0 : decode J_HGrid_rest.2.1 0 = .ok (.iload_n 0, 1) := by decide +kernel
theorem J_HGrid_rest_d1 : decode J_HGrid_rest.2.1 1 = .ok (.istore 4, 2) := by decide +kernel
theorem J_HGrid_rest_d3 : decode J_HGrid_rest.2.1 3 = .ok (.iload_n 3, 1) := by decide +kernel
theorem J_HGrid_rest_d4 : decode J_HGrid_rest.2.1 4 = .ok (.iconst 1, 1) := by decide +kernel
theorem J_HGrid_rest_d5 : decode J_HGrid_rest.2.1 5 = .ok (.isub, 1) := by decide +kernel
theorem J_HGrid_rest_d6 : decode J_HGrid_rest.2.1 6 = .ok (.istore 5, 2) := by decide +kernel
theorem J_HGrid_rest_d8 : decode J_HGrid_rest.2.1 8 = .ok (.iload 5, 2) := by decide +kernel
theorem J_HGrid_rest_d10 : decode J_HGrid_rest.2.1 10 = .ok (.iload_n 2, 1) := by decide +kernel
theorem J_HGrid_rest_d11 : decode J_HGrid_rest.2.1 11 = .ok (.if_icmp .lt 30, 3) := by decide +kernel
theorem J_HGrid_rest_d14 : decode J_HGrid_rest.2.1 14 = .ok (.iload 4, 2) := by decide +kernel
theorem J_HGrid_rest_d16 : decode J_HGrid_rest.2.1 16 = .ok (.iload 5, 2) := by decide +kernel
theorem J_HGrid_rest_d18 : decode J_HGrid_rest.2.1 18 = .ok (.ishr, 1) := by decide +kernel
theorem J_HGrid_rest_d19 : decode J_HGrid_rest.2.1 19 = .ok (.iconst 1, 1) := by decide +kernel
theorem J_HGrid_rest_d20 : decode J_HGrid_rest.2.1 20 = .ok (.iand, 1) := by decide +kernel
theorem J_HGrid_rest_d21 : decode J_HGrid_rest.2.1 21 = .ok (.ifCond .eq 14, 3) := by decide +kernel
theorem J_HGrid_rest_d24 : decode J_HGrid_rest.2.1 24 = .ok (.iload 4, 2) := by decide +kernel
theorem J_HGrid_rest_d26 : decode J_HGrid_rest.2.1 26 = .ok (.iload_n 1, 1) := by decide +kernel
theorem J_HGrid_rest_d27 : decode J_HGrid_rest.2.1 27 = .ok (.iload 5, 2) := by decide +kernel
theorem J_HGrid_rest_d29 : decode J_HGrid_rest.2.1 29 = .ok (.iload_n 2, 1) := by decide +kernel
theorem J_HGrid_rest_d30 : decode J_HGrid_rest.2.1 30 = .ok (.isub, 1) := by decide +kernel
theorem J_HGrid_rest_d31 : decode J_HGrid_rest.2.1 31 = .ok (.ishl, 1) := by decide +kernel
theorem J_HGrid_rest_d32 : decode J_HGrid_rest.2.1 32 = .ok (.ixor, 1) := by decide +kernel
theorem J_HGrid_rest_d33 : decode J_HGrid_rest.2.1 33 = .ok (.istore 4, 2) := by decide +kernel
theorem J_HGrid_rest_d35 : decode J_HGrid_rest.2.1 35 = .ok (.iinc 5 (-1), 3) := by decide +kernel
theorem J_HGrid_rest_d38 : decode J_HGrid_rest.2.1 38 = .ok (.goto (-30), 3) := by decide +kernel
theorem J_HGrid_rest_d41 : decode J_HGrid_rest.2.1 41 = .ok (.iload 4, 2) := by decide +kernel
theorem J_HGrid_rest_d43 : decode J_HGrid_rest.2.1 43 = .ok (.ireturn, 1) := by decide +kernel
theorem f_HGrid_rest_ok {L : Nat} {xs : Nat → Int32} {dep : Nat} {w : Bool} {p0 : Int32} {p1 : Int32} {p2 : Int32} {p3 : Int32} {M : im_M} {Q : Int32 → Prop} (hM : lw_S w M) (h : ed (f_HGrid_rest p0 p1 p2 p3 M) Q) : ia (tb_G L xs) dep J_HGrid_rest (rpI M Q) (0, lv_args 0 [.int p0, .int p1, .int p2, .int p3], [], M) := by
  have hS : im_St (tb_G L xs) dep J_HGrid_rest (ia (tb_G L xs) dep J_HGrid_rest (rpI M Q)) := ia_St
  unfold f_HGrid_rest at h
  have l0 : im_lk (lv_args 0 [.int p0, .int p1, .int p2, .int p3]) 0 = some (.int p0) := rfl
  have l1 : im_lk (lv_args 0 [.int p0, .int p1, .int p2, .int p3]) 1 = some (.int p1) := rfl
  have l2 : im_lk (lv_args 0 [.int p0, .int p1, .int p2, .int p3]) 2 = some (.int p2) := rfl
  have l3 : im_lk (lv_args 0 [.int p0, .int p1, .int p2, .int p3]) 3 = some (.int p3) := rfl
  refine iq_iload_n hS 1 J_HGrid_rest_d0 l0 rfl ?_
  refine iq_istore hS 3 J_HGrid_rest_d1 (by decide) rfl ?_
  refine iq_iload_n hS 4 J_HGrid_rest_d3 (lk_1i l3 (by decide)) rfl ?_
  refine iq_iconst hS 5 J_HGrid_rest_d4 (v := 1) (by decide +kernel) rfl ?_
  refine iq_isub hS 6 J_HGrid_rest_d5 rfl ?_
  refine iq_istore hS 8 J_HGrid_rest_d6 (by decide) rfl ?_
  obtain ⟨Q1, hQ1, h⟩ := bd1_ed h
  have K1 : ∀ (y2 : Int32) (L' : List (Nat × Value)), im_lk L' 4 = some (.int y2) → Q1 y2 → ia (tb_G L xs) dep J_HGrid_rest (rpI M Q) (41, L', [], M) := by
    intro y2 L' l3 h
    replace h := hQ1 _ h
    refine iq_iload hS 43 J_HGrid_rest_d41 l3 rfl ?_
    exact iq_iret J_HGrid_rest_d43 rfl rfl ⟨_, rfl, rfl, ed_some h⟩
  obtain ⟨r1, hr1, hq1⟩ := h
  obtain ⟨n1, hn1⟩ := lp_n hr1
  have I1 : ∀ (n : Nat) (x4 : Int32) (x5 : Int32) (L' : List (Nat × Value)), im_lk L' 1 = some (.int p1) → im_lk L' 2 = some (.int p2) → im_lk L' 4 = some (.int x4) → im_lk L' 5 = some (.int x5) → lpn (uc2 (f_HGrid_rest_L8 p1 p2 M)) n (x4, x5) = some r1 → ia (tb_G L xs) dep J_HGrid_rest (rpI M Q) (8, L', [], M) := by
    intro n
    induction n with
    | zero => intro x4 x5 L' l6 l7 l8 l9 hn; exact (lpn_0 hn).elim
    | succ n ih =>
      intro x4 x5 L' l6 l7 l8 l9 hn
      have h := lpn_ed2 hn
      unfold f_HGrid_rest_L8 at h
      refine iq_iload hS 10 J_HGrid_rest_d8 l9 rfl ?_
      refine iq_iload_n hS 11 J_HGrid_rest_d10 l7 rfl ?_
      refine iq_icmp_lt hS 14 J_HGrid_rest_d11 (t := 41) rfl (fun q11 => ?_) rfl (fun q11 => ?_)
      · replace h := ed_pos q11 h
        exact K1 _ _ l8 (lq_r h hq1)
      · replace h := ed_neg q11 h
        refine iq_iload hS 16 J_HGrid_rest_d14 l8 rfl ?_
        refine iq_iload hS 18 J_HGrid_rest_d16 l9 rfl ?_
        refine iq_ishr hS 19 J_HGrid_rest_d18 rfl ?_
        refine iq_iconst hS 20 J_HGrid_rest_d19 (v := 1) (by decide +kernel) rfl ?_
        refine iq_iand hS 21 J_HGrid_rest_d20 rfl ?_
        have J10 : ∀ (z11 : Int32) (L' : List (Nat × Value)), z11 = ((if ((x4 >>> (x5 &&& 31 : Int32) : Int32) &&& 1) = 0 then x4 else (x4 ^^^ (p1 <<< ((x5 - p2) &&& 31 : Int32) : Int32))) : Int32) → im_lk L' 1 = some (.int p1) → im_lk L' 2 = some (.int p2) → im_lk L' 4 = some (.int z11) → im_lk L' 5 = some (.int x5) → ia (tb_G L xs) dep J_HGrid_rest (rpI M Q) (35, L', [], M) := by
          intro z11 L' e12 l13 l14 l15 l16
          subst e12
          refine iq_iincv hS 38 J_HGrid_rest_d35 (c := (-1)) (by decide +kernel) l16 (by decide) rfl ?_
          refine iq_goto hS J_HGrid_rest_d38 (t := 8) rfl ?_
          exact ih _ _ _ (lk_1i l13 (by decide)) (lk_1i l14 (by decide)) (lk_1i l15 (by decide)) lk_1s (lq_l h)
        refine iq_if_eq hS 24 J_HGrid_rest_d21 (t := 35) rfl (fun q21 => ?_) rfl (fun q21 => ?_)
        · exact J10 _ _ (by simp only [if_pos q21]) l6 l7 l8 l9
        · refine iq_iload hS 26 J_HGrid_rest_d24 l8 rfl ?_
          refine iq_iload_n hS 27 J_HGrid_rest_d26 l6 rfl ?_
          refine iq_iload hS 29 J_HGrid_rest_d27 l9 rfl ?_
          refine iq_iload_n hS 30 J_HGrid_rest_d29 l7 rfl ?_
          refine iq_isub hS 31 J_HGrid_rest_d30 rfl ?_
          refine iq_ishl hS 32 J_HGrid_rest_d31 rfl ?_
          refine iq_ixor hS 33 J_HGrid_rest_d32 rfl ?_
          refine iq_istore hS 35 J_HGrid_rest_d33 (by decide) rfl ?_
          exact J10 _ _ (by simp only [if_neg q21]) (lk_1i l6 (by decide)) (lk_1i l7 (by decide)) lk_1s (lk_1i l9 (by decide))
  exact I1 n1 _ _ _ (lk_1i (lk_1i l1 (by decide)) (by decide)) (lk_1i (lk_1i l2 (by decide)) (by decide)) (lk_1i lk_1s (by decide)) lk_1s hn1
noncomputable def f_HGrid_formWord (p0 : Int32) (M : im_M) : Option (Int32) := bd1 (f_HGrid_rest (p0 <<< (10 &&& 31 : Int32) : Int32) 1335 10 15 M) fun (x1 : Int32) => some (((p0 <<< (10 &&& 31 : Int32) : Int32) ||| x1) ^^^ 21522)
theorem J_HGrid_formWord_d0 : decode J_HGrid_formWord.2.1 0 = .ok (.iload_n 0, 1) := by decide +kernel
theorem J_HGrid_formWord_d1 : decode J_HGrid_formWord.2.1 1 = .ok (.bipush 10, 2) := by decide +kernel
theorem J_HGrid_formWord_d3 : decode J_HGrid_formWord.2.1 3 = .ok (.ishl, 1) := by decide +kernel
theorem J_HGrid_formWord_d4 : decode J_HGrid_formWord.2.1 4 = .ok (.iload_n 0, 1) := by decide +kernel
theorem J_HGrid_formWord_d5 : decode J_HGrid_formWord.2.1 5 = .ok (.bipush 10, 2) := by decide +kernel
theorem J_HGrid_formWord_d7 : decode J_HGrid_formWord.2.1 7 = .ok (.ishl, 1) := by decide +kernel
theorem J_HGrid_formWord_d8 : decode J_HGrid_formWord.2.1 8 = .ok (.sipush 1335, 3) := by decide +kernel
theorem J_HGrid_formWord_d11 : decode J_HGrid_formWord.2.1 11 = .ok (.bipush 10, 2) := by decide +kernel
theorem J_HGrid_formWord_d13 : decode J_HGrid_formWord.2.1 13 = .ok (.bipush 15, 2) := by decide +kernel
theorem J_HGrid_formWord_d15 : decode J_HGrid_formWord.2.1 15 = .ok (.invokestatic 109, 3) := by decide +kernel
theorem J_HGrid_formWord_d18 : decode J_HGrid_formWord.2.1 18 = .ok (.ior, 1) := by decide +kernel
theorem J_HGrid_formWord_d19 : decode J_HGrid_formWord.2.1 19 = .ok (.sipush 21522, 3) := by decide +kernel
theorem J_HGrid_formWord_d22 : decode J_HGrid_formWord.2.1 22 = .ok (.ixor, 1) := by decide +kernel
theorem J_HGrid_formWord_d23 : decode J_HGrid_formWord.2.1 23 = .ok (.ireturn, 1) := by decide +kernel
theorem f_HGrid_formWord_ok {L : Nat} {xs : Nat → Int32} {dep : Nat} {w : Bool} {p0 : Int32} {M : im_M} {Q : Int32 → Prop} (hM : lw_S w M) (h : ed (f_HGrid_formWord p0 M) Q) : ia (tb_G L xs) (dep + 1) J_HGrid_formWord (rpI M Q) (0, lv_args 0 [.int p0], [], M) := by
  have hS : im_St (tb_G L xs) (dep + 1) J_HGrid_formWord (ia (tb_G L xs) (dep + 1) J_HGrid_formWord (rpI M Q)) := ia_St
  unfold f_HGrid_formWord at h
  have l0 : im_lk (lv_args 0 [.int p0]) 0 = some (.int p0) := rfl
  refine iq_iload_n hS 1 J_HGrid_formWord_d0 l0 rfl ?_
  refine iq_bipush hS 3 J_HGrid_formWord_d1 (v := 10) (by decide +kernel) rfl ?_
  refine iq_ishl hS 4 J_HGrid_formWord_d3 rfl ?_
  refine iq_iload_n hS 5 J_HGrid_formWord_d4 l0 rfl ?_
  refine iq_bipush hS 7 J_HGrid_formWord_d5 (v := 10) (by decide +kernel) rfl ?_
  refine iq_ishl hS 8 J_HGrid_formWord_d7 rfl ?_
  refine iq_sipush hS 11 J_HGrid_formWord_d8 (v := 1335) (by decide +kernel) rfl ?_
  refine iq_bipush hS 13 J_HGrid_formWord_d11 (v := 10) (by decide +kernel) rfl ?_
  refine iq_bipush hS 15 J_HGrid_formWord_d13 (v := 15) (by decide +kernel) rfl ?_
  obtain ⟨Q1, hQ1, h⟩ := bd1_ed h
  refine iq_cpI hS 18 J_HGrid_formWord_d15 rfl (pr_stat (vs := [_, _, _, _]) lc_4_109 lT_163 rfl rfl (by decide) rfl (Nat.le_of_ble_eq_true rfl) (Nat.le_of_ble_eq_true rfl)) (f_HGrid_rest_ok (dep := dep + 0) hM h) rfl ?_
  intro x1 h
  replace h := hQ1 _ h
  refine iq_ior hS 19 J_HGrid_formWord_d18 rfl ?_
  refine iq_sipush hS 22 J_HGrid_formWord_d19 (v := 21522) (by decide +kernel) rfl ?_
  refine iq_ixor hS 23 J_HGrid_formWord_d22 rfl ?_
  exact iq_iret J_HGrid_formWord_d23 rfl rfl ⟨_, rfl, rfl, ed_some h⟩
noncomputable def f_HGrid_formX (p0 : Int32) (p1 : Int32) (M : im_M) : Option (Int32) := if ¬ p1 = 1 then if 8 ≤ p0 then if ¬ p0 = 8 then some ((14 : Int32) - p0) else some 7 else some 8 else if 8 ≤ p0 then some 8 else some (((im_i M 38 1) - 1) - p0)
theorem J_HGrid_formX_d0 : decode J_HGrid_formX.2.1 0 = .ok (.iload_n 2, 1) := by decide +kernel
theorem J_HGrid_formX_d1 : decode J_HGrid_formX.2.1 1 = .ok (.iconst 1, 1) := by decide +kernel
theorem J_HGrid_formX_d2 : decode J_HGrid_formX.2.1 2 = .ok (.if_icmp .ne 23, 3) := by decide +kernel
theorem J_HGrid_formX_d5 : decode J_HGrid_formX.2.1 5 = .ok (.iload_n 1, 1) := by decide +kernel
theorem J_HGrid_formX_d6 : decode J_HGrid_formX.2.1 6 = .ok (.bipush 8, 2) := by decide +kernel
theorem J_HGrid_formX_d8 : decode J_HGrid_formX.2.1 8 = .ok (.if_icmp .ge 14, 3) := by decide +kernel
theorem J_HGrid_formX_d11 : decode J_HGrid_formX.2.1 11 = .ok (.aload_n 0, 1) := by decide +kernel
theorem J_HGrid_formX_d12 : decode J_HGrid_formX.2.1 12 = .ok (.getfield 74, 3) := by decide +kernel
theorem J_HGrid_formX_d15 : decode J_HGrid_formX.2.1 15 = .ok (.iconst 1, 1) := by decide +kernel
theorem J_HGrid_formX_d16 : decode J_HGrid_formX.2.1 16 = .ok (.isub, 1) := by decide +kernel
theorem J_HGrid_formX_d17 : decode J_HGrid_formX.2.1 17 = .ok (.iload_n 1, 1) := by decide +kernel
theorem J_HGrid_formX_d18 : decode J_HGrid_formX.2.1 18 = .ok (.isub, 1) := by decide +kernel
theorem J_HGrid_formX_d19 : decode J_HGrid_formX.2.1 19 = .ok (.goto 5, 3) := by decide +kernel
theorem J_HGrid_formX_d22 : decode J_HGrid_formX.2.1 22 = .ok (.bipush 8, 2) := by decide +kernel
theorem J_HGrid_formX_d24 : decode J_HGrid_formX.2.1 24 = .ok (.ireturn, 1) := by decide +kernel
theorem J_HGrid_formX_d25 : decode J_HGrid_formX.2.1 25 = .ok (.iload_n 1, 1) := by decide +kernel
theorem J_HGrid_formX_d26 : decode J_HGrid_formX.2.1 26 = .ok (.bipush 8, 2) := by decide +kernel
theorem J_HGrid_formX_d28 : decode J_HGrid_formX.2.1 28 = .ok (.if_icmp .ge 8, 3) := by decide +kernel
theorem J_HGrid_formX_d31 : decode J_HGrid_formX.2.1 31 = .ok (.bipush 8, 2) := by decide +kernel
theorem J_HGrid_formX_d33 : decode J_HGrid_formX.2.1 33 = .ok (.goto 18, 3) := by decide +kernel
theorem J_HGrid_formX_d36 : decode J_HGrid_formX.2.1 36 = .ok (.iload_n 1, 1) := by decide +kernel
theorem J_HGrid_formX_d37 : decode J_HGrid_formX.2.1 37 = .ok (.bipush 8, 2) := by decide +kernel
theorem J_HGrid_formX_d39 : decode J_HGrid_formX.2.1 39 = .ok (.if_icmp .ne 8, 3) := by decide +kernel
theorem J_HGrid_formX_d42 : decode J_HGrid_formX.2.1 42 = .ok (.bipush 7, 2) := by decide +kernel
theorem J_HGrid_formX_d44 : decode J_HGrid_formX.2.1 44 = .ok (.goto 7, 3) := by decide +kernel
theorem J_HGrid_formX_d47 : decode J_HGrid_formX.2.1 47 = .ok (.bipush 14, 2) := by decide +kernel
theorem J_HGrid_formX_d49 : decode J_HGrid_formX.2.1 49 = .ok (.iload_n 1, 1) := by decide +kernel
theorem J_HGrid_formX_d50 : decode J_HGrid_formX.2.1 50 = .ok (.isub, 1) := by decide +kernel
theorem J_HGrid_formX_d51 : decode J_HGrid_formX.2.1 51 = .ok (.ireturn, 1) := by decide +kernel
theorem f_HGrid_formX_ok {L : Nat} {xs : Nat → Int32} {dep : Nat} {w : Bool} {p0 : Int32} {p1 : Int32} {M : im_M} {Q : Int32 → Prop} (hM : lw_S w M) (h : ed (f_HGrid_formX p0 p1 M) Q) : ia (tb_G L xs) dep J_HGrid_formX (rpI M Q) (0, lv_args 0 [.ref 38, .int p0, .int p1], [], M) := by
  have hS : im_St (tb_G L xs) dep J_HGrid_formX (ia (tb_G L xs) dep J_HGrid_formX (rpI M Q)) := ia_St
  unfold f_HGrid_formX at h
  have l0 : im_lk (lv_args 0 [.ref 38, .int p0, .int p1]) 0 = some (.ref 38) := rfl
  have l1 : im_lk (lv_args 0 [.ref 38, .int p0, .int p1]) 1 = some (.int p0) := rfl
  have l2 : im_lk (lv_args 0 [.ref 38, .int p0, .int p1]) 2 = some (.int p1) := rfl
  refine iq_iload_n hS 1 J_HGrid_formX_d0 l2 rfl ?_
  refine iq_iconst hS 2 J_HGrid_formX_d1 (v := 1) (by decide +kernel) rfl ?_
  refine iq_icmp_ne hS 5 J_HGrid_formX_d2 (t := 25) rfl (fun q2 => ?_) rfl (fun q2 => ?_)
  · replace h := ed_pos q2 h
    refine iq_iload_n hS 26 J_HGrid_formX_d25 l1 rfl ?_
    refine iq_bipush hS 28 J_HGrid_formX_d26 (v := 8) (by decide +kernel) rfl ?_
    refine iq_icmp_ge hS 31 J_HGrid_formX_d28 (t := 36) rfl (fun q28 => ?_) rfl (fun q28 => ?_)
    · replace h := ed_pos q28 h
      refine iq_iload_n hS 37 J_HGrid_formX_d36 l1 rfl ?_
      refine iq_bipush hS 39 J_HGrid_formX_d37 (v := 8) (by decide +kernel) rfl ?_
      refine iq_icmp_ne hS 42 J_HGrid_formX_d39 (t := 47) rfl (fun q39 => ?_) rfl (fun q39 => ?_)
      · replace h := ed_pos q39 h
        refine iq_bipush hS 49 J_HGrid_formX_d47 (v := 14) (by decide +kernel) rfl ?_
        refine iq_iload_n hS 50 J_HGrid_formX_d49 l1 rfl ?_
        refine iq_isub hS 51 J_HGrid_formX_d50 rfl ?_
        exact iq_iret J_HGrid_formX_d51 rfl rfl ⟨_, rfl, rfl, ed_some h⟩
      · replace h := ed_neg q39 h
        refine iq_bipush hS 44 J_HGrid_formX_d42 (v := 7) (by decide +kernel) rfl ?_
        refine iq_goto hS J_HGrid_formX_d44 (t := 51) rfl ?_
        exact iq_iret J_HGrid_formX_d51 rfl rfl ⟨_, rfl, rfl, ed_some h⟩
    · replace h := ed_neg q28 h
      refine iq_bipush hS 33 J_HGrid_formX_d31 (v := 8) (by decide +kernel) rfl ?_
      refine iq_goto hS J_HGrid_formX_d33 (t := 51) rfl ?_
      exact iq_iret J_HGrid_formX_d51 rfl rfl ⟨_, rfl, rfl, ed_some h⟩
  · replace h := ed_neg q2 h
    refine iq_iload_n hS 6 J_HGrid_formX_d5 l1 rfl ?_
    refine iq_bipush hS 8 J_HGrid_formX_d6 (v := 8) (by decide +kernel) rfl ?_
    refine iq_icmp_ge hS 11 J_HGrid_formX_d8 (t := 22) rfl (fun q8 => ?_) rfl (fun q8 => ?_)
    · replace h := ed_pos q8 h
      refine iq_bipush hS 24 J_HGrid_formX_d22 (v := 8) (by decide +kernel) rfl ?_
      exact iq_iret J_HGrid_formX_d24 rfl rfl ⟨_, rfl, rfl, ed_some h⟩
    · replace h := ed_neg q8 h
      refine iq_aload_n hS 12 J_HGrid_formX_d11 l0 rfl ?_
      refine iq_getI hS 15 J_HGrid_formX_d12 lf_4_74 (Or.inl rfl) (ka_38 hM) rfl ?_
      refine iq_iconst hS 16 J_HGrid_formX_d15 (v := 1) (by decide +kernel) rfl ?_
      refine iq_isub hS 17 J_HGrid_formX_d16 rfl ?_
      refine iq_iload_n hS 18 J_HGrid_formX_d17 l1 rfl ?_
      refine iq_isub hS 19 J_HGrid_formX_d18 rfl ?_
      refine iq_goto hS J_HGrid_formX_d19 (t := 24) rfl ?_
      exact iq_iret J_HGrid_formX_d24 rfl rfl ⟨_, rfl, rfl, ed_some h⟩
noncomputable def f_HGrid_formY (p0 : Int32) (p1 : Int32) (M : im_M) : Option (Int32) := if ¬ p1 = 1 then if 6 ≤ p0 then if ¬ p0 = 6 then some 8 else some 7 else some p0 else if 8 ≤ p0 then some (((im_i M 38 1) - 15) + p0) else some 8
theorem J_HGrid_formY_d0 : decode J_HGrid_formY.2.1 0 = .ok (.iload_n 2, 1) := by decide +kernel
theorem J_HGrid_formY_d1 : decode J_HGrid_formY.2.1 1 = .ok (.iconst 1, 1) := by decide +kernel
theorem J_HGrid_formY_d2 : decode J_HGrid_formY.2.1 2 = .ok (.if_icmp .ne 24, 3) := by decide +kernel
theorem J_HGrid_formY_d5 : decode J_HGrid_formY.2.1 5 = .ok (.iload_n 1, 1) := by decide +kernel
theorem J_HGrid_formY_d6 : decode J_HGrid_formY.2.1 6 = .ok (.bipush 8, 2) := by decide +kernel
theorem J_HGrid_formY_d8 : decode J_HGrid_formY.2.1 8 = .ok (.if_icmp .ge 8, 3) := by decide +kernel
theorem J_HGrid_formY_d11 : decode J_HGrid_formY.2.1 11 = .ok (.bipush 8, 2) := by decide +kernel
theorem J_HGrid_formY_d13 : decode J_HGrid_formY.2.1 13 = .ok (.goto 12, 3) := by decide +kernel
theorem J_HGrid_formY_d16 : decode J_HGrid_formY.2.1 16 = .ok (.aload_n 0, 1) := by decide +kernel
theorem J_HGrid_formY_d17 : decode J_HGrid_formY.2.1 17 = .ok (.getfield 74, 3) := by decide +kernel
theorem J_HGrid_formY_d20 : decode J_HGrid_formY.2.1 20 = .ok (.bipush 15, 2) := by decide +kernel
theorem J_HGrid_formY_d22 : decode J_HGrid_formY.2.1 22 = .ok (.isub, 1) := by decide +kernel
theorem J_HGrid_formY_d23 : decode J_HGrid_formY.2.1 23 = .ok (.iload_n 1, 1) := by decide +kernel
theorem J_HGrid_formY_d24 : decode J_HGrid_formY.2.1 24 = .ok (.iadd, 1) := by decide +kernel
theorem J_HGrid_formY_d25 : decode J_HGrid_formY.2.1 25 = .ok (.ireturn, 1) := by decide +kernel
theorem J_HGrid_formY_d26 : decode J_HGrid_formY.2.1 26 = .ok (.iload_n 1, 1) := by decide +kernel
theorem J_HGrid_formY_d27 : decode J_HGrid_formY.2.1 27 = .ok (.bipush 6, 2) := by decide +kernel
theorem J_HGrid_formY_d29 : decode J_HGrid_formY.2.1 29 = .ok (.if_icmp .ge 7, 3) := by decide +kernel
theorem J_HGrid_formY_d32 : decode J_HGrid_formY.2.1 32 = .ok (.iload_n 1, 1) := by decide +kernel
theorem J_HGrid_formY_d33 : decode J_HGrid_formY.2.1 33 = .ok (.goto 16, 3) := by decide +kernel
theorem J_HGrid_formY_d36 : decode J_HGrid_formY.2.1 36 = .ok (.iload_n 1, 1) := by decide +kernel
theorem J_HGrid_formY_d37 : decode J_HGrid_formY.2.1 37 = .ok (.bipush 6, 2) := by decide +kernel
theorem J_HGrid_formY_d39 : decode J_HGrid_formY.2.1 39 = .ok (.if_icmp .ne 8, 3) := by decide +kernel
theorem J_HGrid_formY_d42 : decode J_HGrid_formY.2.1 42 = .ok (.bipush 7, 2) := by decide +kernel
theorem J_HGrid_formY_d44 : decode J_HGrid_formY.2.1 44 = .ok (.goto 5, 3) := by decide +kernel
theorem J_HGrid_formY_d47 : decode J_HGrid_formY.2.1 47 = .ok (.bipush 8, 2) := by decide +kernel
theorem J_HGrid_formY_d49 : decode J_HGrid_formY.2.1 49 = .ok (.ireturn, 1) := by decide +kernel
theorem f_HGrid_formY_ok {L : Nat} {xs : Nat → Int32} {dep : Nat} {w : Bool} {p0 : Int32} {p1 : Int32} {M : im_M} {Q : Int32 → Prop} (hM : lw_S w M) (h : ed (f_HGrid_formY p0 p1 M) Q) : ia (tb_G L xs) dep J_HGrid_formY (rpI M Q) (0, lv_args 0 [.ref 38, .int p0, .int p1], [], M) := by
  have hS : im_St (tb_G L xs) dep J_HGrid_formY (ia (tb_G L xs) dep J_HGrid_formY (rpI M Q)) := ia_St
  unfold f_HGrid_formY at h
  have l0 : im_lk (lv_args 0 [.ref 38, .int p0, .int p1]) 0 = some (.ref 38) := rfl
  have l1 : im_lk (lv_args 0 [.ref 38, .int p0, .int p1]) 1 = some (.int p0) := rfl
  have l2 : im_lk (lv_args 0 [.ref 38, .int p0, .int p1]) 2 = some (.int p1) := rfl
  refine iq_iload_n hS 1 J_HGrid_formY_d0 l2 rfl ?_
  refine iq_iconst hS 2 J_HGrid_formY_d1 (v := 1) (by decide +kernel) rfl ?_
  refine iq_icmp_ne hS 5 J_HGrid_formY_d2 (t := 26) rfl (fun q2 => ?_) rfl (fun q2 => ?_)
  · replace h := ed_pos q2 h
    refine iq_iload_n hS 27 J_HGrid_formY_d26 l1 rfl ?_
    refine iq_bipush hS 29 J_HGrid_formY_d27 (v := 6) (by decide +kernel) rfl ?_
    refine iq_icmp_ge hS 32 J_HGrid_formY_d29 (t := 36) rfl (fun q29 => ?_) rfl (fun q29 => ?_)
    · replace h := ed_pos q29 h
      refine iq_iload_n hS 37 J_HGrid_formY_d36 l1 rfl ?_
      refine iq_bipush hS 39 J_HGrid_formY_d37 (v := 6) (by decide +kernel) rfl ?_
      refine iq_icmp_ne hS 42 J_HGrid_formY_d39 (t := 47) rfl (fun q39 => ?_) rfl (fun q39 => ?_)
      · replace h := ed_pos q39 h
        refine iq_bipush hS 49 J_HGrid_formY_d47 (v := 8) (by decide +kernel) rfl ?_
        exact iq_iret J_HGrid_formY_d49 rfl rfl ⟨_, rfl, rfl, ed_some h⟩
      · replace h := ed_neg q39 h
        refine iq_bipush hS 44 J_HGrid_formY_d42 (v := 7) (by decide +kernel) rfl ?_
        refine iq_goto hS J_HGrid_formY_d44 (t := 49) rfl ?_
        exact iq_iret J_HGrid_formY_d49 rfl rfl ⟨_, rfl, rfl, ed_some h⟩
    · replace h := ed_neg q29 h
      refine iq_iload_n hS 33 J_HGrid_formY_d32 l1 rfl ?_
      refine iq_goto hS J_HGrid_formY_d33 (t := 49) rfl ?_
      exact iq_iret J_HGrid_formY_d49 rfl rfl ⟨_, rfl, rfl, ed_some h⟩
  · replace h := ed_neg q2 h
    refine iq_iload_n hS 6 J_HGrid_formY_d5 l1 rfl ?_
    refine iq_bipush hS 8 J_HGrid_formY_d6 (v := 8) (by decide +kernel) rfl ?_
    refine iq_icmp_ge hS 11 J_HGrid_formY_d8 (t := 16) rfl (fun q8 => ?_) rfl (fun q8 => ?_)
    · replace h := ed_pos q8 h
      refine iq_aload_n hS 17 J_HGrid_formY_d16 l0 rfl ?_
      refine iq_getI hS 20 J_HGrid_formY_d17 lf_4_74 (Or.inl rfl) (ka_38 hM) rfl ?_
      refine iq_bipush hS 22 J_HGrid_formY_d20 (v := 15) (by decide +kernel) rfl ?_
      refine iq_isub hS 23 J_HGrid_formY_d22 rfl ?_
      refine iq_iload_n hS 24 J_HGrid_formY_d23 l1 rfl ?_
      refine iq_iadd hS 25 J_HGrid_formY_d24 rfl ?_
      exact iq_iret J_HGrid_formY_d25 rfl rfl ⟨_, rfl, rfl, ed_some h⟩
    · replace h := ed_neg q8 h
      refine iq_bipush hS 13 J_HGrid_formY_d11 (v := 8) (by decide +kernel) rfl ?_
      refine iq_goto hS J_HGrid_formY_d13 (t := 25) rfl ?_
      exact iq_iret J_HGrid_formY_d25 rfl rfl ⟨_, rfl, rfl, ed_some h⟩
noncomputable def f_HGrid_fixForm_L25 (v7 : Int32) (v8 : Int32) (x9 : Int32) (M10 : im_M) : Option ((Int32 × im_M) ⊕ (im_M)) := if 2 ≤ x9 then some (.inr M10) else bd1 (f_HGrid_formX v8 x9 M10) fun (x11 : Int32) => bd1 (f_HGrid_formY v8 x9 M10) fun (x12 : Int32) => bd1 (f_HGrid_fix x11 x12 ((if ((v7 >>> (v8 &&& 31 : Int32) : Int32) &&& 1) = 0 then 0 else 1) : Int32) M10) fun (M14 : im_M) => some (.inl ((x9 + 1), M14))
noncomputable def f_HGrid_fixForm_L15 (v3 : Int32) (x4 : Int32) (M5 : im_M) : Option ((Int32 × im_M) ⊕ (im_M)) := if 15 ≤ x4 then some (.inr M5) else bd1 (lp (uc2 (f_HGrid_fixForm_L25 v3 x4)) (0, M5)) fun (M15 : im_M) => some (.inl ((x4 + 1), M15))
noncomputable def f_HGrid_fixForm (p0 : Int32) (p1 : Int32) (M : im_M) : Option (im_M) := bd1 (f_HGrid_formWord (((8 : Int32) * (p0 ^^^ 1)) + p1) M) fun (x1 : Int32) => bd1 (lp (uc2 (f_HGrid_fixForm_L15 x1)) (0, M)) fun (M16 : im_M) => some M16
theorem J_HGrid_fixForm_d0 : decode J_HGrid_fixForm.2.1 0 = .ok (.bipush 8, 2) := by decide +kernel
theorem J_HGrid_fixForm_d2 : decode J_HGrid_fixForm.2.1 2 = .ok (.iload_n 1, 1) := by decide +kernel
theorem J_HGrid_fixForm_d3 : decode J_HGrid_fixForm.2.1 3 = .ok (.iconst 1, 1) := by decide +kernel
theorem J_HGrid_fixForm_d4 : decode J_HGrid_fixForm.2.1 4 = .ok (.ixor, 1) := by decide +kernel
theorem J_HGrid_fixForm_d5 : decode J_HGrid_fixForm.2.1 5 = .ok (.imul, 1) := by decide +kernel
theorem J_HGrid_fixForm_d6 : decode J_HGrid_fixForm.2.1 6 = .ok (.iload_n 2, 1) := by decide +kernel
theorem J_HGrid_fixForm_d7 : decode J_HGrid_fixForm.2.1 7 = .ok (.iadd, 1) := by decide +kernel
theorem J_HGrid_fixForm_d8 : decode J_HGrid_fixForm.2.1 8 = .ok (.invokestatic 113, 3) := by decide +kernel
theorem J_HGrid_fixForm_d11 : decode J_HGrid_fixForm.2.1 11 = .ok (.istore_n 3, 1) := by decide +kernel
theorem J_HGrid_fixForm_d12 : decode J_HGrid_fixForm.2.1 12 = .ok (.iconst 0, 1) := by decide +kernel
theorem J_HGrid_fixForm_d13 : decode J_HGrid_fixForm.2.1 13 = .ok (.istore 4, 2) := by decide +kernel
theorem J_HGrid_fixForm_d15 : decode J_HGrid_fixForm.2.1 15 = .ok (.iload 4, 2) := by decide +kernel
theorem J_HGrid_fixForm_d17 : decode J_HGrid_fixForm.2.1 17 = .ok (.bipush 15, 2) := by decide +kernel
theorem J_HGrid_fixForm_d19 : decode J_HGrid_fixForm.2.1 19 = .ok (.if_icmp .ge 58, 3) := by decide +kernel
theorem J_HGrid_fixForm_d22 : decode J_HGrid_fixForm.2.1 22 = .ok (.iconst 0, 1) := by decide +kernel
theorem J_HGrid_fixForm_d23 : decode J_HGrid_fixForm.2.1 23 = .ok (.istore 5, 2) := by decide +kernel
theorem J_HGrid_fixForm_d25 : decode J_HGrid_fixForm.2.1 25 = .ok (.iload 5, 2) := by decide +kernel
theorem J_HGrid_fixForm_d27 : decode J_HGrid_fixForm.2.1 27 = .ok (.iconst 2, 1) := by decide +kernel
theorem J_HGrid_fixForm_d28 : decode J_HGrid_fixForm.2.1 28 = .ok (.if_icmp .ge 43, 3) := by decide +kernel
theorem J_HGrid_fixForm_d31 : decode J_HGrid_fixForm.2.1 31 = .ok (.aload_n 0, 1) := by decide +kernel
theorem J_HGrid_fixForm_d32 : decode J_HGrid_fixForm.2.1 32 = .ok (.aload_n 0, 1) := by decide +kernel
theorem J_HGrid_fixForm_d33 : decode J_HGrid_fixForm.2.1 33 = .ok (.iload 4, 2) := by decide +kernel
theorem J_HGrid_fixForm_d35 : decode J_HGrid_fixForm.2.1 35 = .ok (.iload 5, 2) := by decide +kernel
theorem J_HGrid_fixForm_d37 : decode J_HGrid_fixForm.2.1 37 = .ok (.invokevirtual 116, 3) := by decide +kernel
theorem J_HGrid_fixForm_d40 : decode J_HGrid_fixForm.2.1 40 = .ok (.aload_n 0, 1) := by decide +kernel
theorem J_HGrid_fixForm_d41 : decode J_HGrid_fixForm.2.1 41 = .ok (.iload 4, 2) := by decide +kernel
theorem J_HGrid_fixForm_d43 : decode J_HGrid_fixForm.2.1 43 = .ok (.iload 5, 2) := by decide +kernel
theorem J_HGrid_fixForm_d45 : decode J_HGrid_fixForm.2.1 45 = .ok (.invokevirtual 119, 3) := by decide +kernel
theorem J_HGrid_fixForm_d48 : decode J_HGrid_fixForm.2.1 48 = .ok (.iload_n 3, 1) := by decide +kernel
theorem J_HGrid_fixForm_d49 : decode J_HGrid_fixForm.2.1 49 = .ok (.iload 4, 2) := by decide +kernel
theorem J_HGrid_fixForm_d51 : decode J_HGrid_fixForm.2.1 51 = .ok (.ishr, 1) := by decide +kernel
theorem J_HGrid_fixForm_d52 : decode J_HGrid_fixForm.2.1 52 = .ok (.iconst 1, 1) := by decide +kernel
theorem J_HGrid_fixForm_d53 : decode J_HGrid_fixForm.2.1 53 = .ok (.iand, 1) := by decide +kernel
theorem J_HGrid_fixForm_d54 : decode J_HGrid_fixForm.2.1 54 = .ok (.ifCond .eq 7, 3) := by decide +kernel
theorem J_HGrid_fixForm_d57 : decode J_HGrid_fixForm.2.1 57 = .ok (.iconst 1, 1) := by decide +kernel
theorem J_HGrid_fixForm_d58 : decode J_HGrid_fixForm.2.1 58 = .ok (.goto 4, 3) := by decide +kernel
theorem J_HGrid_fixForm_d61 : decode J_HGrid_fixForm.2.1 61 = .ok (.iconst 0, 1) := by decide +kernel
theorem J_HGrid_fixForm_d62 : decode J_HGrid_fixForm.2.1 62 = .ok (.invokevirtual 83, 3) := by decide +kernel
theorem J_HGrid_fixForm_d65 : decode J_HGrid_fixForm.2.1 65 = .ok (.iinc 5 1, 3) := by decide +kernel
theorem J_HGrid_fixForm_d68 : decode J_HGrid_fixForm.2.1 68 = .ok (.goto (-43), 3) := by decide +kernel
theorem J_HGrid_fixForm_d71 : decode J_HGrid_fixForm.2.1 71 = .ok (.iinc 4 1, 3) := by decide +kernel
theorem J_HGrid_fixForm_d74 : decode J_HGrid_fixForm.2.1 74 = .ok (.goto (-59), 3) := by decide +kernel
theorem J_HGrid_fixForm_d77 : decode J_HGrid_fixForm.2.1 77 = .ok (.return_, 1) := by decide +kernel
theorem f_HGrid_fixForm_ok {L : Nat} {xs : Nat → Int32} {dep : Nat} {w : Bool} {p0 : Int32} {p1 : Int32} {M : im_M} {Q : im_M → Prop} (hM : lw_S w M) (h : ed (f_HGrid_fixForm p0 p1 M) Q) : ia (tb_G L xs) (dep + 2) J_HGrid_fixForm (rwV w Q) (0, lv_args 0 [.ref 38, .int p0, .int p1], [], M) := by
  have hS : im_St (tb_G L xs) (dep + 2) J_HGrid_fixForm (ia (tb_G L xs) (dep + 2) J_HGrid_fixForm (rwV w Q)) := ia_St
  unfold f_HGrid_fixForm at h
  have l0 : im_lk (lv_args 0 [.ref 38, .int p0, .int p1]) 0 = some (.ref 38) := rfl
  have l1 : im_lk (lv_args 0 [.ref 38, .int p0, .int p1]) 1 = some (.int p0) := rfl
  have l2 : im_lk (lv_args 0 [.ref 38, .int p0, .int p1]) 2 = some (.int p1) := rfl
  refine iq_bipush hS 2 J_HGrid_fixForm_d0 (v := 8) (by decide +kernel) rfl ?_
  refine iq_iload_n hS 3 J_HGrid_fixForm_d2 l1 rfl ?_
  refine iq_iconst hS 4 J_HGrid_fixForm_d3 (v := 1) (by decide +kernel) rfl ?_
  refine iq_ixor hS 5 J_HGrid_fixForm_d4 rfl ?_
  refine iq_imul hS 6 J_HGrid_fixForm_d5 rfl ?_
  refine iq_iload_n hS 7 J_HGrid_fixForm_d6 l2 rfl ?_
  refine iq_iadd hS 8 J_HGrid_fixForm_d7 rfl ?_
  obtain ⟨Q1, hQ1, h⟩ := bd1_ed h
  refine iq_cpI hS 11 J_HGrid_fixForm_d8 rfl (pr_stat (vs := [_]) lc_4_113 lT_162 rfl rfl (by decide) rfl (Nat.le_of_ble_eq_true rfl) (Nat.le_of_ble_eq_true rfl)) (f_HGrid_formWord_ok (dep := dep + 0) hM h) rfl ?_
  intro x1 h
  replace h := hQ1 _ h
  refine iq_istore_n hS 12 J_HGrid_fixForm_d11 (by decide) rfl ?_
  refine iq_iconst hS 13 J_HGrid_fixForm_d12 (v := 0) (by decide +kernel) rfl ?_
  refine iq_istore hS 15 J_HGrid_fixForm_d13 (by decide) rfl ?_
  obtain ⟨Q2, hQ2, h⟩ := bd1_ed h
  have K2 : ∀ (M3 : im_M) (L' : List (Nat × Value)), lw_S w M3 → Q2 M3 → ia (tb_G L xs) (dep + 2) J_HGrid_fixForm (rwV w Q) (77, L', [], M3) := by
    intro M3 L' hM3  h
    replace h := hQ2 _ h
    exact iq_ret J_HGrid_fixForm_d77 rfl ⟨rfl, hM3, ed_some h⟩
  obtain ⟨r2, hr2, hq2⟩ := h
  obtain ⟨n2, hn2⟩ := lp_n hr2
  have I2 : ∀ (n : Nat) (x4 : Int32) (M5 : im_M) (L' : List (Nat × Value)), lw_S w M5 → im_lk L' 0 = some (.ref 38) → im_lk L' 3 = some (.int x1) → im_lk L' 4 = some (.int x4) → lpn (uc2 (f_HGrid_fixForm_L15 x1)) n (x4, M5) = some r2 → ia (tb_G L xs) (dep + 2) J_HGrid_fixForm (rwV w Q) (15, L', [], M5) := by
    intro n
    induction n with
    | zero => intro x4 M5 L' hM5 l6 l7 l8 hn; exact (lpn_0 hn).elim
    | succ n ih =>
      intro x4 M5 L' hM5 l6 l7 l8 hn
      have h := lpn_ed2 hn
      unfold f_HGrid_fixForm_L15 at h
      refine iq_iload hS 17 J_HGrid_fixForm_d15 l8 rfl ?_
      refine iq_bipush hS 19 J_HGrid_fixForm_d17 (v := 15) (by decide +kernel) rfl ?_
      refine iq_icmp_ge hS 22 J_HGrid_fixForm_d19 (t := 77) rfl (fun q19 => ?_) rfl (fun q19 => ?_)
      · replace h := ed_pos q19 h
        exact K2 _ _ hM5  (lq_r h hq2)
      · replace h := ed_neg q19 h
        refine iq_iconst hS 23 J_HGrid_fixForm_d22 (v := 0) (by decide +kernel) rfl ?_
        refine iq_istore hS 25 J_HGrid_fixForm_d23 (by decide) rfl ?_
        obtain ⟨Q9, hQ9, h⟩ := bd1_ed h
        have K9 : ∀ (M10 : im_M) (L' : List (Nat × Value)), lw_S w M10 → im_lk L' 0 = some (.ref 38) → im_lk L' 3 = some (.int x1) → im_lk L' 4 = some (.int x4) → Q9 M10 → ia (tb_G L xs) (dep + 2) J_HGrid_fixForm (rwV w Q) (71, L', [], M10) := by
          intro M10 L' hM10 l11 l12 l13 h
          replace h := hQ9 _ h
          refine iq_iincv hS 74 J_HGrid_fixForm_d71 (c := 1) (by decide +kernel) l13 (by decide) rfl ?_
          refine iq_goto hS J_HGrid_fixForm_d74 (t := 15) rfl ?_
          exact ih _ _ _ hM10 (lk_1r l11 (by decide)) (lk_1i l12 (by decide)) lk_1s (lq_l h)
        obtain ⟨r9, hr9, hq9⟩ := h
        obtain ⟨n9, hn9⟩ := lp_n hr9
        have I9 : ∀ (n : Nat) (x14 : Int32) (M15 : im_M) (L' : List (Nat × Value)), lw_S w M15 → im_lk L' 0 = some (.ref 38) → im_lk L' 3 = some (.int x1) → im_lk L' 4 = some (.int x4) → im_lk L' 5 = some (.int x14) → lpn (uc2 (f_HGrid_fixForm_L25 x1 x4)) n (x14, M15) = some r9 → ia (tb_G L xs) (dep + 2) J_HGrid_fixForm (rwV w Q) (25, L', [], M15) := by
          intro n
          induction n with
          | zero => intro x14 M15 L' hM15 l16 l17 l18 l19 hn; exact (lpn_0 hn).elim
          | succ n ih =>
            intro x14 M15 L' hM15 l16 l17 l18 l19 hn
            have h := lpn_ed2 hn
            unfold f_HGrid_fixForm_L25 at h
            refine iq_iload hS 27 J_HGrid_fixForm_d25 l19 rfl ?_
            refine iq_iconst hS 28 J_HGrid_fixForm_d27 (v := 2) (by decide +kernel) rfl ?_
            refine iq_icmp_ge hS 31 J_HGrid_fixForm_d28 (t := 71) rfl (fun q28 => ?_) rfl (fun q28 => ?_)
            · replace h := ed_pos q28 h
              exact K9 _ _ hM15 l16 l17 l18 (lq_r h hq9)
            · replace h := ed_neg q28 h
              refine iq_aload_n hS 32 J_HGrid_fixForm_d31 l16 rfl ?_
              refine iq_aload_n hS 33 J_HGrid_fixForm_d32 l16 rfl ?_
              refine iq_iload hS 35 J_HGrid_fixForm_d33 l18 rfl ?_
              refine iq_iload hS 37 J_HGrid_fixForm_d35 l19 rfl ?_
              obtain ⟨Q20, hQ20, h⟩ := bd1_ed h
              refine iq_cpI hS 40 J_HGrid_fixForm_d37 rfl (pr_inst (vs := [_, _]) lc_4_116 lT_164 rfl rfl (by decide) (by decide) rfl (Nat.le_of_ble_eq_true rfl) (Nat.le_of_ble_eq_true rfl) (fun _ => Or.inl (pr_b (ka_38 hM15) (by decide) rfl))) (f_HGrid_formX_ok (dep := dep + 1) hM15 h) rfl ?_
              intro x20 h
              replace h := hQ20 _ h
              refine iq_aload_n hS 41 J_HGrid_fixForm_d40 l16 rfl ?_
              refine iq_iload hS 43 J_HGrid_fixForm_d41 l18 rfl ?_
              refine iq_iload hS 45 J_HGrid_fixForm_d43 l19 rfl ?_
              obtain ⟨Q21, hQ21, h⟩ := bd1_ed h
              refine iq_cpI hS 48 J_HGrid_fixForm_d45 rfl (pr_inst (vs := [_, _]) lc_4_119 lT_165 rfl rfl (by decide) (by decide) rfl (Nat.le_of_ble_eq_true rfl) (Nat.le_of_ble_eq_true rfl) (fun _ => Or.inl (pr_b (ka_38 hM15) (by decide) rfl))) (f_HGrid_formY_ok (dep := dep + 1) hM15 h) rfl ?_
              intro x21 h
              replace h := hQ21 _ h
              refine iq_iload_n hS 49 J_HGrid_fixForm_d48 l17 rfl ?_
              refine iq_iload hS 51 J_HGrid_fixForm_d49 l18 rfl ?_
              refine iq_ishr hS 52 J_HGrid_fixForm_d51 rfl ?_
              refine iq_iconst hS 53 J_HGrid_fixForm_d52 (v := 1) (by decide +kernel) rfl ?_
              refine iq_iand hS 54 J_HGrid_fixForm_d53 rfl ?_
              have J22 : ∀ (z23 : Int32) (L' : List (Nat × Value)), z23 = ((if ((x1 >>> (x4 &&& 31 : Int32) : Int32) &&& 1) = 0 then 0 else 1) : Int32) → im_lk L' 0 = some (.ref 38) → im_lk L' 3 = some (.int x1) → im_lk L' 4 = some (.int x4) → im_lk L' 5 = some (.int x14) → ia (tb_G L xs) (dep + 2) J_HGrid_fixForm (rwV w Q) (62, L', [.int z23, .int x21, .int x20, .ref 38], M15) := by
                intro z23 L' e24 l25 l26 l27 l28
                subst e24
                obtain ⟨Q29, hQ29, h⟩ := bd1_ed h
                refine iq_cwV hS 65 J_HGrid_fixForm_d62 rfl (pr_inst (vs := [_, _, _]) lc_4_83 lT_156 rfl rfl (by decide) (by decide) rfl (Nat.le_of_ble_eq_true rfl) (Nat.le_of_ble_eq_true rfl) (fun _ => Or.inl (pr_b (ka_38 hM15) (by decide) rfl))) (f_HGrid_fix_ok (dep := dep + 1) hM15 h) rfl ?_
                intro M29 hM29 h
                replace h := hQ29 _ h
                refine iq_iincv hS 68 J_HGrid_fixForm_d65 (c := 1) (by decide +kernel) l28 (by decide) rfl ?_
                refine iq_goto hS J_HGrid_fixForm_d68 (t := 25) rfl ?_
                exact ih _ _ _ hM29 (lk_1r l25 (by decide)) (lk_1i l26 (by decide)) (lk_1i l27 (by decide)) lk_1s (lq_l h)
              refine iq_if_eq hS 57 J_HGrid_fixForm_d54 (t := 61) rfl (fun q54 => ?_) rfl (fun q54 => ?_)
              · refine iq_iconst hS 62 J_HGrid_fixForm_d61 (v := 0) (by decide +kernel) rfl ?_
                exact J22 _ _ (by simp only [if_pos q54]) l16 l17 l18 l19
              · refine iq_iconst hS 58 J_HGrid_fixForm_d57 (v := 1) (by decide +kernel) rfl ?_
                refine iq_goto hS J_HGrid_fixForm_d58 (t := 62) rfl ?_
                exact J22 _ _ (by simp only [if_neg q54]) l16 l17 l18 l19
        exact I9 n9 _ _ _ hM5 (lk_1r l6 (by decide)) (lk_1i l7 (by decide)) (lk_1i l8 (by decide)) lk_1s hn9
  exact I2 n2 _ _ _ hM (lk_1r (lk_1r l0 (by decide)) (by decide)) (lk_1i lk_1s (by decide)) lk_1s hn2
theorem f_HGrid_fixForm_fr {p0 : Int32} {p1 : Int32} {M : im_M} {r : im_M} (h : f_HGrid_fixForm p0 p1 M = some r) : fr 54043195528445952 [] M r := by
  replace h : ed (f_HGrid_fixForm p0 p1 M) (fun x => x = r) := ⟨r, h, rfl⟩
  unfold f_HGrid_fixForm at h
  obtain ⟨Q1, hQ1, h⟩ := bd1_ed h
  obtain ⟨x1, e1, h⟩ := h
  replace h := hQ1 _ h
  obtain ⟨Q2, hQ2, h⟩ := bd1_ed h
  have K2 : ∀ (M3 : im_M), fr 54043195528445952 [] M M3 → Q2 M3 → fr 54043195528445952 [] M r := by
    intro M3 hM3 h
    replace h := hQ2 _ h
    exact fr_retV h hM3
  obtain ⟨r2, hr2, hq2⟩ := h
  obtain ⟨n2, hn2⟩ := lp_n hr2
  have I2 : ∀ (n : Nat) (x4 : Int32) (M5 : im_M), fr 54043195528445952 [] M M5 → lpn (uc2 (f_HGrid_fixForm_L15 x1)) n (x4, M5) = some r2 → fr 54043195528445952 [] M r := by
    intro n
    induction n with
    | zero => intro x4 M5 hM5 hn; exact (lpn_0 hn).elim
    | succ n ih =>
      intro x4 M5 hM5 hn
      have h := lpn_ed2 hn
      unfold f_HGrid_fixForm_L15 at h
      by_cases q19 : 15 ≤ x4
      · replace h := ed_pos q19 h
        exact K2 _ hM5 (lq_r h hq2)
      · replace h := ed_neg q19 h
        obtain ⟨Q6, hQ6, h⟩ := bd1_ed h
        have K6 : ∀ (M7 : im_M), fr 54043195528445952 [] M M7 → Q6 M7 → fr 54043195528445952 [] M r := by
          intro M7 hM7 h
          replace h := hQ6 _ h
          exact ih _ _ hM7 (lq_l h)
        obtain ⟨r6, hr6, hq6⟩ := h
        obtain ⟨n6, hn6⟩ := lp_n hr6
        have I6 : ∀ (n : Nat) (x8 : Int32) (M9 : im_M), fr 54043195528445952 [] M M9 → lpn (uc2 (f_HGrid_fixForm_L25 x1 x4)) n (x8, M9) = some r6 → fr 54043195528445952 [] M r := by
          intro n
          induction n with
          | zero => intro x8 M9 hM9 hn; exact (lpn_0 hn).elim
          | succ n ih =>
            intro x8 M9 hM9 hn
            have h := lpn_ed2 hn
            unfold f_HGrid_fixForm_L25 at h
            by_cases q28 : 2 ≤ x8
            · replace h := ed_pos q28 h
              exact K6 _ hM9 (lq_r h hq6)
            · replace h := ed_neg q28 h
              obtain ⟨Q10, hQ10, h⟩ := bd1_ed h
              obtain ⟨x10, e10, h⟩ := h
              replace h := hQ10 _ h
              obtain ⟨Q11, hQ11, h⟩ := bd1_ed h
              obtain ⟨x11, e11, h⟩ := h
              replace h := hQ11 _ h
              obtain ⟨Q13, hQ13, h⟩ := bd1_ed h
              obtain ⟨M13, e13, h⟩ := h
              replace h := hQ13 _ h
              exact ih _ _ (fr_tr (fr_mono (by decide) (by decide +kernel) (f_HGrid_fix_fr e13)) hM9) (lq_l h)
        exact I6 n6 _ _ hM5 hn6
  exact I2 n2 _ _ fr_refl hn2
noncomputable def f_HGrid_fixVersion_L28 (v3 : Int32) (x4 : Int32) (M5 : im_M) : Option ((Int32 × im_M) ⊕ (im_M)) := if 18 ≤ x4 then some (.inr M5) else bd1 (f_HGrid_fix (((im_i M5 38 1) - 11) + (x4 - x4 / 3 * 3)) (x4 / 3) ((if ((v3 >>> (x4 &&& 31 : Int32) : Int32) &&& 1) = 0 then 0 else 1) : Int32) M5) fun (M7 : im_M) => bd1 (f_HGrid_fix (x4 / 3) (((im_i M7 38 1) - 11) + (x4 - x4 / 3 * 3)) ((if ((v3 >>> (x4 &&& 31 : Int32) : Int32) &&& 1) = 0 then 0 else 1) : Int32) M7) fun (M8 : im_M) => some (.inl ((x4 + 1), M8))
noncomputable def f_HGrid_fixVersion (M : im_M) : Option (im_M) := bd1 (f_HGrid_rest ((im_i M 38 6) <<< (12 &&& 31 : Int32) : Int32) 7973 12 18 M) fun (x1 : Int32) => bd1 (lp (uc2 (f_HGrid_fixVersion_L28 (((im_i M 38 6) <<< (12 &&& 31 : Int32) : Int32) ||| x1))) (0, M)) fun (M9 : im_M) => some M9
theorem J_HGrid_fixVersion_d0 : decode J_HGrid_fixVersion.2.1 0 = .ok (.aload_n 0, 1) := by decide +kernel
theorem J_HGrid_fixVersion_d1 : decode J_HGrid_fixVersion.2.1 1 = .ok (.getfield 71, 3) := by decide +kernel
theorem J_HGrid_fixVersion_d4 : decode J_HGrid_fixVersion.2.1 4 = .ok (.bipush 12, 2) := by decide +kernel
theorem J_HGrid_fixVersion_d6 : decode J_HGrid_fixVersion.2.1 6 = .ok (.ishl, 1) := by decide +kernel
theorem J_HGrid_fixVersion_d7 : decode J_HGrid_fixVersion.2.1 7 = .ok (.aload_n 0, 1) := by decide +kernel
theorem J_HGrid_fixVersion_d8 : decode J_HGrid_fixVersion.2.1 8 = .ok (.getfield 71, 3) := by decide +kernel
theorem J_HGrid_fixVersion_d11 : decode J_HGrid_fixVersion.2.1 11 = .ok (.bipush 12, 2) := by decide +kernel
theorem J_HGrid_fixVersion_d13 : decode J_HGrid_fixVersion.2.1 13 = .ok (.ishl, 1) := by decide +kernel
theorem J_HGrid_fixVersion_d14 : decode J_HGrid_fixVersion.2.1 14 = .ok (.sipush 7973, 3) := by decide +kernel
theorem J_HGrid_fixVersion_d17 : decode J_HGrid_fixVersion.2.1 17 = .ok (.bipush 12, 2) := by decide +kernel
theorem J_HGrid_fixVersion_d19 : decode J_HGrid_fixVersion.2.1 19 = .ok (.bipush 18, 2) := by decide +kernel
theorem J_HGrid_fixVersion_d21 : decode J_HGrid_fixVersion.2.1 21 = .ok (.invokestatic 109, 3) := by decide +kernel
theorem J_HGrid_fixVersion_d24 : decode J_HGrid_fixVersion.2.1 24 = .ok (.ior, 1) := by decide +kernel
theorem J_HGrid_fixVersion_d25 : decode J_HGrid_fixVersion.2.1 25 = .ok (.istore_n 1, 1) := by decide +kernel
theorem J_HGrid_fixVersion_d26 : decode J_HGrid_fixVersion.2.1 26 = .ok (.iconst 0, 1) := by decide +kernel
theorem J_HGrid_fixVersion_d27 : decode J_HGrid_fixVersion.2.1 27 = .ok (.istore_n 2, 1) := by decide +kernel
theorem J_HGrid_fixVersion_d28 : decode J_HGrid_fixVersion.2.1 28 = .ok (.iload_n 2, 1) := by decide +kernel
theorem J_HGrid_fixVersion_d29 : decode J_HGrid_fixVersion.2.1 29 = .ok (.bipush 18, 2) := by decide +kernel
theorem J_HGrid_fixVersion_d31 : decode J_HGrid_fixVersion.2.1 31 = .ok (.if_icmp .ge 61, 3) := by decide +kernel
theorem J_HGrid_fixVersion_d34 : decode J_HGrid_fixVersion.2.1 34 = .ok (.iload_n 1, 1) := by decide +kernel
theorem J_HGrid_fixVersion_d35 : decode J_HGrid_fixVersion.2.1 35 = .ok (.iload_n 2, 1) := by decide +kernel
theorem J_HGrid_fixVersion_d36 : decode J_HGrid_fixVersion.2.1 36 = .ok (.ishr, 1) := by decide +kernel
theorem J_HGrid_fixVersion_d37 : decode J_HGrid_fixVersion.2.1 37 = .ok (.iconst 1, 1) := by decide +kernel
theorem J_HGrid_fixVersion_d38 : decode J_HGrid_fixVersion.2.1 38 = .ok (.iand, 1) := by decide +kernel
theorem J_HGrid_fixVersion_d39 : decode J_HGrid_fixVersion.2.1 39 = .ok (.ifCond .eq 7, 3) := by decide +kernel
theorem J_HGrid_fixVersion_d42 : decode J_HGrid_fixVersion.2.1 42 = .ok (.iconst 1, 1) := by decide +kernel
theorem J_HGrid_fixVersion_d43 : decode J_HGrid_fixVersion.2.1 43 = .ok (.goto 4, 3) := by decide +kernel
theorem J_HGrid_fixVersion_d46 : decode J_HGrid_fixVersion.2.1 46 = .ok (.iconst 0, 1) := by decide +kernel
theorem J_HGrid_fixVersion_d47 : decode J_HGrid_fixVersion.2.1 47 = .ok (.istore_n 3, 1) := by decide +kernel
theorem J_HGrid_fixVersion_d48 : decode J_HGrid_fixVersion.2.1 48 = .ok (.aload_n 0, 1) := by decide +kernel
theorem J_HGrid_fixVersion_d49 : decode J_HGrid_fixVersion.2.1 49 = .ok (.aload_n 0, 1) := by decide +kernel
theorem J_HGrid_fixVersion_d50 : decode J_HGrid_fixVersion.2.1 50 = .ok (.getfield 74, 3) := by decide +kernel
theorem J_HGrid_fixVersion_d53 : decode J_HGrid_fixVersion.2.1 53 = .ok (.bipush 11, 2) := by decide +kernel
theorem J_HGrid_fixVersion_d55 : decode J_HGrid_fixVersion.2.1 55 = .ok (.isub, 1) := by decide +kernel
theorem J_HGrid_fixVersion_d56 : decode J_HGrid_fixVersion.2.1 56 = .ok (.iload_n 2, 1) := by decide +kernel
theorem J_HGrid_fixVersion_d57 : decode J_HGrid_fixVersion.2.1 57 = .ok (.iconst 3, 1) := by decide +kernel
theorem J_HGrid_fixVersion_d58 : decode J_HGrid_fixVersion.2.1 58 = .ok (.irem, 1) := by decide +kernel
theorem J_HGrid_fixVersion_d59 : decode J_HGrid_fixVersion.2.1 59 = .ok (.iadd, 1) := by decide +kernel
theorem J_HGrid_fixVersion_d60 : decode J_HGrid_fixVersion.2.1 60 = .ok (.iload_n 2, 1) := by decide +kernel
theorem J_HGrid_fixVersion_d61 : decode J_HGrid_fixVersion.2.1 61 = .ok (.iconst 3, 1) := by decide +kernel
theorem J_HGrid_fixVersion_d62 : decode J_HGrid_fixVersion.2.1 62 = .ok (.idiv, 1) := by decide +kernel
theorem J_HGrid_fixVersion_d63 : decode J_HGrid_fixVersion.2.1 63 = .ok (.iload_n 3, 1) := by decide +kernel
theorem J_HGrid_fixVersion_d64 : decode J_HGrid_fixVersion.2.1 64 = .ok (.invokevirtual 83, 3) := by decide +kernel
theorem J_HGrid_fixVersion_d67 : decode J_HGrid_fixVersion.2.1 67 = .ok (.aload_n 0, 1) := by decide +kernel
theorem J_HGrid_fixVersion_d68 : decode J_HGrid_fixVersion.2.1 68 = .ok (.iload_n 2, 1) := by decide +kernel
theorem J_HGrid_fixVersion_d69 : decode J_HGrid_fixVersion.2.1 69 = .ok (.iconst 3, 1) := by decide +kernel
theorem J_HGrid_fixVersion_d70 : decode J_HGrid_fixVersion.2.1 70 = .ok (.idiv, 1) := by decide +kernel
theorem J_HGrid_fixVersion_d71 : decode J_HGrid_fixVersion.2.1 71 = .ok (.aload_n 0, 1) := by decide +kernel
theorem J_HGrid_fixVersion_d72 : decode J_HGrid_fixVersion.2.1 72 = .ok (.getfield 74, 3) := by decide +kernel
theorem J_HGrid_fixVersion_d75 : decode J_HGrid_fixVersion.2.1 75 = .ok (.bipush 11, 2) := by decide +kernel
theorem J_HGrid_fixVersion_d77 : decode J_HGrid_fixVersion.2.1 77 = .ok (.isub, 1) := by decide +kernel
theorem J_HGrid_fixVersion_d78 : decode J_HGrid_fixVersion.2.1 78 = .ok (.iload_n 2, 1) := by decide +kernel
theorem J_HGrid_fixVersion_d79 : decode J_HGrid_fixVersion.2.1 79 = .ok (.iconst 3, 1) := by decide +kernel
theorem J_HGrid_fixVersion_d80 : decode J_HGrid_fixVersion.2.1 80 = .ok (.irem, 1) := by decide +kernel
theorem J_HGrid_fixVersion_d81 : decode J_HGrid_fixVersion.2.1 81 = .ok (.iadd, 1) := by decide +kernel
theorem J_HGrid_fixVersion_d82 : decode J_HGrid_fixVersion.2.1 82 = .ok (.iload_n 3, 1) := by decide +kernel
theorem J_HGrid_fixVersion_d83 : decode J_HGrid_fixVersion.2.1 83 = .ok (.invokevirtual 83, 3) := by decide +kernel
theorem J_HGrid_fixVersion_d86 : decode J_HGrid_fixVersion.2.1 86 = .ok (.iinc 2 1, 3) := by decide +kernel
theorem J_HGrid_fixVersion_d89 : decode J_HGrid_fixVersion.2.1 89 = .ok (.goto (-61), 3) := by decide +kernel
theorem J_HGrid_fixVersion_d92 : decode J_HGrid_fixVersion.2.1 92 = .ok (.return_, 1) := by decide +kernel
theorem f_HGrid_fixVersion_ok {L : Nat} {xs : Nat → Int32} {dep : Nat} {w : Bool} {M : im_M} {Q : im_M → Prop} (hM : lw_S w M) (h : ed (f_HGrid_fixVersion M) Q) : ia (tb_G L xs) (dep + 1) J_HGrid_fixVersion (rwV w Q) (0, lv_args 0 [.ref 38], [], M) := by
  have hS : im_St (tb_G L xs) (dep + 1) J_HGrid_fixVersion (ia (tb_G L xs) (dep + 1) J_HGrid_fixVersion (rwV w Q)) := ia_St
  unfold f_HGrid_fixVersion at h
  have l0 : im_lk (lv_args 0 [.ref 38]) 0 = some (.ref 38) := rfl
  refine iq_aload_n hS 1 J_HGrid_fixVersion_d0 l0 rfl ?_
  refine iq_getI hS 4 J_HGrid_fixVersion_d1 lf_4_71 (Or.inl rfl) (ka_38 hM) rfl ?_
  refine iq_bipush hS 6 J_HGrid_fixVersion_d4 (v := 12) (by decide +kernel) rfl ?_
  refine iq_ishl hS 7 J_HGrid_fixVersion_d6 rfl ?_
  refine iq_aload_n hS 8 J_HGrid_fixVersion_d7 l0 rfl ?_
  refine iq_getI hS 11 J_HGrid_fixVersion_d8 lf_4_71 (Or.inl rfl) (ka_38 hM) rfl ?_
  refine iq_bipush hS 13 J_HGrid_fixVersion_d11 (v := 12) (by decide +kernel) rfl ?_
  refine iq_ishl hS 14 J_HGrid_fixVersion_d13 rfl ?_
  refine iq_sipush hS 17 J_HGrid_fixVersion_d14 (v := 7973) (by decide +kernel) rfl ?_
  refine iq_bipush hS 19 J_HGrid_fixVersion_d17 (v := 12) (by decide +kernel) rfl ?_
  refine iq_bipush hS 21 J_HGrid_fixVersion_d19 (v := 18) (by decide +kernel) rfl ?_
  obtain ⟨Q1, hQ1, h⟩ := bd1_ed h
  refine iq_cpI hS 24 J_HGrid_fixVersion_d21 rfl (pr_stat (vs := [_, _, _, _]) lc_4_109 lT_163 rfl rfl (by decide) rfl (Nat.le_of_ble_eq_true rfl) (Nat.le_of_ble_eq_true rfl)) (f_HGrid_rest_ok (dep := dep + 0) hM h) rfl ?_
  intro x1 h
  replace h := hQ1 _ h
  refine iq_ior hS 25 J_HGrid_fixVersion_d24 rfl ?_
  refine iq_istore_n hS 26 J_HGrid_fixVersion_d25 (by decide) rfl ?_
  refine iq_iconst hS 27 J_HGrid_fixVersion_d26 (v := 0) (by decide +kernel) rfl ?_
  refine iq_istore_n hS 28 J_HGrid_fixVersion_d27 (by decide) rfl ?_
  obtain ⟨Q2, hQ2, h⟩ := bd1_ed h
  have K2 : ∀ (M3 : im_M) (L' : List (Nat × Value)), lw_S w M3 → Q2 M3 → ia (tb_G L xs) (dep + 1) J_HGrid_fixVersion (rwV w Q) (92, L', [], M3) := by
    intro M3 L' hM3  h
    replace h := hQ2 _ h
    exact iq_ret J_HGrid_fixVersion_d92 rfl ⟨rfl, hM3, ed_some h⟩
  obtain ⟨r2, hr2, hq2⟩ := h
  obtain ⟨n2, hn2⟩ := lp_n hr2
  have I2 : ∀ (n : Nat) (x4 : Int32) (M5 : im_M) (L' : List (Nat × Value)), lw_S w M5 → im_lk L' 0 = some (.ref 38) → im_lk L' 1 = some (.int (((im_i M 38 6) <<< (12 &&& 31 : Int32) : Int32) ||| x1)) → im_lk L' 2 = some (.int x4) → lpn (uc2 (f_HGrid_fixVersion_L28 (((im_i M 38 6) <<< (12 &&& 31 : Int32) : Int32) ||| x1))) n (x4, M5) = some r2 → ia (tb_G L xs) (dep + 1) J_HGrid_fixVersion (rwV w Q) (28, L', [], M5) := by
    intro n
    induction n with
    | zero => intro x4 M5 L' hM5 l6 l7 l8 hn; exact (lpn_0 hn).elim
    | succ n ih =>
      intro x4 M5 L' hM5 l6 l7 l8 hn
      have h := lpn_ed2 hn
      unfold f_HGrid_fixVersion_L28 at h
      refine iq_iload_n hS 29 J_HGrid_fixVersion_d28 l8 rfl ?_
      refine iq_bipush hS 31 J_HGrid_fixVersion_d29 (v := 18) (by decide +kernel) rfl ?_
      refine iq_icmp_ge hS 34 J_HGrid_fixVersion_d31 (t := 92) rfl (fun q31 => ?_) rfl (fun q31 => ?_)
      · replace h := ed_pos q31 h
        exact K2 _ _ hM5  (lq_r h hq2)
      · replace h := ed_neg q31 h
        refine iq_iload_n hS 35 J_HGrid_fixVersion_d34 l7 rfl ?_
        refine iq_iload_n hS 36 J_HGrid_fixVersion_d35 l8 rfl ?_
        refine iq_ishr hS 37 J_HGrid_fixVersion_d36 rfl ?_
        refine iq_iconst hS 38 J_HGrid_fixVersion_d37 (v := 1) (by decide +kernel) rfl ?_
        refine iq_iand hS 39 J_HGrid_fixVersion_d38 rfl ?_
        have J9 : ∀ (z10 : Int32) (L' : List (Nat × Value)), z10 = ((if (((((im_i M 38 6) <<< (12 &&& 31 : Int32) : Int32) ||| x1) >>> (x4 &&& 31 : Int32) : Int32) &&& 1) = 0 then 0 else 1) : Int32) → im_lk L' 0 = some (.ref 38) → im_lk L' 1 = some (.int (((im_i M 38 6) <<< (12 &&& 31 : Int32) : Int32) ||| x1)) → im_lk L' 2 = some (.int x4) → ia (tb_G L xs) (dep + 1) J_HGrid_fixVersion (rwV w Q) (47, L', [.int z10], M5) := by
          intro z10 L' e11 l12 l13 l14
          subst e11
          refine iq_istore_n hS 48 J_HGrid_fixVersion_d47 (by decide) rfl ?_
          refine iq_aload_n hS 49 J_HGrid_fixVersion_d48 (lk_1r l12 (by decide)) rfl ?_
          refine iq_aload_n hS 50 J_HGrid_fixVersion_d49 (lk_1r l12 (by decide)) rfl ?_
          refine iq_getI hS 53 J_HGrid_fixVersion_d50 lf_4_74 (Or.inl rfl) (ka_38 hM5) rfl ?_
          refine iq_bipush hS 55 J_HGrid_fixVersion_d53 (v := 11) (by decide +kernel) rfl ?_
          refine iq_isub hS 56 J_HGrid_fixVersion_d55 rfl ?_
          refine iq_iload_n hS 57 J_HGrid_fixVersion_d56 (lk_1i l14 (by decide)) rfl ?_
          refine iq_iconst hS 58 J_HGrid_fixVersion_d57 (v := 3) (by decide +kernel) rfl ?_
          refine iq_irem hS 59 J_HGrid_fixVersion_d58 (by decide) rfl ?_
          refine iq_iadd hS 60 J_HGrid_fixVersion_d59 rfl ?_
          refine iq_iload_n hS 61 J_HGrid_fixVersion_d60 (lk_1i l14 (by decide)) rfl ?_
          refine iq_iconst hS 62 J_HGrid_fixVersion_d61 (v := 3) (by decide +kernel) rfl ?_
          refine iq_idiv hS 63 J_HGrid_fixVersion_d62 (by decide) rfl ?_
          refine iq_iload_n hS 64 J_HGrid_fixVersion_d63 lk_1s rfl ?_
          obtain ⟨Q15, hQ15, h⟩ := bd1_ed h
          refine iq_cwV hS 67 J_HGrid_fixVersion_d64 rfl (pr_inst (vs := [_, _, _]) lc_4_83 lT_156 rfl rfl (by decide) (by decide) rfl (Nat.le_of_ble_eq_true rfl) (Nat.le_of_ble_eq_true rfl) (fun _ => Or.inl (pr_b (ka_38 hM5) (by decide) rfl))) (f_HGrid_fix_ok (dep := dep + 0) hM5 h) rfl ?_
          intro M15 hM15 h
          replace h := hQ15 _ h
          refine iq_aload_n hS 68 J_HGrid_fixVersion_d67 (lk_1r l12 (by decide)) rfl ?_
          refine iq_iload_n hS 69 J_HGrid_fixVersion_d68 (lk_1i l14 (by decide)) rfl ?_
          refine iq_iconst hS 70 J_HGrid_fixVersion_d69 (v := 3) (by decide +kernel) rfl ?_
          refine iq_idiv hS 71 J_HGrid_fixVersion_d70 (by decide) rfl ?_
          refine iq_aload_n hS 72 J_HGrid_fixVersion_d71 (lk_1r l12 (by decide)) rfl ?_
          refine iq_getI hS 75 J_HGrid_fixVersion_d72 lf_4_74 (Or.inl rfl) (ka_38 hM15) rfl ?_
          refine iq_bipush hS 77 J_HGrid_fixVersion_d75 (v := 11) (by decide +kernel) rfl ?_
          refine iq_isub hS 78 J_HGrid_fixVersion_d77 rfl ?_
          refine iq_iload_n hS 79 J_HGrid_fixVersion_d78 (lk_1i l14 (by decide)) rfl ?_
          refine iq_iconst hS 80 J_HGrid_fixVersion_d79 (v := 3) (by decide +kernel) rfl ?_
          refine iq_irem hS 81 J_HGrid_fixVersion_d80 (by decide) rfl ?_
          refine iq_iadd hS 82 J_HGrid_fixVersion_d81 rfl ?_
          refine iq_iload_n hS 83 J_HGrid_fixVersion_d82 lk_1s rfl ?_
          obtain ⟨Q16, hQ16, h⟩ := bd1_ed h
          refine iq_cwV hS 86 J_HGrid_fixVersion_d83 rfl (pr_inst (vs := [_, _, _]) lc_4_83 lT_156 rfl rfl (by decide) (by decide) rfl (Nat.le_of_ble_eq_true rfl) (Nat.le_of_ble_eq_true rfl) (fun _ => Or.inl (pr_b (ka_38 hM15) (by decide) rfl))) (f_HGrid_fix_ok (dep := dep + 0) hM15 h) rfl ?_
          intro M16 hM16 h
          replace h := hQ16 _ h
          refine iq_iincv hS 89 J_HGrid_fixVersion_d86 (c := 1) (by decide +kernel) (lk_1i l14 (by decide)) (by decide) rfl ?_
          refine iq_goto hS J_HGrid_fixVersion_d89 (t := 28) rfl ?_
          exact ih _ _ _ hM16 (lk_1r (lk_1r l12 (by decide)) (by decide)) (lk_1i (lk_1i l13 (by decide)) (by decide)) lk_1s (lq_l h)
        refine iq_if_eq hS 42 J_HGrid_fixVersion_d39 (t := 46) rfl (fun q39 => ?_) rfl (fun q39 => ?_)
        · refine iq_iconst hS 47 J_HGrid_fixVersion_d46 (v := 0) (by decide +kernel) rfl ?_
          exact J9 _ _ (by simp only [if_pos q39]) l6 l7 l8
        · refine iq_iconst hS 43 J_HGrid_fixVersion_d42 (v := 1) (by decide +kernel) rfl ?_
          refine iq_goto hS J_HGrid_fixVersion_d43 (t := 47) rfl ?_
          exact J9 _ _ (by simp only [if_neg q39]) l6 l7 l8
  exact I2 n2 _ _ _ hM (lk_1r (lk_1r l0 (by decide)) (by decide)) (lk_1i lk_1s (by decide)) lk_1s hn2
theorem f_HGrid_fixVersion_fr {M : im_M} {r : im_M} (h : f_HGrid_fixVersion M = some r) : fr 54043195528445952 [] M r := by
  replace h : ed (f_HGrid_fixVersion M) (fun x => x = r) := ⟨r, h, rfl⟩
  unfold f_HGrid_fixVersion at h
  obtain ⟨Q1, hQ1, h⟩ := bd1_ed h
  obtain ⟨x1, e1, h⟩ := h
  replace h := hQ1 _ h
  obtain ⟨Q2, hQ2, h⟩ := bd1_ed h
  have K2 : ∀ (M3 : im_M), fr 54043195528445952 [] M M3 → Q2 M3 → fr 54043195528445952 [] M r := by
    intro M3 hM3 h
    replace h := hQ2 _ h
    exact fr_retV h hM3
  obtain ⟨r2, hr2, hq2⟩ := h
  obtain ⟨n2, hn2⟩ := lp_n hr2
  have I2 : ∀ (n : Nat) (x4 : Int32) (M5 : im_M), fr 54043195528445952 [] M M5 → lpn (uc2 (f_HGrid_fixVersion_L28 (((im_i M 38 6) <<< (12 &&& 31 : Int32) : Int32) ||| x1))) n (x4, M5) = some r2 → fr 54043195528445952 [] M r := by
    intro n
    induction n with
    | zero => intro x4 M5 hM5 hn; exact (lpn_0 hn).elim
    | succ n ih =>
      intro x4 M5 hM5 hn
      have h := lpn_ed2 hn
      unfold f_HGrid_fixVersion_L28 at h
      by_cases q31 : 18 ≤ x4
      · replace h := ed_pos q31 h
        exact K2 _ hM5 (lq_r h hq2)
      · replace h := ed_neg q31 h
        obtain ⟨Q7, hQ7, h⟩ := bd1_ed h
        obtain ⟨M7, e7, h⟩ := h
        replace h := hQ7 _ h
        obtain ⟨Q8, hQ8, h⟩ := bd1_ed h
        obtain ⟨M8, e8, h⟩ := h
        replace h := hQ8 _ h
        exact ih _ _ (fr_tr (fr_mono (by decide) (by decide +kernel) (f_HGrid_fix_fr e8)) (fr_tr (fr_mono (by decide) (by decide +kernel) (f_HGrid_fix_fr e7)) hM5)) (lq_l h)
  exact I2 n2 _ _ fr_refl hn2
noncomputable def f_HGrid_begin_L20 (x2 : Int32) (M3 : im_M) : Option ((Int32 × im_M) ⊕ (im_M)) := if (im_i M3 38 1) ≤ x2 then some (.inr M3) else bd1 (f_Arrays_fill3_1 (x2 * 177) ((x2 * 177) + (im_i M3 38 1)) 0 M3) fun (M4 : im_M) => bd1 (f_Arrays_fill3_2 (x2 * 177) ((x2 * 177) + (im_i M4 38 1)) 0 M4) fun (M5 : im_M) => some (.inl ((x2 + 1), M5))
noncomputable def f_HGrid_begin_L82 (x8 : Int32) (M9 : im_M) : Option ((Int32 × im_M) ⊕ (im_M)) := if (im_i M9 38 1) ≤ x8 then some (.inr M9) else bd1 (f_HGrid_fix x8 6 ((if ¬ (x8 - x8 / 2 * 2) = 0 then 0 else 1) : Int32) M9) fun (M11 : im_M) => bd1 (f_HGrid_fix 6 x8 ((if ¬ (x8 - x8 / 2 * 2) = 0 then 0 else 1) : Int32) M11) fun (M13 : im_M) => some (.inl ((x8 + 1), M13))
noncomputable def f_HGrid_begin (p0 : Int32) (M : im_M) : Option (im_M) := bd1 (lp (uc2 (f_HGrid_begin_L20)) (0, (im_setI (im_setI M 38 6 p0) 38 1 ((17 : Int32) + ((4 : Int32) * (im_i (im_setI M 38 6 p0) 38 6)))))) fun (M6 : im_M) => bd1 (lp (uc2 (f_HGrid_begin_L82)) (0, M6)) fun (M14 : im_M) => bd1 (f_HGrid_fixSquares 3 3 4 2 M14) fun (M15 : im_M) => bd1 (f_HGrid_fixSquares ((im_i M15 38 1) - 4) 3 4 2 M15) fun (M16 : im_M) => bd1 (f_HGrid_fixSquares 3 ((im_i M16 38 1) - 4) 4 2 M16) fun (M17 : im_M) => bd1 (if (im_i M17 38 6) ≤ 1 then some M17 else bd1 (f_HGrid_fixSmallSquares M17) fun (M19 : im_M) => some M19) fun (M20 : im_M) => bd1 (f_HGrid_fixForm 0 0 M20) fun (M22 : im_M) => bd1 (f_HGrid_fix 8 ((im_i M22 38 1) - 8) 1 M22) fun (M23 : im_M) => if (im_i M23 38 6) ≤ 6 then some M23 else bd1 (f_HGrid_fixVersion M23) fun (M24 : im_M) => some M24
theorem J_HGrid_begin_d0 : decode J_HGrid_begin.2.1 0 = .ok (.aload_n 0, 1) := by decide +kernel
theorem J_HGrid_begin_d1 : decode J_HGrid_begin.2.1 1 = .ok (.iload_n 1, 1) := by decide +kernel
theorem J_HGrid_begin_d2 : decode J_HGrid_begin.2.1 2 = .ok (.putfield 71, 3) := by decide +kernel
theorem J_HGrid_begin_d5 : decode J_HGrid_begin.2.1 5 = .ok (.aload_n 0, 1) := by decide +kernel
theorem J_HGrid_begin_d6 : decode J_HGrid_begin.2.1 6 = .ok (.bipush 17, 2) := by decide +kernel
theorem J_HGrid_begin_d8 : decode J_HGrid_begin.2.1 8 = .ok (.iconst 4, 1) := by decide +kernel
theorem J_HGrid_begin_d9 : decode J_HGrid_begin.2.1 9 = .ok (.aload_n 0, 1) := by decide +kernel
theorem J_HGrid_begin_d10 : decode J_HGrid_begin.2.1 10 = .ok (.getfield 71, 3) := by decide +kernel
theorem J_HGrid_begin_d13 : decode J_HGrid_begin.2.1 13 = .ok (.imul, 1) := by decide +kernel
theorem J_HGrid_begin_d14 : decode J_HGrid_begin.2.1 14 = .ok (.iadd, 1) := by decide +kernel
theorem J_HGrid_begin_d15 : decode J_HGrid_begin.2.1 15 = .ok (.putfield 74, 3) := by decide +kernel
theorem J_HGrid_begin_d18 : decode J_HGrid_begin.2.1 18 = .ok (.iconst 0, 1) := by decide +kernel
theorem J_HGrid_begin_d19 : decode J_HGrid_begin.2.1 19 = .ok (.istore_n 2, 1) := by decide +kernel
theorem J_HGrid_begin_d20 : decode J_HGrid_begin.2.1 20 = .ok (.iload_n 2, 1) := by decide +kernel
theorem J_HGrid_begin_d21 : decode J_HGrid_begin.2.1 21 = .ok (.aload_n 0, 1) := by decide +kernel
theorem J_HGrid_begin_d22 : decode J_HGrid_begin.2.1 22 = .ok (.getfield 74, 3) := by decide +kernel
theorem J_HGrid_begin_d25 : decode J_HGrid_begin.2.1 25 = .ok (.if_icmp .ge 55, 3) := by decide +kernel
theorem J_HGrid_begin_d28 : decode J_HGrid_begin.2.1 28 = .ok (.aload_n 0, 1) := by decide +kernel
theorem J_HGrid_begin_d29 : decode J_HGrid_begin.2.1 29 = .ok (.getfield 29, 3) := by decide +kernel
theorem J_HGrid_begin_d32 : decode J_HGrid_begin.2.1 32 = .ok (.iload_n 2, 1) := by decide +kernel
theorem J_HGrid_begin_d33 : decode J_HGrid_begin.2.1 33 = .ok (.sipush 177, 3) := by decide +kernel
theorem J_HGrid_begin_d36 : decode J_HGrid_begin.2.1 36 = .ok (.imul, 1) := by decide +kernel
theorem J_HGrid_begin_d37 : decode J_HGrid_begin.2.1 37 = .ok (.iload_n 2, 1) := by decide +kernel
theorem J_HGrid_begin_d38 : decode J_HGrid_begin.2.1 38 = .ok (.sipush 177, 3) := by decide +kernel
theorem J_HGrid_begin_d41 : decode J_HGrid_begin.2.1 41 = .ok (.imul, 1) := by decide +kernel
theorem J_HGrid_begin_d42 : decode J_HGrid_begin.2.1 42 = .ok (.aload_n 0, 1) := by decide +kernel
theorem J_HGrid_begin_d43 : decode J_HGrid_begin.2.1 43 = .ok (.getfield 74, 3) := by decide +kernel
theorem J_HGrid_begin_d46 : decode J_HGrid_begin.2.1 46 = .ok (.iadd, 1) := by decide +kernel
theorem J_HGrid_begin_d47 : decode J_HGrid_begin.2.1 47 = .ok (.iconst 0, 1) := by decide +kernel
theorem J_HGrid_begin_d48 : decode J_HGrid_begin.2.1 48 = .ok (.invokestatic 77, 3) := by decide +kernel
theorem J_HGrid_begin_d51 : decode J_HGrid_begin.2.1 51 = .ok (.aload_n 0, 1) := by decide +kernel
theorem J_HGrid_begin_d52 : decode J_HGrid_begin.2.1 52 = .ok (.getfield 25, 3) := by decide +kernel
theorem J_HGrid_begin_d55 : decode J_HGrid_begin.2.1 55 = .ok (.iload_n 2, 1) := by decide +kernel
theorem J_HGrid_begin_d56 : decode J_HGrid_begin.2.1 56 = .ok (.sipush 177, 3) := by decide +kernel
theorem J_HGrid_begin_d59 : decode J_HGrid_begin.2.1 59 = .ok (.imul, 1) := by decide +kernel
theorem J_HGrid_begin_d60 : decode J_HGrid_begin.2.1 60 = .ok (.iload_n 2, 1) := by decide +kernel
theorem J_HGrid_begin_d61 : decode J_HGrid_begin.2.1 61 = .ok (.sipush 177, 3) := by decide +kernel
theorem J_HGrid_begin_d64 : decode J_HGrid_begin.2.1 64 = .ok (.imul, 1) := by decide +kernel
theorem J_HGrid_begin_d65 : decode J_HGrid_begin.2.1 65 = .ok (.aload_n 0, 1) := by decide +kernel
theorem J_HGrid_begin_d66 : decode J_HGrid_begin.2.1 66 = .ok (.getfield 74, 3) := by decide +kernel
theorem J_HGrid_begin_d69 : decode J_HGrid_begin.2.1 69 = .ok (.iadd, 1) := by decide +kernel
theorem J_HGrid_begin_d70 : decode J_HGrid_begin.2.1 70 = .ok (.iconst 0, 1) := by decide +kernel
theorem J_HGrid_begin_d71 : decode J_HGrid_begin.2.1 71 = .ok (.invokestatic 77, 3) := by decide +kernel
theorem J_HGrid_begin_d74 : decode J_HGrid_begin.2.1 74 = .ok (.iinc 2 1, 3) := by decide +kernel
theorem J_HGrid_begin_d77 : decode J_HGrid_begin.2.1 77 = .ok (.goto (-57), 3) := by decide +kernel
theorem J_HGrid_begin_d80 : decode J_HGrid_begin.2.1 80 = .ok (.iconst 0, 1) := by decide +kernel
theorem J_HGrid_begin_d81 : decode J_HGrid_begin.2.1 81 = .ok (.istore_n 2, 1) := by decide +kernel
theorem J_HGrid_begin_d82 : decode J_HGrid_begin.2.1 82 = .ok (.iload_n 2, 1) := by decide +kernel
theorem J_HGrid_begin_d83 : decode J_HGrid_begin.2.1 83 = .ok (.aload_n 0, 1) := by decide +kernel
theorem J_HGrid_begin_d84 : decode J_HGrid_begin.2.1 84 = .ok (.getfield 74, 3) := by decide +kernel
theorem J_HGrid_begin_d87 : decode J_HGrid_begin.2.1 87 = .ok (.if_icmp .ge 45, 3) := by decide +kernel
theorem J_HGrid_begin_d90 : decode J_HGrid_begin.2.1 90 = .ok (.aload_n 0, 1) := by decide +kernel
theorem J_HGrid_begin_d91 : decode J_HGrid_begin.2.1 91 = .ok (.iload_n 2, 1) := by decide +kernel
theorem J_HGrid_begin_d92 : decode J_HGrid_begin.2.1 92 = .ok (.bipush 6, 2) := by decide +kernel
theorem J_HGrid_begin_d94 : decode J_HGrid_begin.2.1 94 = .ok (.iload_n 2, 1) := by decide +kernel
theorem J_HGrid_begin_d95 : decode J_HGrid_begin.2.1 95 = .ok (.iconst 2, 1) := by decide +kernel
theorem J_HGrid_begin_d96 : decode J_HGrid_begin.2.1 96 = .ok (.irem, 1) := by decide +kernel
theorem J_HGrid_begin_d97 : decode J_HGrid_begin.2.1 97 = .ok (.ifCond .ne 7, 3) := by decide +kernel
theorem J_HGrid_begin_d100 : decode J_HGrid_begin.2.1 100 = .ok (.iconst 1, 1) := by decide +kernel
theorem J_HGrid_begin_d101 : decode J_HGrid_begin.2.1 101 = .ok (.goto 4, 3) := by decide +kernel
theorem J_HGrid_begin_d104 : decode J_HGrid_begin.2.1 104 = .ok (.iconst 0, 1) := by decide +kernel
theorem J_HGrid_begin_d105 : decode J_HGrid_begin.2.1 105 = .ok (.invokevirtual 83, 3) := by decide +kernel
theorem J_HGrid_begin_d108 : decode J_HGrid_begin.2.1 108 = .ok (.aload_n 0, 1) := by decide +kernel
theorem J_HGrid_begin_d109 : decode J_HGrid_begin.2.1 109 = .ok (.bipush 6, 2) := by decide +kernel
theorem J_HGrid_begin_d111 : decode J_HGrid_begin.2.1 111 = .ok (.iload_n 2, 1) := by decide +kernel
theorem J_HGrid_begin_d112 : decode J_HGrid_begin.2.1 112 = .ok (.iload_n 2, 1) := by decide +kernel
theorem J_HGrid_begin_d113 : decode J_HGrid_begin.2.1 113 = .ok (.iconst 2, 1) := by decide +kernel
theorem J_HGrid_begin_d114 : decode J_HGrid_begin.2.1 114 = .ok (.irem, 1) := by decide +kernel
theorem J_HGrid_begin_d115 : decode J_HGrid_begin.2.1 115 = .ok (.ifCond .ne 7, 3) := by decide +kernel
theorem J_HGrid_begin_d118 : decode J_HGrid_begin.2.1 118 = .ok (.iconst 1, 1) := by decide +kernel
theorem J_HGrid_begin_d119 : decode J_HGrid_begin.2.1 119 = .ok (.goto 4, 3) := by decide +kernel
theorem J_HGrid_begin_d122 : decode J_HGrid_begin.2.1 122 = .ok (.iconst 0, 1) := by decide +kernel
theorem J_HGrid_begin_d123 : decode J_HGrid_begin.2.1 123 = .ok (.invokevirtual 83, 3) := by decide +kernel
theorem J_HGrid_begin_d126 : decode J_HGrid_begin.2.1 126 = .ok (.iinc 2 1, 3) := by decide +kernel
theorem J_HGrid_begin_d129 : decode J_HGrid_begin.2.1 129 = .ok (.goto (-47), 3) := by decide +kernel
theorem J_HGrid_begin_d132 : decode J_HGrid_begin.2.1 132 = .ok (.aload_n 0, 1) := by decide +kernel
theorem J_HGrid_begin_d133 : decode J_HGrid_begin.2.1 133 = .ok (.iconst 3, 1) := by decide +kernel
theorem J_HGrid_begin_d134 : decode J_HGrid_begin.2.1 134 = .ok (.iconst 3, 1) := by decide +kernel
theorem J_HGrid_begin_d135 : decode J_HGrid_begin.2.1 135 = .ok (.iconst 4, 1) := by decide +kernel
theorem J_HGrid_begin_d136 : decode J_HGrid_begin.2.1 136 = .ok (.iconst 2, 1) := by decide +kernel
theorem J_HGrid_begin_d137 : decode J_HGrid_begin.2.1 137 = .ok (.invokevirtual 87, 3) := by decide +kernel
theorem J_HGrid_begin_d140 : decode J_HGrid_begin.2.1 140 = .ok (.aload_n 0, 1) := by decide +kernel
theorem J_HGrid_begin_d141 : decode J_HGrid_begin.2.1 141 = .ok (.aload_n 0, 1) := by decide +kernel
theorem J_HGrid_begin_d142 : decode J_HGrid_begin.2.1 142 = .ok (.getfield 74, 3) := by decide +kernel
theorem J_HGrid_begin_d145 : decode J_HGrid_begin.2.1 145 = .ok (.iconst 4, 1) := by decide +kernel
theorem J_HGrid_begin_d146 : decode J_HGrid_begin.2.1 146 = .ok (.isub, 1) := by decide +kernel
theorem J_HGrid_begin_d147 : decode J_HGrid_begin.2.1 147 = .ok (.iconst 3, 1) := by decide +kernel
theorem J_HGrid_begin_d148 : decode J_HGrid_begin.2.1 148 = .ok (.iconst 4, 1) := by decide +kernel
theorem J_HGrid_begin_d149 : decode J_HGrid_begin.2.1 149 = .ok (.iconst 2, 1) := by decide +kernel
theorem J_HGrid_begin_d150 : decode J_HGrid_begin.2.1 150 = .ok (.invokevirtual 87, 3) := by decide +kernel
theorem J_HGrid_begin_d153 : decode J_HGrid_begin.2.1 153 = .ok (.aload_n 0, 1) := by decide +kernel
theorem J_HGrid_begin_d154 : decode J_HGrid_begin.2.1 154 = .ok (.iconst 3, 1) := by decide +kernel
theorem J_HGrid_begin_d155 : decode J_HGrid_begin.2.1 155 = .ok (.aload_n 0, 1) := by decide +kernel
theorem J_HGrid_begin_d156 : decode J_HGrid_begin.2.1 156 = .ok (.getfield 74, 3) := by decide +kernel
theorem J_HGrid_begin_d159 : decode J_HGrid_begin.2.1 159 = .ok (.iconst 4, 1) := by decide +kernel
theorem J_HGrid_begin_d160 : decode J_HGrid_begin.2.1 160 = .ok (.isub, 1) := by decide +kernel
theorem J_HGrid_begin_d161 : decode J_HGrid_begin.2.1 161 = .ok (.iconst 4, 1) := by decide +kernel
theorem J_HGrid_begin_d162 : decode J_HGrid_begin.2.1 162 = .ok (.iconst 2, 1) := by decide +kernel
theorem J_HGrid_begin_d163 : decode J_HGrid_begin.2.1 163 = .ok (.invokevirtual 87, 3) := by decide +kernel
theorem J_HGrid_begin_d166 : decode J_HGrid_begin.2.1 166 = .ok (.aload_n 0, 1) := by decide +kernel
theorem J_HGrid_begin_d167 : decode J_HGrid_begin.2.1 167 = .ok (.getfield 71, 3) := by decide +kernel
theorem J_HGrid_begin_d170 : decode J_HGrid_begin.2.1 170 = .ok (.iconst 1, 1) := by decide +kernel
theorem J_HGrid_begin_d171 : decode J_HGrid_begin.2.1 171 = .ok (.if_icmp .le 7, 3) := by decide +kernel
theorem J_HGrid_begin_d174 : decode J_HGrid_begin.2.1 174 = .ok (.aload_n 0, 1) := by decide +kernel
theorem J_HGrid_begin_d175 : decode J_HGrid_begin.2.1 175 = .ok (.invokevirtual 91, 3) := by decide +kernel
theorem J_HGrid_begin_d178 : decode J_HGrid_begin.2.1 178 = .ok (.aload_n 0, 1) := by decide +kernel
theorem J_HGrid_begin_d179 : decode J_HGrid_begin.2.1 179 = .ok (.iconst 0, 1) := by decide +kernel
theorem J_HGrid_begin_d180 : decode J_HGrid_begin.2.1 180 = .ok (.iconst 0, 1) := by decide +kernel
theorem J_HGrid_begin_d181 : decode J_HGrid_begin.2.1 181 = .ok (.invokevirtual 62, 3) := by decide +kernel
theorem J_HGrid_begin_d184 : decode J_HGrid_begin.2.1 184 = .ok (.aload_n 0, 1) := by decide +kernel
theorem J_HGrid_begin_d185 : decode J_HGrid_begin.2.1 185 = .ok (.bipush 8, 2) := by decide +kernel
theorem J_HGrid_begin_d187 : decode J_HGrid_begin.2.1 187 = .ok (.aload_n 0, 1) := by decide +kernel
theorem J_HGrid_begin_d188 : decode J_HGrid_begin.2.1 188 = .ok (.getfield 74, 3) := by decide +kernel
theorem J_HGrid_begin_d191 : decode J_HGrid_begin.2.1 191 = .ok (.bipush 8, 2) := by decide +kernel
theorem J_HGrid_begin_d193 : decode J_HGrid_begin.2.1 193 = .ok (.isub, 1) := by decide +kernel
theorem J_HGrid_begin_d194 : decode J_HGrid_begin.2.1 194 = .ok (.iconst 1, 1) := by decide +kernel
theorem J_HGrid_begin_d195 : decode J_HGrid_begin.2.1 195 = .ok (.invokevirtual 83, 3) := by decide +kernel
theorem J_HGrid_begin_d198 : decode J_HGrid_begin.2.1 198 = .ok (.aload_n 0, 1) := by decide +kernel
theorem J_HGrid_begin_d199 : decode J_HGrid_begin.2.1 199 = .ok (.getfield 71, 3) := by decide +kernel
theorem J_HGrid_begin_d202 : decode J_HGrid_begin.2.1 202 = .ok (.bipush 6, 2) := by decide +kernel
theorem J_HGrid_begin_d204 : decode J_HGrid_begin.2.1 204 = .ok (.if_icmp .le 7, 3) := by decide +kernel
theorem J_HGrid_begin_d207 : decode J_HGrid_begin.2.1 207 = .ok (.aload_n 0, 1) := by decide +kernel
theorem J_HGrid_begin_d208 : decode J_HGrid_begin.2.1 208 = .ok (.invokevirtual 94, 3) := by decide +kernel
theorem J_HGrid_begin_d211 : decode J_HGrid_begin.2.1 211 = .ok (.return_, 1) := by decide +kernel
theorem f_HGrid_begin_ok {L : Nat} {xs : Nat → Int32} {dep : Nat} {w : Bool} {p0 : Int32} {M : im_M} {Q : im_M → Prop} (hM : lw_S w M) (h : ed (f_HGrid_begin p0 M) Q) : ia (tb_G L xs) (dep + 3) J_HGrid_begin (rwV w Q) (0, lv_args 0 [.ref 38, .int p0], [], M) := by
  have hS : im_St (tb_G L xs) (dep + 3) J_HGrid_begin (ia (tb_G L xs) (dep + 3) J_HGrid_begin (rwV w Q)) := ia_St
  unfold f_HGrid_begin at h
  have l0 : im_lk (lv_args 0 [.ref 38, .int p0]) 0 = some (.ref 38) := rfl
  have l1 : im_lk (lv_args 0 [.ref 38, .int p0]) 1 = some (.int p0) := rfl
  refine iq_aload_n hS 1 J_HGrid_begin_d0 l0 rfl ?_
  refine iq_iload_n hS 2 J_HGrid_begin_d1 l1 rfl ?_
  refine iq_putI hS 5 J_HGrid_begin_d2 lf_4_71 (Or.inl rfl) rfl (ka_38 hM) rfl ?_
  refine iq_aload_n hS 6 J_HGrid_begin_d5 l0 rfl ?_
  refine iq_bipush hS 8 J_HGrid_begin_d6 (v := 17) (by decide +kernel) rfl ?_
  refine iq_iconst hS 9 J_HGrid_begin_d8 (v := 4) (by decide +kernel) rfl ?_
  refine iq_aload_n hS 10 J_HGrid_begin_d9 l0 rfl ?_
  refine iq_getI hS 13 J_HGrid_begin_d10 lf_4_71 (Or.inl rfl) (ka_38 (lw_sI hM)) rfl ?_
  refine iq_imul hS 14 J_HGrid_begin_d13 rfl ?_
  refine iq_iadd hS 15 J_HGrid_begin_d14 rfl ?_
  refine iq_putI hS 18 J_HGrid_begin_d15 lf_4_74 (Or.inl rfl) rfl (ka_38 (lw_sI hM)) rfl ?_
  refine iq_iconst hS 19 J_HGrid_begin_d18 (v := 0) (by decide +kernel) rfl ?_
  refine iq_istore_n hS 20 J_HGrid_begin_d19 (by decide) rfl ?_
  obtain ⟨Q1, hQ1, h⟩ := bd1_ed h
  have K1 : ∀ (M2 : im_M) (L' : List (Nat × Value)), lw_S w M2 → im_lk L' 0 = some (.ref 38) → Q1 M2 → ia (tb_G L xs) (dep + 3) J_HGrid_begin (rwV w Q) (80, L', [], M2) := by
    intro M2 L' hM2 l3 h
    replace h := hQ1 _ h
    refine iq_iconst hS 81 J_HGrid_begin_d80 (v := 0) (by decide +kernel) rfl ?_
    refine iq_istore_n hS 82 J_HGrid_begin_d81 (by decide) rfl ?_
    obtain ⟨Q4, hQ4, h⟩ := bd1_ed h
    have K4 : ∀ (M5 : im_M) (L' : List (Nat × Value)), lw_S w M5 → im_lk L' 0 = some (.ref 38) → Q4 M5 → ia (tb_G L xs) (dep + 3) J_HGrid_begin (rwV w Q) (132, L', [], M5) := by
      intro M5 L' hM5 l6 h
      replace h := hQ4 _ h
      refine iq_aload_n hS 133 J_HGrid_begin_d132 l6 rfl ?_
      refine iq_iconst hS 134 J_HGrid_begin_d133 (v := 3) (by decide +kernel) rfl ?_
      refine iq_iconst hS 135 J_HGrid_begin_d134 (v := 3) (by decide +kernel) rfl ?_
      refine iq_iconst hS 136 J_HGrid_begin_d135 (v := 4) (by decide +kernel) rfl ?_
      refine iq_iconst hS 137 J_HGrid_begin_d136 (v := 2) (by decide +kernel) rfl ?_
      obtain ⟨Q7, hQ7, h⟩ := bd1_ed h
      refine iq_cwV hS 140 J_HGrid_begin_d137 rfl (pr_inst (vs := [_, _, _, _]) lc_4_87 lT_157 rfl rfl (by decide) (by decide) rfl (Nat.le_of_ble_eq_true rfl) (Nat.le_of_ble_eq_true rfl) (fun _ => Or.inl (pr_b (ka_38 hM5) (by decide) rfl))) (f_HGrid_fixSquares_ok (dep := dep + 1) hM5 h) rfl ?_
      intro M7 hM7 h
      replace h := hQ7 _ h
      refine iq_aload_n hS 141 J_HGrid_begin_d140 l6 rfl ?_
      refine iq_aload_n hS 142 J_HGrid_begin_d141 l6 rfl ?_
      refine iq_getI hS 145 J_HGrid_begin_d142 lf_4_74 (Or.inl rfl) (ka_38 hM7) rfl ?_
      refine iq_iconst hS 146 J_HGrid_begin_d145 (v := 4) (by decide +kernel) rfl ?_
      refine iq_isub hS 147 J_HGrid_begin_d146 rfl ?_
      refine iq_iconst hS 148 J_HGrid_begin_d147 (v := 3) (by decide +kernel) rfl ?_
      refine iq_iconst hS 149 J_HGrid_begin_d148 (v := 4) (by decide +kernel) rfl ?_
      refine iq_iconst hS 150 J_HGrid_begin_d149 (v := 2) (by decide +kernel) rfl ?_
      obtain ⟨Q8, hQ8, h⟩ := bd1_ed h
      refine iq_cwV hS 153 J_HGrid_begin_d150 rfl (pr_inst (vs := [_, _, _, _]) lc_4_87 lT_157 rfl rfl (by decide) (by decide) rfl (Nat.le_of_ble_eq_true rfl) (Nat.le_of_ble_eq_true rfl) (fun _ => Or.inl (pr_b (ka_38 hM7) (by decide) rfl))) (f_HGrid_fixSquares_ok (dep := dep + 1) hM7 h) rfl ?_
      intro M8 hM8 h
      replace h := hQ8 _ h
      refine iq_aload_n hS 154 J_HGrid_begin_d153 l6 rfl ?_
      refine iq_iconst hS 155 J_HGrid_begin_d154 (v := 3) (by decide +kernel) rfl ?_
      refine iq_aload_n hS 156 J_HGrid_begin_d155 l6 rfl ?_
      refine iq_getI hS 159 J_HGrid_begin_d156 lf_4_74 (Or.inl rfl) (ka_38 hM8) rfl ?_
      refine iq_iconst hS 160 J_HGrid_begin_d159 (v := 4) (by decide +kernel) rfl ?_
      refine iq_isub hS 161 J_HGrid_begin_d160 rfl ?_
      refine iq_iconst hS 162 J_HGrid_begin_d161 (v := 4) (by decide +kernel) rfl ?_
      refine iq_iconst hS 163 J_HGrid_begin_d162 (v := 2) (by decide +kernel) rfl ?_
      obtain ⟨Q9, hQ9, h⟩ := bd1_ed h
      refine iq_cwV hS 166 J_HGrid_begin_d163 rfl (pr_inst (vs := [_, _, _, _]) lc_4_87 lT_157 rfl rfl (by decide) (by decide) rfl (Nat.le_of_ble_eq_true rfl) (Nat.le_of_ble_eq_true rfl) (fun _ => Or.inl (pr_b (ka_38 hM8) (by decide) rfl))) (f_HGrid_fixSquares_ok (dep := dep + 1) hM8 h) rfl ?_
      intro M9 hM9 h
      replace h := hQ9 _ h
      refine iq_aload_n hS 167 J_HGrid_begin_d166 l6 rfl ?_
      refine iq_getI hS 170 J_HGrid_begin_d167 lf_4_71 (Or.inl rfl) (ka_38 hM9) rfl ?_
      refine iq_iconst hS 171 J_HGrid_begin_d170 (v := 1) (by decide +kernel) rfl ?_
      obtain ⟨Q10, hQ10, h⟩ := bd1_ed h
      have J10 : ∀ (M12 : im_M) (L' : List (Nat × Value)), lw_S w M12 → im_lk L' 0 = some (.ref 38) → Q10 M12 → ia (tb_G L xs) (dep + 3) J_HGrid_begin (rwV w Q) (178, L', [], M12) := by
        intro M12 L' hM12 l13 h
        replace h := hQ10 _ h
        refine iq_aload_n hS 179 J_HGrid_begin_d178 l13 rfl ?_
        refine iq_iconst hS 180 J_HGrid_begin_d179 (v := 0) (by decide +kernel) rfl ?_
        refine iq_iconst hS 181 J_HGrid_begin_d180 (v := 0) (by decide +kernel) rfl ?_
        obtain ⟨Q14, hQ14, h⟩ := bd1_ed h
        refine iq_cwV hS 184 J_HGrid_begin_d181 rfl (pr_inst (vs := [_, _]) lc_4_62 lT_161 rfl rfl (by decide) (by decide) rfl (Nat.le_of_ble_eq_true rfl) (Nat.le_of_ble_eq_true rfl) (fun _ => Or.inl (pr_b (ka_38 hM12) (by decide) rfl))) (f_HGrid_fixForm_ok (dep := dep + 0) hM12 h) rfl ?_
        intro M14 hM14 h
        replace h := hQ14 _ h
        refine iq_aload_n hS 185 J_HGrid_begin_d184 l13 rfl ?_
        refine iq_bipush hS 187 J_HGrid_begin_d185 (v := 8) (by decide +kernel) rfl ?_
        refine iq_aload_n hS 188 J_HGrid_begin_d187 l13 rfl ?_
        refine iq_getI hS 191 J_HGrid_begin_d188 lf_4_74 (Or.inl rfl) (ka_38 hM14) rfl ?_
        refine iq_bipush hS 193 J_HGrid_begin_d191 (v := 8) (by decide +kernel) rfl ?_
        refine iq_isub hS 194 J_HGrid_begin_d193 rfl ?_
        refine iq_iconst hS 195 J_HGrid_begin_d194 (v := 1) (by decide +kernel) rfl ?_
        obtain ⟨Q15, hQ15, h⟩ := bd1_ed h
        refine iq_cwV hS 198 J_HGrid_begin_d195 rfl (pr_inst (vs := [_, _, _]) lc_4_83 lT_156 rfl rfl (by decide) (by decide) rfl (Nat.le_of_ble_eq_true rfl) (Nat.le_of_ble_eq_true rfl) (fun _ => Or.inl (pr_b (ka_38 hM14) (by decide) rfl))) (f_HGrid_fix_ok (dep := dep + 2) hM14 h) rfl ?_
        intro M15 hM15 h
        replace h := hQ15 _ h
        refine iq_aload_n hS 199 J_HGrid_begin_d198 l13 rfl ?_
        refine iq_getI hS 202 J_HGrid_begin_d199 lf_4_71 (Or.inl rfl) (ka_38 hM15) rfl ?_
        refine iq_bipush hS 204 J_HGrid_begin_d202 (v := 6) (by decide +kernel) rfl ?_
        refine iq_icmp_le hS 207 J_HGrid_begin_d204 (t := 211) rfl (fun q204 => ?_) rfl (fun q204 => ?_)
        · replace h := ed_pos q204 h
          exact iq_ret J_HGrid_begin_d211 rfl ⟨rfl, hM15, ed_some h⟩
        · replace h := ed_neg q204 h
          refine iq_aload_n hS 208 J_HGrid_begin_d207 l13 rfl ?_
          obtain ⟨Q16, hQ16, h⟩ := bd1_ed h
          refine iq_cwV hS 211 J_HGrid_begin_d208 rfl (pr_inst (vs := []) lc_4_94 lT_166 rfl rfl (by decide) (by decide) rfl (Nat.le_of_ble_eq_true rfl) (Nat.le_of_ble_eq_true rfl) (fun _ => Or.inl (pr_b (ka_38 hM15) (by decide) rfl))) (f_HGrid_fixVersion_ok (dep := dep + 1) hM15 h) rfl ?_
          intro M16 hM16 h
          replace h := hQ16 _ h
          exact iq_ret J_HGrid_begin_d211 rfl ⟨rfl, hM16, ed_some h⟩
      refine iq_icmp_le hS 174 J_HGrid_begin_d171 (t := 178) rfl (fun q171 => ?_) rfl (fun q171 => ?_)
      · replace h := ed_pos q171 h
        exact J10 _ _ hM9 l6 (ed_some h)
      · replace h := ed_neg q171 h
        refine iq_aload_n hS 175 J_HGrid_begin_d174 l6 rfl ?_
        obtain ⟨Q11, hQ11, h⟩ := bd1_ed h
        refine iq_cwV hS 178 J_HGrid_begin_d175 rfl (pr_inst (vs := []) lc_4_91 lT_159 rfl rfl (by decide) (by decide) rfl (Nat.le_of_ble_eq_true rfl) (Nat.le_of_ble_eq_true rfl) (fun _ => Or.inl (pr_b (ka_38 hM9) (by decide) rfl))) (f_HGrid_fixSmallSquares_ok (dep := dep + 0) hM9 h) rfl ?_
        intro M11 hM11 h
        replace h := hQ11 _ h
        exact J10 _ _ hM11 l6 (ed_some h)
    obtain ⟨r4, hr4, hq4⟩ := h
    obtain ⟨n4, hn4⟩ := lp_n hr4
    have I4 : ∀ (n : Nat) (x17 : Int32) (M18 : im_M) (L' : List (Nat × Value)), lw_S w M18 → im_lk L' 0 = some (.ref 38) → im_lk L' 2 = some (.int x17) → lpn (uc2 (f_HGrid_begin_L82)) n (x17, M18) = some r4 → ia (tb_G L xs) (dep + 3) J_HGrid_begin (rwV w Q) (82, L', [], M18) := by
      intro n
      induction n with
      | zero => intro x17 M18 L' hM18 l19 l20 hn; exact (lpn_0 hn).elim
      | succ n ih =>
        intro x17 M18 L' hM18 l19 l20 hn
        have h := lpn_ed2 hn
        unfold f_HGrid_begin_L82 at h
        refine iq_iload_n hS 83 J_HGrid_begin_d82 l20 rfl ?_
        refine iq_aload_n hS 84 J_HGrid_begin_d83 l19 rfl ?_
        refine iq_getI hS 87 J_HGrid_begin_d84 lf_4_74 (Or.inl rfl) (ka_38 hM18) rfl ?_
        refine iq_icmp_ge hS 90 J_HGrid_begin_d87 (t := 132) rfl (fun q87 => ?_) rfl (fun q87 => ?_)
        · replace h := ed_pos q87 h
          exact K4 _ _ hM18 l19 (lq_r h hq4)
        · replace h := ed_neg q87 h
          refine iq_aload_n hS 91 J_HGrid_begin_d90 l19 rfl ?_
          refine iq_iload_n hS 92 J_HGrid_begin_d91 l20 rfl ?_
          refine iq_bipush hS 94 J_HGrid_begin_d92 (v := 6) (by decide +kernel) rfl ?_
          refine iq_iload_n hS 95 J_HGrid_begin_d94 l20 rfl ?_
          refine iq_iconst hS 96 J_HGrid_begin_d95 (v := 2) (by decide +kernel) rfl ?_
          refine iq_irem hS 97 J_HGrid_begin_d96 (by decide) rfl ?_
          have J21 : ∀ (z22 : Int32) (L' : List (Nat × Value)), z22 = ((if ¬ (x17 - x17 / 2 * 2) = 0 then 0 else 1) : Int32) → im_lk L' 0 = some (.ref 38) → im_lk L' 2 = some (.int x17) → ia (tb_G L xs) (dep + 3) J_HGrid_begin (rwV w Q) (105, L', [.int z22, .int 6, .int x17, .ref 38], M18) := by
            intro z22 L' e23 l24 l25
            subst e23
            obtain ⟨Q26, hQ26, h⟩ := bd1_ed h
            refine iq_cwV hS 108 J_HGrid_begin_d105 rfl (pr_inst (vs := [_, _, _]) lc_4_83 lT_156 rfl rfl (by decide) (by decide) rfl (Nat.le_of_ble_eq_true rfl) (Nat.le_of_ble_eq_true rfl) (fun _ => Or.inl (pr_b (ka_38 hM18) (by decide) rfl))) (f_HGrid_fix_ok (dep := dep + 2) hM18 h) rfl ?_
            intro M26 hM26 h
            replace h := hQ26 _ h
            refine iq_aload_n hS 109 J_HGrid_begin_d108 l24 rfl ?_
            refine iq_bipush hS 111 J_HGrid_begin_d109 (v := 6) (by decide +kernel) rfl ?_
            refine iq_iload_n hS 112 J_HGrid_begin_d111 l25 rfl ?_
            refine iq_iload_n hS 113 J_HGrid_begin_d112 l25 rfl ?_
            refine iq_iconst hS 114 J_HGrid_begin_d113 (v := 2) (by decide +kernel) rfl ?_
            refine iq_irem hS 115 J_HGrid_begin_d114 (by decide) rfl ?_
            have J27 : ∀ (z28 : Int32) (L' : List (Nat × Value)), z28 = ((if ¬ (x17 - x17 / 2 * 2) = 0 then 0 else 1) : Int32) → im_lk L' 0 = some (.ref 38) → im_lk L' 2 = some (.int x17) → ia (tb_G L xs) (dep + 3) J_HGrid_begin (rwV w Q) (123, L', [.int z28, .int x17, .int 6, .ref 38], M26) := by
              intro z28 L' e29 l30 l31
              subst e29
              obtain ⟨Q32, hQ32, h⟩ := bd1_ed h
              refine iq_cwV hS 126 J_HGrid_begin_d123 rfl (pr_inst (vs := [_, _, _]) lc_4_83 lT_156 rfl rfl (by decide) (by decide) rfl (Nat.le_of_ble_eq_true rfl) (Nat.le_of_ble_eq_true rfl) (fun _ => Or.inl (pr_b (ka_38 hM26) (by decide) rfl))) (f_HGrid_fix_ok (dep := dep + 2) hM26 h) rfl ?_
              intro M32 hM32 h
              replace h := hQ32 _ h
              refine iq_iincv hS 129 J_HGrid_begin_d126 (c := 1) (by decide +kernel) l31 (by decide) rfl ?_
              refine iq_goto hS J_HGrid_begin_d129 (t := 82) rfl ?_
              exact ih _ _ _ hM32 (lk_1r l30 (by decide)) lk_1s (lq_l h)
            refine iq_if_ne hS 118 J_HGrid_begin_d115 (t := 122) rfl (fun q115 => ?_) rfl (fun q115 => ?_)
            · refine iq_iconst hS 123 J_HGrid_begin_d122 (v := 0) (by decide +kernel) rfl ?_
              exact J27 _ _ (by simp only [if_pos q115]) l24 l25
            · refine iq_iconst hS 119 J_HGrid_begin_d118 (v := 1) (by decide +kernel) rfl ?_
              refine iq_goto hS J_HGrid_begin_d119 (t := 123) rfl ?_
              exact J27 _ _ (by simp only [if_neg q115]) l24 l25
          refine iq_if_ne hS 100 J_HGrid_begin_d97 (t := 104) rfl (fun q97 => ?_) rfl (fun q97 => ?_)
          · refine iq_iconst hS 105 J_HGrid_begin_d104 (v := 0) (by decide +kernel) rfl ?_
            exact J21 _ _ (by simp only [if_pos q97]) l19 l20
          · refine iq_iconst hS 101 J_HGrid_begin_d100 (v := 1) (by decide +kernel) rfl ?_
            refine iq_goto hS J_HGrid_begin_d101 (t := 105) rfl ?_
            exact J21 _ _ (by simp only [if_neg q97]) l19 l20
    exact I4 n4 _ _ _ hM2 (lk_1r l3 (by decide)) lk_1s hn4
  obtain ⟨r1, hr1, hq1⟩ := h
  obtain ⟨n1, hn1⟩ := lp_n hr1
  have I1 : ∀ (n : Nat) (x33 : Int32) (M34 : im_M) (L' : List (Nat × Value)), lw_S w M34 → im_lk L' 0 = some (.ref 38) → im_lk L' 2 = some (.int x33) → lpn (uc2 (f_HGrid_begin_L20)) n (x33, M34) = some r1 → ia (tb_G L xs) (dep + 3) J_HGrid_begin (rwV w Q) (20, L', [], M34) := by
    intro n
    induction n with
    | zero => intro x33 M34 L' hM34 l35 l36 hn; exact (lpn_0 hn).elim
    | succ n ih =>
      intro x33 M34 L' hM34 l35 l36 hn
      have h := lpn_ed2 hn
      unfold f_HGrid_begin_L20 at h
      refine iq_iload_n hS 21 J_HGrid_begin_d20 l36 rfl ?_
      refine iq_aload_n hS 22 J_HGrid_begin_d21 l35 rfl ?_
      refine iq_getI hS 25 J_HGrid_begin_d22 lf_4_74 (Or.inl rfl) (ka_38 hM34) rfl ?_
      refine iq_icmp_ge hS 28 J_HGrid_begin_d25 (t := 80) rfl (fun q25 => ?_) rfl (fun q25 => ?_)
      · replace h := ed_pos q25 h
        exact K1 _ _ hM34 l35 (lq_r h hq1)
      · replace h := ed_neg q25 h
        refine iq_aload_n hS 29 J_HGrid_begin_d28 l35 rfl ?_
        refine iq_getR hS 32 J_HGrid_begin_d29 lf_4_29 (Or.inr ⟨_, rfl⟩) (ka_38 hM34) (ra_38_8 hM34) rfl ?_
        refine iq_iload_n hS 33 J_HGrid_begin_d32 l36 rfl ?_
        refine iq_sipush hS 36 J_HGrid_begin_d33 (v := 177) (by decide +kernel) rfl ?_
        refine iq_imul hS 37 J_HGrid_begin_d36 rfl ?_
        refine iq_iload_n hS 38 J_HGrid_begin_d37 l36 rfl ?_
        refine iq_sipush hS 41 J_HGrid_begin_d38 (v := 177) (by decide +kernel) rfl ?_
        refine iq_imul hS 42 J_HGrid_begin_d41 rfl ?_
        refine iq_aload_n hS 43 J_HGrid_begin_d42 l35 rfl ?_
        refine iq_getI hS 46 J_HGrid_begin_d43 lf_4_74 (Or.inl rfl) (ka_38 hM34) rfl ?_
        refine iq_iadd hS 47 J_HGrid_begin_d46 rfl ?_
        refine iq_iconst hS 48 J_HGrid_begin_d47 (v := 0) (by decide +kernel) rfl ?_
        obtain ⟨Q37, hQ37, h⟩ := bd1_ed h
        refine iq_cwV hS 51 J_HGrid_begin_d48 rfl (pr_stat (vs := [_, _, _, _]) lc_4_77 lT_142 rfl rfl (by decide) rfl (Nat.le_of_ble_eq_true rfl) (Nat.le_of_ble_eq_true rfl)) (f_Arrays_fill3_1_ok (dep := dep + 1) hM34 h) rfl ?_
        intro M37 hM37 h
        replace h := hQ37 _ h
        refine iq_aload_n hS 52 J_HGrid_begin_d51 l35 rfl ?_
        refine iq_getR hS 55 J_HGrid_begin_d52 lf_4_25 (Or.inr ⟨_, rfl⟩) (ka_38 hM37) (ra_38_7 hM37) rfl ?_
        refine iq_iload_n hS 56 J_HGrid_begin_d55 l36 rfl ?_
        refine iq_sipush hS 59 J_HGrid_begin_d56 (v := 177) (by decide +kernel) rfl ?_
        refine iq_imul hS 60 J_HGrid_begin_d59 rfl ?_
        refine iq_iload_n hS 61 J_HGrid_begin_d60 l36 rfl ?_
        refine iq_sipush hS 64 J_HGrid_begin_d61 (v := 177) (by decide +kernel) rfl ?_
        refine iq_imul hS 65 J_HGrid_begin_d64 rfl ?_
        refine iq_aload_n hS 66 J_HGrid_begin_d65 l35 rfl ?_
        refine iq_getI hS 69 J_HGrid_begin_d66 lf_4_74 (Or.inl rfl) (ka_38 hM37) rfl ?_
        refine iq_iadd hS 70 J_HGrid_begin_d69 rfl ?_
        refine iq_iconst hS 71 J_HGrid_begin_d70 (v := 0) (by decide +kernel) rfl ?_
        obtain ⟨Q38, hQ38, h⟩ := bd1_ed h
        refine iq_cwV hS 74 J_HGrid_begin_d71 rfl (pr_stat (vs := [_, _, _, _]) lc_4_77 lT_142 rfl rfl (by decide) rfl (Nat.le_of_ble_eq_true rfl) (Nat.le_of_ble_eq_true rfl)) (f_Arrays_fill3_2_ok (dep := dep + 1) hM37 h) rfl ?_
        intro M38 hM38 h
        replace h := hQ38 _ h
        refine iq_iincv hS 77 J_HGrid_begin_d74 (c := 1) (by decide +kernel) l36 (by decide) rfl ?_
        refine iq_goto hS J_HGrid_begin_d77 (t := 20) rfl ?_
        exact ih _ _ _ hM38 (lk_1r l35 (by decide)) lk_1s (lq_l h)
  exact I1 n1 _ _ _ (lw_sI (lw_sI hM)) (lk_1r l0 (by decide)) lk_1s hn1
theorem f_HGrid_begin_fr {p0 : Int32} {M : im_M} {r : im_M} (h : f_HGrid_begin p0 M = some r) : fr 54043195528445952 [(38, 1), (38, 6)] M r := by
  replace h : ed (f_HGrid_begin p0 M) (fun x => x = r) := ⟨r, h, rfl⟩
  unfold f_HGrid_begin at h
  obtain ⟨Q1, hQ1, h⟩ := bd1_ed h
  have K1 : ∀ (M2 : im_M), fr 54043195528445952 [(38, 1), (38, 6)] M M2 → Q1 M2 → fr 54043195528445952 [(38, 1), (38, 6)] M r := by
    intro M2 hM2 h
    replace h := hQ1 _ h
    obtain ⟨Q3, hQ3, h⟩ := bd1_ed h
    have K3 : ∀ (M4 : im_M), fr 54043195528445952 [(38, 1), (38, 6)] M M4 → Q3 M4 → fr 54043195528445952 [(38, 1), (38, 6)] M r := by
      intro M4 hM4 h
      replace h := hQ3 _ h
      obtain ⟨Q5, hQ5, h⟩ := bd1_ed h
      obtain ⟨M5, e5, h⟩ := h
      replace h := hQ5 _ h
      obtain ⟨Q6, hQ6, h⟩ := bd1_ed h
      obtain ⟨M6, e6, h⟩ := h
      replace h := hQ6 _ h
      obtain ⟨Q7, hQ7, h⟩ := bd1_ed h
      obtain ⟨M7, e7, h⟩ := h
      replace h := hQ7 _ h
      obtain ⟨Q8, hQ8, h⟩ := bd1_ed h
      have J8 : ∀ (M10 : im_M), fr 54043195528445952 [(38, 1), (38, 6)] M M10 → Q8 M10 → fr 54043195528445952 [(38, 1), (38, 6)] M r := by
        intro M10 hM10 h
        replace h := hQ8 _ h
        obtain ⟨Q12, hQ12, h⟩ := bd1_ed h
        obtain ⟨M12, e12, h⟩ := h
        replace h := hQ12 _ h
        obtain ⟨Q13, hQ13, h⟩ := bd1_ed h
        obtain ⟨M13, e13, h⟩ := h
        replace h := hQ13 _ h
        by_cases q204 : (im_i M13 38 6) ≤ 6
        · replace h := ed_pos q204 h
          exact fr_retV h (fr_tr (fr_mono (by decide) (by decide +kernel) (f_HGrid_fix_fr e13)) (fr_tr (fr_mono (by decide) (by decide +kernel) (f_HGrid_fixForm_fr e12)) hM10))
        · replace h := ed_neg q204 h
          obtain ⟨Q14, hQ14, h⟩ := bd1_ed h
          obtain ⟨M14, e14, h⟩ := h
          replace h := hQ14 _ h
          exact fr_retV h (fr_tr (fr_mono (by decide) (by decide +kernel) (f_HGrid_fixVersion_fr e14)) (fr_tr (fr_mono (by decide) (by decide +kernel) (f_HGrid_fix_fr e13)) (fr_tr (fr_mono (by decide) (by decide +kernel) (f_HGrid_fixForm_fr e12)) hM10)))
      by_cases q171 : (im_i M7 38 6) ≤ 1
      · replace h := ed_pos q171 h
        exact J8 _ (fr_tr (fr_mono (by decide) (by decide +kernel) (f_HGrid_fixSquares_fr e7)) (fr_tr (fr_mono (by decide) (by decide +kernel) (f_HGrid_fixSquares_fr e6)) (fr_tr (fr_mono (by decide) (by decide +kernel) (f_HGrid_fixSquares_fr e5)) hM4))) (ed_some h)
      · replace h := ed_neg q171 h
        obtain ⟨Q9, hQ9, h⟩ := bd1_ed h
        obtain ⟨M9, e9, h⟩ := h
        replace h := hQ9 _ h
        exact J8 _ (fr_tr (fr_mono (by decide) (by decide +kernel) (f_HGrid_fixSmallSquares_fr e9)) (fr_tr (fr_mono (by decide) (by decide +kernel) (f_HGrid_fixSquares_fr e7)) (fr_tr (fr_mono (by decide) (by decide +kernel) (f_HGrid_fixSquares_fr e6)) (fr_tr (fr_mono (by decide) (by decide +kernel) (f_HGrid_fixSquares_fr e5)) hM4)))) (ed_some h)
    obtain ⟨r3, hr3, hq3⟩ := h
    obtain ⟨n3, hn3⟩ := lp_n hr3
    have I3 : ∀ (n : Nat) (x15 : Int32) (M16 : im_M), fr 54043195528445952 [(38, 1), (38, 6)] M M16 → lpn (uc2 (f_HGrid_begin_L82)) n (x15, M16) = some r3 → fr 54043195528445952 [(38, 1), (38, 6)] M r := by
      intro n
      induction n with
      | zero => intro x15 M16 hM16 hn; exact (lpn_0 hn).elim
      | succ n ih =>
        intro x15 M16 hM16 hn
        have h := lpn_ed2 hn
        unfold f_HGrid_begin_L82 at h
        by_cases q87 : (im_i M16 38 1) ≤ x15
        · replace h := ed_pos q87 h
          exact K3 _ hM16 (lq_r h hq3)
        · replace h := ed_neg q87 h
          obtain ⟨Q18, hQ18, h⟩ := bd1_ed h
          obtain ⟨M18, e18, h⟩ := h
          replace h := hQ18 _ h
          obtain ⟨Q20, hQ20, h⟩ := bd1_ed h
          obtain ⟨M20, e20, h⟩ := h
          replace h := hQ20 _ h
          exact ih _ _ (fr_tr (fr_mono (by decide) (by decide +kernel) (f_HGrid_fix_fr e20)) (fr_tr (fr_mono (by decide) (by decide +kernel) (f_HGrid_fix_fr e18)) hM16)) (lq_l h)
    exact I3 n3 _ _ hM2 hn3
  obtain ⟨r1, hr1, hq1⟩ := h
  obtain ⟨n1, hn1⟩ := lp_n hr1
  have I1 : ∀ (n : Nat) (x21 : Int32) (M22 : im_M), fr 54043195528445952 [(38, 1), (38, 6)] M M22 → lpn (uc2 (f_HGrid_begin_L20)) n (x21, M22) = some r1 → fr 54043195528445952 [(38, 1), (38, 6)] M r := by
    intro n
    induction n with
    | zero => intro x21 M22 hM22 hn; exact (lpn_0 hn).elim
    | succ n ih =>
      intro x21 M22 hM22 hn
      have h := lpn_ed2 hn
      unfold f_HGrid_begin_L20 at h
      by_cases q25 : (im_i M22 38 1) ≤ x21
      · replace h := ed_pos q25 h
        exact K1 _ hM22 (lq_r h hq1)
      · replace h := ed_neg q25 h
        obtain ⟨Q23, hQ23, h⟩ := bd1_ed h
        obtain ⟨M23, e23, h⟩ := h
        replace h := hQ23 _ h
        obtain ⟨Q24, hQ24, h⟩ := bd1_ed h
        obtain ⟨M24, e24, h⟩ := h
        replace h := hQ24 _ h
        exact ih _ _ (fr_tr (fr_mono (by decide) (by decide +kernel) (f_Arrays_fill3_2_fr e24)) (fr_tr (fr_mono (by decide) (by decide +kernel) (f_Arrays_fill3_1_fr e23)) hM22)) (lq_l h)
  exact I1 n1 _ _ (fr_F (by decide) (fr_F (by decide) fr_refl)) hn1
noncomputable def f_HGrid_isDark (p0 : Int32) (p1 : Int32) (M : im_M) : Option (Int32) := gd (inb ((p1 * 177) + p0) 31329) <| if (im_i M 54 (Int32.toNatClampNeg ((p1 * 177) + p0))) = 0 then some 0 else some 1
theorem J_HGrid_isDark_d0 : decode J_HGrid_isDark.2.1 0 = .ok (.aload_n 0, 1) := by decide +kernel
theorem J_HGrid_isDark_d1 : decode J_HGrid_isDark.2.1 1 = .ok (.getfield 25, 3) := by decide +kernel
theorem J_HGrid_isDark_d4 : decode J_HGrid_isDark.2.1 4 = .ok (.iload_n 2, 1) := by decide +kernel
theorem J_HGrid_isDark_d5 : decode J_HGrid_isDark.2.1 5 = .ok (.sipush 177, 3) := by decide +kernel
theorem J_HGrid_isDark_d8 : decode J_HGrid_isDark.2.1 8 = .ok (.imul, 1) := by decide +kernel
theorem J_HGrid_isDark_d9 : decode J_HGrid_isDark.2.1 9 = .ok (.iload_n 1, 1) := by decide +kernel
theorem J_HGrid_isDark_d10 : decode J_HGrid_isDark.2.1 10 = .ok (.iadd, 1) := by decide +kernel
theorem J_HGrid_isDark_d11 : decode J_HGrid_isDark.2.1 11 = .ok (.baload, 1) := by decide +kernel
theorem J_HGrid_isDark_d12 : decode J_HGrid_isDark.2.1 12 = .ok (.ifCond .eq 7, 3) := by decide +kernel
theorem J_HGrid_isDark_d15 : decode J_HGrid_isDark.2.1 15 = .ok (.iconst 1, 1) := by decide +kernel
theorem J_HGrid_isDark_d16 : decode J_HGrid_isDark.2.1 16 = .ok (.goto 4, 3) := by decide +kernel
theorem J_HGrid_isDark_d19 : decode J_HGrid_isDark.2.1 19 = .ok (.iconst 0, 1) := by decide +kernel
theorem J_HGrid_isDark_d20 : decode J_HGrid_isDark.2.1 20 = .ok (.ireturn, 1) := by decide +kernel
theorem f_HGrid_isDark_ok {L : Nat} {xs : Nat → Int32} {dep : Nat} {w : Bool} {p0 : Int32} {p1 : Int32} {M : im_M} {Q : Int32 → Prop} (hM : lw_S w M) (h : ed (f_HGrid_isDark p0 p1 M) Q) : ia (tb_G L xs) dep J_HGrid_isDark (rpI M Q) (0, lv_args 0 [.ref 38, .int p0, .int p1], [], M) := by
  have hS : im_St (tb_G L xs) dep J_HGrid_isDark (ia (tb_G L xs) dep J_HGrid_isDark (rpI M Q)) := ia_St
  unfold f_HGrid_isDark at h
  have l0 : im_lk (lv_args 0 [.ref 38, .int p0, .int p1]) 0 = some (.ref 38) := rfl
  have l1 : im_lk (lv_args 0 [.ref 38, .int p0, .int p1]) 1 = some (.int p0) := rfl
  have l2 : im_lk (lv_args 0 [.ref 38, .int p0, .int p1]) 2 = some (.int p1) := rfl
  refine iq_aload_n hS 1 J_HGrid_isDark_d0 l0 rfl ?_
  refine iq_getR hS 4 J_HGrid_isDark_d1 lf_4_25 (Or.inr ⟨_, rfl⟩) (ka_38 hM) (ra_38_7 hM) rfl ?_
  refine iq_iload_n hS 5 J_HGrid_isDark_d4 l2 rfl ?_
  refine iq_sipush hS 8 J_HGrid_isDark_d5 (v := 177) (by decide +kernel) rfl ?_
  refine iq_imul hS 9 J_HGrid_isDark_d8 rfl ?_
  refine iq_iload_n hS 10 J_HGrid_isDark_d9 l1 rfl ?_
  refine iq_iadd hS 11 J_HGrid_isDark_d10 rfl ?_
  obtain ⟨g11, h⟩ := ed_gd h
  refine iq_baload hS 12 J_HGrid_isDark_d11 ⟨(ka_54 hM).1, (ka_54 hM).2, g11.1, ix_lt (kl_54 hM) g11.2⟩ rfl ?_
  refine iq_if_eq hS 15 J_HGrid_isDark_d12 (t := 19) rfl (fun q12 => ?_) rfl (fun q12 => ?_)
  · replace h := ed_pos q12 h
    refine iq_iconst hS 20 J_HGrid_isDark_d19 (v := 0) (by decide +kernel) rfl ?_
    exact iq_iret J_HGrid_isDark_d20 rfl rfl ⟨_, rfl, rfl, ed_some h⟩
  · replace h := ed_neg q12 h
    refine iq_iconst hS 16 J_HGrid_isDark_d15 (v := 1) (by decide +kernel) rfl ?_
    refine iq_goto hS J_HGrid_isDark_d16 (t := 20) rfl ?_
    exact iq_iret J_HGrid_isDark_d20 rfl rfl ⟨_, rfl, rfl, ed_some h⟩
noncomputable def f_HBlocks_putBit (p0 : Int32) (p1 : Int32) (M : im_M) : Option (im_M) := if (p0 / 8) < 3706 then bd1 (if p1 = 0 then gd (inb (p0 / 8) 3706) <| some ((im_i M 44 (Int32.toNatClampNeg (p0 / 8))) &&& (((1 : Int32) <<< (((7 : Int32) - (p0 - p0 / 8 * 8)) &&& 31 : Int32) : Int32) ^^^ (-1))) else gd (inb (p0 / 8) 3706) <| some ((im_i M 44 (Int32.toNatClampNeg (p0 / 8))) ||| ((1 : Int32) <<< (((7 : Int32) - (p0 - p0 / 8 * 8)) &&& 31 : Int32) : Int32))) fun (y2 : Int32) => gd (inb (p0 / 8) 3706) <| some (im_setI M 44 (Int32.toNatClampNeg (p0 / 8)) (vp_nar .byte ((Int32.toInt8 y2).toInt32))) else some M
theorem J_HBlocks_putBit_d0 : decode J_HBlocks_putBit.2.1 0 = .ok (.iload_n 1, 1) := by decide +kernel
theorem J_HBlocks_putBit_d1 : decode J_HBlocks_putBit.2.1 1 = .ok (.bipush 8, 2) := by decide +kernel
theorem J_HBlocks_putBit_d3 : decode J_HBlocks_putBit.2.1 3 = .ok (.idiv, 1) := by decide +kernel
theorem J_HBlocks_putBit_d4 : decode J_HBlocks_putBit.2.1 4 = .ok (.istore_n 3, 1) := by decide +kernel
theorem J_HBlocks_putBit_d5 : decode J_HBlocks_putBit.2.1 5 = .ok (.iload_n 3, 1) := by decide +kernel
theorem J_HBlocks_putBit_d6 : decode J_HBlocks_putBit.2.1 6 = .ok (.sipush 3706, 3) := by decide +kernel
theorem J_HBlocks_putBit_d9 : decode J_HBlocks_putBit.2.1 9 = .ok (.if_icmp .lt 4, 3) := by decide +kernel
theorem J_HBlocks_putBit_d12 : decode J_HBlocks_putBit.2.1 12 = .ok (.return_, 1) := by decide +kernel
theorem J_HBlocks_putBit_d13 : decode J_HBlocks_putBit.2.1 13 = .ok (.iconst 1, 1) := by decide +kernel
theorem J_HBlocks_putBit_d14 : decode J_HBlocks_putBit.2.1 14 = .ok (.bipush 7, 2) := by decide +kernel
theorem J_HBlocks_putBit_d16 : decode J_HBlocks_putBit.2.1 16 = .ok (.iload_n 1, 1) := by decide +kernel
theorem J_HBlocks_putBit_d17 : decode J_HBlocks_putBit.2.1 17 = .ok (.bipush 8, 2) := by decide +kernel
theorem J_HBlocks_putBit_d19 : decode J_HBlocks_putBit.2.1 19 = .ok (.irem, 1) := by decide +kernel
theorem J_HBlocks_putBit_d20 : decode J_HBlocks_putBit.2.1 20 = .ok (.isub, 1) := by decide +kernel
theorem J_HBlocks_putBit_d21 : decode J_HBlocks_putBit.2.1 21 = .ok (.ishl, 1) := by decide +kernel
theorem J_HBlocks_putBit_d22 : decode J_HBlocks_putBit.2.1 22 = .ok (.istore 4, 2) := by decide +kernel
theorem J_HBlocks_putBit_d24 : decode J_HBlocks_putBit.2.1 24 = .ok (.aload_n 0, 1) := by decide +kernel
theorem J_HBlocks_putBit_d25 : decode J_HBlocks_putBit.2.1 25 = .ok (.getfield 11, 3) := by decide +kernel
theorem J_HBlocks_putBit_d28 : decode J_HBlocks_putBit.2.1 28 = .ok (.iload_n 3, 1) := by decide +kernel
theorem J_HBlocks_putBit_d29 : decode J_HBlocks_putBit.2.1 29 = .ok (.iload_n 2, 1) := by decide +kernel
theorem J_HBlocks_putBit_d30 : decode J_HBlocks_putBit.2.1 30 = .ok (.ifCond .eq 15, 3) := by decide +kernel
theorem J_HBlocks_putBit_d33 : decode J_HBlocks_putBit.2.1 33 = .ok (.aload_n 0, 1) := by decide +kernel
theorem J_HBlocks_putBit_d34 : decode J_HBlocks_putBit.2.1 34 = .ok (.getfield 11, 3) := by decide +kernel
theorem J_HBlocks_putBit_d37 : decode J_HBlocks_putBit.2.1 37 = .ok (.iload_n 3, 1) := by decide +kernel
theorem J_HBlocks_putBit_d38 : decode J_HBlocks_putBit.2.1 38 = .ok (.baload, 1) := by decide +kernel
theorem J_HBlocks_putBit_d39 : decode J_HBlocks_putBit.2.1 39 = .ok (.iload 4, 2) := by decide +kernel
theorem J_HBlocks_putBit_d41 : decode J_HBlocks_putBit.2.1 41 = .ok (.ior, 1) := by decide +kernel
theorem J_HBlocks_putBit_d42 : decode J_HBlocks_putBit.2.1 42 = .ok (.goto 14, 3) := by decide +kernel
theorem J_HBlocks_putBit_d45 : decode J_HBlocks_putBit.2.1 45 = .ok (.aload_n 0, 1) := by decide +kernel
theorem J_HBlocks_putBit_d46 : decode J_HBlocks_putBit.2.1 46 = .ok (.getfield 11, 3) := by decide +kernel
theorem J_HBlocks_putBit_d49 : decode J_HBlocks_putBit.2.1 49 = .ok (.iload_n 3, 1) := by decide +kernel
theorem J_HBlocks_putBit_d50 : decode J_HBlocks_putBit.2.1 50 = .ok (.baload, 1) := by decide +kernel
theorem J_HBlocks_putBit_d51 : decode J_HBlocks_putBit.2.1 51 = .ok (.iload 4, 2) := by decide +kernel
theorem J_HBlocks_putBit_d53 : decode J_HBlocks_putBit.2.1 53 = .ok (.iconst (-1), 1) := by decide +kernel
theorem J_HBlocks_putBit_d54 : decode J_HBlocks_putBit.2.1 54 = .ok (.ixor, 1) := by decide +kernel
theorem J_HBlocks_putBit_d55 : decode J_HBlocks_putBit.2.1 55 = .ok (.iand, 1) := by decide +kernel
theorem J_HBlocks_putBit_d56 : decode J_HBlocks_putBit.2.1 56 = .ok (.i2b, 1) := by decide +kernel
theorem J_HBlocks_putBit_d57 : decode J_HBlocks_putBit.2.1 57 = .ok (.bastore, 1) := by decide +kernel
theorem J_HBlocks_putBit_d58 : decode J_HBlocks_putBit.2.1 58 = .ok (.return_, 1) := by decide +kernel
theorem f_HBlocks_putBit_ok {L : Nat} {xs : Nat → Int32} {dep : Nat} {w : Bool} {p0 : Int32} {p1 : Int32} {M : im_M} {Q : im_M → Prop} (hM : lw_S w M) (h : ed (f_HBlocks_putBit p0 p1 M) Q) : ia (tb_G L xs) dep J_HBlocks_putBit (rwV w Q) (0, lv_args 0 [.ref 43, .int p0, .int p1], [], M) := by
  have hS : im_St (tb_G L xs) dep J_HBlocks_putBit (ia (tb_G L xs) dep J_HBlocks_putBit (rwV w Q)) := ia_St
  unfold f_HBlocks_putBit at h
  have l0 : im_lk (lv_args 0 [.ref 43, .int p0, .int p1]) 0 = some (.ref 43) := rfl
  have l1 : im_lk (lv_args 0 [.ref 43, .int p0, .int p1]) 1 = some (.int p0) := rfl
  have l2 : im_lk (lv_args 0 [.ref 43, .int p0, .int p1]) 2 = some (.int p1) := rfl
  refine iq_iload_n hS 1 J_HBlocks_putBit_d0 l1 rfl ?_
  refine iq_bipush hS 3 J_HBlocks_putBit_d1 (v := 8) (by decide +kernel) rfl ?_
  refine iq_idiv hS 4 J_HBlocks_putBit_d3 (by decide) rfl ?_
  refine iq_istore_n hS 5 J_HBlocks_putBit_d4 (by decide) rfl ?_
  refine iq_iload_n hS 6 J_HBlocks_putBit_d5 lk_1s rfl ?_
  refine iq_sipush hS 9 J_HBlocks_putBit_d6 (v := 3706) (by decide +kernel) rfl ?_
  refine iq_icmp_lt hS 12 J_HBlocks_putBit_d9 (t := 13) rfl (fun q9 => ?_) rfl (fun q9 => ?_)
  · replace h := ed_pos q9 h
    refine iq_iconst hS 14 J_HBlocks_putBit_d13 (v := 1) (by decide +kernel) rfl ?_
    refine iq_bipush hS 16 J_HBlocks_putBit_d14 (v := 7) (by decide +kernel) rfl ?_
    refine iq_iload_n hS 17 J_HBlocks_putBit_d16 (lk_1i l1 (by decide)) rfl ?_
    refine iq_bipush hS 19 J_HBlocks_putBit_d17 (v := 8) (by decide +kernel) rfl ?_
    refine iq_irem hS 20 J_HBlocks_putBit_d19 (by decide) rfl ?_
    refine iq_isub hS 21 J_HBlocks_putBit_d20 rfl ?_
    refine iq_ishl hS 22 J_HBlocks_putBit_d21 rfl ?_
    refine iq_istore hS 24 J_HBlocks_putBit_d22 (by decide) rfl ?_
    refine iq_aload_n hS 25 J_HBlocks_putBit_d24 (lk_1r (lk_1r l0 (by decide)) (by decide)) rfl ?_
    refine iq_getR hS 28 J_HBlocks_putBit_d25 lf_1_11 (Or.inr ⟨_, rfl⟩) (ka_43 hM) (ra_43_0 hM) rfl ?_
    refine iq_iload_n hS 29 J_HBlocks_putBit_d28 (lk_1i lk_1s (by decide)) rfl ?_
    refine iq_iload_n hS 30 J_HBlocks_putBit_d29 (lk_1i (lk_1i l2 (by decide)) (by decide)) rfl ?_
    obtain ⟨Q1, hQ1, h⟩ := bd1_ed h
    have J1 : ∀ (y2 : Int32) (L' : List (Nat × Value)), Q1 y2 → ia (tb_G L xs) dep J_HBlocks_putBit (rwV w Q) (56, L', [.int y2, .int (p0 / 8), .ref 44], M) := by
      intro y2 L'  h
      replace h := hQ1 _ h
      refine iq_i2b hS 57 J_HBlocks_putBit_d56 rfl ?_
      obtain ⟨g57, h⟩ := ed_gd h
      refine iq_bastore hS 58 J_HBlocks_putBit_d57 ⟨(ka_44 hM).1, (ka_44 hM).2, g57.1, ix_lt (kl_44 hM) g57.2⟩ rfl ?_
      exact iq_ret J_HBlocks_putBit_d58 rfl ⟨rfl, (lw_sI hM), ed_some h⟩
    refine iq_if_eq hS 33 J_HBlocks_putBit_d30 (t := 45) rfl (fun q30 => ?_) rfl (fun q30 => ?_)
    · replace h := ed_pos q30 h
      refine iq_aload_n hS 46 J_HBlocks_putBit_d45 (lk_1r (lk_1r l0 (by decide)) (by decide)) rfl ?_
      refine iq_getR hS 49 J_HBlocks_putBit_d46 lf_1_11 (Or.inr ⟨_, rfl⟩) (ka_43 hM) (ra_43_0 hM) rfl ?_
      refine iq_iload_n hS 50 J_HBlocks_putBit_d49 (lk_1i lk_1s (by decide)) rfl ?_
      obtain ⟨g50, h⟩ := ed_gd h
      refine iq_baload hS 51 J_HBlocks_putBit_d50 ⟨(ka_44 hM).1, (ka_44 hM).2, g50.1, ix_lt (kl_44 hM) g50.2⟩ rfl ?_
      refine iq_iload hS 53 J_HBlocks_putBit_d51 lk_1s rfl ?_
      refine iq_iconst hS 54 J_HBlocks_putBit_d53 (v := (-1)) (by decide +kernel) rfl ?_
      refine iq_ixor hS 55 J_HBlocks_putBit_d54 rfl ?_
      refine iq_iand hS 56 J_HBlocks_putBit_d55 rfl ?_
      exact J1 _ _  (ed_some h)
    · replace h := ed_neg q30 h
      refine iq_aload_n hS 34 J_HBlocks_putBit_d33 (lk_1r (lk_1r l0 (by decide)) (by decide)) rfl ?_
      refine iq_getR hS 37 J_HBlocks_putBit_d34 lf_1_11 (Or.inr ⟨_, rfl⟩) (ka_43 hM) (ra_43_0 hM) rfl ?_
      refine iq_iload_n hS 38 J_HBlocks_putBit_d37 (lk_1i lk_1s (by decide)) rfl ?_
      obtain ⟨g38, h⟩ := ed_gd h
      refine iq_baload hS 39 J_HBlocks_putBit_d38 ⟨(ka_44 hM).1, (ka_44 hM).2, g38.1, ix_lt (kl_44 hM) g38.2⟩ rfl ?_
      refine iq_iload hS 41 J_HBlocks_putBit_d39 lk_1s rfl ?_
      refine iq_ior hS 42 J_HBlocks_putBit_d41 rfl ?_
      refine iq_goto hS J_HBlocks_putBit_d42 (t := 56) rfl ?_
      exact J1 _ _  (ed_some h)
  · replace h := ed_neg q9 h
    exact iq_ret J_HBlocks_putBit_d12 rfl ⟨rfl, hM, ed_some h⟩
theorem f_HBlocks_putBit_fr {p0 : Int32} {p1 : Int32} {M : im_M} {r : im_M} (h : f_HBlocks_putBit p0 p1 M = some r) : fr 17592186044416 [] M r := by
  replace h : ed (f_HBlocks_putBit p0 p1 M) (fun x => x = r) := ⟨r, h, rfl⟩
  unfold f_HBlocks_putBit at h
  by_cases q9 : (p0 / 8) < 3706
  · replace h := ed_pos q9 h
    obtain ⟨Q1, hQ1, h⟩ := bd1_ed h
    have J1 : ∀ (y2 : Int32), Q1 y2 → fr 17592186044416 [] M r := by
      intro y2 h
      replace h := hQ1 _ h
      obtain ⟨g57, h⟩ := ed_gd h
      exact fr_retV h (fr_I (by decide) fr_refl)
    by_cases q30 : p1 = 0
    · replace h := ed_pos q30 h
      obtain ⟨g50, h⟩ := ed_gd h
      exact J1 _ (ed_some h)
    · replace h := ed_neg q30 h
      obtain ⟨g38, h⟩ := ed_gd h
      exact J1 _ (ed_some h)
  · replace h := ed_neg q9 h
    exact fr_retV h fr_refl
noncomputable def f_HBlocks_bitAt (p0 : Int32) (M : im_M) : Option (Int32) := if ((8 : Int32) * (im_i M 43 13)) ≤ p0 then some 0 else gd (inb (p0 / 8) 3706) <| if (((im_i M 44 (Int32.toNatClampNeg (p0 / 8))) >>> (((7 : Int32) - (p0 - p0 / 8 * 8)) &&& 31 : Int32) : Int32) &&& 1) = 0 then some 0 else some 1
theorem J_HBlocks_bitAt_d0 : decode J_HBlocks_bitAt.2.1 0 = .ok (.iload_n 1, 1) := by decide +kernel
theorem J_HBlocks_bitAt_d1 : decode J_HBlocks_bitAt.2.1 1 = .ok (.bipush 8, 2) := by decide +kernel
theorem J_HBlocks_bitAt_d3 : decode J_HBlocks_bitAt.2.1 3 = .ok (.aload_n 0, 1) := by decide +kernel
theorem J_HBlocks_bitAt_d4 : decode J_HBlocks_bitAt.2.1 4 = .ok (.getfield 67, 3) := by decide +kernel
theorem J_HBlocks_bitAt_d7 : decode J_HBlocks_bitAt.2.1 7 = .ok (.imul, 1) := by decide +kernel
theorem J_HBlocks_bitAt_d8 : decode J_HBlocks_bitAt.2.1 8 = .ok (.if_icmp .ge 29, 3) := by decide +kernel
theorem J_HBlocks_bitAt_d11 : decode J_HBlocks_bitAt.2.1 11 = .ok (.aload_n 0, 1) := by decide +kernel
theorem J_HBlocks_bitAt_d12 : decode J_HBlocks_bitAt.2.1 12 = .ok (.getfield 11, 3) := by decide +kernel
theorem J_HBlocks_bitAt_d15 : decode J_HBlocks_bitAt.2.1 15 = .ok (.iload_n 1, 1) := by decide +kernel
theorem J_HBlocks_bitAt_d16 : decode J_HBlocks_bitAt.2.1 16 = .ok (.bipush 8, 2) := by decide +kernel
theorem J_HBlocks_bitAt_d18 : decode J_HBlocks_bitAt.2.1 18 = .ok (.idiv, 1) := by decide +kernel
theorem J_HBlocks_bitAt_d19 : decode J_HBlocks_bitAt.2.1 19 = .ok (.baload, 1) := by decide +kernel
theorem J_HBlocks_bitAt_d20 : decode J_HBlocks_bitAt.2.1 20 = .ok (.bipush 7, 2) := by decide +kernel
theorem J_HBlocks_bitAt_d22 : decode J_HBlocks_bitAt.2.1 22 = .ok (.iload_n 1, 1) := by decide +kernel
theorem J_HBlocks_bitAt_d23 : decode J_HBlocks_bitAt.2.1 23 = .ok (.bipush 8, 2) := by decide +kernel
theorem J_HBlocks_bitAt_d25 : decode J_HBlocks_bitAt.2.1 25 = .ok (.irem, 1) := by decide +kernel
theorem J_HBlocks_bitAt_d26 : decode J_HBlocks_bitAt.2.1 26 = .ok (.isub, 1) := by decide +kernel
theorem J_HBlocks_bitAt_d27 : decode J_HBlocks_bitAt.2.1 27 = .ok (.ishr, 1) := by decide +kernel
theorem J_HBlocks_bitAt_d28 : decode J_HBlocks_bitAt.2.1 28 = .ok (.iconst 1, 1) := by decide +kernel
theorem J_HBlocks_bitAt_d29 : decode J_HBlocks_bitAt.2.1 29 = .ok (.iand, 1) := by decide +kernel
theorem J_HBlocks_bitAt_d30 : decode J_HBlocks_bitAt.2.1 30 = .ok (.ifCond .eq 7, 3) := by decide +kernel
theorem J_HBlocks_bitAt_d33 : decode J_HBlocks_bitAt.2.1 33 = .ok (.iconst 1, 1) := by decide +kernel
theorem J_HBlocks_bitAt_d34 : decode J_HBlocks_bitAt.2.1 34 = .ok (.goto 4, 3) := by decide +kernel
theorem J_HBlocks_bitAt_d37 : decode J_HBlocks_bitAt.2.1 37 = .ok (.iconst 0, 1) := by decide +kernel
theorem J_HBlocks_bitAt_d38 : decode J_HBlocks_bitAt.2.1 38 = .ok (.ireturn, 1) := by decide +kernel
theorem f_HBlocks_bitAt_ok {L : Nat} {xs : Nat → Int32} {dep : Nat} {w : Bool} {p0 : Int32} {M : im_M} {Q : Int32 → Prop} (hM : lw_S w M) (h : ed (f_HBlocks_bitAt p0 M) Q) : ia (tb_G L xs) dep J_HBlocks_bitAt (rpI M Q) (0, lv_args 0 [.ref 43, .int p0], [], M) := by
  have hS : im_St (tb_G L xs) dep J_HBlocks_bitAt (ia (tb_G L xs) dep J_HBlocks_bitAt (rpI M Q)) := ia_St
  unfold f_HBlocks_bitAt at h
  have l0 : im_lk (lv_args 0 [.ref 43, .int p0]) 0 = some (.ref 43) := rfl
  have l1 : im_lk (lv_args 0 [.ref 43, .int p0]) 1 = some (.int p0) := rfl
  refine iq_iload_n hS 1 J_HBlocks_bitAt_d0 l1 rfl ?_
  refine iq_bipush hS 3 J_HBlocks_bitAt_d1 (v := 8) (by decide +kernel) rfl ?_
  refine iq_aload_n hS 4 J_HBlocks_bitAt_d3 l0 rfl ?_
  refine iq_getI hS 7 J_HBlocks_bitAt_d4 lf_1_67 (Or.inl rfl) (ka_43 hM) rfl ?_
  refine iq_imul hS 8 J_HBlocks_bitAt_d7 rfl ?_
  refine iq_icmp_ge hS 11 J_HBlocks_bitAt_d8 (t := 37) rfl (fun q8 => ?_) rfl (fun q8 => ?_)
  · replace h := ed_pos q8 h
    refine iq_iconst hS 38 J_HBlocks_bitAt_d37 (v := 0) (by decide +kernel) rfl ?_
    exact iq_iret J_HBlocks_bitAt_d38 rfl rfl ⟨_, rfl, rfl, ed_some h⟩
  · replace h := ed_neg q8 h
    refine iq_aload_n hS 12 J_HBlocks_bitAt_d11 l0 rfl ?_
    refine iq_getR hS 15 J_HBlocks_bitAt_d12 lf_1_11 (Or.inr ⟨_, rfl⟩) (ka_43 hM) (ra_43_0 hM) rfl ?_
    refine iq_iload_n hS 16 J_HBlocks_bitAt_d15 l1 rfl ?_
    refine iq_bipush hS 18 J_HBlocks_bitAt_d16 (v := 8) (by decide +kernel) rfl ?_
    refine iq_idiv hS 19 J_HBlocks_bitAt_d18 (by decide) rfl ?_
    obtain ⟨g19, h⟩ := ed_gd h
    refine iq_baload hS 20 J_HBlocks_bitAt_d19 ⟨(ka_44 hM).1, (ka_44 hM).2, g19.1, ix_lt (kl_44 hM) g19.2⟩ rfl ?_
    refine iq_bipush hS 22 J_HBlocks_bitAt_d20 (v := 7) (by decide +kernel) rfl ?_
    refine iq_iload_n hS 23 J_HBlocks_bitAt_d22 l1 rfl ?_
    refine iq_bipush hS 25 J_HBlocks_bitAt_d23 (v := 8) (by decide +kernel) rfl ?_
    refine iq_irem hS 26 J_HBlocks_bitAt_d25 (by decide) rfl ?_
    refine iq_isub hS 27 J_HBlocks_bitAt_d26 rfl ?_
    refine iq_ishr hS 28 J_HBlocks_bitAt_d27 rfl ?_
    refine iq_iconst hS 29 J_HBlocks_bitAt_d28 (v := 1) (by decide +kernel) rfl ?_
    refine iq_iand hS 30 J_HBlocks_bitAt_d29 rfl ?_
    refine iq_if_eq hS 33 J_HBlocks_bitAt_d30 (t := 37) rfl (fun q30 => ?_) rfl (fun q30 => ?_)
    · replace h := ed_pos q30 h
      refine iq_iconst hS 38 J_HBlocks_bitAt_d37 (v := 0) (by decide +kernel) rfl ?_
      exact iq_iret J_HBlocks_bitAt_d38 rfl rfl ⟨_, rfl, rfl, ed_some h⟩
    · replace h := ed_neg q30 h
      refine iq_iconst hS 34 J_HBlocks_bitAt_d33 (v := 1) (by decide +kernel) rfl ?_
      refine iq_goto hS J_HBlocks_bitAt_d34 (t := 38) rfl ?_
      exact iq_iret J_HBlocks_bitAt_d38 rfl rfl ⟨_, rfl, rfl, ed_some h⟩
noncomputable def f_HGrid_set (p0 : Int32) (p1 : Int32) (p2 : Int32) (M : im_M) : Option (im_M) := gd (inb ((p1 * 177) + p0) 31329) <| some (im_setI M 54 (Int32.toNatClampNeg ((p1 * 177) + p0)) (vp_nar .byte ((Int32.toInt8 ((if p2 = 0 then 0 else 1) : Int32)).toInt32)))
theorem J_HGrid_set_d0 : decode J_HGrid_set.2.1 0 = .ok (.aload_n 0, 1) := by decide +kernel
theorem J_HGrid_set_d1 : decode J_HGrid_set.2.1 1 = .ok (.getfield 25, 3) := by decide +kernel
theorem J_HGrid_set_d4 : decode J_HGrid_set.2.1 4 = .ok (.iload_n 2, 1) := by decide +kernel
theorem J_HGrid_set_d5 : decode J_HGrid_set.2.1 5 = .ok (.sipush 177, 3) := by decide +kernel
theorem J_HGrid_set_d8 : decode J_HGrid_set.2.1 8 = .ok (.imul, 1) := by decide +kernel
theorem J_HGrid_set_d9 : decode J_HGrid_set.2.1 9 = .ok (.iload_n 1, 1) := by decide +kernel
theorem J_HGrid_set_d10 : decode J_HGrid_set.2.1 10 = .ok (.iadd, 1) := by decide +kernel
theorem J_HGrid_set_d11 : decode J_HGrid_set.2.1 11 = .ok (.iload_n 3, 1) := by decide +kernel
theorem J_HGrid_set_d12 : decode J_HGrid_set.2.1 12 = .ok (.ifCond .eq 7, 3) := by decide +kernel
theorem J_HGrid_set_d15 : decode J_HGrid_set.2.1 15 = .ok (.iconst 1, 1) := by decide +kernel
theorem J_HGrid_set_d16 : decode J_HGrid_set.2.1 16 = .ok (.goto 4, 3) := by decide +kernel
theorem J_HGrid_set_d19 : decode J_HGrid_set.2.1 19 = .ok (.iconst 0, 1) := by decide +kernel
theorem J_HGrid_set_d20 : decode J_HGrid_set.2.1 20 = .ok (.i2b, 1) := by decide +kernel
theorem J_HGrid_set_d21 : decode J_HGrid_set.2.1 21 = .ok (.bastore, 1) := by decide +kernel
theorem J_HGrid_set_d22 : decode J_HGrid_set.2.1 22 = .ok (.return_, 1) := by decide +kernel
theorem f_HGrid_set_ok {L : Nat} {xs : Nat → Int32} {dep : Nat} {w : Bool} {p0 : Int32} {p1 : Int32} {p2 : Int32} {M : im_M} {Q : im_M → Prop} (hM : lw_S w M) (h : ed (f_HGrid_set p0 p1 p2 M) Q) : ia (tb_G L xs) dep J_HGrid_set (rwV w Q) (0, lv_args 0 [.ref 38, .int p0, .int p1, .int p2], [], M) := by
  have hS : im_St (tb_G L xs) dep J_HGrid_set (ia (tb_G L xs) dep J_HGrid_set (rwV w Q)) := ia_St
  unfold f_HGrid_set at h
  have l0 : im_lk (lv_args 0 [.ref 38, .int p0, .int p1, .int p2]) 0 = some (.ref 38) := rfl
  have l1 : im_lk (lv_args 0 [.ref 38, .int p0, .int p1, .int p2]) 1 = some (.int p0) := rfl
  have l2 : im_lk (lv_args 0 [.ref 38, .int p0, .int p1, .int p2]) 2 = some (.int p1) := rfl
  have l3 : im_lk (lv_args 0 [.ref 38, .int p0, .int p1, .int p2]) 3 = some (.int p2) := rfl
  refine iq_aload_n hS 1 J_HGrid_set_d0 l0 rfl ?_
  refine iq_getR hS 4 J_HGrid_set_d1 lf_4_25 (Or.inr ⟨_, rfl⟩) (ka_38 hM) (ra_38_7 hM) rfl ?_
  refine iq_iload_n hS 5 J_HGrid_set_d4 l2 rfl ?_
  refine iq_sipush hS 8 J_HGrid_set_d5 (v := 177) (by decide +kernel) rfl ?_
  refine iq_imul hS 9 J_HGrid_set_d8 rfl ?_
  refine iq_iload_n hS 10 J_HGrid_set_d9 l1 rfl ?_
  refine iq_iadd hS 11 J_HGrid_set_d10 rfl ?_
  refine iq_iload_n hS 12 J_HGrid_set_d11 l3 rfl ?_
  have J1 : ∀ (z2 : Int32) (L' : List (Nat × Value)), z2 = ((if p2 = 0 then 0 else 1) : Int32) → ia (tb_G L xs) dep J_HGrid_set (rwV w Q) (20, L', [.int z2, .int ((p1 * 177) + p0), .ref 54], M) := by
    intro z2 L' e3 
    subst e3
    refine iq_i2b hS 21 J_HGrid_set_d20 rfl ?_
    obtain ⟨g21, h⟩ := ed_gd h
    refine iq_bastore hS 22 J_HGrid_set_d21 ⟨(ka_54 hM).1, (ka_54 hM).2, g21.1, ix_lt (kl_54 hM) g21.2⟩ rfl ?_
    exact iq_ret J_HGrid_set_d22 rfl ⟨rfl, (lw_sI hM), ed_some h⟩
  refine iq_if_eq hS 15 J_HGrid_set_d12 (t := 19) rfl (fun q12 => ?_) rfl (fun q12 => ?_)
  · refine iq_iconst hS 20 J_HGrid_set_d19 (v := 0) (by decide +kernel) rfl ?_
    exact J1 _ _ (by simp only [if_pos q12]) 
  · refine iq_iconst hS 16 J_HGrid_set_d15 (v := 1) (by decide +kernel) rfl ?_
    refine iq_goto hS J_HGrid_set_d16 (t := 20) rfl ?_
    exact J1 _ _ (by simp only [if_neg q12]) 
theorem f_HGrid_set_fr {p0 : Int32} {p1 : Int32} {p2 : Int32} {M : im_M} {r : im_M} (h : f_HGrid_set p0 p1 p2 M = some r) : fr 18014398509481984 [] M r := by
  replace h : ed (f_HGrid_set p0 p1 p2 M) (fun x => x = r) := ⟨r, h, rfl⟩
  unfold f_HGrid_set at h
  obtain ⟨g21, h⟩ := ed_gd h
  exact fr_retV h (fr_I (by decide) fr_refl)
noncomputable def f_HGrid_carryBit (p0 : Int32) (p1 : Int32) (p2 : Int32) (p3 : Int32) (M : im_M) : Option (Int32 × im_M) := gd (inb ((p3 * 177) + p2) 31329) <| if (im_i M 55 (Int32.toNatClampNeg ((p3 * 177) + p2))) = 0 then bd1 (if p0 = 0 then bd1 (f_HGrid_isDark p2 p3 M) fun (x2 : Int32) => bd1 (f_HBlocks_putBit p1 x2 M) fun (M3 : im_M) => some M3 else bd1 (f_HBlocks_bitAt p1 M) fun (x4 : Int32) => bd1 (f_HGrid_set p2 p3 x4 M) fun (M5 : im_M) => some M5) fun (M6 : im_M) => some ((p1 + 1), M6) else some (p1, M)
theorem J_HGrid_carryBit_d0 : decode J_HGrid_carryBit.2.1 0 = .ok (.aload_n 0, 1) := by decide +kernel
theorem J_HGrid_carryBit_d1 : decode J_HGrid_carryBit.2.1 1 = .ok (.getfield 29, 3) := by decide +kernel
theorem J_HGrid_carryBit_d4 : decode J_HGrid_carryBit.2.1 4 = .ok (.iload 4, 2) := by decide +kernel
theorem J_HGrid_carryBit_d6 : decode J_HGrid_carryBit.2.1 6 = .ok (.sipush 177, 3) := by decide +kernel
theorem J_HGrid_carryBit_d9 : decode J_HGrid_carryBit.2.1 9 = .ok (.imul, 1) := by decide +kernel
theorem J_HGrid_carryBit_d10 : decode J_HGrid_carryBit.2.1 10 = .ok (.iload_n 3, 1) := by decide +kernel
theorem J_HGrid_carryBit_d11 : decode J_HGrid_carryBit.2.1 11 = .ok (.iadd, 1) := by decide +kernel
theorem J_HGrid_carryBit_d12 : decode J_HGrid_carryBit.2.1 12 = .ok (.baload, 1) := by decide +kernel
theorem J_HGrid_carryBit_d13 : decode J_HGrid_carryBit.2.1 13 = .ok (.ifCond .eq 5, 3) := by decide +kernel
theorem J_HGrid_carryBit_d16 : decode J_HGrid_carryBit.2.1 16 = .ok (.iload_n 2, 1) := by decide +kernel
theorem J_HGrid_carryBit_d17 : decode J_HGrid_carryBit.2.1 17 = .ok (.ireturn, 1) := by decide +kernel
theorem J_HGrid_carryBit_d18 : decode J_HGrid_carryBit.2.1 18 = .ok (.iload_n 1, 1) := by decide +kernel
theorem J_HGrid_carryBit_d19 : decode J_HGrid_carryBit.2.1 19 = .ok (.ifCond .eq 21, 3) := by decide +kernel
theorem J_HGrid_carryBit_d22 : decode J_HGrid_carryBit.2.1 22 = .ok (.aload_n 0, 1) := by decide +kernel
theorem J_HGrid_carryBit_d23 : decode J_HGrid_carryBit.2.1 23 = .ok (.iload_n 3, 1) := by decide +kernel
theorem J_HGrid_carryBit_d24 : decode J_HGrid_carryBit.2.1 24 = .ok (.iload 4, 2) := by decide +kernel
theorem J_HGrid_carryBit_d26 : decode J_HGrid_carryBit.2.1 26 = .ok (.aload_n 0, 1) := by decide +kernel
theorem J_HGrid_carryBit_d27 : decode J_HGrid_carryBit.2.1 27 = .ok (.getfield 21, 3) := by decide +kernel
theorem J_HGrid_carryBit_d30 : decode J_HGrid_carryBit.2.1 30 = .ok (.iload_n 2, 1) := by decide +kernel
theorem J_HGrid_carryBit_d31 : decode J_HGrid_carryBit.2.1 31 = .ok (.invokevirtual 126, 3) := by decide +kernel
theorem J_HGrid_carryBit_d34 : decode J_HGrid_carryBit.2.1 34 = .ok (.invokevirtual 130, 3) := by decide +kernel
theorem J_HGrid_carryBit_d37 : decode J_HGrid_carryBit.2.1 37 = .ok (.goto 18, 3) := by decide +kernel
theorem J_HGrid_carryBit_d40 : decode J_HGrid_carryBit.2.1 40 = .ok (.aload_n 0, 1) := by decide +kernel
theorem J_HGrid_carryBit_d41 : decode J_HGrid_carryBit.2.1 41 = .ok (.getfield 21, 3) := by decide +kernel
theorem J_HGrid_carryBit_d44 : decode J_HGrid_carryBit.2.1 44 = .ok (.iload_n 2, 1) := by decide +kernel
theorem J_HGrid_carryBit_d45 : decode J_HGrid_carryBit.2.1 45 = .ok (.aload_n 0, 1) := by decide +kernel
theorem J_HGrid_carryBit_d46 : decode J_HGrid_carryBit.2.1 46 = .ok (.iload_n 3, 1) := by decide +kernel
theorem J_HGrid_carryBit_d47 : decode J_HGrid_carryBit.2.1 47 = .ok (.iload 4, 2) := by decide +kernel
theorem J_HGrid_carryBit_d49 : decode J_HGrid_carryBit.2.1 49 = .ok (.invokevirtual 133, 3) := by decide +kernel
theorem J_HGrid_carryBit_d52 : decode J_HGrid_carryBit.2.1 52 = .ok (.invokevirtual 137, 3) := by decide +kernel
theorem J_HGrid_carryBit_d55 : decode J_HGrid_carryBit.2.1 55 = .ok (.iload_n 2, 1) := by decide +kernel
theorem J_HGrid_carryBit_d56 : decode J_HGrid_carryBit.2.1 56 = .ok (.iconst 1, 1) := by decide +kernel
theorem J_HGrid_carryBit_d57 : decode J_HGrid_carryBit.2.1 57 = .ok (.iadd, 1) := by decide +kernel
theorem J_HGrid_carryBit_d58 : decode J_HGrid_carryBit.2.1 58 = .ok (.ireturn, 1) := by decide +kernel
theorem f_HGrid_carryBit_ok {L : Nat} {xs : Nat → Int32} {dep : Nat} {w : Bool} {p0 : Int32} {p1 : Int32} {p2 : Int32} {p3 : Int32} {M : im_M} {Q : Int32 × im_M → Prop} (hM : lw_S w M) (h : ed (f_HGrid_carryBit p0 p1 p2 p3 M) Q) : ia (tb_G L xs) (dep + 1) J_HGrid_carryBit (rwI w Q) (0, lv_args 0 [.ref 38, .int p0, .int p1, .int p2, .int p3], [], M) := by
  have hS : im_St (tb_G L xs) (dep + 1) J_HGrid_carryBit (ia (tb_G L xs) (dep + 1) J_HGrid_carryBit (rwI w Q)) := ia_St
  unfold f_HGrid_carryBit at h
  have l0 : im_lk (lv_args 0 [.ref 38, .int p0, .int p1, .int p2, .int p3]) 0 = some (.ref 38) := rfl
  have l1 : im_lk (lv_args 0 [.ref 38, .int p0, .int p1, .int p2, .int p3]) 1 = some (.int p0) := rfl
  have l2 : im_lk (lv_args 0 [.ref 38, .int p0, .int p1, .int p2, .int p3]) 2 = some (.int p1) := rfl
  have l3 : im_lk (lv_args 0 [.ref 38, .int p0, .int p1, .int p2, .int p3]) 3 = some (.int p2) := rfl
  have l4 : im_lk (lv_args 0 [.ref 38, .int p0, .int p1, .int p2, .int p3]) 4 = some (.int p3) := rfl
  refine iq_aload_n hS 1 J_HGrid_carryBit_d0 l0 rfl ?_
  refine iq_getR hS 4 J_HGrid_carryBit_d1 lf_4_29 (Or.inr ⟨_, rfl⟩) (ka_38 hM) (ra_38_8 hM) rfl ?_
  refine iq_iload hS 6 J_HGrid_carryBit_d4 l4 rfl ?_
  refine iq_sipush hS 9 J_HGrid_carryBit_d6 (v := 177) (by decide +kernel) rfl ?_
  refine iq_imul hS 10 J_HGrid_carryBit_d9 rfl ?_
  refine iq_iload_n hS 11 J_HGrid_carryBit_d10 l3 rfl ?_
  refine iq_iadd hS 12 J_HGrid_carryBit_d11 rfl ?_
  obtain ⟨g12, h⟩ := ed_gd h
  refine iq_baload hS 13 J_HGrid_carryBit_d12 ⟨(ka_55 hM).1, (ka_55 hM).2, g12.1, ix_lt (kl_55 hM) g12.2⟩ rfl ?_
  refine iq_if_eq hS 16 J_HGrid_carryBit_d13 (t := 18) rfl (fun q13 => ?_) rfl (fun q13 => ?_)
  · replace h := ed_pos q13 h
    refine iq_iload_n hS 19 J_HGrid_carryBit_d18 l1 rfl ?_
    obtain ⟨Q1, hQ1, h⟩ := bd1_ed h
    have J1 : ∀ (M6 : im_M) (L' : List (Nat × Value)), lw_S w M6 → im_lk L' 2 = some (.int p1) → Q1 M6 → ia (tb_G L xs) (dep + 1) J_HGrid_carryBit (rwI w Q) (55, L', [], M6) := by
      intro M6 L' hM6 l7 h
      replace h := hQ1 _ h
      refine iq_iload_n hS 56 J_HGrid_carryBit_d55 l7 rfl ?_
      refine iq_iconst hS 57 J_HGrid_carryBit_d56 (v := 1) (by decide +kernel) rfl ?_
      refine iq_iadd hS 58 J_HGrid_carryBit_d57 rfl ?_
      exact iq_iret J_HGrid_carryBit_d58 rfl rfl ⟨_, rfl, hM6, ed_some h⟩
    refine iq_if_eq hS 22 J_HGrid_carryBit_d19 (t := 40) rfl (fun q19 => ?_) rfl (fun q19 => ?_)
    · replace h := ed_pos q19 h
      refine iq_aload_n hS 41 J_HGrid_carryBit_d40 l0 rfl ?_
      refine iq_getR hS 44 J_HGrid_carryBit_d41 lf_4_21 (Or.inl ⟨_, rfl⟩) (ka_38 hM) (ra_38_5 hM) rfl ?_
      refine iq_iload_n hS 45 J_HGrid_carryBit_d44 l2 rfl ?_
      refine iq_aload_n hS 46 J_HGrid_carryBit_d45 l0 rfl ?_
      refine iq_iload_n hS 47 J_HGrid_carryBit_d46 l3 rfl ?_
      refine iq_iload hS 49 J_HGrid_carryBit_d47 l4 rfl ?_
      obtain ⟨Q2, hQ2, h⟩ := bd1_ed h
      refine iq_cpI hS 52 J_HGrid_carryBit_d49 rfl (pr_inst (vs := [_, _]) lc_4_133 lT_171 rfl rfl (by decide) (by decide) rfl (Nat.le_of_ble_eq_true rfl) (Nat.le_of_ble_eq_true rfl) (fun _ => Or.inl (pr_b (ka_38 hM) (by decide) rfl))) (f_HGrid_isDark_ok (dep := dep + 0) hM h) rfl ?_
      intro x2 h
      replace h := hQ2 _ h
      obtain ⟨Q3, hQ3, h⟩ := bd1_ed h
      refine iq_cwV hS 55 J_HGrid_carryBit_d52 rfl (pr_inst (vs := [_, _]) lc_4_137 lT_172 rfl rfl (by decide) (by decide) rfl (Nat.le_of_ble_eq_true rfl) (Nat.le_of_ble_eq_true rfl) (fun _ => Or.inl (pr_b (ka_43 hM) (by decide) rfl))) (f_HBlocks_putBit_ok (dep := dep + 0) hM h) rfl ?_
      intro M3 hM3 h
      replace h := hQ3 _ h
      exact J1 _ _ hM3 l2 (ed_some h)
    · replace h := ed_neg q19 h
      refine iq_aload_n hS 23 J_HGrid_carryBit_d22 l0 rfl ?_
      refine iq_iload_n hS 24 J_HGrid_carryBit_d23 l3 rfl ?_
      refine iq_iload hS 26 J_HGrid_carryBit_d24 l4 rfl ?_
      refine iq_aload_n hS 27 J_HGrid_carryBit_d26 l0 rfl ?_
      refine iq_getR hS 30 J_HGrid_carryBit_d27 lf_4_21 (Or.inl ⟨_, rfl⟩) (ka_38 hM) (ra_38_5 hM) rfl ?_
      refine iq_iload_n hS 31 J_HGrid_carryBit_d30 l2 rfl ?_
      obtain ⟨Q4, hQ4, h⟩ := bd1_ed h
      refine iq_cpI hS 34 J_HGrid_carryBit_d31 rfl (pr_inst (vs := [_]) lc_4_126 lT_169 rfl rfl (by decide) (by decide) rfl (Nat.le_of_ble_eq_true rfl) (Nat.le_of_ble_eq_true rfl) (fun _ => Or.inl (pr_b (ka_43 hM) (by decide) rfl))) (f_HBlocks_bitAt_ok (dep := dep + 0) hM h) rfl ?_
      intro x4 h
      replace h := hQ4 _ h
      obtain ⟨Q5, hQ5, h⟩ := bd1_ed h
      refine iq_cwV hS 37 J_HGrid_carryBit_d34 rfl (pr_inst (vs := [_, _, _]) lc_4_130 lT_170 rfl rfl (by decide) (by decide) rfl (Nat.le_of_ble_eq_true rfl) (Nat.le_of_ble_eq_true rfl) (fun _ => Or.inl (pr_b (ka_38 hM) (by decide) rfl))) (f_HGrid_set_ok (dep := dep + 0) hM h) rfl ?_
      intro M5 hM5 h
      replace h := hQ5 _ h
      refine iq_goto hS J_HGrid_carryBit_d37 (t := 55) rfl ?_
      exact J1 _ _ hM5 l2 (ed_some h)
  · replace h := ed_neg q13 h
    refine iq_iload_n hS 17 J_HGrid_carryBit_d16 l2 rfl ?_
    exact iq_iret J_HGrid_carryBit_d17 rfl rfl ⟨_, rfl, hM, ed_some h⟩
theorem f_HGrid_carryBit_fr {p0 : Int32} {p1 : Int32} {p2 : Int32} {p3 : Int32} {M : im_M} {r : Int32 × im_M} (h : f_HGrid_carryBit p0 p1 p2 p3 M = some r) : fr 18031990695526400 [] M r.2 := by
  replace h : ed (f_HGrid_carryBit p0 p1 p2 p3 M) (fun x => x = r) := ⟨r, h, rfl⟩
  unfold f_HGrid_carryBit at h
  obtain ⟨g12, h⟩ := ed_gd h
  by_cases q13 : (im_i M 55 (Int32.toNatClampNeg ((p3 * 177) + p2))) = 0
  · replace h := ed_pos q13 h
    obtain ⟨Q1, hQ1, h⟩ := bd1_ed h
    have J1 : ∀ (M6 : im_M), fr 18031990695526400 [] M M6 → Q1 M6 → fr 18031990695526400 [] M r.2 := by
      intro M6 hM6 h
      replace h := hQ1 _ h
      exact fr_ret h hM6
    by_cases q19 : p0 = 0
    · replace h := ed_pos q19 h
      obtain ⟨Q2, hQ2, h⟩ := bd1_ed h
      obtain ⟨x2, e2, h⟩ := h
      replace h := hQ2 _ h
      obtain ⟨Q3, hQ3, h⟩ := bd1_ed h
      obtain ⟨M3, e3, h⟩ := h
      replace h := hQ3 _ h
      exact J1 _ (fr_tr (fr_mono (by decide) (by decide +kernel) (f_HBlocks_putBit_fr e3)) fr_refl) (ed_some h)
    · replace h := ed_neg q19 h
      obtain ⟨Q4, hQ4, h⟩ := bd1_ed h
      obtain ⟨x4, e4, h⟩ := h
      replace h := hQ4 _ h
      obtain ⟨Q5, hQ5, h⟩ := bd1_ed h
      obtain ⟨M5, e5, h⟩ := h
      replace h := hQ5 _ h
      exact J1 _ (fr_tr (fr_mono (by decide) (by decide +kernel) (f_HGrid_set_fr e5)) fr_refl) (ed_some h)
  · replace h := ed_neg q13 h
    exact fr_ret h fr_refl
noncomputable def f_HGrid_carry_L41 (v8 : Int32) (v9 : Int32) (v10 : Int32) (x11 : Int32) (x12 : Int32) (M13 : im_M) : Option ((Int32 × Int32 × im_M) ⊕ (Int32 × im_M)) := if (im_i M13 38 1) ≤ x12 then some (.inr (x11, M13)) else bd2 (f_HGrid_carryBit v8 x11 v10 ((if ¬ (v9 - v9 / 2 * 2) = 0 then x12 else (((im_i M13 38 1) - 1) - x12)) : Int32) M13) fun (x15 : Int32) (M15 : im_M) => bd2 (f_HGrid_carryBit v8 x15 (v10 - 1) ((if ¬ (v9 - v9 / 2 * 2) = 0 then x12 else (((im_i M13 38 1) - 1) - x12)) : Int32) M15) fun (x16 : Int32) (M16 : im_M) => some (.inl (x16, (x12 + 1), M16))
noncomputable def f_HGrid_carry_L4 (v2 : Int32) (x3 : Int32) (x4 : Int32) (M5 : im_M) : Option ((Int32 × Int32 × im_M) ⊕ (im_M)) := if (((im_i M5 38 1) - 1) / 2) ≤ x4 then some (.inr M5) else bd2 (lp (uc3 (f_HGrid_carry_L41 v2 x4 ((if 6 < (((im_i M5 38 1) - 1) - ((2 : Int32) * x4)) then (((im_i M5 38 1) - 1) - ((2 : Int32) * x4)) else ((((im_i M5 38 1) - 1) - ((2 : Int32) * x4)) + (-1))) : Int32))) (x3, 0, M5)) fun (y17 : Int32) (M18 : im_M) => some (.inl (y17, (x4 + 1), M18))
noncomputable def f_HGrid_carry (p0 : Int32) (M : im_M) : Option (im_M) := bd1 (lp (uc3 (f_HGrid_carry_L4 p0)) (0, 0, M)) fun (M19 : im_M) => some M19
theorem J_HGrid_carry_d0 : decode J_HGrid_carry.2.1 0 = .ok (.iconst 0, 1) := by decide +kernel
theorem J_HGrid_carry_d1 : decode J_HGrid_carry.2.1 1 = .ok (.istore_n 2, 1) := by decide +kernel
theorem J_HGrid_carry_d2 : decode J_HGrid_carry.2.1 2 = .ok (.iconst 0, 1) := by decide +kernel
theorem J_HGrid_carry_d3 : decode J_HGrid_carry.2.1 3 = .ok (.istore_n 3, 1) := by decide +kernel
theorem J_HGrid_carry_d4 : decode J_HGrid_carry.2.1 4 = .ok (.iload_n 3, 1) := by decide +kernel
theorem J_HGrid_carry_d5 : decode J_HGrid_carry.2.1 5 = .ok (.aload_n 0, 1) := by decide +kernel
theorem J_HGrid_carry_d6 : decode J_HGrid_carry.2.1 6 = .ok (.getfield 74, 3) := by decide +kernel
theorem J_HGrid_carry_d9 : decode J_HGrid_carry.2.1 9 = .ok (.iconst 1, 1) := by decide +kernel
theorem J_HGrid_carry_d10 : decode J_HGrid_carry.2.1 10 = .ok (.isub, 1) := by decide +kernel
theorem J_HGrid_carry_d11 : decode J_HGrid_carry.2.1 11 = .ok (.iconst 2, 1) := by decide +kernel
theorem J_HGrid_carry_d12 : decode J_HGrid_carry.2.1 12 = .ok (.idiv, 1) := by decide +kernel
theorem J_HGrid_carry_d13 : decode J_HGrid_carry.2.1 13 = .ok (.if_icmp .ge 95, 3) := by decide +kernel
theorem J_HGrid_carry_d16 : decode J_HGrid_carry.2.1 16 = .ok (.aload_n 0, 1) := by decide +kernel
theorem J_HGrid_carry_d17 : decode J_HGrid_carry.2.1 17 = .ok (.getfield 74, 3) := by decide +kernel
theorem J_HGrid_carry_d20 : decode J_HGrid_carry.2.1 20 = .ok (.iconst 1, 1) := by decide +kernel
theorem J_HGrid_carry_d21 : decode J_HGrid_carry.2.1 21 = .ok (.isub, 1) := by decide +kernel
theorem J_HGrid_carry_d22 : decode J_HGrid_carry.2.1 22 = .ok (.iconst 2, 1) := by decide +kernel
theorem J_HGrid_carry_d23 : decode J_HGrid_carry.2.1 23 = .ok (.iload_n 3, 1) := by decide +kernel
theorem J_HGrid_carry_d24 : decode J_HGrid_carry.2.1 24 = .ok (.imul, 1) := by decide +kernel
theorem J_HGrid_carry_d25 : decode J_HGrid_carry.2.1 25 = .ok (.isub, 1) := by decide +kernel
theorem J_HGrid_carry_d26 : decode J_HGrid_carry.2.1 26 = .ok (.istore 4, 2) := by decide +kernel
theorem J_HGrid_carry_d28 : decode J_HGrid_carry.2.1 28 = .ok (.iload 4, 2) := by decide +kernel
theorem J_HGrid_carry_d30 : decode J_HGrid_carry.2.1 30 = .ok (.bipush 6, 2) := by decide +kernel
theorem J_HGrid_carry_d32 : decode J_HGrid_carry.2.1 32 = .ok (.if_icmp .gt 6, 3) := by decide +kernel
theorem J_HGrid_carry_d35 : decode J_HGrid_carry.2.1 35 = .ok (.iinc 4 (-1), 3) := by decide +kernel
theorem J_HGrid_carry_d38 : decode J_HGrid_carry.2.1 38 = .ok (.iconst 0, 1) := by decide +kernel
theorem J_HGrid_carry_d39 : decode J_HGrid_carry.2.1 39 = .ok (.istore 5, 2) := by decide +kernel
theorem J_HGrid_carry_d41 : decode J_HGrid_carry.2.1 41 = .ok (.iload 5, 2) := by decide +kernel
theorem J_HGrid_carry_d43 : decode J_HGrid_carry.2.1 43 = .ok (.aload_n 0, 1) := by decide +kernel
theorem J_HGrid_carry_d44 : decode J_HGrid_carry.2.1 44 = .ok (.getfield 74, 3) := by decide +kernel
theorem J_HGrid_carry_d47 : decode J_HGrid_carry.2.1 47 = .ok (.if_icmp .ge 55, 3) := by decide +kernel
theorem J_HGrid_carry_d50 : decode J_HGrid_carry.2.1 50 = .ok (.iload_n 3, 1) := by decide +kernel
theorem J_HGrid_carry_d51 : decode J_HGrid_carry.2.1 51 = .ok (.iconst 2, 1) := by decide +kernel
theorem J_HGrid_carry_d52 : decode J_HGrid_carry.2.1 52 = .ok (.irem, 1) := by decide +kernel
theorem J_HGrid_carry_d53 : decode J_HGrid_carry.2.1 53 = .ok (.ifCond .ne 15, 3) := by decide +kernel
theorem J_HGrid_carry_d56 : decode J_HGrid_carry.2.1 56 = .ok (.aload_n 0, 1) := by decide +kernel
theorem J_HGrid_carry_d57 : decode J_HGrid_carry.2.1 57 = .ok (.getfield 74, 3) := by decide +kernel
theorem J_HGrid_carry_d60 : decode J_HGrid_carry.2.1 60 = .ok (.iconst 1, 1) := by decide +kernel
theorem J_HGrid_carry_d61 : decode J_HGrid_carry.2.1 61 = .ok (.isub, 1) := by decide +kernel
theorem J_HGrid_carry_d62 : decode J_HGrid_carry.2.1 62 = .ok (.iload 5, 2) := by decide +kernel
theorem J_HGrid_carry_d64 : decode J_HGrid_carry.2.1 64 = .ok (.isub, 1) := by decide +kernel
theorem J_HGrid_carry_d65 : decode J_HGrid_carry.2.1 65 = .ok (.goto 5, 3) := by decide +kernel
theorem J_HGrid_carry_d68 : decode J_HGrid_carry.2.1 68 = .ok (.iload 5, 2) := by decide +kernel
theorem J_HGrid_carry_d70 : decode J_HGrid_carry.2.1 70 = .ok (.istore 6, 2) := by decide +kernel
theorem J_HGrid_carry_d72 : decode J_HGrid_carry.2.1 72 = .ok (.aload_n 0, 1) := by decide +kernel
theorem J_HGrid_carry_d73 : decode J_HGrid_carry.2.1 73 = .ok (.iload_n 1, 1) := by decide +kernel
theorem J_HGrid_carry_d74 : decode J_HGrid_carry.2.1 74 = .ok (.iload_n 2, 1) := by decide +kernel
theorem J_HGrid_carry_d75 : decode J_HGrid_carry.2.1 75 = .ok (.iload 4, 2) := by decide +kernel
theorem J_HGrid_carry_d77 : decode J_HGrid_carry.2.1 77 = .ok (.iload 6, 2) := by decide +kernel
theorem J_HGrid_carry_d79 : decode J_HGrid_carry.2.1 79 = .ok (.invokevirtual 122, 3) := by decide +kernel
theorem J_HGrid_carry_d82 : decode J_HGrid_carry.2.1 82 = .ok (.istore_n 2, 1) := by decide +kernel
theorem J_HGrid_carry_d83 : decode J_HGrid_carry.2.1 83 = .ok (.aload_n 0, 1) := by decide +kernel
theorem J_HGrid_carry_d84 : decode J_HGrid_carry.2.1 84 = .ok (.iload_n 1, 1) := by decide +kernel
theorem J_HGrid_carry_d85 : decode J_HGrid_carry.2.1 85 = .ok (.iload_n 2, 1) := by decide +kernel
theorem J_HGrid_carry_d86 : decode J_HGrid_carry.2.1 86 = .ok (.iload 4, 2) := by decide +kernel
theorem J_HGrid_carry_d88 : decode J_HGrid_carry.2.1 88 = .ok (.iconst 1, 1) := by decide +kernel
theorem J_HGrid_carry_d89 : decode J_HGrid_carry.2.1 89 = .ok (.isub, 1) := by decide +kernel
theorem J_HGrid_carry_d90 : decode J_HGrid_carry.2.1 90 = .ok (.iload 6, 2) := by decide +kernel
theorem J_HGrid_carry_d92 : decode J_HGrid_carry.2.1 92 = .ok (.invokevirtual 122, 3) := by decide +kernel
theorem J_HGrid_carry_d95 : decode J_HGrid_carry.2.1 95 = .ok (.istore_n 2, 1) := by decide +kernel
theorem J_HGrid_carry_d96 : decode J_HGrid_carry.2.1 96 = .ok (.iinc 5 1, 3) := by decide +kernel
theorem J_HGrid_carry_d99 : decode J_HGrid_carry.2.1 99 = .ok (.goto (-58), 3) := by decide +kernel
theorem J_HGrid_carry_d102 : decode J_HGrid_carry.2.1 102 = .ok (.iinc 3 1, 3) := by decide +kernel
theorem J_HGrid_carry_d105 : decode J_HGrid_carry.2.1 105 = .ok (.goto (-101), 3) := by decide +kernel
theorem J_HGrid_carry_d108 : decode J_HGrid_carry.2.1 108 = .ok (.return_, 1) := by decide +kernel
theorem f_HGrid_carry_ok {L : Nat} {xs : Nat → Int32} {dep : Nat} {w : Bool} {p0 : Int32} {M : im_M} {Q : im_M → Prop} (hM : lw_S w M) (h : ed (f_HGrid_carry p0 M) Q) : ia (tb_G L xs) (dep + 2) J_HGrid_carry (rwV w Q) (0, lv_args 0 [.ref 38, .int p0], [], M) := by
  have hS : im_St (tb_G L xs) (dep + 2) J_HGrid_carry (ia (tb_G L xs) (dep + 2) J_HGrid_carry (rwV w Q)) := ia_St
  unfold f_HGrid_carry at h
  have l0 : im_lk (lv_args 0 [.ref 38, .int p0]) 0 = some (.ref 38) := rfl
  have l1 : im_lk (lv_args 0 [.ref 38, .int p0]) 1 = some (.int p0) := rfl
  refine iq_iconst hS 1 J_HGrid_carry_d0 (v := 0) (by decide +kernel) rfl ?_
  refine iq_istore_n hS 2 J_HGrid_carry_d1 (by decide) rfl ?_
  refine iq_iconst hS 3 J_HGrid_carry_d2 (v := 0) (by decide +kernel) rfl ?_
  refine iq_istore_n hS 4 J_HGrid_carry_d3 (by decide) rfl ?_
  obtain ⟨Q1, hQ1, h⟩ := bd1_ed h
  have K1 : ∀ (M2 : im_M) (L' : List (Nat × Value)), lw_S w M2 → Q1 M2 → ia (tb_G L xs) (dep + 2) J_HGrid_carry (rwV w Q) (108, L', [], M2) := by
    intro M2 L' hM2  h
    replace h := hQ1 _ h
    exact iq_ret J_HGrid_carry_d108 rfl ⟨rfl, hM2, ed_some h⟩
  obtain ⟨r1, hr1, hq1⟩ := h
  obtain ⟨n1, hn1⟩ := lp_n hr1
  have I1 : ∀ (n : Nat) (x3 : Int32) (x4 : Int32) (M5 : im_M) (L' : List (Nat × Value)), lw_S w M5 → im_lk L' 0 = some (.ref 38) → im_lk L' 1 = some (.int p0) → im_lk L' 2 = some (.int x3) → im_lk L' 3 = some (.int x4) → lpn (uc3 (f_HGrid_carry_L4 p0)) n (x3, x4, M5) = some r1 → ia (tb_G L xs) (dep + 2) J_HGrid_carry (rwV w Q) (4, L', [], M5) := by
    intro n
    induction n with
    | zero => intro x3 x4 M5 L' hM5 l6 l7 l8 l9 hn; exact (lpn_0 hn).elim
    | succ n ih =>
      intro x3 x4 M5 L' hM5 l6 l7 l8 l9 hn
      have h := lpn_ed3 hn
      unfold f_HGrid_carry_L4 at h
      refine iq_iload_n hS 5 J_HGrid_carry_d4 l9 rfl ?_
      refine iq_aload_n hS 6 J_HGrid_carry_d5 l6 rfl ?_
      refine iq_getI hS 9 J_HGrid_carry_d6 lf_4_74 (Or.inl rfl) (ka_38 hM5) rfl ?_
      refine iq_iconst hS 10 J_HGrid_carry_d9 (v := 1) (by decide +kernel) rfl ?_
      refine iq_isub hS 11 J_HGrid_carry_d10 rfl ?_
      refine iq_iconst hS 12 J_HGrid_carry_d11 (v := 2) (by decide +kernel) rfl ?_
      refine iq_idiv hS 13 J_HGrid_carry_d12 (by decide) rfl ?_
      refine iq_icmp_ge hS 16 J_HGrid_carry_d13 (t := 108) rfl (fun q13 => ?_) rfl (fun q13 => ?_)
      · replace h := ed_pos q13 h
        exact K1 _ _ hM5  (lq_r h hq1)
      · replace h := ed_neg q13 h
        refine iq_aload_n hS 17 J_HGrid_carry_d16 l6 rfl ?_
        refine iq_getI hS 20 J_HGrid_carry_d17 lf_4_74 (Or.inl rfl) (ka_38 hM5) rfl ?_
        refine iq_iconst hS 21 J_HGrid_carry_d20 (v := 1) (by decide +kernel) rfl ?_
        refine iq_isub hS 22 J_HGrid_carry_d21 rfl ?_
        refine iq_iconst hS 23 J_HGrid_carry_d22 (v := 2) (by decide +kernel) rfl ?_
        refine iq_iload_n hS 24 J_HGrid_carry_d23 l9 rfl ?_
        refine iq_imul hS 25 J_HGrid_carry_d24 rfl ?_
        refine iq_isub hS 26 J_HGrid_carry_d25 rfl ?_
        refine iq_istore hS 28 J_HGrid_carry_d26 (by decide) rfl ?_
        refine iq_iload hS 30 J_HGrid_carry_d28 lk_1s rfl ?_
        refine iq_bipush hS 32 J_HGrid_carry_d30 (v := 6) (by decide +kernel) rfl ?_
        have J10 : ∀ (z11 : Int32) (L' : List (Nat × Value)), z11 = ((if 6 < (((im_i M5 38 1) - 1) - ((2 : Int32) * x4)) then (((im_i M5 38 1) - 1) - ((2 : Int32) * x4)) else ((((im_i M5 38 1) - 1) - ((2 : Int32) * x4)) + (-1))) : Int32) → im_lk L' 0 = some (.ref 38) → im_lk L' 1 = some (.int p0) → im_lk L' 2 = some (.int x3) → im_lk L' 3 = some (.int x4) → im_lk L' 4 = some (.int z11) → ia (tb_G L xs) (dep + 2) J_HGrid_carry (rwV w Q) (38, L', [], M5) := by
          intro z11 L' e12 l13 l14 l15 l16 l17
          subst e12
          refine iq_iconst hS 39 J_HGrid_carry_d38 (v := 0) (by decide +kernel) rfl ?_
          refine iq_istore hS 41 J_HGrid_carry_d39 (by decide) rfl ?_
          obtain ⟨Q18, hQ18, h⟩ := bd2_ed h
          have K18 : ∀ (y19 : Int32) (M20 : im_M) (L' : List (Nat × Value)), lw_S w M20 → im_lk L' 0 = some (.ref 38) → im_lk L' 1 = some (.int p0) → im_lk L' 2 = some (.int y19) → im_lk L' 3 = some (.int x4) → Q18 (y19, M20) → ia (tb_G L xs) (dep + 2) J_HGrid_carry (rwV w Q) (102, L', [], M20) := by
            intro y19 M20 L' hM20 l21 l22 l23 l24 h
            replace h := hQ18 _ _ h
            refine iq_iincv hS 105 J_HGrid_carry_d102 (c := 1) (by decide +kernel) l24 (by decide) rfl ?_
            refine iq_goto hS J_HGrid_carry_d105 (t := 4) rfl ?_
            exact ih _ _ _ _ hM20 (lk_1r l21 (by decide)) (lk_1i l22 (by decide)) (lk_1i l23 (by decide)) lk_1s (lq_l h)
          obtain ⟨r18, hr18, hq18⟩ := h
          obtain ⟨n18, hn18⟩ := lp_n hr18
          have I18 : ∀ (n : Nat) (x25 : Int32) (x26 : Int32) (M27 : im_M) (L' : List (Nat × Value)), lw_S w M27 → im_lk L' 0 = some (.ref 38) → im_lk L' 1 = some (.int p0) → im_lk L' 2 = some (.int x25) → im_lk L' 3 = some (.int x4) → im_lk L' 4 = some (.int ((if 6 < (((im_i M5 38 1) - 1) - ((2 : Int32) * x4)) then (((im_i M5 38 1) - 1) - ((2 : Int32) * x4)) else ((((im_i M5 38 1) - 1) - ((2 : Int32) * x4)) + (-1))) : Int32)) → im_lk L' 5 = some (.int x26) → lpn (uc3 (f_HGrid_carry_L41 p0 x4 ((if 6 < (((im_i M5 38 1) - 1) - ((2 : Int32) * x4)) then (((im_i M5 38 1) - 1) - ((2 : Int32) * x4)) else ((((im_i M5 38 1) - 1) - ((2 : Int32) * x4)) + (-1))) : Int32))) n (x25, x26, M27) = some r18 → ia (tb_G L xs) (dep + 2) J_HGrid_carry (rwV w Q) (41, L', [], M27) := by
            intro n
            induction n with
            | zero => intro x25 x26 M27 L' hM27 l28 l29 l30 l31 l32 l33 hn; exact (lpn_0 hn).elim
            | succ n ih =>
              intro x25 x26 M27 L' hM27 l28 l29 l30 l31 l32 l33 hn
              have h := lpn_ed3 hn
              unfold f_HGrid_carry_L41 at h
              refine iq_iload hS 43 J_HGrid_carry_d41 l33 rfl ?_
              refine iq_aload_n hS 44 J_HGrid_carry_d43 l28 rfl ?_
              refine iq_getI hS 47 J_HGrid_carry_d44 lf_4_74 (Or.inl rfl) (ka_38 hM27) rfl ?_
              refine iq_icmp_ge hS 50 J_HGrid_carry_d47 (t := 102) rfl (fun q47 => ?_) rfl (fun q47 => ?_)
              · replace h := ed_pos q47 h
                exact K18 _ _ _ hM27 l28 l29 l30 l31 (lq_r h hq18)
              · replace h := ed_neg q47 h
                refine iq_iload_n hS 51 J_HGrid_carry_d50 l31 rfl ?_
                refine iq_iconst hS 52 J_HGrid_carry_d51 (v := 2) (by decide +kernel) rfl ?_
                refine iq_irem hS 53 J_HGrid_carry_d52 (by decide) rfl ?_
                have J34 : ∀ (z35 : Int32) (L' : List (Nat × Value)), z35 = ((if ¬ (x4 - x4 / 2 * 2) = 0 then x26 else (((im_i M27 38 1) - 1) - x26)) : Int32) → im_lk L' 0 = some (.ref 38) → im_lk L' 1 = some (.int p0) → im_lk L' 2 = some (.int x25) → im_lk L' 3 = some (.int x4) → im_lk L' 4 = some (.int ((if 6 < (((im_i M5 38 1) - 1) - ((2 : Int32) * x4)) then (((im_i M5 38 1) - 1) - ((2 : Int32) * x4)) else ((((im_i M5 38 1) - 1) - ((2 : Int32) * x4)) + (-1))) : Int32)) → im_lk L' 5 = some (.int x26) → ia (tb_G L xs) (dep + 2) J_HGrid_carry (rwV w Q) (70, L', [.int z35], M27) := by
                  intro z35 L' e36 l37 l38 l39 l40 l41 l42
                  subst e36
                  refine iq_istore hS 72 J_HGrid_carry_d70 (by decide) rfl ?_
                  refine iq_aload_n hS 73 J_HGrid_carry_d72 (lk_1r l37 (by decide)) rfl ?_
                  refine iq_iload_n hS 74 J_HGrid_carry_d73 (lk_1i l38 (by decide)) rfl ?_
                  refine iq_iload_n hS 75 J_HGrid_carry_d74 (lk_1i l39 (by decide)) rfl ?_
                  refine iq_iload hS 77 J_HGrid_carry_d75 (lk_1i l41 (by decide)) rfl ?_
                  refine iq_iload hS 79 J_HGrid_carry_d77 lk_1s rfl ?_
                  obtain ⟨Q43, hQ43, h⟩ := bd2_ed h
                  refine iq_cwI hS 82 J_HGrid_carry_d79 rfl (pr_inst (vs := [_, _, _, _]) lc_4_122 lT_168 rfl rfl (by decide) (by decide) rfl (Nat.le_of_ble_eq_true rfl) (Nat.le_of_ble_eq_true rfl) (fun _ => Or.inl (pr_b (ka_38 hM27) (by decide) rfl))) (f_HGrid_carryBit_ok (dep := dep + 0) hM27 h) rfl ?_
                  intro x43 M43 hM43 h
                  replace h := hQ43 _ _ h
                  refine iq_istore_n hS 83 J_HGrid_carry_d82 (by decide) rfl ?_
                  refine iq_aload_n hS 84 J_HGrid_carry_d83 (lk_1r (lk_1r l37 (by decide)) (by decide)) rfl ?_
                  refine iq_iload_n hS 85 J_HGrid_carry_d84 (lk_1i (lk_1i l38 (by decide)) (by decide)) rfl ?_
                  refine iq_iload_n hS 86 J_HGrid_carry_d85 lk_1s rfl ?_
                  refine iq_iload hS 88 J_HGrid_carry_d86 (lk_1i (lk_1i l41 (by decide)) (by decide)) rfl ?_
                  refine iq_iconst hS 89 J_HGrid_carry_d88 (v := 1) (by decide +kernel) rfl ?_
                  refine iq_isub hS 90 J_HGrid_carry_d89 rfl ?_
                  refine iq_iload hS 92 J_HGrid_carry_d90 (lk_1i lk_1s (by decide)) rfl ?_
                  obtain ⟨Q44, hQ44, h⟩ := bd2_ed h
                  refine iq_cwI hS 95 J_HGrid_carry_d92 rfl (pr_inst (vs := [_, _, _, _]) lc_4_122 lT_168 rfl rfl (by decide) (by decide) rfl (Nat.le_of_ble_eq_true rfl) (Nat.le_of_ble_eq_true rfl) (fun _ => Or.inl (pr_b (ka_38 hM43) (by decide) rfl))) (f_HGrid_carryBit_ok (dep := dep + 0) hM43 h) rfl ?_
                  intro x44 M44 hM44 h
                  replace h := hQ44 _ _ h
                  refine iq_istore_n hS 96 J_HGrid_carry_d95 (by decide) rfl ?_
                  refine iq_iincv hS 99 J_HGrid_carry_d96 (c := 1) (by decide +kernel) (lk_1i (lk_1i (lk_1i l42 (by decide)) (by decide)) (by decide)) (by decide) rfl ?_
                  refine iq_goto hS J_HGrid_carry_d99 (t := 41) rfl ?_
                  exact ih _ _ _ _ hM44 (lk_1r (lk_1r (lk_1r (lk_1r l37 (by decide)) (by decide)) (by decide)) (by decide)) (lk_1i (lk_1i (lk_1i (lk_1i l38 (by decide)) (by decide)) (by decide)) (by decide)) (lk_1i lk_1s (by decide)) (lk_1i (lk_1i (lk_1i (lk_1i l40 (by decide)) (by decide)) (by decide)) (by decide)) (lk_1i (lk_1i (lk_1i (lk_1i l41 (by decide)) (by decide)) (by decide)) (by decide)) lk_1s (lq_l h)
                refine iq_if_ne hS 56 J_HGrid_carry_d53 (t := 68) rfl (fun q53 => ?_) rfl (fun q53 => ?_)
                · refine iq_iload hS 70 J_HGrid_carry_d68 l33 rfl ?_
                  exact J34 _ _ (by simp only [if_pos q53]) l28 l29 l30 l31 l32 l33
                · refine iq_aload_n hS 57 J_HGrid_carry_d56 l28 rfl ?_
                  refine iq_getI hS 60 J_HGrid_carry_d57 lf_4_74 (Or.inl rfl) (ka_38 hM27) rfl ?_
                  refine iq_iconst hS 61 J_HGrid_carry_d60 (v := 1) (by decide +kernel) rfl ?_
                  refine iq_isub hS 62 J_HGrid_carry_d61 rfl ?_
                  refine iq_iload hS 64 J_HGrid_carry_d62 l33 rfl ?_
                  refine iq_isub hS 65 J_HGrid_carry_d64 rfl ?_
                  refine iq_goto hS J_HGrid_carry_d65 (t := 70) rfl ?_
                  exact J34 _ _ (by simp only [if_neg q53]) l28 l29 l30 l31 l32 l33
          exact I18 n18 _ _ _ _ hM5 (lk_1r l13 (by decide)) (lk_1i l14 (by decide)) (lk_1i l15 (by decide)) (lk_1i l16 (by decide)) (lk_1i l17 (by decide)) lk_1s hn18
        refine iq_icmp_gt hS 35 J_HGrid_carry_d32 (t := 38) rfl (fun q32 => ?_) rfl (fun q32 => ?_)
        · exact J10 _ _ (by simp only [if_pos q32]) (lk_1r l6 (by decide)) (lk_1i l7 (by decide)) (lk_1i l8 (by decide)) (lk_1i l9 (by decide)) lk_1s
        · refine iq_iincv hS 38 J_HGrid_carry_d35 (c := (-1)) (by decide +kernel) lk_1s (by decide) rfl ?_
          exact J10 _ _ (by simp only [if_neg q32]) (lk_1r (lk_1r l6 (by decide)) (by decide)) (lk_1i (lk_1i l7 (by decide)) (by decide)) (lk_1i (lk_1i l8 (by decide)) (by decide)) (lk_1i (lk_1i l9 (by decide)) (by decide)) lk_1s
  exact I1 n1 _ _ _ _ hM (lk_1r (lk_1r l0 (by decide)) (by decide)) (lk_1i (lk_1i l1 (by decide)) (by decide)) (lk_1i lk_1s (by decide)) lk_1s hn1
theorem f_HGrid_carry_fr {p0 : Int32} {M : im_M} {r : im_M} (h : f_HGrid_carry p0 M = some r) : fr 18031990695526400 [] M r := by
  replace h : ed (f_HGrid_carry p0 M) (fun x => x = r) := ⟨r, h, rfl⟩
  unfold f_HGrid_carry at h
  obtain ⟨Q1, hQ1, h⟩ := bd1_ed h
  have K1 : ∀ (M2 : im_M), fr 18031990695526400 [] M M2 → Q1 M2 → fr 18031990695526400 [] M r := by
    intro M2 hM2 h
    replace h := hQ1 _ h
    exact fr_retV h hM2
  obtain ⟨r1, hr1, hq1⟩ := h
  obtain ⟨n1, hn1⟩ := lp_n hr1
  have I1 : ∀ (n : Nat) (x3 : Int32) (x4 : Int32) (M5 : im_M), fr 18031990695526400 [] M M5 → lpn (uc3 (f_HGrid_carry_L4 p0)) n (x3, x4, M5) = some r1 → fr 18031990695526400 [] M r := by
    intro n
    induction n with
    | zero => intro x3 x4 M5 hM5 hn; exact (lpn_0 hn).elim
    | succ n ih =>
      intro x3 x4 M5 hM5 hn
      have h := lpn_ed3 hn
      unfold f_HGrid_carry_L4 at h
      by_cases q13 : (((im_i M5 38 1) - 1) / 2) ≤ x4
      · replace h := ed_pos q13 h
        exact K1 _ hM5 (lq_r h hq1)
      · replace h := ed_neg q13 h
        obtain ⟨Q7, hQ7, h⟩ := bd2_ed h
        have K7 : ∀ (y8 : Int32) (M9 : im_M), fr 18031990695526400 [] M M9 → Q7 (y8, M9) → fr 18031990695526400 [] M r := by
          intro y8 M9 hM9 h
          replace h := hQ7 _ _ h
          exact ih _ _ _ hM9 (lq_l h)
        obtain ⟨r7, hr7, hq7⟩ := h
        obtain ⟨n7, hn7⟩ := lp_n hr7
        have I7 : ∀ (n : Nat) (x10 : Int32) (x11 : Int32) (M12 : im_M), fr 18031990695526400 [] M M12 → lpn (uc3 (f_HGrid_carry_L41 p0 x4 ((if 6 < (((im_i M5 38 1) - 1) - ((2 : Int32) * x4)) then (((im_i M5 38 1) - 1) - ((2 : Int32) * x4)) else ((((im_i M5 38 1) - 1) - ((2 : Int32) * x4)) + (-1))) : Int32))) n (x10, x11, M12) = some r7 → fr 18031990695526400 [] M r := by
          intro n
          induction n with
          | zero => intro x10 x11 M12 hM12 hn; exact (lpn_0 hn).elim
          | succ n ih =>
            intro x10 x11 M12 hM12 hn
            have h := lpn_ed3 hn
            unfold f_HGrid_carry_L41 at h
            by_cases q47 : (im_i M12 38 1) ≤ x11
            · replace h := ed_pos q47 h
              exact K7 _ _ hM12 (lq_r h hq7)
            · replace h := ed_neg q47 h
              obtain ⟨Q14, hQ14, h⟩ := bd2_ed h
              obtain ⟨⟨x14, M14⟩, e14, h⟩ := h
              replace h := hQ14 _ _ h
              obtain ⟨Q15, hQ15, h⟩ := bd2_ed h
              obtain ⟨⟨x15, M15⟩, e15, h⟩ := h
              replace h := hQ15 _ _ h
              exact ih _ _ _ (fr_tr (fr_mono (by decide) (by decide +kernel) (f_HGrid_carryBit_fr e15)) (fr_tr (fr_mono (by decide) (by decide +kernel) (f_HGrid_carryBit_fr e14)) hM12)) (lq_l h)
        exact I7 n7 _ _ _ hM5 hn7
  exact I1 n1 _ _ _ fr_refl hn1
noncomputable def f_HGrid_isTurned (p0 : Int32) (p1 : Int32) (p2 : Int32) (M : im_M) : Option (Int32) := if p0 = 0 then if ¬ ((p1 + p2) - (p1 + p2) / 2 * 2) = 0 then some 0 else some 1 else if p0 = 1 then if ¬ (p2 - p2 / 2 * 2) = 0 then some 0 else some 1 else if p0 = 2 then if ¬ (p1 - p1 / 3 * 3) = 0 then some 0 else some 1 else if p0 = 3 then if ¬ ((p1 + p2) - (p1 + p2) / 3 * 3) = 0 then some 0 else some 1 else if p0 = 4 then if ¬ (((p1 / 3) + (p2 / 2)) - ((p1 / 3) + (p2 / 2)) / 2 * 2) = 0 then some 0 else some 1 else if p0 = 5 then if ¬ (((p1 * p2) - (p1 * p2) / 2 * 2) + ((p1 * p2) - (p1 * p2) / 3 * 3)) = 0 then some 0 else some 1 else if p0 = 6 then if ¬ ((((p1 * p2) - (p1 * p2) / 2 * 2) + ((p1 * p2) - (p1 * p2) / 3 * 3)) - (((p1 * p2) - (p1 * p2) / 2 * 2) + ((p1 * p2) - (p1 * p2) / 3 * 3)) / 2 * 2) = 0 then some 0 else some 1 else if ¬ ((((p1 + p2) - (p1 + p2) / 2 * 2) + ((p1 * p2) - (p1 * p2) / 3 * 3)) - (((p1 + p2) - (p1 + p2) / 2 * 2) + ((p1 * p2) - (p1 * p2) / 3 * 3)) / 2 * 2) = 0 then some 0 else some 1
theorem J_HGrid_isTurned_d0 : decode J_HGrid_isTurned.2.1 0 = .ok (.iload_n 0, 1) := by decide +kernel
theorem J_HGrid_isTurned_d1 : decode J_HGrid_isTurned.2.1 1 = .ok (.tableswitch 155 0 6 #[43, 57, 69, 81, 95, 113, 133], 43) := by decide +kernel
theorem J_HGrid_isTurned_d44 : decode J_HGrid_isTurned.2.1 44 = .ok (.iload_n 1, 1) := by decide +kernel
theorem J_HGrid_isTurned_d45 : decode J_HGrid_isTurned.2.1 45 = .ok (.iload_n 2, 1) := by decide +kernel
theorem J_HGrid_isTurned_d46 : decode J_HGrid_isTurned.2.1 46 = .ok (.iadd, 1) := by decide +kernel
theorem J_HGrid_isTurned_d47 : decode J_HGrid_isTurned.2.1 47 = .ok (.iconst 2, 1) := by decide +kernel
theorem J_HGrid_isTurned_d48 : decode J_HGrid_isTurned.2.1 48 = .ok (.irem, 1) := by decide +kernel
theorem J_HGrid_isTurned_d49 : decode J_HGrid_isTurned.2.1 49 = .ok (.ifCond .ne 7, 3) := by decide +kernel
theorem J_HGrid_isTurned_d52 : decode J_HGrid_isTurned.2.1 52 = .ok (.iconst 1, 1) := by decide +kernel
theorem J_HGrid_isTurned_d53 : decode J_HGrid_isTurned.2.1 53 = .ok (.goto 4, 3) := by decide +kernel
theorem J_HGrid_isTurned_d56 : decode J_HGrid_isTurned.2.1 56 = .ok (.iconst 0, 1) := by decide +kernel
theorem J_HGrid_isTurned_d57 : decode J_HGrid_isTurned.2.1 57 = .ok (.ireturn, 1) := by decide +kernel
theorem J_HGrid_isTurned_d58 : decode J_HGrid_isTurned.2.1 58 = .ok (.iload_n 2, 1) := by decide +kernel
theorem J_HGrid_isTurned_d59 : decode J_HGrid_isTurned.2.1 59 = .ok (.iconst 2, 1) := by decide +kernel
theorem J_HGrid_isTurned_d60 : decode J_HGrid_isTurned.2.1 60 = .ok (.irem, 1) := by decide +kernel
theorem J_HGrid_isTurned_d61 : decode J_HGrid_isTurned.2.1 61 = .ok (.ifCond .ne 7, 3) := by decide +kernel
theorem J_HGrid_isTurned_d64 : decode J_HGrid_isTurned.2.1 64 = .ok (.iconst 1, 1) := by decide +kernel
theorem J_HGrid_isTurned_d65 : decode J_HGrid_isTurned.2.1 65 = .ok (.goto 4, 3) := by decide +kernel
theorem J_HGrid_isTurned_d68 : decode J_HGrid_isTurned.2.1 68 = .ok (.iconst 0, 1) := by decide +kernel
theorem J_HGrid_isTurned_d69 : decode J_HGrid_isTurned.2.1 69 = .ok (.ireturn, 1) := by decide +kernel
theorem J_HGrid_isTurned_d70 : decode J_HGrid_isTurned.2.1 70 = .ok (.iload_n 1, 1) := by decide +kernel
theorem J_HGrid_isTurned_d71 : decode J_HGrid_isTurned.2.1 71 = .ok (.iconst 3, 1) := by decide +kernel
theorem J_HGrid_isTurned_d72 : decode J_HGrid_isTurned.2.1 72 = .ok (.irem, 1) := by decide +kernel
theorem J_HGrid_isTurned_d73 : decode J_HGrid_isTurned.2.1 73 = .ok (.ifCond .ne 7, 3) := by decide +kernel
theorem J_HGrid_isTurned_d76 : decode J_HGrid_isTurned.2.1 76 = .ok (.iconst 1, 1) := by decide +kernel
theorem J_HGrid_isTurned_d77 : decode J_HGrid_isTurned.2.1 77 = .ok (.goto 4, 3) := by decide +kernel
theorem J_HGrid_isTurned_d80 : decode J_HGrid_isTurned.2.1 80 = .ok (.iconst 0, 1) := by decide +kernel
theorem J_HGrid_isTurned_d81 : decode J_HGrid_isTurned.2.1 81 = .ok (.ireturn, 1) := by decide +kernel
theorem J_HGrid_isTurned_d82 : decode J_HGrid_isTurned.2.1 82 = .ok (.iload_n 1, 1) := by decide +kernel
theorem J_HGrid_isTurned_d83 : decode J_HGrid_isTurned.2.1 83 = .ok (.iload_n 2, 1) := by decide +kernel
theorem J_HGrid_isTurned_d84 : decode J_HGrid_isTurned.2.1 84 = .ok (.iadd, 1) := by decide +kernel
theorem J_HGrid_isTurned_d85 : decode J_HGrid_isTurned.2.1 85 = .ok (.iconst 3, 1) := by decide +kernel
theorem J_HGrid_isTurned_d86 : decode J_HGrid_isTurned.2.1 86 = .ok (.irem, 1) := by decide +kernel
theorem J_HGrid_isTurned_d87 : decode J_HGrid_isTurned.2.1 87 = .ok (.ifCond .ne 7, 3) := by decide +kernel
theorem J_HGrid_isTurned_d90 : decode J_HGrid_isTurned.2.1 90 = .ok (.iconst 1, 1) := by decide +kernel
theorem J_HGrid_isTurned_d91 : decode J_HGrid_isTurned.2.1 91 = .ok (.goto 4, 3) := by decide +kernel
theorem J_HGrid_isTurned_d94 : decode J_HGrid_isTurned.2.1 94 = .ok (.iconst 0, 1) := by decide +kernel
theorem J_HGrid_isTurned_d95 : decode J_HGrid_isTurned.2.1 95 = .ok (.ireturn, 1) := by decide +kernel
theorem J_HGrid_isTurned_d96 : decode J_HGrid_isTurned.2.1 96 = .ok (.iload_n 1, 1) := by decide +kernel
theorem J_HGrid_isTurned_d97 : decode J_HGrid_isTurned.2.1 97 = .ok (.iconst 3, 1) := by decide +kernel
theorem J_HGrid_isTurned_d98 : decode J_HGrid_isTurned.2.1 98 = .ok (.idiv, 1) := by decide +kernel
theorem J_HGrid_isTurned_d99 : decode J_HGrid_isTurned.2.1 99 = .ok (.iload_n 2, 1) := by decide +kernel
theorem J_HGrid_isTurned_d100 : decode J_HGrid_isTurned.2.1 100 = .ok (.iconst 2, 1) := by decide +kernel
theorem J_HGrid_isTurned_d101 : decode J_HGrid_isTurned.2.1 101 = .ok (.idiv, 1) := by decide +kernel
theorem J_HGrid_isTurned_d102 : decode J_HGrid_isTurned.2.1 102 = .ok (.iadd, 1) := by decide +kernel
theorem J_HGrid_isTurned_d103 : decode J_HGrid_isTurned.2.1 103 = .ok (.iconst 2, 1) := by decide +kernel
theorem J_HGrid_isTurned_d104 : decode J_HGrid_isTurned.2.1 104 = .ok (.irem, 1) := by decide +kernel
theorem J_HGrid_isTurned_d105 : decode J_HGrid_isTurned.2.1 105 = .ok (.ifCond .ne 7, 3) := by decide +kernel
theorem J_HGrid_isTurned_d108 : decode J_HGrid_isTurned.2.1 108 = .ok (.iconst 1, 1) := by decide +kernel
theorem J_HGrid_isTurned_d109 : decode J_HGrid_isTurned.2.1 109 = .ok (.goto 4, 3) := by decide +kernel
theorem J_HGrid_isTurned_d112 : decode J_HGrid_isTurned.2.1 112 = .ok (.iconst 0, 1) := by decide +kernel
theorem J_HGrid_isTurned_d113 : decode J_HGrid_isTurned.2.1 113 = .ok (.ireturn, 1) := by decide +kernel
theorem J_HGrid_isTurned_d114 : decode J_HGrid_isTurned.2.1 114 = .ok (.iload_n 1, 1) := by decide +kernel
theorem J_HGrid_isTurned_d115 : decode J_HGrid_isTurned.2.1 115 = .ok (.iload_n 2, 1) := by decide +kernel
theorem J_HGrid_isTurned_d116 : decode J_HGrid_isTurned.2.1 116 = .ok (.imul, 1) := by decide +kernel
theorem J_HGrid_isTurned_d117 : decode J_HGrid_isTurned.2.1 117 = .ok (.iconst 2, 1) := by decide +kernel
theorem J_HGrid_isTurned_d118 : decode J_HGrid_isTurned.2.1 118 = .ok (.irem, 1) := by decide +kernel
theorem J_HGrid_isTurned_d119 : decode J_HGrid_isTurned.2.1 119 = .ok (.iload_n 1, 1) := by decide +kernel
theorem J_HGrid_isTurned_d120 : decode J_HGrid_isTurned.2.1 120 = .ok (.iload_n 2, 1) := by decide +kernel
theorem J_HGrid_isTurned_d121 : decode J_HGrid_isTurned.2.1 121 = .ok (.imul, 1) := by decide +kernel
theorem J_HGrid_isTurned_d122 : decode J_HGrid_isTurned.2.1 122 = .ok (.iconst 3, 1) := by decide +kernel
theorem J_HGrid_isTurned_d123 : decode J_HGrid_isTurned.2.1 123 = .ok (.irem, 1) := by decide +kernel
theorem J_HGrid_isTurned_d124 : decode J_HGrid_isTurned.2.1 124 = .ok (.iadd, 1) := by decide +kernel
theorem J_HGrid_isTurned_d125 : decode J_HGrid_isTurned.2.1 125 = .ok (.ifCond .ne 7, 3) := by decide +kernel
theorem J_HGrid_isTurned_d128 : decode J_HGrid_isTurned.2.1 128 = .ok (.iconst 1, 1) := by decide +kernel
theorem J_HGrid_isTurned_d129 : decode J_HGrid_isTurned.2.1 129 = .ok (.goto 4, 3) := by decide +kernel
theorem J_HGrid_isTurned_d132 : decode J_HGrid_isTurned.2.1 132 = .ok (.iconst 0, 1) := by decide +kernel
theorem J_HGrid_isTurned_d133 : decode J_HGrid_isTurned.2.1 133 = .ok (.ireturn, 1) := by decide +kernel
theorem J_HGrid_isTurned_d134 : decode J_HGrid_isTurned.2.1 134 = .ok (.iload_n 1, 1) := by decide +kernel
theorem J_HGrid_isTurned_d135 : decode J_HGrid_isTurned.2.1 135 = .ok (.iload_n 2, 1) := by decide +kernel
theorem J_HGrid_isTurned_d136 : decode J_HGrid_isTurned.2.1 136 = .ok (.imul, 1) := by decide +kernel
theorem J_HGrid_isTurned_d137 : decode J_HGrid_isTurned.2.1 137 = .ok (.iconst 2, 1) := by decide +kernel
theorem J_HGrid_isTurned_d138 : decode J_HGrid_isTurned.2.1 138 = .ok (.irem, 1) := by decide +kernel
theorem J_HGrid_isTurned_d139 : decode J_HGrid_isTurned.2.1 139 = .ok (.iload_n 1, 1) := by decide +kernel
theorem J_HGrid_isTurned_d140 : decode J_HGrid_isTurned.2.1 140 = .ok (.iload_n 2, 1) := by decide +kernel
theorem J_HGrid_isTurned_d141 : decode J_HGrid_isTurned.2.1 141 = .ok (.imul, 1) := by decide +kernel
theorem J_HGrid_isTurned_d142 : decode J_HGrid_isTurned.2.1 142 = .ok (.iconst 3, 1) := by decide +kernel
theorem J_HGrid_isTurned_d143 : decode J_HGrid_isTurned.2.1 143 = .ok (.irem, 1) := by decide +kernel
theorem J_HGrid_isTurned_d144 : decode J_HGrid_isTurned.2.1 144 = .ok (.iadd, 1) := by decide +kernel
theorem J_HGrid_isTurned_d145 : decode J_HGrid_isTurned.2.1 145 = .ok (.iconst 2, 1) := by decide +kernel
theorem J_HGrid_isTurned_d146 : decode J_HGrid_isTurned.2.1 146 = .ok (.irem, 1) := by decide +kernel
theorem J_HGrid_isTurned_d147 : decode J_HGrid_isTurned.2.1 147 = .ok (.ifCond .ne 7, 3) := by decide +kernel
theorem J_HGrid_isTurned_d150 : decode J_HGrid_isTurned.2.1 150 = .ok (.iconst 1, 1) := by decide +kernel
theorem J_HGrid_isTurned_d151 : decode J_HGrid_isTurned.2.1 151 = .ok (.goto 4, 3) := by decide +kernel
theorem J_HGrid_isTurned_d154 : decode J_HGrid_isTurned.2.1 154 = .ok (.iconst 0, 1) := by decide +kernel
theorem J_HGrid_isTurned_d155 : decode J_HGrid_isTurned.2.1 155 = .ok (.ireturn, 1) := by decide +kernel
theorem J_HGrid_isTurned_d156 : decode J_HGrid_isTurned.2.1 156 = .ok (.iload_n 1, 1) := by decide +kernel
theorem J_HGrid_isTurned_d157 : decode J_HGrid_isTurned.2.1 157 = .ok (.iload_n 2, 1) := by decide +kernel
theorem J_HGrid_isTurned_d158 : decode J_HGrid_isTurned.2.1 158 = .ok (.iadd, 1) := by decide +kernel
theorem J_HGrid_isTurned_d159 : decode J_HGrid_isTurned.2.1 159 = .ok (.iconst 2, 1) := by decide +kernel
theorem J_HGrid_isTurned_d160 : decode J_HGrid_isTurned.2.1 160 = .ok (.irem, 1) := by decide +kernel
theorem J_HGrid_isTurned_d161 : decode J_HGrid_isTurned.2.1 161 = .ok (.iload_n 1, 1) := by decide +kernel
theorem J_HGrid_isTurned_d162 : decode J_HGrid_isTurned.2.1 162 = .ok (.iload_n 2, 1) := by decide +kernel
theorem J_HGrid_isTurned_d163 : decode J_HGrid_isTurned.2.1 163 = .ok (.imul, 1) := by decide +kernel
theorem J_HGrid_isTurned_d164 : decode J_HGrid_isTurned.2.1 164 = .ok (.iconst 3, 1) := by decide +kernel
theorem J_HGrid_isTurned_d165 : decode J_HGrid_isTurned.2.1 165 = .ok (.irem, 1) := by decide +kernel
theorem J_HGrid_isTurned_d166 : decode J_HGrid_isTurned.2.1 166 = .ok (.iadd, 1) := by decide +kernel
theorem J_HGrid_isTurned_d167 : decode J_HGrid_isTurned.2.1 167 = .ok (.iconst 2, 1) := by decide +kernel
theorem J_HGrid_isTurned_d168 : decode J_HGrid_isTurned.2.1 168 = .ok (.irem, 1) := by decide +kernel
theorem J_HGrid_isTurned_d169 : decode J_HGrid_isTurned.2.1 169 = .ok (.ifCond .ne 7, 3) := by decide +kernel
theorem J_HGrid_isTurned_d172 : decode J_HGrid_isTurned.2.1 172 = .ok (.iconst 1, 1) := by decide +kernel
theorem J_HGrid_isTurned_d173 : decode J_HGrid_isTurned.2.1 173 = .ok (.goto 4, 3) := by decide +kernel
theorem J_HGrid_isTurned_d176 : decode J_HGrid_isTurned.2.1 176 = .ok (.iconst 0, 1) := by decide +kernel
theorem J_HGrid_isTurned_d177 : decode J_HGrid_isTurned.2.1 177 = .ok (.ireturn, 1) := by decide +kernel
theorem f_HGrid_isTurned_ok {L : Nat} {xs : Nat → Int32} {dep : Nat} {w : Bool} {p0 : Int32} {p1 : Int32} {p2 : Int32} {M : im_M} {Q : Int32 → Prop} (hM : lw_S w M) (h : ed (f_HGrid_isTurned p0 p1 p2 M) Q) : ia (tb_G L xs) dep J_HGrid_isTurned (rpI M Q) (0, lv_args 0 [.int p0, .int p1, .int p2], [], M) := by
  have hS : im_St (tb_G L xs) dep J_HGrid_isTurned (ia (tb_G L xs) dep J_HGrid_isTurned (rpI M Q)) := ia_St
  unfold f_HGrid_isTurned at h
  have l0 : im_lk (lv_args 0 [.int p0, .int p1, .int p2]) 0 = some (.int p0) := rfl
  have l1 : im_lk (lv_args 0 [.int p0, .int p1, .int p2]) 1 = some (.int p1) := rfl
  have l2 : im_lk (lv_args 0 [.int p0, .int p1, .int p2]) 2 = some (.int p2) := rfl
  refine iq_iload_n hS 1 J_HGrid_isTurned_d0 l0 rfl ?_
  by_cases q1_0 : p0 = 0
  · replace h := ed_pos q1_0 h
    refine iq_tsw hS J_HGrid_isTurned_d1 (t := 44) (sw_v q1_0 (by decide +kernel)) ?_
    refine iq_iload_n hS 45 J_HGrid_isTurned_d44 l1 rfl ?_
    refine iq_iload_n hS 46 J_HGrid_isTurned_d45 l2 rfl ?_
    refine iq_iadd hS 47 J_HGrid_isTurned_d46 rfl ?_
    refine iq_iconst hS 48 J_HGrid_isTurned_d47 (v := 2) (by decide +kernel) rfl ?_
    refine iq_irem hS 49 J_HGrid_isTurned_d48 (by decide) rfl ?_
    refine iq_if_ne hS 52 J_HGrid_isTurned_d49 (t := 56) rfl (fun q49 => ?_) rfl (fun q49 => ?_)
    · replace h := ed_pos q49 h
      refine iq_iconst hS 57 J_HGrid_isTurned_d56 (v := 0) (by decide +kernel) rfl ?_
      exact iq_iret J_HGrid_isTurned_d57 rfl rfl ⟨_, rfl, rfl, ed_some h⟩
    · replace h := ed_neg q49 h
      refine iq_iconst hS 53 J_HGrid_isTurned_d52 (v := 1) (by decide +kernel) rfl ?_
      refine iq_goto hS J_HGrid_isTurned_d53 (t := 57) rfl ?_
      exact iq_iret J_HGrid_isTurned_d57 rfl rfl ⟨_, rfl, rfl, ed_some h⟩
  replace h := ed_neg q1_0 h
  by_cases q1_1 : p0 = 1
  · replace h := ed_pos q1_1 h
    refine iq_tsw hS J_HGrid_isTurned_d1 (t := 58) (sw_v q1_1 (by decide +kernel)) ?_
    refine iq_iload_n hS 59 J_HGrid_isTurned_d58 l2 rfl ?_
    refine iq_iconst hS 60 J_HGrid_isTurned_d59 (v := 2) (by decide +kernel) rfl ?_
    refine iq_irem hS 61 J_HGrid_isTurned_d60 (by decide) rfl ?_
    refine iq_if_ne hS 64 J_HGrid_isTurned_d61 (t := 68) rfl (fun q61 => ?_) rfl (fun q61 => ?_)
    · replace h := ed_pos q61 h
      refine iq_iconst hS 69 J_HGrid_isTurned_d68 (v := 0) (by decide +kernel) rfl ?_
      exact iq_iret J_HGrid_isTurned_d69 rfl rfl ⟨_, rfl, rfl, ed_some h⟩
    · replace h := ed_neg q61 h
      refine iq_iconst hS 65 J_HGrid_isTurned_d64 (v := 1) (by decide +kernel) rfl ?_
      refine iq_goto hS J_HGrid_isTurned_d65 (t := 69) rfl ?_
      exact iq_iret J_HGrid_isTurned_d69 rfl rfl ⟨_, rfl, rfl, ed_some h⟩
  replace h := ed_neg q1_1 h
  by_cases q1_2 : p0 = 2
  · replace h := ed_pos q1_2 h
    refine iq_tsw hS J_HGrid_isTurned_d1 (t := 70) (sw_v q1_2 (by decide +kernel)) ?_
    refine iq_iload_n hS 71 J_HGrid_isTurned_d70 l1 rfl ?_
    refine iq_iconst hS 72 J_HGrid_isTurned_d71 (v := 3) (by decide +kernel) rfl ?_
    refine iq_irem hS 73 J_HGrid_isTurned_d72 (by decide) rfl ?_
    refine iq_if_ne hS 76 J_HGrid_isTurned_d73 (t := 80) rfl (fun q73 => ?_) rfl (fun q73 => ?_)
    · replace h := ed_pos q73 h
      refine iq_iconst hS 81 J_HGrid_isTurned_d80 (v := 0) (by decide +kernel) rfl ?_
      exact iq_iret J_HGrid_isTurned_d81 rfl rfl ⟨_, rfl, rfl, ed_some h⟩
    · replace h := ed_neg q73 h
      refine iq_iconst hS 77 J_HGrid_isTurned_d76 (v := 1) (by decide +kernel) rfl ?_
      refine iq_goto hS J_HGrid_isTurned_d77 (t := 81) rfl ?_
      exact iq_iret J_HGrid_isTurned_d81 rfl rfl ⟨_, rfl, rfl, ed_some h⟩
  replace h := ed_neg q1_2 h
  by_cases q1_3 : p0 = 3
  · replace h := ed_pos q1_3 h
    refine iq_tsw hS J_HGrid_isTurned_d1 (t := 82) (sw_v q1_3 (by decide +kernel)) ?_
    refine iq_iload_n hS 83 J_HGrid_isTurned_d82 l1 rfl ?_
    refine iq_iload_n hS 84 J_HGrid_isTurned_d83 l2 rfl ?_
    refine iq_iadd hS 85 J_HGrid_isTurned_d84 rfl ?_
    refine iq_iconst hS 86 J_HGrid_isTurned_d85 (v := 3) (by decide +kernel) rfl ?_
    refine iq_irem hS 87 J_HGrid_isTurned_d86 (by decide) rfl ?_
    refine iq_if_ne hS 90 J_HGrid_isTurned_d87 (t := 94) rfl (fun q87 => ?_) rfl (fun q87 => ?_)
    · replace h := ed_pos q87 h
      refine iq_iconst hS 95 J_HGrid_isTurned_d94 (v := 0) (by decide +kernel) rfl ?_
      exact iq_iret J_HGrid_isTurned_d95 rfl rfl ⟨_, rfl, rfl, ed_some h⟩
    · replace h := ed_neg q87 h
      refine iq_iconst hS 91 J_HGrid_isTurned_d90 (v := 1) (by decide +kernel) rfl ?_
      refine iq_goto hS J_HGrid_isTurned_d91 (t := 95) rfl ?_
      exact iq_iret J_HGrid_isTurned_d95 rfl rfl ⟨_, rfl, rfl, ed_some h⟩
  replace h := ed_neg q1_3 h
  by_cases q1_4 : p0 = 4
  · replace h := ed_pos q1_4 h
    refine iq_tsw hS J_HGrid_isTurned_d1 (t := 96) (sw_v q1_4 (by decide +kernel)) ?_
    refine iq_iload_n hS 97 J_HGrid_isTurned_d96 l1 rfl ?_
    refine iq_iconst hS 98 J_HGrid_isTurned_d97 (v := 3) (by decide +kernel) rfl ?_
    refine iq_idiv hS 99 J_HGrid_isTurned_d98 (by decide) rfl ?_
    refine iq_iload_n hS 100 J_HGrid_isTurned_d99 l2 rfl ?_
    refine iq_iconst hS 101 J_HGrid_isTurned_d100 (v := 2) (by decide +kernel) rfl ?_
    refine iq_idiv hS 102 J_HGrid_isTurned_d101 (by decide) rfl ?_
    refine iq_iadd hS 103 J_HGrid_isTurned_d102 rfl ?_
    refine iq_iconst hS 104 J_HGrid_isTurned_d103 (v := 2) (by decide +kernel) rfl ?_
    refine iq_irem hS 105 J_HGrid_isTurned_d104 (by decide) rfl ?_
    refine iq_if_ne hS 108 J_HGrid_isTurned_d105 (t := 112) rfl (fun q105 => ?_) rfl (fun q105 => ?_)
    · replace h := ed_pos q105 h
      refine iq_iconst hS 113 J_HGrid_isTurned_d112 (v := 0) (by decide +kernel) rfl ?_
      exact iq_iret J_HGrid_isTurned_d113 rfl rfl ⟨_, rfl, rfl, ed_some h⟩
    · replace h := ed_neg q105 h
      refine iq_iconst hS 109 J_HGrid_isTurned_d108 (v := 1) (by decide +kernel) rfl ?_
      refine iq_goto hS J_HGrid_isTurned_d109 (t := 113) rfl ?_
      exact iq_iret J_HGrid_isTurned_d113 rfl rfl ⟨_, rfl, rfl, ed_some h⟩
  replace h := ed_neg q1_4 h
  by_cases q1_5 : p0 = 5
  · replace h := ed_pos q1_5 h
    refine iq_tsw hS J_HGrid_isTurned_d1 (t := 114) (sw_v q1_5 (by decide +kernel)) ?_
    refine iq_iload_n hS 115 J_HGrid_isTurned_d114 l1 rfl ?_
    refine iq_iload_n hS 116 J_HGrid_isTurned_d115 l2 rfl ?_
    refine iq_imul hS 117 J_HGrid_isTurned_d116 rfl ?_
    refine iq_iconst hS 118 J_HGrid_isTurned_d117 (v := 2) (by decide +kernel) rfl ?_
    refine iq_irem hS 119 J_HGrid_isTurned_d118 (by decide) rfl ?_
    refine iq_iload_n hS 120 J_HGrid_isTurned_d119 l1 rfl ?_
    refine iq_iload_n hS 121 J_HGrid_isTurned_d120 l2 rfl ?_
    refine iq_imul hS 122 J_HGrid_isTurned_d121 rfl ?_
    refine iq_iconst hS 123 J_HGrid_isTurned_d122 (v := 3) (by decide +kernel) rfl ?_
    refine iq_irem hS 124 J_HGrid_isTurned_d123 (by decide) rfl ?_
    refine iq_iadd hS 125 J_HGrid_isTurned_d124 rfl ?_
    refine iq_if_ne hS 128 J_HGrid_isTurned_d125 (t := 132) rfl (fun q125 => ?_) rfl (fun q125 => ?_)
    · replace h := ed_pos q125 h
      refine iq_iconst hS 133 J_HGrid_isTurned_d132 (v := 0) (by decide +kernel) rfl ?_
      exact iq_iret J_HGrid_isTurned_d133 rfl rfl ⟨_, rfl, rfl, ed_some h⟩
    · replace h := ed_neg q125 h
      refine iq_iconst hS 129 J_HGrid_isTurned_d128 (v := 1) (by decide +kernel) rfl ?_
      refine iq_goto hS J_HGrid_isTurned_d129 (t := 133) rfl ?_
      exact iq_iret J_HGrid_isTurned_d133 rfl rfl ⟨_, rfl, rfl, ed_some h⟩
  replace h := ed_neg q1_5 h
  by_cases q1_6 : p0 = 6
  · replace h := ed_pos q1_6 h
    refine iq_tsw hS J_HGrid_isTurned_d1 (t := 134) (sw_v q1_6 (by decide +kernel)) ?_
    refine iq_iload_n hS 135 J_HGrid_isTurned_d134 l1 rfl ?_
    refine iq_iload_n hS 136 J_HGrid_isTurned_d135 l2 rfl ?_
    refine iq_imul hS 137 J_HGrid_isTurned_d136 rfl ?_
    refine iq_iconst hS 138 J_HGrid_isTurned_d137 (v := 2) (by decide +kernel) rfl ?_
    refine iq_irem hS 139 J_HGrid_isTurned_d138 (by decide) rfl ?_
    refine iq_iload_n hS 140 J_HGrid_isTurned_d139 l1 rfl ?_
    refine iq_iload_n hS 141 J_HGrid_isTurned_d140 l2 rfl ?_
    refine iq_imul hS 142 J_HGrid_isTurned_d141 rfl ?_
    refine iq_iconst hS 143 J_HGrid_isTurned_d142 (v := 3) (by decide +kernel) rfl ?_
    refine iq_irem hS 144 J_HGrid_isTurned_d143 (by decide) rfl ?_
    refine iq_iadd hS 145 J_HGrid_isTurned_d144 rfl ?_
    refine iq_iconst hS 146 J_HGrid_isTurned_d145 (v := 2) (by decide +kernel) rfl ?_
    refine iq_irem hS 147 J_HGrid_isTurned_d146 (by decide) rfl ?_
    refine iq_if_ne hS 150 J_HGrid_isTurned_d147 (t := 154) rfl (fun q147 => ?_) rfl (fun q147 => ?_)
    · replace h := ed_pos q147 h
      refine iq_iconst hS 155 J_HGrid_isTurned_d154 (v := 0) (by decide +kernel) rfl ?_
      exact iq_iret J_HGrid_isTurned_d155 rfl rfl ⟨_, rfl, rfl, ed_some h⟩
    · replace h := ed_neg q147 h
      refine iq_iconst hS 151 J_HGrid_isTurned_d150 (v := 1) (by decide +kernel) rfl ?_
      refine iq_goto hS J_HGrid_isTurned_d151 (t := 155) rfl ?_
      exact iq_iret J_HGrid_isTurned_d155 rfl rfl ⟨_, rfl, rfl, ed_some h⟩
  replace h := ed_neg q1_6 h
  refine iq_tsw hS J_HGrid_isTurned_d1 (t := 156) (sw_d [0, 1, 2, 3, 4, 5, 6] (by decide) (by decide) (by decide +kernel) (sw_nc q1_0 (sw_nc q1_1 (sw_nc q1_2 (sw_nc q1_3 (sw_nc q1_4 (sw_nc q1_5 (sw_nc q1_6 sw_nn)))))))) ?_
  refine iq_iload_n hS 157 J_HGrid_isTurned_d156 l1 rfl ?_
  refine iq_iload_n hS 158 J_HGrid_isTurned_d157 l2 rfl ?_
  refine iq_iadd hS 159 J_HGrid_isTurned_d158 rfl ?_
  refine iq_iconst hS 160 J_HGrid_isTurned_d159 (v := 2) (by decide +kernel) rfl ?_
  refine iq_irem hS 161 J_HGrid_isTurned_d160 (by decide) rfl ?_
  refine iq_iload_n hS 162 J_HGrid_isTurned_d161 l1 rfl ?_
  refine iq_iload_n hS 163 J_HGrid_isTurned_d162 l2 rfl ?_
  refine iq_imul hS 164 J_HGrid_isTurned_d163 rfl ?_
  refine iq_iconst hS 165 J_HGrid_isTurned_d164 (v := 3) (by decide +kernel) rfl ?_
  refine iq_irem hS 166 J_HGrid_isTurned_d165 (by decide) rfl ?_
  refine iq_iadd hS 167 J_HGrid_isTurned_d166 rfl ?_
  refine iq_iconst hS 168 J_HGrid_isTurned_d167 (v := 2) (by decide +kernel) rfl ?_
  refine iq_irem hS 169 J_HGrid_isTurned_d168 (by decide) rfl ?_
  refine iq_if_ne hS 172 J_HGrid_isTurned_d169 (t := 176) rfl (fun q169 => ?_) rfl (fun q169 => ?_)
  · replace h := ed_pos q169 h
    refine iq_iconst hS 177 J_HGrid_isTurned_d176 (v := 0) (by decide +kernel) rfl ?_
    exact iq_iret J_HGrid_isTurned_d177 rfl rfl ⟨_, rfl, rfl, ed_some h⟩
  · replace h := ed_neg q169 h
    refine iq_iconst hS 173 J_HGrid_isTurned_d172 (v := 1) (by decide +kernel) rfl ?_
    refine iq_goto hS J_HGrid_isTurned_d173 (t := 177) rfl ?_
    exact iq_iret J_HGrid_isTurned_d177 rfl rfl ⟨_, rfl, rfl, ed_some h⟩
noncomputable def f_HGrid_turnMask_L12 (v6 : Int32) (v7 : Int32) (x8 : Int32) (M9 : im_M) : Option ((Int32 × im_M) ⊕ (im_M)) := if (im_i M9 38 1) ≤ x8 then some (.inr M9) else gd (inb ((v7 * 177) + x8) 31329) <| bd1 (if ¬ (im_i M9 55 (Int32.toNatClampNeg ((v7 * 177) + x8))) = 0 then some M9 else bd1 (f_HGrid_isTurned v6 x8 v7 M9) fun (x11 : Int32) => if x11 = 0 then some M9 else gd (inb ((v7 * 177) + x8) 31329) <| gd (inb ((v7 * 177) + x8) 31329) <| some (im_setI M9 54 (Int32.toNatClampNeg ((v7 * 177) + x8)) (vp_nar .byte ((Int32.toInt8 ((im_i M9 54 (Int32.toNatClampNeg ((v7 * 177) + x8))) ^^^ 1)).toInt32)))) fun (M12 : im_M) => some (.inl ((x8 + 1), M12))
noncomputable def f_HGrid_turnMask_L2 (v2 : Int32) (x3 : Int32) (M4 : im_M) : Option ((Int32 × im_M) ⊕ (im_M)) := if (im_i M4 38 1) ≤ x3 then some (.inr M4) else bd1 (lp (uc2 (f_HGrid_turnMask_L12 v2 x3)) (0, M4)) fun (M17 : im_M) => some (.inl ((x3 + 1), M17))
noncomputable def f_HGrid_turnMask (p0 : Int32) (M : im_M) : Option (im_M) := bd1 (lp (uc2 (f_HGrid_turnMask_L2 p0)) (0, M)) fun (M18 : im_M) => some M18
theorem J_HGrid_turnMask_d0 : decode J_HGrid_turnMask.2.1 0 = .ok (.iconst 0, 1) := by decide +kernel
theorem J_HGrid_turnMask_d1 : decode J_HGrid_turnMask.2.1 1 = .ok (.istore_n 2, 1) := by decide +kernel
theorem J_HGrid_turnMask_d2 : decode J_HGrid_turnMask.2.1 2 = .ok (.iload_n 2, 1) := by decide +kernel
theorem J_HGrid_turnMask_d3 : decode J_HGrid_turnMask.2.1 3 = .ok (.aload_n 0, 1) := by decide +kernel
theorem J_HGrid_turnMask_d4 : decode J_HGrid_turnMask.2.1 4 = .ok (.getfield 74, 3) := by decide +kernel
theorem J_HGrid_turnMask_d7 : decode J_HGrid_turnMask.2.1 7 = .ok (.if_icmp .ge 65, 3) := by decide +kernel
theorem J_HGrid_turnMask_d10 : decode J_HGrid_turnMask.2.1 10 = .ok (.iconst 0, 1) := by decide +kernel
theorem J_HGrid_turnMask_d11 : decode J_HGrid_turnMask.2.1 11 = .ok (.istore_n 3, 1) := by decide +kernel
theorem J_HGrid_turnMask_d12 : decode J_HGrid_turnMask.2.1 12 = .ok (.iload_n 3, 1) := by decide +kernel
theorem J_HGrid_turnMask_d13 : decode J_HGrid_turnMask.2.1 13 = .ok (.aload_n 0, 1) := by decide +kernel
theorem J_HGrid_turnMask_d14 : decode J_HGrid_turnMask.2.1 14 = .ok (.getfield 74, 3) := by decide +kernel
theorem J_HGrid_turnMask_d17 : decode J_HGrid_turnMask.2.1 17 = .ok (.if_icmp .ge 49, 3) := by decide +kernel
theorem J_HGrid_turnMask_d20 : decode J_HGrid_turnMask.2.1 20 = .ok (.iload_n 2, 1) := by decide +kernel
theorem J_HGrid_turnMask_d21 : decode J_HGrid_turnMask.2.1 21 = .ok (.sipush 177, 3) := by decide +kernel
theorem J_HGrid_turnMask_d24 : decode J_HGrid_turnMask.2.1 24 = .ok (.imul, 1) := by decide +kernel
theorem J_HGrid_turnMask_d25 : decode J_HGrid_turnMask.2.1 25 = .ok (.iload_n 3, 1) := by decide +kernel
theorem J_HGrid_turnMask_d26 : decode J_HGrid_turnMask.2.1 26 = .ok (.iadd, 1) := by decide +kernel
theorem J_HGrid_turnMask_d27 : decode J_HGrid_turnMask.2.1 27 = .ok (.istore 4, 2) := by decide +kernel
theorem J_HGrid_turnMask_d29 : decode J_HGrid_turnMask.2.1 29 = .ok (.aload_n 0, 1) := by decide +kernel
theorem J_HGrid_turnMask_d30 : decode J_HGrid_turnMask.2.1 30 = .ok (.getfield 29, 3) := by decide +kernel
theorem J_HGrid_turnMask_d33 : decode J_HGrid_turnMask.2.1 33 = .ok (.iload 4, 2) := by decide +kernel
theorem J_HGrid_turnMask_d35 : decode J_HGrid_turnMask.2.1 35 = .ok (.baload, 1) := by decide +kernel
theorem J_HGrid_turnMask_d36 : decode J_HGrid_turnMask.2.1 36 = .ok (.ifCond .ne 24, 3) := by decide +kernel
theorem J_HGrid_turnMask_d39 : decode J_HGrid_turnMask.2.1 39 = .ok (.iload_n 1, 1) := by decide +kernel
theorem J_HGrid_turnMask_d40 : decode J_HGrid_turnMask.2.1 40 = .ok (.iload_n 3, 1) := by decide +kernel
theorem J_HGrid_turnMask_d41 : decode J_HGrid_turnMask.2.1 41 = .ok (.iload_n 2, 1) := by decide +kernel
theorem J_HGrid_turnMask_d42 : decode J_HGrid_turnMask.2.1 42 = .ok (.invokestatic 141, 3) := by decide +kernel
theorem J_HGrid_turnMask_d45 : decode J_HGrid_turnMask.2.1 45 = .ok (.ifCond .eq 15, 3) := by decide +kernel
theorem J_HGrid_turnMask_d48 : decode J_HGrid_turnMask.2.1 48 = .ok (.aload_n 0, 1) := by decide +kernel
theorem J_HGrid_turnMask_d49 : decode J_HGrid_turnMask.2.1 49 = .ok (.getfield 25, 3) := by decide +kernel
theorem J_HGrid_turnMask_d52 : decode J_HGrid_turnMask.2.1 52 = .ok (.iload 4, 2) := by decide +kernel
theorem J_HGrid_turnMask_d54 : decode J_HGrid_turnMask.2.1 54 = .ok (.dup2, 1) := by decide +kernel
theorem J_HGrid_turnMask_d55 : decode J_HGrid_turnMask.2.1 55 = .ok (.baload, 1) := by decide +kernel
theorem J_HGrid_turnMask_d56 : decode J_HGrid_turnMask.2.1 56 = .ok (.iconst 1, 1) := by decide +kernel
theorem J_HGrid_turnMask_d57 : decode J_HGrid_turnMask.2.1 57 = .ok (.ixor, 1) := by decide +kernel
theorem J_HGrid_turnMask_d58 : decode J_HGrid_turnMask.2.1 58 = .ok (.i2b, 1) := by decide +kernel
theorem J_HGrid_turnMask_d59 : decode J_HGrid_turnMask.2.1 59 = .ok (.bastore, 1) := by decide +kernel
theorem J_HGrid_turnMask_d60 : decode J_HGrid_turnMask.2.1 60 = .ok (.iinc 3 1, 3) := by decide +kernel
theorem J_HGrid_turnMask_d63 : decode J_HGrid_turnMask.2.1 63 = .ok (.goto (-51), 3) := by decide +kernel
theorem J_HGrid_turnMask_d66 : decode J_HGrid_turnMask.2.1 66 = .ok (.iinc 2 1, 3) := by decide +kernel
theorem J_HGrid_turnMask_d69 : decode J_HGrid_turnMask.2.1 69 = .ok (.goto (-67), 3) := by decide +kernel
theorem J_HGrid_turnMask_d72 : decode J_HGrid_turnMask.2.1 72 = .ok (.return_, 1) := by decide +kernel
theorem f_HGrid_turnMask_ok {L : Nat} {xs : Nat → Int32} {dep : Nat} {w : Bool} {p0 : Int32} {M : im_M} {Q : im_M → Prop} (hM : lw_S w M) (h : ed (f_HGrid_turnMask p0 M) Q) : ia (tb_G L xs) (dep + 1) J_HGrid_turnMask (rwV w Q) (0, lv_args 0 [.ref 38, .int p0], [], M) := by
  have hS : im_St (tb_G L xs) (dep + 1) J_HGrid_turnMask (ia (tb_G L xs) (dep + 1) J_HGrid_turnMask (rwV w Q)) := ia_St
  unfold f_HGrid_turnMask at h
  have l0 : im_lk (lv_args 0 [.ref 38, .int p0]) 0 = some (.ref 38) := rfl
  have l1 : im_lk (lv_args 0 [.ref 38, .int p0]) 1 = some (.int p0) := rfl
  refine iq_iconst hS 1 J_HGrid_turnMask_d0 (v := 0) (by decide +kernel) rfl ?_
  refine iq_istore_n hS 2 J_HGrid_turnMask_d1 (by decide) rfl ?_
  obtain ⟨Q1, hQ1, h⟩ := bd1_ed h
  have K1 : ∀ (M2 : im_M) (L' : List (Nat × Value)), lw_S w M2 → Q1 M2 → ia (tb_G L xs) (dep + 1) J_HGrid_turnMask (rwV w Q) (72, L', [], M2) := by
    intro M2 L' hM2  h
    replace h := hQ1 _ h
    exact iq_ret J_HGrid_turnMask_d72 rfl ⟨rfl, hM2, ed_some h⟩
  obtain ⟨r1, hr1, hq1⟩ := h
  obtain ⟨n1, hn1⟩ := lp_n hr1
  have I1 : ∀ (n : Nat) (x3 : Int32) (M4 : im_M) (L' : List (Nat × Value)), lw_S w M4 → im_lk L' 0 = some (.ref 38) → im_lk L' 1 = some (.int p0) → im_lk L' 2 = some (.int x3) → lpn (uc2 (f_HGrid_turnMask_L2 p0)) n (x3, M4) = some r1 → ia (tb_G L xs) (dep + 1) J_HGrid_turnMask (rwV w Q) (2, L', [], M4) := by
    intro n
    induction n with
    | zero => intro x3 M4 L' hM4 l5 l6 l7 hn; exact (lpn_0 hn).elim
    | succ n ih =>
      intro x3 M4 L' hM4 l5 l6 l7 hn
      have h := lpn_ed2 hn
      unfold f_HGrid_turnMask_L2 at h
      refine iq_iload_n hS 3 J_HGrid_turnMask_d2 l7 rfl ?_
      refine iq_aload_n hS 4 J_HGrid_turnMask_d3 l5 rfl ?_
      refine iq_getI hS 7 J_HGrid_turnMask_d4 lf_4_74 (Or.inl rfl) (ka_38 hM4) rfl ?_
      refine iq_icmp_ge hS 10 J_HGrid_turnMask_d7 (t := 72) rfl (fun q7 => ?_) rfl (fun q7 => ?_)
      · replace h := ed_pos q7 h
        exact K1 _ _ hM4  (lq_r h hq1)
      · replace h := ed_neg q7 h
        refine iq_iconst hS 11 J_HGrid_turnMask_d10 (v := 0) (by decide +kernel) rfl ?_
        refine iq_istore_n hS 12 J_HGrid_turnMask_d11 (by decide) rfl ?_
        obtain ⟨Q8, hQ8, h⟩ := bd1_ed h
        have K8 : ∀ (M9 : im_M) (L' : List (Nat × Value)), lw_S w M9 → im_lk L' 0 = some (.ref 38) → im_lk L' 1 = some (.int p0) → im_lk L' 2 = some (.int x3) → Q8 M9 → ia (tb_G L xs) (dep + 1) J_HGrid_turnMask (rwV w Q) (66, L', [], M9) := by
          intro M9 L' hM9 l10 l11 l12 h
          replace h := hQ8 _ h
          refine iq_iincv hS 69 J_HGrid_turnMask_d66 (c := 1) (by decide +kernel) l12 (by decide) rfl ?_
          refine iq_goto hS J_HGrid_turnMask_d69 (t := 2) rfl ?_
          exact ih _ _ _ hM9 (lk_1r l10 (by decide)) (lk_1i l11 (by decide)) lk_1s (lq_l h)
        obtain ⟨r8, hr8, hq8⟩ := h
        obtain ⟨n8, hn8⟩ := lp_n hr8
        have I8 : ∀ (n : Nat) (x13 : Int32) (M14 : im_M) (L' : List (Nat × Value)), lw_S w M14 → im_lk L' 0 = some (.ref 38) → im_lk L' 1 = some (.int p0) → im_lk L' 2 = some (.int x3) → im_lk L' 3 = some (.int x13) → lpn (uc2 (f_HGrid_turnMask_L12 p0 x3)) n (x13, M14) = some r8 → ia (tb_G L xs) (dep + 1) J_HGrid_turnMask (rwV w Q) (12, L', [], M14) := by
          intro n
          induction n with
          | zero => intro x13 M14 L' hM14 l15 l16 l17 l18 hn; exact (lpn_0 hn).elim
          | succ n ih =>
            intro x13 M14 L' hM14 l15 l16 l17 l18 hn
            have h := lpn_ed2 hn
            unfold f_HGrid_turnMask_L12 at h
            refine iq_iload_n hS 13 J_HGrid_turnMask_d12 l18 rfl ?_
            refine iq_aload_n hS 14 J_HGrid_turnMask_d13 l15 rfl ?_
            refine iq_getI hS 17 J_HGrid_turnMask_d14 lf_4_74 (Or.inl rfl) (ka_38 hM14) rfl ?_
            refine iq_icmp_ge hS 20 J_HGrid_turnMask_d17 (t := 66) rfl (fun q17 => ?_) rfl (fun q17 => ?_)
            · replace h := ed_pos q17 h
              exact K8 _ _ hM14 l15 l16 l17 (lq_r h hq8)
            · replace h := ed_neg q17 h
              refine iq_iload_n hS 21 J_HGrid_turnMask_d20 l17 rfl ?_
              refine iq_sipush hS 24 J_HGrid_turnMask_d21 (v := 177) (by decide +kernel) rfl ?_
              refine iq_imul hS 25 J_HGrid_turnMask_d24 rfl ?_
              refine iq_iload_n hS 26 J_HGrid_turnMask_d25 l18 rfl ?_
              refine iq_iadd hS 27 J_HGrid_turnMask_d26 rfl ?_
              refine iq_istore hS 29 J_HGrid_turnMask_d27 (by decide) rfl ?_
              refine iq_aload_n hS 30 J_HGrid_turnMask_d29 (lk_1r l15 (by decide)) rfl ?_
              refine iq_getR hS 33 J_HGrid_turnMask_d30 lf_4_29 (Or.inr ⟨_, rfl⟩) (ka_38 hM14) (ra_38_8 hM14) rfl ?_
              refine iq_iload hS 35 J_HGrid_turnMask_d33 lk_1s rfl ?_
              obtain ⟨g35, h⟩ := ed_gd h
              refine iq_baload hS 36 J_HGrid_turnMask_d35 ⟨(ka_55 hM14).1, (ka_55 hM14).2, g35.1, ix_lt (kl_55 hM14) g35.2⟩ rfl ?_
              obtain ⟨Q19, hQ19, h⟩ := bd1_ed h
              have J19 : ∀ (M21 : im_M) (L' : List (Nat × Value)), lw_S w M21 → im_lk L' 0 = some (.ref 38) → im_lk L' 1 = some (.int p0) → im_lk L' 2 = some (.int x3) → im_lk L' 3 = some (.int x13) → Q19 M21 → ia (tb_G L xs) (dep + 1) J_HGrid_turnMask (rwV w Q) (60, L', [], M21) := by
                intro M21 L' hM21 l22 l23 l24 l25 h
                replace h := hQ19 _ h
                refine iq_iincv hS 63 J_HGrid_turnMask_d60 (c := 1) (by decide +kernel) l25 (by decide) rfl ?_
                refine iq_goto hS J_HGrid_turnMask_d63 (t := 12) rfl ?_
                exact ih _ _ _ hM21 (lk_1r l22 (by decide)) (lk_1i l23 (by decide)) (lk_1i l24 (by decide)) lk_1s (lq_l h)
              refine iq_if_ne hS 39 J_HGrid_turnMask_d36 (t := 60) rfl (fun q36 => ?_) rfl (fun q36 => ?_)
              · replace h := ed_pos q36 h
                exact J19 _ _ hM14 (lk_1r l15 (by decide)) (lk_1i l16 (by decide)) (lk_1i l17 (by decide)) (lk_1i l18 (by decide)) (ed_some h)
              · replace h := ed_neg q36 h
                refine iq_iload_n hS 40 J_HGrid_turnMask_d39 (lk_1i l16 (by decide)) rfl ?_
                refine iq_iload_n hS 41 J_HGrid_turnMask_d40 (lk_1i l18 (by decide)) rfl ?_
                refine iq_iload_n hS 42 J_HGrid_turnMask_d41 (lk_1i l17 (by decide)) rfl ?_
                obtain ⟨Q20, hQ20, h⟩ := bd1_ed h
                refine iq_cpI hS 45 J_HGrid_turnMask_d42 rfl (pr_stat (vs := [_, _, _]) lc_4_141 lT_175 rfl rfl (by decide) rfl (Nat.le_of_ble_eq_true rfl) (Nat.le_of_ble_eq_true rfl)) (f_HGrid_isTurned_ok (dep := dep + 0) hM14 h) rfl ?_
                intro x20 h
                replace h := hQ20 _ h
                refine iq_if_eq hS 48 J_HGrid_turnMask_d45 (t := 60) rfl (fun q45 => ?_) rfl (fun q45 => ?_)
                · replace h := ed_pos q45 h
                  exact J19 _ _ hM14 (lk_1r l15 (by decide)) (lk_1i l16 (by decide)) (lk_1i l17 (by decide)) (lk_1i l18 (by decide)) (ed_some h)
                · replace h := ed_neg q45 h
                  refine iq_aload_n hS 49 J_HGrid_turnMask_d48 (lk_1r l15 (by decide)) rfl ?_
                  refine iq_getR hS 52 J_HGrid_turnMask_d49 lf_4_25 (Or.inr ⟨_, rfl⟩) (ka_38 hM14) (ra_38_7 hM14) rfl ?_
                  refine iq_iload hS 54 J_HGrid_turnMask_d52 lk_1s rfl ?_
                  refine iq_dup2 hS 55 J_HGrid_turnMask_d54 rfl rfl rfl ?_
                  obtain ⟨g55, h⟩ := ed_gd h
                  refine iq_baload hS 56 J_HGrid_turnMask_d55 ⟨(ka_54 hM14).1, (ka_54 hM14).2, g55.1, ix_lt (kl_54 hM14) g55.2⟩ rfl ?_
                  refine iq_iconst hS 57 J_HGrid_turnMask_d56 (v := 1) (by decide +kernel) rfl ?_
                  refine iq_ixor hS 58 J_HGrid_turnMask_d57 rfl ?_
                  refine iq_i2b hS 59 J_HGrid_turnMask_d58 rfl ?_
                  obtain ⟨g59, h⟩ := ed_gd h
                  refine iq_bastore hS 60 J_HGrid_turnMask_d59 ⟨(ka_54 hM14).1, (ka_54 hM14).2, g59.1, ix_lt (kl_54 hM14) g59.2⟩ rfl ?_
                  exact J19 _ _ (lw_sI hM14) (lk_1r l15 (by decide)) (lk_1i l16 (by decide)) (lk_1i l17 (by decide)) (lk_1i l18 (by decide)) (ed_some h)
        exact I8 n8 _ _ _ hM4 (lk_1r l5 (by decide)) (lk_1i l6 (by decide)) (lk_1i l7 (by decide)) lk_1s hn8
  exact I1 n1 _ _ _ hM (lk_1r l0 (by decide)) (lk_1i l1 (by decide)) lk_1s hn1
theorem f_HGrid_turnMask_fr {p0 : Int32} {M : im_M} {r : im_M} (h : f_HGrid_turnMask p0 M = some r) : fr 18014398509481984 [] M r := by
  replace h : ed (f_HGrid_turnMask p0 M) (fun x => x = r) := ⟨r, h, rfl⟩
  unfold f_HGrid_turnMask at h
  obtain ⟨Q1, hQ1, h⟩ := bd1_ed h
  have K1 : ∀ (M2 : im_M), fr 18014398509481984 [] M M2 → Q1 M2 → fr 18014398509481984 [] M r := by
    intro M2 hM2 h
    replace h := hQ1 _ h
    exact fr_retV h hM2
  obtain ⟨r1, hr1, hq1⟩ := h
  obtain ⟨n1, hn1⟩ := lp_n hr1
  have I1 : ∀ (n : Nat) (x3 : Int32) (M4 : im_M), fr 18014398509481984 [] M M4 → lpn (uc2 (f_HGrid_turnMask_L2 p0)) n (x3, M4) = some r1 → fr 18014398509481984 [] M r := by
    intro n
    induction n with
    | zero => intro x3 M4 hM4 hn; exact (lpn_0 hn).elim
    | succ n ih =>
      intro x3 M4 hM4 hn
      have h := lpn_ed2 hn
      unfold f_HGrid_turnMask_L2 at h
      by_cases q7 : (im_i M4 38 1) ≤ x3
      · replace h := ed_pos q7 h
        exact K1 _ hM4 (lq_r h hq1)
      · replace h := ed_neg q7 h
        obtain ⟨Q5, hQ5, h⟩ := bd1_ed h
        have K5 : ∀ (M6 : im_M), fr 18014398509481984 [] M M6 → Q5 M6 → fr 18014398509481984 [] M r := by
          intro M6 hM6 h
          replace h := hQ5 _ h
          exact ih _ _ hM6 (lq_l h)
        obtain ⟨r5, hr5, hq5⟩ := h
        obtain ⟨n5, hn5⟩ := lp_n hr5
        have I5 : ∀ (n : Nat) (x7 : Int32) (M8 : im_M), fr 18014398509481984 [] M M8 → lpn (uc2 (f_HGrid_turnMask_L12 p0 x3)) n (x7, M8) = some r5 → fr 18014398509481984 [] M r := by
          intro n
          induction n with
          | zero => intro x7 M8 hM8 hn; exact (lpn_0 hn).elim
          | succ n ih =>
            intro x7 M8 hM8 hn
            have h := lpn_ed2 hn
            unfold f_HGrid_turnMask_L12 at h
            by_cases q17 : (im_i M8 38 1) ≤ x7
            · replace h := ed_pos q17 h
              exact K5 _ hM8 (lq_r h hq5)
            · replace h := ed_neg q17 h
              obtain ⟨g35, h⟩ := ed_gd h
              obtain ⟨Q9, hQ9, h⟩ := bd1_ed h
              have J9 : ∀ (M11 : im_M), fr 18014398509481984 [] M M11 → Q9 M11 → fr 18014398509481984 [] M r := by
                intro M11 hM11 h
                replace h := hQ9 _ h
                exact ih _ _ hM11 (lq_l h)
              by_cases q36 : ¬ (im_i M8 55 (Int32.toNatClampNeg ((x3 * 177) + x7))) = 0
              · replace h := ed_pos q36 h
                exact J9 _ hM8 (ed_some h)
              · replace h := ed_neg q36 h
                obtain ⟨Q10, hQ10, h⟩ := bd1_ed h
                obtain ⟨x10, e10, h⟩ := h
                replace h := hQ10 _ h
                by_cases q45 : x10 = 0
                · replace h := ed_pos q45 h
                  exact J9 _ hM8 (ed_some h)
                · replace h := ed_neg q45 h
                  obtain ⟨g55, h⟩ := ed_gd h
                  obtain ⟨g59, h⟩ := ed_gd h
                  exact J9 _ (fr_I (by decide) hM8) (ed_some h)
        exact I5 n5 _ _ hM4 hn5
  exact I1 n1 _ _ fr_refl hn1
noncomputable def f_HGrid_linePenalty_L14 (v2 : Int32) (v3 : Int32) (M9 : im_M) (x4 : Int32) (x5 : Int32) (x6 : Int32) (x7 : Int32) (x8 : Int32) : Option ((Int32 × Int32 × Int32 × Int32 × Int32) ⊕ (Int32)) := if (im_i M9 38 1) ≤ x8 then some (.inr x4) else gd (inb (v2 + (x8 * v3)) 31329) <| some (.inl (((if x8 < 10 then ((if ((if ¬ (im_i M9 54 (Int32.toNatClampNeg (v2 + (x8 * v3)))) = x6 then 1 else (x5 + 1)) : Int32) < 5 then x4 else (if ¬ ((if ¬ (im_i M9 54 (Int32.toNatClampNeg (v2 + (x8 * v3)))) = x6 then 1 else (x5 + 1)) : Int32) = 5 then (x4 + 1) else (x4 + 3))) : Int32) else (if (((x7 <<< (1 &&& 31 : Int32) : Int32) ||| (im_i M9 54 (Int32.toNatClampNeg (v2 + (x8 * v3))))) &&& 2047) = 1488 then (((if ((if ¬ (im_i M9 54 (Int32.toNatClampNeg (v2 + (x8 * v3)))) = x6 then 1 else (x5 + 1)) : Int32) < 5 then x4 else (if ¬ ((if ¬ (im_i M9 54 (Int32.toNatClampNeg (v2 + (x8 * v3)))) = x6 then 1 else (x5 + 1)) : Int32) = 5 then (x4 + 1) else (x4 + 3))) : Int32) + 40) else (if ¬ (((x7 <<< (1 &&& 31 : Int32) : Int32) ||| (im_i M9 54 (Int32.toNatClampNeg (v2 + (x8 * v3))))) &&& 2047) = 93 then ((if ((if ¬ (im_i M9 54 (Int32.toNatClampNeg (v2 + (x8 * v3)))) = x6 then 1 else (x5 + 1)) : Int32) < 5 then x4 else (if ¬ ((if ¬ (im_i M9 54 (Int32.toNatClampNeg (v2 + (x8 * v3)))) = x6 then 1 else (x5 + 1)) : Int32) = 5 then (x4 + 1) else (x4 + 3))) : Int32) else (((if ((if ¬ (im_i M9 54 (Int32.toNatClampNeg (v2 + (x8 * v3)))) = x6 then 1 else (x5 + 1)) : Int32) < 5 then x4 else (if ¬ ((if ¬ (im_i M9 54 (Int32.toNatClampNeg (v2 + (x8 * v3)))) = x6 then 1 else (x5 + 1)) : Int32) = 5 then (x4 + 1) else (x4 + 3))) : Int32) + 40)))) : Int32), ((if ¬ (im_i M9 54 (Int32.toNatClampNeg (v2 + (x8 * v3)))) = x6 then 1 else (x5 + 1)) : Int32), (im_i M9 54 (Int32.toNatClampNeg (v2 + (x8 * v3)))), (((x7 <<< (1 &&& 31 : Int32) : Int32) ||| (im_i M9 54 (Int32.toNatClampNeg (v2 + (x8 * v3))))) &&& 2047), (x8 + 1)))
noncomputable def f_HGrid_linePenalty (p0 : Int32) (p1 : Int32) (M : im_M) : Option (Int32) := bd1 (lp (uc5 (f_HGrid_linePenalty_L14 p0 p1 M)) (0, 0, (-1), 0, 0)) fun (y13 : Int32) => some y13
theorem J_HGrid_linePenalty_d0 : decode J_HGrid_linePenalty.2.1 0 = .ok (.iconst 0, 1) := by decide +kernel
theorem J_HGrid_linePenalty_d1 : decode J_HGrid_linePenalty.2.1 1 = .ok (.istore_n 3, 1) := by decide +kernel
theorem J_HGrid_linePenalty_d2 : decode J_HGrid_linePenalty.2.1 2 = .ok (.iconst 0, 1) := by decide +kernel
theorem J_HGrid_linePenalty_d3 : decode J_HGrid_linePenalty.2.1 3 = .ok (.istore 4, 2) := by decide +kernel
theorem J_HGrid_linePenalty_d5 : decode J_HGrid_linePenalty.2.1 5 = .ok (.iconst (-1), 1) := by decide +kernel
theorem J_HGrid_linePenalty_d6 : decode J_HGrid_linePenalty.2.1 6 = .ok (.istore 5, 2) := by decide +kernel
theorem J_HGrid_linePenalty_d8 : decode J_HGrid_linePenalty.2.1 8 = .ok (.iconst 0, 1) := by decide +kernel
theorem J_HGrid_linePenalty_d9 : decode J_HGrid_linePenalty.2.1 9 = .ok (.istore 6, 2) := by decide +kernel
theorem J_HGrid_linePenalty_d11 : decode J_HGrid_linePenalty.2.1 11 = .ok (.iconst 0, 1) := by decide +kernel
theorem J_HGrid_linePenalty_d12 : decode J_HGrid_linePenalty.2.1 12 = .ok (.istore 7, 2) := by decide +kernel
theorem J_HGrid_linePenalty_d14 : decode J_HGrid_linePenalty.2.1 14 = .ok (.iload 7, 2) := by decide +kernel
theorem J_HGrid_linePenalty_d16 : decode J_HGrid_linePenalty.2.1 16 = .ok (.aload_n 0, 1) := by decide +kernel
theorem J_HGrid_linePenalty_d17 : decode J_HGrid_linePenalty.2.1 17 = .ok (.getfield 74, 3) := by decide +kernel
theorem J_HGrid_linePenalty_d20 : decode J_HGrid_linePenalty.2.1 20 = .ok (.if_icmp .ge 101, 3) := by decide +kernel
theorem J_HGrid_linePenalty_d23 : decode J_HGrid_linePenalty.2.1 23 = .ok (.aload_n 0, 1) := by decide +kernel
theorem J_HGrid_linePenalty_d24 : decode J_HGrid_linePenalty.2.1 24 = .ok (.getfield 25, 3) := by decide +kernel
theorem J_HGrid_linePenalty_d27 : decode J_HGrid_linePenalty.2.1 27 = .ok (.iload_n 1, 1) := by decide +kernel
theorem J_HGrid_linePenalty_d28 : decode J_HGrid_linePenalty.2.1 28 = .ok (.iload 7, 2) := by decide +kernel
theorem J_HGrid_linePenalty_d30 : decode J_HGrid_linePenalty.2.1 30 = .ok (.iload_n 2, 1) := by decide +kernel
theorem J_HGrid_linePenalty_d31 : decode J_HGrid_linePenalty.2.1 31 = .ok (.imul, 1) := by decide +kernel
theorem J_HGrid_linePenalty_d32 : decode J_HGrid_linePenalty.2.1 32 = .ok (.iadd, 1) := by decide +kernel
theorem J_HGrid_linePenalty_d33 : decode J_HGrid_linePenalty.2.1 33 = .ok (.baload, 1) := by decide +kernel
theorem J_HGrid_linePenalty_d34 : decode J_HGrid_linePenalty.2.1 34 = .ok (.istore 8, 2) := by decide +kernel
theorem J_HGrid_linePenalty_d36 : decode J_HGrid_linePenalty.2.1 36 = .ok (.iload 8, 2) := by decide +kernel
theorem J_HGrid_linePenalty_d38 : decode J_HGrid_linePenalty.2.1 38 = .ok (.iload 5, 2) := by decide +kernel
theorem J_HGrid_linePenalty_d40 : decode J_HGrid_linePenalty.2.1 40 = .ok (.if_icmp .ne 10, 3) := by decide +kernel
theorem J_HGrid_linePenalty_d43 : decode J_HGrid_linePenalty.2.1 43 = .ok (.iload 4, 2) := by decide +kernel
theorem J_HGrid_linePenalty_d45 : decode J_HGrid_linePenalty.2.1 45 = .ok (.iconst 1, 1) := by decide +kernel
theorem J_HGrid_linePenalty_d46 : decode J_HGrid_linePenalty.2.1 46 = .ok (.iadd, 1) := by decide +kernel
theorem J_HGrid_linePenalty_d47 : decode J_HGrid_linePenalty.2.1 47 = .ok (.goto 4, 3) := by decide +kernel
theorem J_HGrid_linePenalty_d50 : decode J_HGrid_linePenalty.2.1 50 = .ok (.iconst 1, 1) := by decide +kernel
theorem J_HGrid_linePenalty_d51 : decode J_HGrid_linePenalty.2.1 51 = .ok (.istore 4, 2) := by decide +kernel
theorem J_HGrid_linePenalty_d53 : decode J_HGrid_linePenalty.2.1 53 = .ok (.iload 8, 2) := by decide +kernel
theorem J_HGrid_linePenalty_d55 : decode J_HGrid_linePenalty.2.1 55 = .ok (.istore 5, 2) := by decide +kernel
theorem J_HGrid_linePenalty_d57 : decode J_HGrid_linePenalty.2.1 57 = .ok (.iload 4, 2) := by decide +kernel
theorem J_HGrid_linePenalty_d59 : decode J_HGrid_linePenalty.2.1 59 = .ok (.iconst 5, 1) := by decide +kernel
theorem J_HGrid_linePenalty_d60 : decode J_HGrid_linePenalty.2.1 60 = .ok (.if_icmp .lt 17, 3) := by decide +kernel
theorem J_HGrid_linePenalty_d63 : decode J_HGrid_linePenalty.2.1 63 = .ok (.iload_n 3, 1) := by decide +kernel
theorem J_HGrid_linePenalty_d64 : decode J_HGrid_linePenalty.2.1 64 = .ok (.iload 4, 2) := by decide +kernel
theorem J_HGrid_linePenalty_d66 : decode J_HGrid_linePenalty.2.1 66 = .ok (.iconst 5, 1) := by decide +kernel
theorem J_HGrid_linePenalty_d67 : decode J_HGrid_linePenalty.2.1 67 = .ok (.if_icmp .ne 7, 3) := by decide +kernel
theorem J_HGrid_linePenalty_d70 : decode J_HGrid_linePenalty.2.1 70 = .ok (.iconst 3, 1) := by decide +kernel
theorem J_HGrid_linePenalty_d71 : decode J_HGrid_linePenalty.2.1 71 = .ok (.goto 4, 3) := by decide +kernel
theorem J_HGrid_linePenalty_d74 : decode J_HGrid_linePenalty.2.1 74 = .ok (.iconst 1, 1) := by decide +kernel
theorem J_HGrid_linePenalty_d75 : decode J_HGrid_linePenalty.2.1 75 = .ok (.iadd, 1) := by decide +kernel
theorem J_HGrid_linePenalty_d76 : decode J_HGrid_linePenalty.2.1 76 = .ok (.istore_n 3, 1) := by decide +kernel
theorem J_HGrid_linePenalty_d77 : decode J_HGrid_linePenalty.2.1 77 = .ok (.iload 6, 2) := by decide +kernel
theorem J_HGrid_linePenalty_d79 : decode J_HGrid_linePenalty.2.1 79 = .ok (.iconst 1, 1) := by decide +kernel
theorem J_HGrid_linePenalty_d80 : decode J_HGrid_linePenalty.2.1 80 = .ok (.ishl, 1) := by decide +kernel
theorem J_HGrid_linePenalty_d81 : decode J_HGrid_linePenalty.2.1 81 = .ok (.iload 8, 2) := by decide +kernel
theorem J_HGrid_linePenalty_d83 : decode J_HGrid_linePenalty.2.1 83 = .ok (.ior, 1) := by decide +kernel
theorem J_HGrid_linePenalty_d84 : decode J_HGrid_linePenalty.2.1 84 = .ok (.sipush 2047, 3) := by decide +kernel
theorem J_HGrid_linePenalty_d87 : decode J_HGrid_linePenalty.2.1 87 = .ok (.iand, 1) := by decide +kernel
theorem J_HGrid_linePenalty_d88 : decode J_HGrid_linePenalty.2.1 88 = .ok (.istore 6, 2) := by decide +kernel
theorem J_HGrid_linePenalty_d90 : decode J_HGrid_linePenalty.2.1 90 = .ok (.iload 7, 2) := by decide +kernel
theorem J_HGrid_linePenalty_d92 : decode J_HGrid_linePenalty.2.1 92 = .ok (.bipush 10, 2) := by decide +kernel
theorem J_HGrid_linePenalty_d94 : decode J_HGrid_linePenalty.2.1 94 = .ok (.if_icmp .lt 21, 3) := by decide +kernel
theorem J_HGrid_linePenalty_d97 : decode J_HGrid_linePenalty.2.1 97 = .ok (.iload 6, 2) := by decide +kernel
theorem J_HGrid_linePenalty_d99 : decode J_HGrid_linePenalty.2.1 99 = .ok (.sipush 1488, 3) := by decide +kernel
theorem J_HGrid_linePenalty_d102 : decode J_HGrid_linePenalty.2.1 102 = .ok (.if_icmp .eq 10, 3) := by decide +kernel
theorem J_HGrid_linePenalty_d105 : decode J_HGrid_linePenalty.2.1 105 = .ok (.iload 6, 2) := by decide +kernel
theorem J_HGrid_linePenalty_d107 : decode J_HGrid_linePenalty.2.1 107 = .ok (.bipush 93, 2) := by decide +kernel
theorem J_HGrid_linePenalty_d109 : decode J_HGrid_linePenalty.2.1 109 = .ok (.if_icmp .ne 6, 3) := by decide +kernel
theorem J_HGrid_linePenalty_d112 : decode J_HGrid_linePenalty.2.1 112 = .ok (.iinc 3 40, 3) := by decide +kernel
theorem J_HGrid_linePenalty_d115 : decode J_HGrid_linePenalty.2.1 115 = .ok (.iinc 7 1, 3) := by decide +kernel
theorem J_HGrid_linePenalty_d118 : decode J_HGrid_linePenalty.2.1 118 = .ok (.goto (-104), 3) := by decide +kernel
theorem J_HGrid_linePenalty_d121 : decode J_HGrid_linePenalty.2.1 121 = .ok (.iload_n 3, 1) := by decide +kernel
theorem J_HGrid_linePenalty_d122 : decode J_HGrid_linePenalty.2.1 122 = .ok (.ireturn, 1) := by decide +kernel
theorem f_HGrid_linePenalty_ok {L : Nat} {xs : Nat → Int32} {dep : Nat} {w : Bool} {p0 : Int32} {p1 : Int32} {M : im_M} {Q : Int32 → Prop} (hM : lw_S w M) (h : ed (f_HGrid_linePenalty p0 p1 M) Q) : ia (tb_G L xs) dep J_HGrid_linePenalty (rpI M Q) (0, lv_args 0 [.ref 38, .int p0, .int p1], [], M) := by
  have hS : im_St (tb_G L xs) dep J_HGrid_linePenalty (ia (tb_G L xs) dep J_HGrid_linePenalty (rpI M Q)) := ia_St
  unfold f_HGrid_linePenalty at h
  have l0 : im_lk (lv_args 0 [.ref 38, .int p0, .int p1]) 0 = some (.ref 38) := rfl
  have l1 : im_lk (lv_args 0 [.ref 38, .int p0, .int p1]) 1 = some (.int p0) := rfl
  have l2 : im_lk (lv_args 0 [.ref 38, .int p0, .int p1]) 2 = some (.int p1) := rfl
  refine iq_iconst hS 1 J_HGrid_linePenalty_d0 (v := 0) (by decide +kernel) rfl ?_
  refine iq_istore_n hS 2 J_HGrid_linePenalty_d1 (by decide) rfl ?_
  refine iq_iconst hS 3 J_HGrid_linePenalty_d2 (v := 0) (by decide +kernel) rfl ?_
  refine iq_istore hS 5 J_HGrid_linePenalty_d3 (by decide) rfl ?_
  refine iq_iconst hS 6 J_HGrid_linePenalty_d5 (v := (-1)) (by decide +kernel) rfl ?_
  refine iq_istore hS 8 J_HGrid_linePenalty_d6 (by decide) rfl ?_
  refine iq_iconst hS 9 J_HGrid_linePenalty_d8 (v := 0) (by decide +kernel) rfl ?_
  refine iq_istore hS 11 J_HGrid_linePenalty_d9 (by decide) rfl ?_
  refine iq_iconst hS 12 J_HGrid_linePenalty_d11 (v := 0) (by decide +kernel) rfl ?_
  refine iq_istore hS 14 J_HGrid_linePenalty_d12 (by decide) rfl ?_
  obtain ⟨Q1, hQ1, h⟩ := bd1_ed h
  have K1 : ∀ (y2 : Int32) (L' : List (Nat × Value)), im_lk L' 3 = some (.int y2) → Q1 y2 → ia (tb_G L xs) dep J_HGrid_linePenalty (rpI M Q) (121, L', [], M) := by
    intro y2 L' l3 h
    replace h := hQ1 _ h
    refine iq_iload_n hS 122 J_HGrid_linePenalty_d121 l3 rfl ?_
    exact iq_iret J_HGrid_linePenalty_d122 rfl rfl ⟨_, rfl, rfl, ed_some h⟩
  obtain ⟨r1, hr1, hq1⟩ := h
  obtain ⟨n1, hn1⟩ := lp_n hr1
  have I1 : ∀ (n : Nat) (x4 : Int32) (x5 : Int32) (x6 : Int32) (x7 : Int32) (x8 : Int32) (L' : List (Nat × Value)), im_lk L' 0 = some (.ref 38) → im_lk L' 1 = some (.int p0) → im_lk L' 2 = some (.int p1) → im_lk L' 3 = some (.int x4) → im_lk L' 4 = some (.int x5) → im_lk L' 5 = some (.int x6) → im_lk L' 6 = some (.int x7) → im_lk L' 7 = some (.int x8) → lpn (uc5 (f_HGrid_linePenalty_L14 p0 p1 M)) n (x4, x5, x6, x7, x8) = some r1 → ia (tb_G L xs) dep J_HGrid_linePenalty (rpI M Q) (14, L', [], M) := by
    intro n
    induction n with
    | zero => intro x4 x5 x6 x7 x8 L' l9 l10 l11 l12 l13 l14 l15 l16 hn; exact (lpn_0 hn).elim
    | succ n ih =>
      intro x4 x5 x6 x7 x8 L' l9 l10 l11 l12 l13 l14 l15 l16 hn
      have h := lpn_ed5 hn
      unfold f_HGrid_linePenalty_L14 at h
      refine iq_iload hS 16 J_HGrid_linePenalty_d14 l16 rfl ?_
      refine iq_aload_n hS 17 J_HGrid_linePenalty_d16 l9 rfl ?_
      refine iq_getI hS 20 J_HGrid_linePenalty_d17 lf_4_74 (Or.inl rfl) (ka_38 hM) rfl ?_
      refine iq_icmp_ge hS 23 J_HGrid_linePenalty_d20 (t := 121) rfl (fun q20 => ?_) rfl (fun q20 => ?_)
      · replace h := ed_pos q20 h
        exact K1 _ _ l12 (lq_r h hq1)
      · replace h := ed_neg q20 h
        refine iq_aload_n hS 24 J_HGrid_linePenalty_d23 l9 rfl ?_
        refine iq_getR hS 27 J_HGrid_linePenalty_d24 lf_4_25 (Or.inr ⟨_, rfl⟩) (ka_38 hM) (ra_38_7 hM) rfl ?_
        refine iq_iload_n hS 28 J_HGrid_linePenalty_d27 l10 rfl ?_
        refine iq_iload hS 30 J_HGrid_linePenalty_d28 l16 rfl ?_
        refine iq_iload_n hS 31 J_HGrid_linePenalty_d30 l11 rfl ?_
        refine iq_imul hS 32 J_HGrid_linePenalty_d31 rfl ?_
        refine iq_iadd hS 33 J_HGrid_linePenalty_d32 rfl ?_
        obtain ⟨g33, h⟩ := ed_gd h
        refine iq_baload hS 34 J_HGrid_linePenalty_d33 ⟨(ka_54 hM).1, (ka_54 hM).2, g33.1, ix_lt (kl_54 hM) g33.2⟩ rfl ?_
        refine iq_istore hS 36 J_HGrid_linePenalty_d34 (by decide) rfl ?_
        refine iq_iload hS 38 J_HGrid_linePenalty_d36 lk_1s rfl ?_
        refine iq_iload hS 40 J_HGrid_linePenalty_d38 (lk_1i l14 (by decide)) rfl ?_
        have J17 : ∀ (z18 : Int32) (L' : List (Nat × Value)), z18 = ((if ¬ (im_i M 54 (Int32.toNatClampNeg (p0 + (x8 * p1)))) = x6 then 1 else (x5 + 1)) : Int32) → im_lk L' 0 = some (.ref 38) → im_lk L' 1 = some (.int p0) → im_lk L' 2 = some (.int p1) → im_lk L' 3 = some (.int x4) → im_lk L' 6 = some (.int x7) → im_lk L' 7 = some (.int x8) → im_lk L' 8 = some (.int (im_i M 54 (Int32.toNatClampNeg (p0 + (x8 * p1))))) → ia (tb_G L xs) dep J_HGrid_linePenalty (rpI M Q) (51, L', [.int z18], M) := by
          intro z18 L' e19 l20 l21 l22 l23 l24 l25 l26
          subst e19
          refine iq_istore hS 53 J_HGrid_linePenalty_d51 (by decide) rfl ?_
          refine iq_iload hS 55 J_HGrid_linePenalty_d53 (lk_1i l26 (by decide)) rfl ?_
          refine iq_istore hS 57 J_HGrid_linePenalty_d55 (by decide) rfl ?_
          refine iq_iload hS 59 J_HGrid_linePenalty_d57 (lk_1i lk_1s (by decide)) rfl ?_
          refine iq_iconst hS 60 J_HGrid_linePenalty_d59 (v := 5) (by decide +kernel) rfl ?_
          have J27 : ∀ (z28 : Int32) (L' : List (Nat × Value)), z28 = ((if ((if ¬ (im_i M 54 (Int32.toNatClampNeg (p0 + (x8 * p1)))) = x6 then 1 else (x5 + 1)) : Int32) < 5 then x4 else (if ¬ ((if ¬ (im_i M 54 (Int32.toNatClampNeg (p0 + (x8 * p1)))) = x6 then 1 else (x5 + 1)) : Int32) = 5 then (x4 + 1) else (x4 + 3))) : Int32) → im_lk L' 0 = some (.ref 38) → im_lk L' 1 = some (.int p0) → im_lk L' 2 = some (.int p1) → im_lk L' 3 = some (.int z28) → im_lk L' 4 = some (.int ((if ¬ (im_i M 54 (Int32.toNatClampNeg (p0 + (x8 * p1)))) = x6 then 1 else (x5 + 1)) : Int32)) → im_lk L' 5 = some (.int (im_i M 54 (Int32.toNatClampNeg (p0 + (x8 * p1))))) → im_lk L' 6 = some (.int x7) → im_lk L' 7 = some (.int x8) → im_lk L' 8 = some (.int (im_i M 54 (Int32.toNatClampNeg (p0 + (x8 * p1))))) → ia (tb_G L xs) dep J_HGrid_linePenalty (rpI M Q) (77, L', [], M) := by
            intro z28 L' e29 l30 l31 l32 l33 l34 l35 l36 l37 l38
            subst e29
            refine iq_iload hS 79 J_HGrid_linePenalty_d77 l36 rfl ?_
            refine iq_iconst hS 80 J_HGrid_linePenalty_d79 (v := 1) (by decide +kernel) rfl ?_
            refine iq_ishl hS 81 J_HGrid_linePenalty_d80 rfl ?_
            refine iq_iload hS 83 J_HGrid_linePenalty_d81 l38 rfl ?_
            refine iq_ior hS 84 J_HGrid_linePenalty_d83 rfl ?_
            refine iq_sipush hS 87 J_HGrid_linePenalty_d84 (v := 2047) (by decide +kernel) rfl ?_
            refine iq_iand hS 88 J_HGrid_linePenalty_d87 rfl ?_
            refine iq_istore hS 90 J_HGrid_linePenalty_d88 (by decide) rfl ?_
            refine iq_iload hS 92 J_HGrid_linePenalty_d90 (lk_1i l37 (by decide)) rfl ?_
            refine iq_bipush hS 94 J_HGrid_linePenalty_d92 (v := 10) (by decide +kernel) rfl ?_
            have J39 : ∀ (z40 : Int32) (L' : List (Nat × Value)), z40 = ((if x8 < 10 then ((if ((if ¬ (im_i M 54 (Int32.toNatClampNeg (p0 + (x8 * p1)))) = x6 then 1 else (x5 + 1)) : Int32) < 5 then x4 else (if ¬ ((if ¬ (im_i M 54 (Int32.toNatClampNeg (p0 + (x8 * p1)))) = x6 then 1 else (x5 + 1)) : Int32) = 5 then (x4 + 1) else (x4 + 3))) : Int32) else (if (((x7 <<< (1 &&& 31 : Int32) : Int32) ||| (im_i M 54 (Int32.toNatClampNeg (p0 + (x8 * p1))))) &&& 2047) = 1488 then (((if ((if ¬ (im_i M 54 (Int32.toNatClampNeg (p0 + (x8 * p1)))) = x6 then 1 else (x5 + 1)) : Int32) < 5 then x4 else (if ¬ ((if ¬ (im_i M 54 (Int32.toNatClampNeg (p0 + (x8 * p1)))) = x6 then 1 else (x5 + 1)) : Int32) = 5 then (x4 + 1) else (x4 + 3))) : Int32) + 40) else (if ¬ (((x7 <<< (1 &&& 31 : Int32) : Int32) ||| (im_i M 54 (Int32.toNatClampNeg (p0 + (x8 * p1))))) &&& 2047) = 93 then ((if ((if ¬ (im_i M 54 (Int32.toNatClampNeg (p0 + (x8 * p1)))) = x6 then 1 else (x5 + 1)) : Int32) < 5 then x4 else (if ¬ ((if ¬ (im_i M 54 (Int32.toNatClampNeg (p0 + (x8 * p1)))) = x6 then 1 else (x5 + 1)) : Int32) = 5 then (x4 + 1) else (x4 + 3))) : Int32) else (((if ((if ¬ (im_i M 54 (Int32.toNatClampNeg (p0 + (x8 * p1)))) = x6 then 1 else (x5 + 1)) : Int32) < 5 then x4 else (if ¬ ((if ¬ (im_i M 54 (Int32.toNatClampNeg (p0 + (x8 * p1)))) = x6 then 1 else (x5 + 1)) : Int32) = 5 then (x4 + 1) else (x4 + 3))) : Int32) + 40)))) : Int32) → im_lk L' 0 = some (.ref 38) → im_lk L' 1 = some (.int p0) → im_lk L' 2 = some (.int p1) → im_lk L' 3 = some (.int z40) → im_lk L' 4 = some (.int ((if ¬ (im_i M 54 (Int32.toNatClampNeg (p0 + (x8 * p1)))) = x6 then 1 else (x5 + 1)) : Int32)) → im_lk L' 5 = some (.int (im_i M 54 (Int32.toNatClampNeg (p0 + (x8 * p1))))) → im_lk L' 6 = some (.int (((x7 <<< (1 &&& 31 : Int32) : Int32) ||| (im_i M 54 (Int32.toNatClampNeg (p0 + (x8 * p1))))) &&& 2047)) → im_lk L' 7 = some (.int x8) → ia (tb_G L xs) dep J_HGrid_linePenalty (rpI M Q) (115, L', [], M) := by
              intro z40 L' e41 l42 l43 l44 l45 l46 l47 l48 l49
              subst e41
              refine iq_iincv hS 118 J_HGrid_linePenalty_d115 (c := 1) (by decide +kernel) l49 (by decide) rfl ?_
              refine iq_goto hS J_HGrid_linePenalty_d118 (t := 14) rfl ?_
              exact ih _ _ _ _ _ _ (lk_1r l42 (by decide)) (lk_1i l43 (by decide)) (lk_1i l44 (by decide)) (lk_1i l45 (by decide)) (lk_1i l46 (by decide)) (lk_1i l47 (by decide)) (lk_1i l48 (by decide)) lk_1s (lq_l h)
            refine iq_icmp_lt hS 97 J_HGrid_linePenalty_d94 (t := 115) rfl (fun q94 => ?_) rfl (fun q94 => ?_)
            · exact J39 _ _ (by simp only [if_pos q94]) (lk_1r l30 (by decide)) (lk_1i l31 (by decide)) (lk_1i l32 (by decide)) (lk_1i l33 (by decide)) (lk_1i l34 (by decide)) (lk_1i l35 (by decide)) lk_1s (lk_1i l37 (by decide))
            · refine iq_iload hS 99 J_HGrid_linePenalty_d97 lk_1s rfl ?_
              refine iq_sipush hS 102 J_HGrid_linePenalty_d99 (v := 1488) (by decide +kernel) rfl ?_
              refine iq_icmp_eq hS 105 J_HGrid_linePenalty_d102 (t := 112) rfl (fun q102 => ?_) rfl (fun q102 => ?_)
              · refine iq_iincv hS 115 J_HGrid_linePenalty_d112 (c := 40) (by decide +kernel) (lk_1i l33 (by decide)) (by decide) rfl ?_
                exact J39 _ _ (by simp only [if_neg q94, if_pos q102]) (lk_1r (lk_1r l30 (by decide)) (by decide)) (lk_1i (lk_1i l31 (by decide)) (by decide)) (lk_1i (lk_1i l32 (by decide)) (by decide)) lk_1s (lk_1i (lk_1i l34 (by decide)) (by decide)) (lk_1i (lk_1i l35 (by decide)) (by decide)) (lk_1i lk_1s (by decide)) (lk_1i (lk_1i l37 (by decide)) (by decide))
              · refine iq_iload hS 107 J_HGrid_linePenalty_d105 lk_1s rfl ?_
                refine iq_bipush hS 109 J_HGrid_linePenalty_d107 (v := 93) (by decide +kernel) rfl ?_
                refine iq_icmp_ne hS 112 J_HGrid_linePenalty_d109 (t := 115) rfl (fun q109 => ?_) rfl (fun q109 => ?_)
                · exact J39 _ _ (by simp only [if_neg q94, if_neg q102, if_pos q109]) (lk_1r l30 (by decide)) (lk_1i l31 (by decide)) (lk_1i l32 (by decide)) (lk_1i l33 (by decide)) (lk_1i l34 (by decide)) (lk_1i l35 (by decide)) lk_1s (lk_1i l37 (by decide))
                · refine iq_iincv hS 115 J_HGrid_linePenalty_d112 (c := 40) (by decide +kernel) (lk_1i l33 (by decide)) (by decide) rfl ?_
                  exact J39 _ _ (by simp only [if_neg q94, if_neg q102, if_neg q109]) (lk_1r (lk_1r l30 (by decide)) (by decide)) (lk_1i (lk_1i l31 (by decide)) (by decide)) (lk_1i (lk_1i l32 (by decide)) (by decide)) lk_1s (lk_1i (lk_1i l34 (by decide)) (by decide)) (lk_1i (lk_1i l35 (by decide)) (by decide)) (lk_1i lk_1s (by decide)) (lk_1i (lk_1i l37 (by decide)) (by decide))
          refine iq_icmp_lt hS 63 J_HGrid_linePenalty_d60 (t := 77) rfl (fun q60 => ?_) rfl (fun q60 => ?_)
          · exact J27 _ _ (by simp only [if_pos q60]) (lk_1r (lk_1r l20 (by decide)) (by decide)) (lk_1i (lk_1i l21 (by decide)) (by decide)) (lk_1i (lk_1i l22 (by decide)) (by decide)) (lk_1i (lk_1i l23 (by decide)) (by decide)) (lk_1i lk_1s (by decide)) lk_1s (lk_1i (lk_1i l24 (by decide)) (by decide)) (lk_1i (lk_1i l25 (by decide)) (by decide)) (lk_1i (lk_1i l26 (by decide)) (by decide))
          · refine iq_iload_n hS 64 J_HGrid_linePenalty_d63 (lk_1i (lk_1i l23 (by decide)) (by decide)) rfl ?_
            refine iq_iload hS 66 J_HGrid_linePenalty_d64 (lk_1i lk_1s (by decide)) rfl ?_
            refine iq_iconst hS 67 J_HGrid_linePenalty_d66 (v := 5) (by decide +kernel) rfl ?_
            refine iq_icmp_ne hS 70 J_HGrid_linePenalty_d67 (t := 74) rfl (fun q67 => ?_) rfl (fun q67 => ?_)
            · refine iq_iconst hS 75 J_HGrid_linePenalty_d74 (v := 1) (by decide +kernel) rfl ?_
              refine iq_iadd hS 76 J_HGrid_linePenalty_d75 rfl ?_
              refine iq_istore_n hS 77 J_HGrid_linePenalty_d76 (by decide) rfl ?_
              exact J27 _ _ (by simp only [if_neg q60, if_pos q67]) (lk_1r (lk_1r (lk_1r l20 (by decide)) (by decide)) (by decide)) (lk_1i (lk_1i (lk_1i l21 (by decide)) (by decide)) (by decide)) (lk_1i (lk_1i (lk_1i l22 (by decide)) (by decide)) (by decide)) lk_1s (lk_1i (lk_1i lk_1s (by decide)) (by decide)) (lk_1i lk_1s (by decide)) (lk_1i (lk_1i (lk_1i l24 (by decide)) (by decide)) (by decide)) (lk_1i (lk_1i (lk_1i l25 (by decide)) (by decide)) (by decide)) (lk_1i (lk_1i (lk_1i l26 (by decide)) (by decide)) (by decide))
            · refine iq_iconst hS 71 J_HGrid_linePenalty_d70 (v := 3) (by decide +kernel) rfl ?_
              refine iq_goto hS J_HGrid_linePenalty_d71 (t := 75) rfl ?_
              refine iq_iadd hS 76 J_HGrid_linePenalty_d75 rfl ?_
              refine iq_istore_n hS 77 J_HGrid_linePenalty_d76 (by decide) rfl ?_
              exact J27 _ _ (by simp only [if_neg q60, if_neg q67]) (lk_1r (lk_1r (lk_1r l20 (by decide)) (by decide)) (by decide)) (lk_1i (lk_1i (lk_1i l21 (by decide)) (by decide)) (by decide)) (lk_1i (lk_1i (lk_1i l22 (by decide)) (by decide)) (by decide)) lk_1s (lk_1i (lk_1i lk_1s (by decide)) (by decide)) (lk_1i lk_1s (by decide)) (lk_1i (lk_1i (lk_1i l24 (by decide)) (by decide)) (by decide)) (lk_1i (lk_1i (lk_1i l25 (by decide)) (by decide)) (by decide)) (lk_1i (lk_1i (lk_1i l26 (by decide)) (by decide)) (by decide))
        refine iq_icmp_ne hS 43 J_HGrid_linePenalty_d40 (t := 50) rfl (fun q40 => ?_) rfl (fun q40 => ?_)
        · refine iq_iconst hS 51 J_HGrid_linePenalty_d50 (v := 1) (by decide +kernel) rfl ?_
          exact J17 _ _ (by simp only [if_pos q40]) (lk_1r l9 (by decide)) (lk_1i l10 (by decide)) (lk_1i l11 (by decide)) (lk_1i l12 (by decide)) (lk_1i l15 (by decide)) (lk_1i l16 (by decide)) lk_1s
        · refine iq_iload hS 45 J_HGrid_linePenalty_d43 (lk_1i l13 (by decide)) rfl ?_
          refine iq_iconst hS 46 J_HGrid_linePenalty_d45 (v := 1) (by decide +kernel) rfl ?_
          refine iq_iadd hS 47 J_HGrid_linePenalty_d46 rfl ?_
          refine iq_goto hS J_HGrid_linePenalty_d47 (t := 51) rfl ?_
          exact J17 _ _ (by simp only [if_neg q40]) (lk_1r l9 (by decide)) (lk_1i l10 (by decide)) (lk_1i l11 (by decide)) (lk_1i l12 (by decide)) (lk_1i l15 (by decide)) (lk_1i l16 (by decide)) lk_1s
  exact I1 n1 _ _ _ _ _ _ (lk_1r (lk_1r (lk_1r (lk_1r (lk_1r l0 (by decide)) (by decide)) (by decide)) (by decide)) (by decide)) (lk_1i (lk_1i (lk_1i (lk_1i (lk_1i l1 (by decide)) (by decide)) (by decide)) (by decide)) (by decide)) (lk_1i (lk_1i (lk_1i (lk_1i (lk_1i l2 (by decide)) (by decide)) (by decide)) (by decide)) (by decide)) (lk_1i (lk_1i (lk_1i (lk_1i lk_1s (by decide)) (by decide)) (by decide)) (by decide)) (lk_1i (lk_1i (lk_1i lk_1s (by decide)) (by decide)) (by decide)) (lk_1i (lk_1i lk_1s (by decide)) (by decide)) (lk_1i lk_1s (by decide)) lk_1s hn1
noncomputable def f_HGrid_isSquareAlike (p0 : Int32) (M : im_M) : Option (Int32) := gd (inb p0 31329) <| gd (inb (p0 + 1) 31329) <| gd (inb (p0 + 177) 31329) <| gd (inb ((p0 + 177) + 1) 31329) <| jn0 (fun (_ : Unit) => some 1) fun k1 => if ((((im_i M 54 (Int32.toNatClampNeg p0)) + (im_i M 54 (Int32.toNatClampNeg (p0 + 1)))) + (im_i M 54 (Int32.toNatClampNeg (p0 + 177)))) + (im_i M 54 (Int32.toNatClampNeg ((p0 + 177) + 1)))) = 0 then k1 () else if ¬ ((((im_i M 54 (Int32.toNatClampNeg p0)) + (im_i M 54 (Int32.toNatClampNeg (p0 + 1)))) + (im_i M 54 (Int32.toNatClampNeg (p0 + 177)))) + (im_i M 54 (Int32.toNatClampNeg ((p0 + 177) + 1)))) = 4 then some 0 else k1 ()
theorem J_HGrid_isSquareAlike_d0 : decode J_HGrid_isSquareAlike.2.1 0 = .ok (.aload_n 0, 1) := by decide +kernel
theorem J_HGrid_isSquareAlike_d1 : decode J_HGrid_isSquareAlike.2.1 1 = .ok (.getfield 25, 3) := by decide +kernel
theorem J_HGrid_isSquareAlike_d4 : decode J_HGrid_isSquareAlike.2.1 4 = .ok (.iload_n 1, 1) := by decide +kernel
theorem J_HGrid_isSquareAlike_d5 : decode J_HGrid_isSquareAlike.2.1 5 = .ok (.baload, 1) := by decide +kernel
theorem J_HGrid_isSquareAlike_d6 : decode J_HGrid_isSquareAlike.2.1 6 = .ok (.aload_n 0, 1) := by decide +kernel
theorem J_HGrid_isSquareAlike_d7 : decode J_HGrid_isSquareAlike.2.1 7 = .ok (.getfield 25, 3) := by decide +kernel
theorem J_HGrid_isSquareAlike_d10 : decode J_HGrid_isSquareAlike.2.1 10 = .ok (.iload_n 1, 1) := by decide +kernel
theorem J_HGrid_isSquareAlike_d11 : decode J_HGrid_isSquareAlike.2.1 11 = .ok (.iconst 1, 1) := by decide +kernel
theorem J_HGrid_isSquareAlike_d12 : decode J_HGrid_isSquareAlike.2.1 12 = .ok (.iadd, 1) := by decide +kernel
theorem J_HGrid_isSquareAlike_d13 : decode J_HGrid_isSquareAlike.2.1 13 = .ok (.baload, 1) := by decide +kernel
theorem J_HGrid_isSquareAlike_d14 : decode J_HGrid_isSquareAlike.2.1 14 = .ok (.iadd, 1) := by decide +kernel
theorem J_HGrid_isSquareAlike_d15 : decode J_HGrid_isSquareAlike.2.1 15 = .ok (.aload_n 0, 1) := by decide +kernel
theorem J_HGrid_isSquareAlike_d16 : decode J_HGrid_isSquareAlike.2.1 16 = .ok (.getfield 25, 3) := by decide +kernel
theorem J_HGrid_isSquareAlike_d19 : decode J_HGrid_isSquareAlike.2.1 19 = .ok (.iload_n 1, 1) := by decide +kernel
theorem J_HGrid_isSquareAlike_d20 : decode J_HGrid_isSquareAlike.2.1 20 = .ok (.sipush 177, 3) := by decide +kernel
theorem J_HGrid_isSquareAlike_d23 : decode J_HGrid_isSquareAlike.2.1 23 = .ok (.iadd, 1) := by decide +kernel
theorem J_HGrid_isSquareAlike_d24 : decode J_HGrid_isSquareAlike.2.1 24 = .ok (.baload, 1) := by decide +kernel
theorem J_HGrid_isSquareAlike_d25 : decode J_HGrid_isSquareAlike.2.1 25 = .ok (.iadd, 1) := by decide +kernel
theorem J_HGrid_isSquareAlike_d26 : decode J_HGrid_isSquareAlike.2.1 26 = .ok (.aload_n 0, 1) := by decide +kernel
theorem J_HGrid_isSquareAlike_d27 : decode J_HGrid_isSquareAlike.2.1 27 = .ok (.getfield 25, 3) := by decide +kernel
theorem J_HGrid_isSquareAlike_d30 : decode J_HGrid_isSquareAlike.2.1 30 = .ok (.iload_n 1, 1) := by decide +kernel
theorem J_HGrid_isSquareAlike_d31 : decode J_HGrid_isSquareAlike.2.1 31 = .ok (.sipush 177, 3) := by decide +kernel
theorem J_HGrid_isSquareAlike_d34 : decode J_HGrid_isSquareAlike.2.1 34 = .ok (.iadd, 1) := by decide +kernel
theorem J_HGrid_isSquareAlike_d35 : decode J_HGrid_isSquareAlike.2.1 35 = .ok (.iconst 1, 1) := by decide +kernel
theorem J_HGrid_isSquareAlike_d36 : decode J_HGrid_isSquareAlike.2.1 36 = .ok (.iadd, 1) := by decide +kernel
theorem J_HGrid_isSquareAlike_d37 : decode J_HGrid_isSquareAlike.2.1 37 = .ok (.baload, 1) := by decide +kernel
theorem J_HGrid_isSquareAlike_d38 : decode J_HGrid_isSquareAlike.2.1 38 = .ok (.iadd, 1) := by decide +kernel
theorem J_HGrid_isSquareAlike_d39 : decode J_HGrid_isSquareAlike.2.1 39 = .ok (.istore_n 2, 1) := by decide +kernel
theorem J_HGrid_isSquareAlike_d40 : decode J_HGrid_isSquareAlike.2.1 40 = .ok (.iload_n 2, 1) := by decide +kernel
theorem J_HGrid_isSquareAlike_d41 : decode J_HGrid_isSquareAlike.2.1 41 = .ok (.ifCond .eq 8, 3) := by decide +kernel
theorem J_HGrid_isSquareAlike_d44 : decode J_HGrid_isSquareAlike.2.1 44 = .ok (.iload_n 2, 1) := by decide +kernel
theorem J_HGrid_isSquareAlike_d45 : decode J_HGrid_isSquareAlike.2.1 45 = .ok (.iconst 4, 1) := by decide +kernel
theorem J_HGrid_isSquareAlike_d46 : decode J_HGrid_isSquareAlike.2.1 46 = .ok (.if_icmp .ne 7, 3) := by decide +kernel
theorem J_HGrid_isSquareAlike_d49 : decode J_HGrid_isSquareAlike.2.1 49 = .ok (.iconst 1, 1) := by decide +kernel
theorem J_HGrid_isSquareAlike_d50 : decode J_HGrid_isSquareAlike.2.1 50 = .ok (.goto 4, 3) := by decide +kernel
theorem J_HGrid_isSquareAlike_d53 : decode J_HGrid_isSquareAlike.2.1 53 = .ok (.iconst 0, 1) := by decide +kernel
theorem J_HGrid_isSquareAlike_d54 : decode J_HGrid_isSquareAlike.2.1 54 = .ok (.ireturn, 1) := by decide +kernel
theorem f_HGrid_isSquareAlike_ok {L : Nat} {xs : Nat → Int32} {dep : Nat} {w : Bool} {p0 : Int32} {M : im_M} {Q : Int32 → Prop} (hM : lw_S w M) (h : ed (f_HGrid_isSquareAlike p0 M) Q) : ia (tb_G L xs) dep J_HGrid_isSquareAlike (rpI M Q) (0, lv_args 0 [.ref 38, .int p0], [], M) := by
  have hS : im_St (tb_G L xs) dep J_HGrid_isSquareAlike (ia (tb_G L xs) dep J_HGrid_isSquareAlike (rpI M Q)) := ia_St
  unfold f_HGrid_isSquareAlike at h
  have l0 : im_lk (lv_args 0 [.ref 38, .int p0]) 0 = some (.ref 38) := rfl
  have l1 : im_lk (lv_args 0 [.ref 38, .int p0]) 1 = some (.int p0) := rfl
  refine iq_aload_n hS 1 J_HGrid_isSquareAlike_d0 l0 rfl ?_
  refine iq_getR hS 4 J_HGrid_isSquareAlike_d1 lf_4_25 (Or.inr ⟨_, rfl⟩) (ka_38 hM) (ra_38_7 hM) rfl ?_
  refine iq_iload_n hS 5 J_HGrid_isSquareAlike_d4 l1 rfl ?_
  obtain ⟨g5, h⟩ := ed_gd h
  refine iq_baload hS 6 J_HGrid_isSquareAlike_d5 ⟨(ka_54 hM).1, (ka_54 hM).2, g5.1, ix_lt (kl_54 hM) g5.2⟩ rfl ?_
  refine iq_aload_n hS 7 J_HGrid_isSquareAlike_d6 l0 rfl ?_
  refine iq_getR hS 10 J_HGrid_isSquareAlike_d7 lf_4_25 (Or.inr ⟨_, rfl⟩) (ka_38 hM) (ra_38_7 hM) rfl ?_
  refine iq_iload_n hS 11 J_HGrid_isSquareAlike_d10 l1 rfl ?_
  refine iq_iconst hS 12 J_HGrid_isSquareAlike_d11 (v := 1) (by decide +kernel) rfl ?_
  refine iq_iadd hS 13 J_HGrid_isSquareAlike_d12 rfl ?_
  obtain ⟨g13, h⟩ := ed_gd h
  refine iq_baload hS 14 J_HGrid_isSquareAlike_d13 ⟨(ka_54 hM).1, (ka_54 hM).2, g13.1, ix_lt (kl_54 hM) g13.2⟩ rfl ?_
  refine iq_iadd hS 15 J_HGrid_isSquareAlike_d14 rfl ?_
  refine iq_aload_n hS 16 J_HGrid_isSquareAlike_d15 l0 rfl ?_
  refine iq_getR hS 19 J_HGrid_isSquareAlike_d16 lf_4_25 (Or.inr ⟨_, rfl⟩) (ka_38 hM) (ra_38_7 hM) rfl ?_
  refine iq_iload_n hS 20 J_HGrid_isSquareAlike_d19 l1 rfl ?_
  refine iq_sipush hS 23 J_HGrid_isSquareAlike_d20 (v := 177) (by decide +kernel) rfl ?_
  refine iq_iadd hS 24 J_HGrid_isSquareAlike_d23 rfl ?_
  obtain ⟨g24, h⟩ := ed_gd h
  refine iq_baload hS 25 J_HGrid_isSquareAlike_d24 ⟨(ka_54 hM).1, (ka_54 hM).2, g24.1, ix_lt (kl_54 hM) g24.2⟩ rfl ?_
  refine iq_iadd hS 26 J_HGrid_isSquareAlike_d25 rfl ?_
  refine iq_aload_n hS 27 J_HGrid_isSquareAlike_d26 l0 rfl ?_
  refine iq_getR hS 30 J_HGrid_isSquareAlike_d27 lf_4_25 (Or.inr ⟨_, rfl⟩) (ka_38 hM) (ra_38_7 hM) rfl ?_
  refine iq_iload_n hS 31 J_HGrid_isSquareAlike_d30 l1 rfl ?_
  refine iq_sipush hS 34 J_HGrid_isSquareAlike_d31 (v := 177) (by decide +kernel) rfl ?_
  refine iq_iadd hS 35 J_HGrid_isSquareAlike_d34 rfl ?_
  refine iq_iconst hS 36 J_HGrid_isSquareAlike_d35 (v := 1) (by decide +kernel) rfl ?_
  refine iq_iadd hS 37 J_HGrid_isSquareAlike_d36 rfl ?_
  obtain ⟨g37, h⟩ := ed_gd h
  refine iq_baload hS 38 J_HGrid_isSquareAlike_d37 ⟨(ka_54 hM).1, (ka_54 hM).2, g37.1, ix_lt (kl_54 hM) g37.2⟩ rfl ?_
  refine iq_iadd hS 39 J_HGrid_isSquareAlike_d38 rfl ?_
  refine iq_istore_n hS 40 J_HGrid_isSquareAlike_d39 (by decide) rfl ?_
  refine iq_iload_n hS 41 J_HGrid_isSquareAlike_d40 lk_1s rfl ?_
  obtain ⟨k1, Q1, hQ1, hk1, h⟩ := jn0_ed h
  have J1 : ∀  (L' : List (Nat × Value)), Q1 () → ia (tb_G L xs) dep J_HGrid_isSquareAlike (rpI M Q) (49, L', [], M) := by
    intro  L'  h
    replace h := hQ1  h
    refine iq_iconst hS 50 J_HGrid_isSquareAlike_d49 (v := 1) (by decide +kernel) rfl ?_
    refine iq_goto hS J_HGrid_isSquareAlike_d50 (t := 54) rfl ?_
    exact iq_iret J_HGrid_isSquareAlike_d54 rfl rfl ⟨_, rfl, rfl, ed_some h⟩
  refine iq_if_eq hS 44 J_HGrid_isSquareAlike_d41 (t := 49) rfl (fun q41 => ?_) rfl (fun q41 => ?_)
  · replace h := ed_pos q41 h
    exact J1  _  (hk1  h)
  · replace h := ed_neg q41 h
    refine iq_iload_n hS 45 J_HGrid_isSquareAlike_d44 lk_1s rfl ?_
    refine iq_iconst hS 46 J_HGrid_isSquareAlike_d45 (v := 4) (by decide +kernel) rfl ?_
    refine iq_icmp_ne hS 49 J_HGrid_isSquareAlike_d46 (t := 53) rfl (fun q46 => ?_) rfl (fun q46 => ?_)
    · replace h := ed_pos q46 h
      refine iq_iconst hS 54 J_HGrid_isSquareAlike_d53 (v := 0) (by decide +kernel) rfl ?_
      exact iq_iret J_HGrid_isSquareAlike_d54 rfl rfl ⟨_, rfl, rfl, ed_some h⟩
    · replace h := ed_neg q46 h
      exact J1  _  (hk1  h)
noncomputable def f_HGrid_penalty_L39 (v9 : Int32) (M13 : im_M) (x10 : Int32) (x11 : Int32) (x12 : Int32) : Option ((Int32 × Int32 × Int32) ⊕ (Int32 × Int32)) := if (im_i M13 38 1) ≤ x12 then some (.inr (x10, x11)) else gd (inb ((v9 * 177) + x12) 31329) <| bd1 (if (im_i M13 38 1) ≤ (v9 + 1) then some x10 else if (im_i M13 38 1) ≤ (x12 + 1) then some x10 else bd1 (f_HGrid_isSquareAlike ((v9 * 177) + x12) M13) fun (x15 : Int32) => if x15 = 0 then some x10 else some (x10 + 3)) fun (y16 : Int32) => some (.inl (y16, (x11 + (im_i M13 54 (Int32.toNatClampNeg ((v9 * 177) + x12)))), (x12 + 1)))
noncomputable def f_HGrid_penalty_L6 (M5 : im_M) (x2 : Int32) (x3 : Int32) (x4 : Int32) : Option ((Int32 × Int32 × Int32) ⊕ (Int32 × Int32)) := if (im_i M5 38 1) ≤ x4 then some (.inr (x2, x3)) else bd1 (f_HGrid_linePenalty (x4 * 177) 1 M5) fun (x6 : Int32) => bd1 (f_HGrid_linePenalty x4 177 M5) fun (x7 : Int32) => bd2 (lp (uc3 (f_HGrid_penalty_L39 x4 M5)) ((x2 + (x6 + x7)), x3, 0)) fun (y22 : Int32) (y23 : Int32) => some (.inl (y22, y23, (x4 + 1)))
noncomputable def f_HGrid_penalty (M : im_M) : Option (Int32) := bd2 (lp (uc3 (f_HGrid_penalty_L6 M)) (0, 0, 0)) fun (y24 : Int32) (y25 : Int32) => bd1 (f_Math_abs (((20 : Int32) * y25) - ((10 : Int32) * ((im_i M 38 1) * (im_i M 38 1)))) M) fun (x26 : Int32) => gd (¬ ((im_i M 38 1) * (im_i M 38 1)) = (0 : Int32)) <| some (y24 + ((10 : Int32) * (x26 / ((im_i M 38 1) * (im_i M 38 1)))))
theorem J_HGrid_penalty_d0 : decode J_HGrid_penalty.2.1 0 = .ok (.iconst 0, 1) := by decide +kernel
theorem J_HGrid_penalty_d1 : decode J_HGrid_penalty.2.1 1 = .ok (.istore_n 1, 1) := by decide +kernel
theorem J_HGrid_penalty_d2 : decode J_HGrid_penalty.2.1 2 = .ok (.iconst 0, 1) := by decide +kernel
theorem J_HGrid_penalty_d3 : decode J_HGrid_penalty.2.1 3 = .ok (.istore_n 2, 1) := by decide +kernel
theorem J_HGrid_penalty_d4 : decode J_HGrid_penalty.2.1 4 = .ok (.iconst 0, 1) := by decide +kernel
theorem J_HGrid_penalty_d5 : decode J_HGrid_penalty.2.1 5 = .ok (.istore_n 3, 1) := by decide +kernel
theorem J_HGrid_penalty_d6 : decode J_HGrid_penalty.2.1 6 = .ok (.iload_n 3, 1) := by decide +kernel
theorem J_HGrid_penalty_d7 : decode J_HGrid_penalty.2.1 7 = .ok (.aload_n 0, 1) := by decide +kernel
theorem J_HGrid_penalty_d8 : decode J_HGrid_penalty.2.1 8 = .ok (.getfield 74, 3) := by decide +kernel
theorem J_HGrid_penalty_d11 : decode J_HGrid_penalty.2.1 11 = .ok (.if_icmp .ge 104, 3) := by decide +kernel
theorem J_HGrid_penalty_d14 : decode J_HGrid_penalty.2.1 14 = .ok (.iload_n 1, 1) := by decide +kernel
theorem J_HGrid_penalty_d15 : decode J_HGrid_penalty.2.1 15 = .ok (.aload_n 0, 1) := by decide +kernel
theorem J_HGrid_penalty_d16 : decode J_HGrid_penalty.2.1 16 = .ok (.iload_n 3, 1) := by decide +kernel
theorem J_HGrid_penalty_d17 : decode J_HGrid_penalty.2.1 17 = .ok (.sipush 177, 3) := by decide +kernel
theorem J_HGrid_penalty_d20 : decode J_HGrid_penalty.2.1 20 = .ok (.imul, 1) := by decide +kernel
theorem J_HGrid_penalty_d21 : decode J_HGrid_penalty.2.1 21 = .ok (.iconst 1, 1) := by decide +kernel
theorem J_HGrid_penalty_d22 : decode J_HGrid_penalty.2.1 22 = .ok (.invokevirtual 145, 3) := by decide +kernel
theorem J_HGrid_penalty_d25 : decode J_HGrid_penalty.2.1 25 = .ok (.aload_n 0, 1) := by decide +kernel
theorem J_HGrid_penalty_d26 : decode J_HGrid_penalty.2.1 26 = .ok (.iload_n 3, 1) := by decide +kernel
theorem J_HGrid_penalty_d27 : decode J_HGrid_penalty.2.1 27 = .ok (.sipush 177, 3) := by decide +kernel
theorem J_HGrid_penalty_d30 : decode J_HGrid_penalty.2.1 30 = .ok (.invokevirtual 145, 3) := by decide +kernel
theorem J_HGrid_penalty_d33 : decode J_HGrid_penalty.2.1 33 = .ok (.iadd, 1) := by decide +kernel
theorem J_HGrid_penalty_d34 : decode J_HGrid_penalty.2.1 34 = .ok (.iadd, 1) := by decide +kernel
theorem J_HGrid_penalty_d35 : decode J_HGrid_penalty.2.1 35 = .ok (.istore_n 1, 1) := by decide +kernel
theorem J_HGrid_penalty_d36 : decode J_HGrid_penalty.2.1 36 = .ok (.iconst 0, 1) := by decide +kernel
theorem J_HGrid_penalty_d37 : decode J_HGrid_penalty.2.1 37 = .ok (.istore 4, 2) := by decide +kernel
theorem J_HGrid_penalty_d39 : decode J_HGrid_penalty.2.1 39 = .ok (.iload 4, 2) := by decide +kernel
theorem J_HGrid_penalty_d41 : decode J_HGrid_penalty.2.1 41 = .ok (.aload_n 0, 1) := by decide +kernel
theorem J_HGrid_penalty_d42 : decode J_HGrid_penalty.2.1 42 = .ok (.getfield 74, 3) := by decide +kernel
theorem J_HGrid_penalty_d45 : decode J_HGrid_penalty.2.1 45 = .ok (.if_icmp .ge 64, 3) := by decide +kernel
theorem J_HGrid_penalty_d48 : decode J_HGrid_penalty.2.1 48 = .ok (.iload_n 2, 1) := by decide +kernel
theorem J_HGrid_penalty_d49 : decode J_HGrid_penalty.2.1 49 = .ok (.aload_n 0, 1) := by decide +kernel
theorem J_HGrid_penalty_d50 : decode J_HGrid_penalty.2.1 50 = .ok (.getfield 25, 3) := by decide +kernel
theorem J_HGrid_penalty_d53 : decode J_HGrid_penalty.2.1 53 = .ok (.iload_n 3, 1) := by decide +kernel
theorem J_HGrid_penalty_d54 : decode J_HGrid_penalty.2.1 54 = .ok (.sipush 177, 3) := by decide +kernel
theorem J_HGrid_penalty_d57 : decode J_HGrid_penalty.2.1 57 = .ok (.imul, 1) := by decide +kernel
theorem J_HGrid_penalty_d58 : decode J_HGrid_penalty.2.1 58 = .ok (.iload 4, 2) := by decide +kernel
theorem J_HGrid_penalty_d60 : decode J_HGrid_penalty.2.1 60 = .ok (.iadd, 1) := by decide +kernel
theorem J_HGrid_penalty_d61 : decode J_HGrid_penalty.2.1 61 = .ok (.baload, 1) := by decide +kernel
theorem J_HGrid_penalty_d62 : decode J_HGrid_penalty.2.1 62 = .ok (.iadd, 1) := by decide +kernel
theorem J_HGrid_penalty_d63 : decode J_HGrid_penalty.2.1 63 = .ok (.istore_n 2, 1) := by decide +kernel
theorem J_HGrid_penalty_d64 : decode J_HGrid_penalty.2.1 64 = .ok (.iload_n 3, 1) := by decide +kernel
theorem J_HGrid_penalty_d65 : decode J_HGrid_penalty.2.1 65 = .ok (.iconst 1, 1) := by decide +kernel
theorem J_HGrid_penalty_d66 : decode J_HGrid_penalty.2.1 66 = .ok (.iadd, 1) := by decide +kernel
theorem J_HGrid_penalty_d67 : decode J_HGrid_penalty.2.1 67 = .ok (.aload_n 0, 1) := by decide +kernel
theorem J_HGrid_penalty_d68 : decode J_HGrid_penalty.2.1 68 = .ok (.getfield 74, 3) := by decide +kernel
theorem J_HGrid_penalty_d71 : decode J_HGrid_penalty.2.1 71 = .ok (.if_icmp .ge 32, 3) := by decide +kernel
theorem J_HGrid_penalty_d74 : decode J_HGrid_penalty.2.1 74 = .ok (.iload 4, 2) := by decide +kernel
theorem J_HGrid_penalty_d76 : decode J_HGrid_penalty.2.1 76 = .ok (.iconst 1, 1) := by decide +kernel
theorem J_HGrid_penalty_d77 : decode J_HGrid_penalty.2.1 77 = .ok (.iadd, 1) := by decide +kernel
theorem J_HGrid_penalty_d78 : decode J_HGrid_penalty.2.1 78 = .ok (.aload_n 0, 1) := by decide +kernel
theorem J_HGrid_penalty_d79 : decode J_HGrid_penalty.2.1 79 = .ok (.getfield 74, 3) := by decide +kernel
theorem J_HGrid_penalty_d82 : decode J_HGrid_penalty.2.1 82 = .ok (.if_icmp .ge 21, 3) := by decide +kernel
theorem J_HGrid_penalty_d85 : decode J_HGrid_penalty.2.1 85 = .ok (.aload_n 0, 1) := by decide +kernel
theorem J_HGrid_penalty_d86 : decode J_HGrid_penalty.2.1 86 = .ok (.iload_n 3, 1) := by decide +kernel
theorem J_HGrid_penalty_d87 : decode J_HGrid_penalty.2.1 87 = .ok (.sipush 177, 3) := by decide +kernel
theorem J_HGrid_penalty_d90 : decode J_HGrid_penalty.2.1 90 = .ok (.imul, 1) := by decide +kernel
theorem J_HGrid_penalty_d91 : decode J_HGrid_penalty.2.1 91 = .ok (.iload 4, 2) := by decide +kernel
theorem J_HGrid_penalty_d93 : decode J_HGrid_penalty.2.1 93 = .ok (.iadd, 1) := by decide +kernel
theorem J_HGrid_penalty_d94 : decode J_HGrid_penalty.2.1 94 = .ok (.invokevirtual 148, 3) := by decide +kernel
theorem J_HGrid_penalty_d97 : decode J_HGrid_penalty.2.1 97 = .ok (.ifCond .eq 6, 3) := by decide +kernel
theorem J_HGrid_penalty_d100 : decode J_HGrid_penalty.2.1 100 = .ok (.iinc 1 3, 3) := by decide +kernel
theorem J_HGrid_penalty_d103 : decode J_HGrid_penalty.2.1 103 = .ok (.iinc 4 1, 3) := by decide +kernel
theorem J_HGrid_penalty_d106 : decode J_HGrid_penalty.2.1 106 = .ok (.goto (-67), 3) := by decide +kernel
theorem J_HGrid_penalty_d109 : decode J_HGrid_penalty.2.1 109 = .ok (.iinc 3 1, 3) := by decide +kernel
theorem J_HGrid_penalty_d112 : decode J_HGrid_penalty.2.1 112 = .ok (.goto (-106), 3) := by decide +kernel
theorem J_HGrid_penalty_d115 : decode J_HGrid_penalty.2.1 115 = .ok (.aload_n 0, 1) := by decide +kernel
theorem J_HGrid_penalty_d116 : decode J_HGrid_penalty.2.1 116 = .ok (.getfield 74, 3) := by decide +kernel
theorem J_HGrid_penalty_d119 : decode J_HGrid_penalty.2.1 119 = .ok (.aload_n 0, 1) := by decide +kernel
theorem J_HGrid_penalty_d120 : decode J_HGrid_penalty.2.1 120 = .ok (.getfield 74, 3) := by decide +kernel
theorem J_HGrid_penalty_d123 : decode J_HGrid_penalty.2.1 123 = .ok (.imul, 1) := by decide +kernel
theorem J_HGrid_penalty_d124 : decode J_HGrid_penalty.2.1 124 = .ok (.istore_n 3, 1) := by decide +kernel
theorem J_HGrid_penalty_d125 : decode J_HGrid_penalty.2.1 125 = .ok (.iload_n 1, 1) := by decide +kernel
theorem J_HGrid_penalty_d126 : decode J_HGrid_penalty.2.1 126 = .ok (.bipush 10, 2) := by decide +kernel
theorem J_HGrid_penalty_d128 : decode J_HGrid_penalty.2.1 128 = .ok (.bipush 20, 2) := by decide +kernel
theorem J_HGrid_penalty_d130 : decode J_HGrid_penalty.2.1 130 = .ok (.iload_n 2, 1) := by decide +kernel
theorem J_HGrid_penalty_d131 : decode J_HGrid_penalty.2.1 131 = .ok (.imul, 1) := by decide +kernel
theorem J_HGrid_penalty_d132 : decode J_HGrid_penalty.2.1 132 = .ok (.bipush 10, 2) := by decide +kernel
theorem J_HGrid_penalty_d134 : decode J_HGrid_penalty.2.1 134 = .ok (.iload_n 3, 1) := by decide +kernel
theorem J_HGrid_penalty_d135 : decode J_HGrid_penalty.2.1 135 = .ok (.imul, 1) := by decide +kernel
theorem J_HGrid_penalty_d136 : decode J_HGrid_penalty.2.1 136 = .ok (.isub, 1) := by decide +kernel
theorem J_HGrid_penalty_d137 : decode J_HGrid_penalty.2.1 137 = .ok (.invokestatic 97, 3) := by decide +kernel
theorem J_HGrid_penalty_d140 : decode J_HGrid_penalty.2.1 140 = .ok (.iload_n 3, 1) := by decide +kernel
theorem J_HGrid_penalty_d141 : decode J_HGrid_penalty.2.1 141 = .ok (.idiv, 1) := by decide +kernel
theorem J_HGrid_penalty_d142 : decode J_HGrid_penalty.2.1 142 = .ok (.imul, 1) := by decide +kernel
theorem J_HGrid_penalty_d143 : decode J_HGrid_penalty.2.1 143 = .ok (.iadd, 1) := by decide +kernel
theorem J_HGrid_penalty_d144 : decode J_HGrid_penalty.2.1 144 = .ok (.ireturn, 1) := by decide +kernel
theorem f_HGrid_penalty_ok {L : Nat} {xs : Nat → Int32} {dep : Nat} {w : Bool} {M : im_M} {Q : Int32 → Prop} (hM : lw_S w M) (h : ed (f_HGrid_penalty M) Q) : ia (tb_G L xs) (dep + 1) J_HGrid_penalty (rpI M Q) (0, lv_args 0 [.ref 38], [], M) := by
  have hS : im_St (tb_G L xs) (dep + 1) J_HGrid_penalty (ia (tb_G L xs) (dep + 1) J_HGrid_penalty (rpI M Q)) := ia_St
  unfold f_HGrid_penalty at h
  have l0 : im_lk (lv_args 0 [.ref 38]) 0 = some (.ref 38) := rfl
  refine iq_iconst hS 1 J_HGrid_penalty_d0 (v := 0) (by decide +kernel) rfl ?_
  refine iq_istore_n hS 2 J_HGrid_penalty_d1 (by decide) rfl ?_
  refine iq_iconst hS 3 J_HGrid_penalty_d2 (v := 0) (by decide +kernel) rfl ?_
  refine iq_istore_n hS 4 J_HGrid_penalty_d3 (by decide) rfl ?_
  refine iq_iconst hS 5 J_HGrid_penalty_d4 (v := 0) (by decide +kernel) rfl ?_
  refine iq_istore_n hS 6 J_HGrid_penalty_d5 (by decide) rfl ?_
  obtain ⟨Q1, hQ1, h⟩ := bd2_ed h
  have K1 : ∀ (y2 : Int32) (y3 : Int32) (L' : List (Nat × Value)), im_lk L' 0 = some (.ref 38) → im_lk L' 1 = some (.int y2) → im_lk L' 2 = some (.int y3) → Q1 (y2, y3) → ia (tb_G L xs) (dep + 1) J_HGrid_penalty (rpI M Q) (115, L', [], M) := by
    intro y2 y3 L' l4 l5 l6 h
    replace h := hQ1 _ _ h
    refine iq_aload_n hS 116 J_HGrid_penalty_d115 l4 rfl ?_
    refine iq_getI hS 119 J_HGrid_penalty_d116 lf_4_74 (Or.inl rfl) (ka_38 hM) rfl ?_
    refine iq_aload_n hS 120 J_HGrid_penalty_d119 l4 rfl ?_
    refine iq_getI hS 123 J_HGrid_penalty_d120 lf_4_74 (Or.inl rfl) (ka_38 hM) rfl ?_
    refine iq_imul hS 124 J_HGrid_penalty_d123 rfl ?_
    refine iq_istore_n hS 125 J_HGrid_penalty_d124 (by decide) rfl ?_
    refine iq_iload_n hS 126 J_HGrid_penalty_d125 (lk_1i l5 (by decide)) rfl ?_
    refine iq_bipush hS 128 J_HGrid_penalty_d126 (v := 10) (by decide +kernel) rfl ?_
    refine iq_bipush hS 130 J_HGrid_penalty_d128 (v := 20) (by decide +kernel) rfl ?_
    refine iq_iload_n hS 131 J_HGrid_penalty_d130 (lk_1i l6 (by decide)) rfl ?_
    refine iq_imul hS 132 J_HGrid_penalty_d131 rfl ?_
    refine iq_bipush hS 134 J_HGrid_penalty_d132 (v := 10) (by decide +kernel) rfl ?_
    refine iq_iload_n hS 135 J_HGrid_penalty_d134 lk_1s rfl ?_
    refine iq_imul hS 136 J_HGrid_penalty_d135 rfl ?_
    refine iq_isub hS 137 J_HGrid_penalty_d136 rfl ?_
    obtain ⟨Q7, hQ7, h⟩ := bd1_ed h
    refine iq_cpI hS 140 J_HGrid_penalty_d137 rfl (pr_stat (vs := [_]) lc_4_97 lT_158 rfl rfl (by decide) rfl (Nat.le_of_ble_eq_true rfl) (Nat.le_of_ble_eq_true rfl)) (f_Math_abs_ok (dep := dep + 0) hM h) rfl ?_
    intro x7 h
    replace h := hQ7 _ h
    refine iq_iload_n hS 141 J_HGrid_penalty_d140 lk_1s rfl ?_
    obtain ⟨g141, h⟩ := ed_gd h
    refine iq_idiv hS 142 J_HGrid_penalty_d141 g141 rfl ?_
    refine iq_imul hS 143 J_HGrid_penalty_d142 rfl ?_
    refine iq_iadd hS 144 J_HGrid_penalty_d143 rfl ?_
    exact iq_iret J_HGrid_penalty_d144 rfl rfl ⟨_, rfl, rfl, ed_some h⟩
  obtain ⟨r1, hr1, hq1⟩ := h
  obtain ⟨n1, hn1⟩ := lp_n hr1
  have I1 : ∀ (n : Nat) (x8 : Int32) (x9 : Int32) (x10 : Int32) (L' : List (Nat × Value)), im_lk L' 0 = some (.ref 38) → im_lk L' 1 = some (.int x8) → im_lk L' 2 = some (.int x9) → im_lk L' 3 = some (.int x10) → lpn (uc3 (f_HGrid_penalty_L6 M)) n (x8, x9, x10) = some r1 → ia (tb_G L xs) (dep + 1) J_HGrid_penalty (rpI M Q) (6, L', [], M) := by
    intro n
    induction n with
    | zero => intro x8 x9 x10 L' l11 l12 l13 l14 hn; exact (lpn_0 hn).elim
    | succ n ih =>
      intro x8 x9 x10 L' l11 l12 l13 l14 hn
      have h := lpn_ed3 hn
      unfold f_HGrid_penalty_L6 at h
      refine iq_iload_n hS 7 J_HGrid_penalty_d6 l14 rfl ?_
      refine iq_aload_n hS 8 J_HGrid_penalty_d7 l11 rfl ?_
      refine iq_getI hS 11 J_HGrid_penalty_d8 lf_4_74 (Or.inl rfl) (ka_38 hM) rfl ?_
      refine iq_icmp_ge hS 14 J_HGrid_penalty_d11 (t := 115) rfl (fun q11 => ?_) rfl (fun q11 => ?_)
      · replace h := ed_pos q11 h
        exact K1 _ _ _ l11 l12 l13 (lq_r h hq1)
      · replace h := ed_neg q11 h
        refine iq_iload_n hS 15 J_HGrid_penalty_d14 l12 rfl ?_
        refine iq_aload_n hS 16 J_HGrid_penalty_d15 l11 rfl ?_
        refine iq_iload_n hS 17 J_HGrid_penalty_d16 l14 rfl ?_
        refine iq_sipush hS 20 J_HGrid_penalty_d17 (v := 177) (by decide +kernel) rfl ?_
        refine iq_imul hS 21 J_HGrid_penalty_d20 rfl ?_
        refine iq_iconst hS 22 J_HGrid_penalty_d21 (v := 1) (by decide +kernel) rfl ?_
        obtain ⟨Q15, hQ15, h⟩ := bd1_ed h
        refine iq_cpI hS 25 J_HGrid_penalty_d22 rfl (pr_inst (vs := [_, _]) lc_4_145 lT_177 rfl rfl (by decide) (by decide) rfl (Nat.le_of_ble_eq_true rfl) (Nat.le_of_ble_eq_true rfl) (fun _ => Or.inl (pr_b (ka_38 hM) (by decide) rfl))) (f_HGrid_linePenalty_ok (dep := dep + 0) hM h) rfl ?_
        intro x15 h
        replace h := hQ15 _ h
        refine iq_aload_n hS 26 J_HGrid_penalty_d25 l11 rfl ?_
        refine iq_iload_n hS 27 J_HGrid_penalty_d26 l14 rfl ?_
        refine iq_sipush hS 30 J_HGrid_penalty_d27 (v := 177) (by decide +kernel) rfl ?_
        obtain ⟨Q16, hQ16, h⟩ := bd1_ed h
        refine iq_cpI hS 33 J_HGrid_penalty_d30 rfl (pr_inst (vs := [_, _]) lc_4_145 lT_177 rfl rfl (by decide) (by decide) rfl (Nat.le_of_ble_eq_true rfl) (Nat.le_of_ble_eq_true rfl) (fun _ => Or.inl (pr_b (ka_38 hM) (by decide) rfl))) (f_HGrid_linePenalty_ok (dep := dep + 0) hM h) rfl ?_
        intro x16 h
        replace h := hQ16 _ h
        refine iq_iadd hS 34 J_HGrid_penalty_d33 rfl ?_
        refine iq_iadd hS 35 J_HGrid_penalty_d34 rfl ?_
        refine iq_istore_n hS 36 J_HGrid_penalty_d35 (by decide) rfl ?_
        refine iq_iconst hS 37 J_HGrid_penalty_d36 (v := 0) (by decide +kernel) rfl ?_
        refine iq_istore hS 39 J_HGrid_penalty_d37 (by decide) rfl ?_
        obtain ⟨Q17, hQ17, h⟩ := bd2_ed h
        have K17 : ∀ (y18 : Int32) (y19 : Int32) (L' : List (Nat × Value)), im_lk L' 0 = some (.ref 38) → im_lk L' 1 = some (.int y18) → im_lk L' 2 = some (.int y19) → im_lk L' 3 = some (.int x10) → Q17 (y18, y19) → ia (tb_G L xs) (dep + 1) J_HGrid_penalty (rpI M Q) (109, L', [], M) := by
          intro y18 y19 L' l20 l21 l22 l23 h
          replace h := hQ17 _ _ h
          refine iq_iincv hS 112 J_HGrid_penalty_d109 (c := 1) (by decide +kernel) l23 (by decide) rfl ?_
          refine iq_goto hS J_HGrid_penalty_d112 (t := 6) rfl ?_
          exact ih _ _ _ _ (lk_1r l20 (by decide)) (lk_1i l21 (by decide)) (lk_1i l22 (by decide)) lk_1s (lq_l h)
        obtain ⟨r17, hr17, hq17⟩ := h
        obtain ⟨n17, hn17⟩ := lp_n hr17
        have I17 : ∀ (n : Nat) (x24 : Int32) (x25 : Int32) (x26 : Int32) (L' : List (Nat × Value)), im_lk L' 0 = some (.ref 38) → im_lk L' 1 = some (.int x24) → im_lk L' 2 = some (.int x25) → im_lk L' 3 = some (.int x10) → im_lk L' 4 = some (.int x26) → lpn (uc3 (f_HGrid_penalty_L39 x10 M)) n (x24, x25, x26) = some r17 → ia (tb_G L xs) (dep + 1) J_HGrid_penalty (rpI M Q) (39, L', [], M) := by
          intro n
          induction n with
          | zero => intro x24 x25 x26 L' l27 l28 l29 l30 l31 hn; exact (lpn_0 hn).elim
          | succ n ih =>
            intro x24 x25 x26 L' l27 l28 l29 l30 l31 hn
            have h := lpn_ed3 hn
            unfold f_HGrid_penalty_L39 at h
            refine iq_iload hS 41 J_HGrid_penalty_d39 l31 rfl ?_
            refine iq_aload_n hS 42 J_HGrid_penalty_d41 l27 rfl ?_
            refine iq_getI hS 45 J_HGrid_penalty_d42 lf_4_74 (Or.inl rfl) (ka_38 hM) rfl ?_
            refine iq_icmp_ge hS 48 J_HGrid_penalty_d45 (t := 109) rfl (fun q45 => ?_) rfl (fun q45 => ?_)
            · replace h := ed_pos q45 h
              exact K17 _ _ _ l27 l28 l29 l30 (lq_r h hq17)
            · replace h := ed_neg q45 h
              refine iq_iload_n hS 49 J_HGrid_penalty_d48 l29 rfl ?_
              refine iq_aload_n hS 50 J_HGrid_penalty_d49 l27 rfl ?_
              refine iq_getR hS 53 J_HGrid_penalty_d50 lf_4_25 (Or.inr ⟨_, rfl⟩) (ka_38 hM) (ra_38_7 hM) rfl ?_
              refine iq_iload_n hS 54 J_HGrid_penalty_d53 l30 rfl ?_
              refine iq_sipush hS 57 J_HGrid_penalty_d54 (v := 177) (by decide +kernel) rfl ?_
              refine iq_imul hS 58 J_HGrid_penalty_d57 rfl ?_
              refine iq_iload hS 60 J_HGrid_penalty_d58 l31 rfl ?_
              refine iq_iadd hS 61 J_HGrid_penalty_d60 rfl ?_
              obtain ⟨g61, h⟩ := ed_gd h
              refine iq_baload hS 62 J_HGrid_penalty_d61 ⟨(ka_54 hM).1, (ka_54 hM).2, g61.1, ix_lt (kl_54 hM) g61.2⟩ rfl ?_
              refine iq_iadd hS 63 J_HGrid_penalty_d62 rfl ?_
              refine iq_istore_n hS 64 J_HGrid_penalty_d63 (by decide) rfl ?_
              refine iq_iload_n hS 65 J_HGrid_penalty_d64 (lk_1i l30 (by decide)) rfl ?_
              refine iq_iconst hS 66 J_HGrid_penalty_d65 (v := 1) (by decide +kernel) rfl ?_
              refine iq_iadd hS 67 J_HGrid_penalty_d66 rfl ?_
              refine iq_aload_n hS 68 J_HGrid_penalty_d67 (lk_1r l27 (by decide)) rfl ?_
              refine iq_getI hS 71 J_HGrid_penalty_d68 lf_4_74 (Or.inl rfl) (ka_38 hM) rfl ?_
              obtain ⟨Q32, hQ32, h⟩ := bd1_ed h
              have J32 : ∀ (y34 : Int32) (L' : List (Nat × Value)), im_lk L' 0 = some (.ref 38) → im_lk L' 1 = some (.int y34) → im_lk L' 2 = some (.int (x25 + (im_i M 54 (Int32.toNatClampNeg ((x10 * 177) + x26))))) → im_lk L' 3 = some (.int x10) → im_lk L' 4 = some (.int x26) → Q32 y34 → ia (tb_G L xs) (dep + 1) J_HGrid_penalty (rpI M Q) (103, L', [], M) := by
                intro y34 L' l35 l36 l37 l38 l39 h
                replace h := hQ32 _ h
                refine iq_iincv hS 106 J_HGrid_penalty_d103 (c := 1) (by decide +kernel) l39 (by decide) rfl ?_
                refine iq_goto hS J_HGrid_penalty_d106 (t := 39) rfl ?_
                exact ih _ _ _ _ (lk_1r l35 (by decide)) (lk_1i l36 (by decide)) (lk_1i l37 (by decide)) (lk_1i l38 (by decide)) lk_1s (lq_l h)
              refine iq_icmp_ge hS 74 J_HGrid_penalty_d71 (t := 103) rfl (fun q71 => ?_) rfl (fun q71 => ?_)
              · replace h := ed_pos q71 h
                exact J32 _ _ (lk_1r l27 (by decide)) (lk_1i l28 (by decide)) lk_1s (lk_1i l30 (by decide)) (lk_1i l31 (by decide)) (ed_some h)
              · replace h := ed_neg q71 h
                refine iq_iload hS 76 J_HGrid_penalty_d74 (lk_1i l31 (by decide)) rfl ?_
                refine iq_iconst hS 77 J_HGrid_penalty_d76 (v := 1) (by decide +kernel) rfl ?_
                refine iq_iadd hS 78 J_HGrid_penalty_d77 rfl ?_
                refine iq_aload_n hS 79 J_HGrid_penalty_d78 (lk_1r l27 (by decide)) rfl ?_
                refine iq_getI hS 82 J_HGrid_penalty_d79 lf_4_74 (Or.inl rfl) (ka_38 hM) rfl ?_
                refine iq_icmp_ge hS 85 J_HGrid_penalty_d82 (t := 103) rfl (fun q82 => ?_) rfl (fun q82 => ?_)
                · replace h := ed_pos q82 h
                  exact J32 _ _ (lk_1r l27 (by decide)) (lk_1i l28 (by decide)) lk_1s (lk_1i l30 (by decide)) (lk_1i l31 (by decide)) (ed_some h)
                · replace h := ed_neg q82 h
                  refine iq_aload_n hS 86 J_HGrid_penalty_d85 (lk_1r l27 (by decide)) rfl ?_
                  refine iq_iload_n hS 87 J_HGrid_penalty_d86 (lk_1i l30 (by decide)) rfl ?_
                  refine iq_sipush hS 90 J_HGrid_penalty_d87 (v := 177) (by decide +kernel) rfl ?_
                  refine iq_imul hS 91 J_HGrid_penalty_d90 rfl ?_
                  refine iq_iload hS 93 J_HGrid_penalty_d91 (lk_1i l31 (by decide)) rfl ?_
                  refine iq_iadd hS 94 J_HGrid_penalty_d93 rfl ?_
                  obtain ⟨Q33, hQ33, h⟩ := bd1_ed h
                  refine iq_cpI hS 97 J_HGrid_penalty_d94 rfl (pr_inst (vs := [_]) lc_4_148 lT_178 rfl rfl (by decide) (by decide) rfl (Nat.le_of_ble_eq_true rfl) (Nat.le_of_ble_eq_true rfl) (fun _ => Or.inl (pr_b (ka_38 hM) (by decide) rfl))) (f_HGrid_isSquareAlike_ok (dep := dep + 0) hM h) rfl ?_
                  intro x33 h
                  replace h := hQ33 _ h
                  refine iq_if_eq hS 100 J_HGrid_penalty_d97 (t := 103) rfl (fun q97 => ?_) rfl (fun q97 => ?_)
                  · replace h := ed_pos q97 h
                    exact J32 _ _ (lk_1r l27 (by decide)) (lk_1i l28 (by decide)) lk_1s (lk_1i l30 (by decide)) (lk_1i l31 (by decide)) (ed_some h)
                  · replace h := ed_neg q97 h
                    refine iq_iincv hS 103 J_HGrid_penalty_d100 (c := 3) (by decide +kernel) (lk_1i l28 (by decide)) (by decide) rfl ?_
                    exact J32 _ _ (lk_1r (lk_1r l27 (by decide)) (by decide)) lk_1s (lk_1i lk_1s (by decide)) (lk_1i (lk_1i l30 (by decide)) (by decide)) (lk_1i (lk_1i l31 (by decide)) (by decide)) (ed_some h)
        exact I17 n17 _ _ _ _ (lk_1r (lk_1r l11 (by decide)) (by decide)) (lk_1i lk_1s (by decide)) (lk_1i (lk_1i l13 (by decide)) (by decide)) (lk_1i (lk_1i l14 (by decide)) (by decide)) lk_1s hn17
  exact I1 n1 _ _ _ _ (lk_1r (lk_1r (lk_1r l0 (by decide)) (by decide)) (by decide)) (lk_1i (lk_1i lk_1s (by decide)) (by decide)) (lk_1i lk_1s (by decide)) lk_1s hn1
noncomputable def f_HGrid_bestMask_L8 (v2 : Int32) (x3 : Int32) (x4 : Int32) (x5 : Int32) (M6 : im_M) : Option ((Int32 × Int32 × Int32 × im_M) ⊕ (Int32 × im_M)) := if 8 ≤ x5 then some (.inr (x3, M6)) else bd1 (f_HGrid_turnMask x5 M6) fun (M7 : im_M) => bd1 (f_HGrid_fixForm v2 x5 M7) fun (M8 : im_M) => bd1 (f_HGrid_penalty M8) fun (x9 : Int32) => bd1 (f_HGrid_turnMask x5 M8) fun (M11 : im_M) => some (.inl (((if x4 ≤ x9 then x3 else x5) : Int32), ((if x4 ≤ x9 then x4 else x9) : Int32), (x5 + 1), M11))
noncomputable def f_HGrid_bestMask (p0 : Int32) (M : im_M) : Option (Int32 × im_M) := bd2 (lp (uc4 (f_HGrid_bestMask_L8 p0)) (0, 1073741824, 0, M)) fun (y12 : Int32) (M13 : im_M) => some (y12, M13)
theorem J_HGrid_bestMask_d0 : decode J_HGrid_bestMask.2.1 0 = .ok (.iconst 0, 1) := by decide +kernel
theorem J_HGrid_bestMask_d1 : decode J_HGrid_bestMask.2.1 1 = .ok (.istore_n 2, 1) := by decide +kernel
theorem J_HGrid_bestMask_d2 : decode J_HGrid_bestMask.2.1 2 = .ok (.ldc 66, 2) := by decide +kernel
theorem J_HGrid_bestMask_d4 : decode J_HGrid_bestMask.2.1 4 = .ok (.istore_n 3, 1) := by decide +kernel
theorem J_HGrid_bestMask_d5 : decode J_HGrid_bestMask.2.1 5 = .ok (.iconst 0, 1) := by decide +kernel
theorem J_HGrid_bestMask_d6 : decode J_HGrid_bestMask.2.1 6 = .ok (.istore 4, 2) := by decide +kernel
theorem J_HGrid_bestMask_d8 : decode J_HGrid_bestMask.2.1 8 = .ok (.iload 4, 2) := by decide +kernel
theorem J_HGrid_bestMask_d10 : decode J_HGrid_bestMask.2.1 10 = .ok (.bipush 8, 2) := by decide +kernel
theorem J_HGrid_bestMask_d12 : decode J_HGrid_bestMask.2.1 12 = .ok (.if_icmp .ge 46, 3) := by decide +kernel
theorem J_HGrid_bestMask_d15 : decode J_HGrid_bestMask.2.1 15 = .ok (.aload_n 0, 1) := by decide +kernel
theorem J_HGrid_bestMask_d16 : decode J_HGrid_bestMask.2.1 16 = .ok (.iload 4, 2) := by decide +kernel
theorem J_HGrid_bestMask_d18 : decode J_HGrid_bestMask.2.1 18 = .ok (.invokevirtual 59, 3) := by decide +kernel
theorem J_HGrid_bestMask_d21 : decode J_HGrid_bestMask.2.1 21 = .ok (.aload_n 0, 1) := by decide +kernel
theorem J_HGrid_bestMask_d22 : decode J_HGrid_bestMask.2.1 22 = .ok (.iload_n 1, 1) := by decide +kernel
theorem J_HGrid_bestMask_d23 : decode J_HGrid_bestMask.2.1 23 = .ok (.iload 4, 2) := by decide +kernel
theorem J_HGrid_bestMask_d25 : decode J_HGrid_bestMask.2.1 25 = .ok (.invokevirtual 62, 3) := by decide +kernel
theorem J_HGrid_bestMask_d28 : decode J_HGrid_bestMask.2.1 28 = .ok (.aload_n 0, 1) := by decide +kernel
theorem J_HGrid_bestMask_d29 : decode J_HGrid_bestMask.2.1 29 = .ok (.invokevirtual 67, 3) := by decide +kernel
theorem J_HGrid_bestMask_d32 : decode J_HGrid_bestMask.2.1 32 = .ok (.istore 5, 2) := by decide +kernel
theorem J_HGrid_bestMask_d34 : decode J_HGrid_bestMask.2.1 34 = .ok (.iload 5, 2) := by decide +kernel
theorem J_HGrid_bestMask_d36 : decode J_HGrid_bestMask.2.1 36 = .ok (.iload_n 3, 1) := by decide +kernel
theorem J_HGrid_bestMask_d37 : decode J_HGrid_bestMask.2.1 37 = .ok (.if_icmp .ge 9, 3) := by decide +kernel
theorem J_HGrid_bestMask_d40 : decode J_HGrid_bestMask.2.1 40 = .ok (.iload 5, 2) := by decide +kernel
theorem J_HGrid_bestMask_d42 : decode J_HGrid_bestMask.2.1 42 = .ok (.istore_n 3, 1) := by decide +kernel
theorem J_HGrid_bestMask_d43 : decode J_HGrid_bestMask.2.1 43 = .ok (.iload 4, 2) := by decide +kernel
theorem J_HGrid_bestMask_d45 : decode J_HGrid_bestMask.2.1 45 = .ok (.istore_n 2, 1) := by decide +kernel
theorem J_HGrid_bestMask_d46 : decode J_HGrid_bestMask.2.1 46 = .ok (.aload_n 0, 1) := by decide +kernel
theorem J_HGrid_bestMask_d47 : decode J_HGrid_bestMask.2.1 47 = .ok (.iload 4, 2) := by decide +kernel
theorem J_HGrid_bestMask_d49 : decode J_HGrid_bestMask.2.1 49 = .ok (.invokevirtual 59, 3) := by decide +kernel
theorem J_HGrid_bestMask_d52 : decode J_HGrid_bestMask.2.1 52 = .ok (.iinc 4 1, 3) := by decide +kernel
theorem J_HGrid_bestMask_d55 : decode J_HGrid_bestMask.2.1 55 = .ok (.goto (-47), 3) := by decide +kernel
theorem J_HGrid_bestMask_d58 : decode J_HGrid_bestMask.2.1 58 = .ok (.iload_n 2, 1) := by decide +kernel
theorem J_HGrid_bestMask_d59 : decode J_HGrid_bestMask.2.1 59 = .ok (.ireturn, 1) := by decide +kernel
theorem f_HGrid_bestMask_ok {L : Nat} {xs : Nat → Int32} {dep : Nat} {w : Bool} {p0 : Int32} {M : im_M} {Q : Int32 × im_M → Prop} (hM : lw_S w M) (h : ed (f_HGrid_bestMask p0 M) Q) : ia (tb_G L xs) (dep + 3) J_HGrid_bestMask (rwI w Q) (0, lv_args 0 [.ref 38, .int p0], [], M) := by
  have hS : im_St (tb_G L xs) (dep + 3) J_HGrid_bestMask (ia (tb_G L xs) (dep + 3) J_HGrid_bestMask (rwI w Q)) := ia_St
  unfold f_HGrid_bestMask at h
  have l0 : im_lk (lv_args 0 [.ref 38, .int p0]) 0 = some (.ref 38) := rfl
  have l1 : im_lk (lv_args 0 [.ref 38, .int p0]) 1 = some (.int p0) := rfl
  refine iq_iconst hS 1 J_HGrid_bestMask_d0 (v := 0) (by decide +kernel) rfl ?_
  refine iq_istore_n hS 2 J_HGrid_bestMask_d1 (by decide) rfl ?_
  refine iq_ldc hS 4 J_HGrid_bestMask_d2 lk_4_66 rfl ?_
  refine iq_istore_n hS 5 J_HGrid_bestMask_d4 (by decide) rfl ?_
  refine iq_iconst hS 6 J_HGrid_bestMask_d5 (v := 0) (by decide +kernel) rfl ?_
  refine iq_istore hS 8 J_HGrid_bestMask_d6 (by decide) rfl ?_
  obtain ⟨Q1, hQ1, h⟩ := bd2_ed h
  have K1 : ∀ (y2 : Int32) (M3 : im_M) (L' : List (Nat × Value)), lw_S w M3 → im_lk L' 2 = some (.int y2) → Q1 (y2, M3) → ia (tb_G L xs) (dep + 3) J_HGrid_bestMask (rwI w Q) (58, L', [], M3) := by
    intro y2 M3 L' hM3 l4 h
    replace h := hQ1 _ _ h
    refine iq_iload_n hS 59 J_HGrid_bestMask_d58 l4 rfl ?_
    exact iq_iret J_HGrid_bestMask_d59 rfl rfl ⟨_, rfl, hM3, ed_some h⟩
  obtain ⟨r1, hr1, hq1⟩ := h
  obtain ⟨n1, hn1⟩ := lp_n hr1
  have I1 : ∀ (n : Nat) (x5 : Int32) (x6 : Int32) (x7 : Int32) (M8 : im_M) (L' : List (Nat × Value)), lw_S w M8 → im_lk L' 0 = some (.ref 38) → im_lk L' 1 = some (.int p0) → im_lk L' 2 = some (.int x5) → im_lk L' 3 = some (.int x6) → im_lk L' 4 = some (.int x7) → lpn (uc4 (f_HGrid_bestMask_L8 p0)) n (x5, x6, x7, M8) = some r1 → ia (tb_G L xs) (dep + 3) J_HGrid_bestMask (rwI w Q) (8, L', [], M8) := by
    intro n
    induction n with
    | zero => intro x5 x6 x7 M8 L' hM8 l9 l10 l11 l12 l13 hn; exact (lpn_0 hn).elim
    | succ n ih =>
      intro x5 x6 x7 M8 L' hM8 l9 l10 l11 l12 l13 hn
      have h := lpn_ed4 hn
      unfold f_HGrid_bestMask_L8 at h
      refine iq_iload hS 10 J_HGrid_bestMask_d8 l13 rfl ?_
      refine iq_bipush hS 12 J_HGrid_bestMask_d10 (v := 8) (by decide +kernel) rfl ?_
      refine iq_icmp_ge hS 15 J_HGrid_bestMask_d12 (t := 58) rfl (fun q12 => ?_) rfl (fun q12 => ?_)
      · replace h := ed_pos q12 h
        exact K1 _ _ _ hM8 l11 (lq_r h hq1)
      · replace h := ed_neg q12 h
        refine iq_aload_n hS 16 J_HGrid_bestMask_d15 l9 rfl ?_
        refine iq_iload hS 18 J_HGrid_bestMask_d16 l13 rfl ?_
        obtain ⟨Q14, hQ14, h⟩ := bd1_ed h
        refine iq_cwV hS 21 J_HGrid_bestMask_d18 rfl (pr_inst (vs := [_]) lc_4_59 lT_174 rfl rfl (by decide) (by decide) rfl (Nat.le_of_ble_eq_true rfl) (Nat.le_of_ble_eq_true rfl) (fun _ => Or.inl (pr_b (ka_38 hM8) (by decide) rfl))) (f_HGrid_turnMask_ok (dep := dep + 1) hM8 h) rfl ?_
        intro M14 hM14 h
        replace h := hQ14 _ h
        refine iq_aload_n hS 22 J_HGrid_bestMask_d21 l9 rfl ?_
        refine iq_iload_n hS 23 J_HGrid_bestMask_d22 l10 rfl ?_
        refine iq_iload hS 25 J_HGrid_bestMask_d23 l13 rfl ?_
        obtain ⟨Q15, hQ15, h⟩ := bd1_ed h
        refine iq_cwV hS 28 J_HGrid_bestMask_d25 rfl (pr_inst (vs := [_, _]) lc_4_62 lT_161 rfl rfl (by decide) (by decide) rfl (Nat.le_of_ble_eq_true rfl) (Nat.le_of_ble_eq_true rfl) (fun _ => Or.inl (pr_b (ka_38 hM14) (by decide) rfl))) (f_HGrid_fixForm_ok (dep := dep + 0) hM14 h) rfl ?_
        intro M15 hM15 h
        replace h := hQ15 _ h
        refine iq_aload_n hS 29 J_HGrid_bestMask_d28 l9 rfl ?_
        obtain ⟨Q16, hQ16, h⟩ := bd1_ed h
        refine iq_cpI hS 32 J_HGrid_bestMask_d29 rfl (pr_inst (vs := []) lc_4_67 lT_176 rfl rfl (by decide) (by decide) rfl (Nat.le_of_ble_eq_true rfl) (Nat.le_of_ble_eq_true rfl) (fun _ => Or.inl (pr_b (ka_38 hM15) (by decide) rfl))) (f_HGrid_penalty_ok (dep := dep + 1) hM15 h) rfl ?_
        intro x16 h
        replace h := hQ16 _ h
        refine iq_istore hS 34 J_HGrid_bestMask_d32 (by decide) rfl ?_
        refine iq_iload hS 36 J_HGrid_bestMask_d34 lk_1s rfl ?_
        refine iq_iload_n hS 37 J_HGrid_bestMask_d36 (lk_1i l12 (by decide)) rfl ?_
        have J17 : ∀ (z18 : Int32) (z19 : Int32) (L' : List (Nat × Value)), z18 = ((if x6 ≤ x16 then x5 else x7) : Int32) → z19 = ((if x6 ≤ x16 then x6 else x16) : Int32) → im_lk L' 0 = some (.ref 38) → im_lk L' 1 = some (.int p0) → im_lk L' 2 = some (.int z18) → im_lk L' 3 = some (.int z19) → im_lk L' 4 = some (.int x7) → ia (tb_G L xs) (dep + 3) J_HGrid_bestMask (rwI w Q) (46, L', [], M15) := by
          intro z18 z19 L' e20 e21 l22 l23 l24 l25 l26
          subst e20
          subst e21
          refine iq_aload_n hS 47 J_HGrid_bestMask_d46 l22 rfl ?_
          refine iq_iload hS 49 J_HGrid_bestMask_d47 l26 rfl ?_
          obtain ⟨Q27, hQ27, h⟩ := bd1_ed h
          refine iq_cwV hS 52 J_HGrid_bestMask_d49 rfl (pr_inst (vs := [_]) lc_4_59 lT_174 rfl rfl (by decide) (by decide) rfl (Nat.le_of_ble_eq_true rfl) (Nat.le_of_ble_eq_true rfl) (fun _ => Or.inl (pr_b (ka_38 hM15) (by decide) rfl))) (f_HGrid_turnMask_ok (dep := dep + 1) hM15 h) rfl ?_
          intro M27 hM27 h
          replace h := hQ27 _ h
          refine iq_iincv hS 55 J_HGrid_bestMask_d52 (c := 1) (by decide +kernel) l26 (by decide) rfl ?_
          refine iq_goto hS J_HGrid_bestMask_d55 (t := 8) rfl ?_
          exact ih _ _ _ _ _ hM27 (lk_1r l22 (by decide)) (lk_1i l23 (by decide)) (lk_1i l24 (by decide)) (lk_1i l25 (by decide)) lk_1s (lq_l h)
        refine iq_icmp_ge hS 40 J_HGrid_bestMask_d37 (t := 46) rfl (fun q37 => ?_) rfl (fun q37 => ?_)
        · exact J17 _ _ _ (by simp only [if_pos q37]) (by simp only [if_pos q37]) (lk_1r l9 (by decide)) (lk_1i l10 (by decide)) (lk_1i l11 (by decide)) (lk_1i l12 (by decide)) (lk_1i l13 (by decide))
        · refine iq_iload hS 42 J_HGrid_bestMask_d40 lk_1s rfl ?_
          refine iq_istore_n hS 43 J_HGrid_bestMask_d42 (by decide) rfl ?_
          refine iq_iload hS 45 J_HGrid_bestMask_d43 (lk_1i (lk_1i l13 (by decide)) (by decide)) rfl ?_
          refine iq_istore_n hS 46 J_HGrid_bestMask_d45 (by decide) rfl ?_
          exact J17 _ _ _ (by simp only [if_neg q37]) (by simp only [if_neg q37]) (lk_1r (lk_1r (lk_1r l9 (by decide)) (by decide)) (by decide)) (lk_1i (lk_1i (lk_1i l10 (by decide)) (by decide)) (by decide)) lk_1s (lk_1i lk_1s (by decide)) (lk_1i (lk_1i (lk_1i l13 (by decide)) (by decide)) (by decide))
  exact I1 n1 _ _ _ _ _ hM (lk_1r (lk_1r (lk_1r l0 (by decide)) (by decide)) (by decide)) (lk_1i (lk_1i (lk_1i l1 (by decide)) (by decide)) (by decide)) (lk_1i (lk_1i lk_1s (by decide)) (by decide)) (lk_1i lk_1s (by decide)) lk_1s hn1
theorem f_HGrid_bestMask_fr {p0 : Int32} {M : im_M} {r : Int32 × im_M} (h : f_HGrid_bestMask p0 M = some r) : fr 54043195528445952 [] M r.2 := by
  replace h : ed (f_HGrid_bestMask p0 M) (fun x => x = r) := ⟨r, h, rfl⟩
  unfold f_HGrid_bestMask at h
  obtain ⟨Q1, hQ1, h⟩ := bd2_ed h
  have K1 : ∀ (y2 : Int32) (M3 : im_M), fr 54043195528445952 [] M M3 → Q1 (y2, M3) → fr 54043195528445952 [] M r.2 := by
    intro y2 M3 hM3 h
    replace h := hQ1 _ _ h
    exact fr_ret h hM3
  obtain ⟨r1, hr1, hq1⟩ := h
  obtain ⟨n1, hn1⟩ := lp_n hr1
  have I1 : ∀ (n : Nat) (x4 : Int32) (x5 : Int32) (x6 : Int32) (M7 : im_M), fr 54043195528445952 [] M M7 → lpn (uc4 (f_HGrid_bestMask_L8 p0)) n (x4, x5, x6, M7) = some r1 → fr 54043195528445952 [] M r.2 := by
    intro n
    induction n with
    | zero => intro x4 x5 x6 M7 hM7 hn; exact (lpn_0 hn).elim
    | succ n ih =>
      intro x4 x5 x6 M7 hM7 hn
      have h := lpn_ed4 hn
      unfold f_HGrid_bestMask_L8 at h
      by_cases q12 : 8 ≤ x6
      · replace h := ed_pos q12 h
        exact K1 _ _ hM7 (lq_r h hq1)
      · replace h := ed_neg q12 h
        obtain ⟨Q8, hQ8, h⟩ := bd1_ed h
        obtain ⟨M8, e8, h⟩ := h
        replace h := hQ8 _ h
        obtain ⟨Q9, hQ9, h⟩ := bd1_ed h
        obtain ⟨M9, e9, h⟩ := h
        replace h := hQ9 _ h
        obtain ⟨Q10, hQ10, h⟩ := bd1_ed h
        obtain ⟨x10, e10, h⟩ := h
        replace h := hQ10 _ h
        obtain ⟨Q12, hQ12, h⟩ := bd1_ed h
        obtain ⟨M12, e12, h⟩ := h
        replace h := hQ12 _ h
        exact ih _ _ _ _ (fr_tr (fr_mono (by decide) (by decide +kernel) (f_HGrid_turnMask_fr e12)) (fr_tr (fr_mono (by decide) (by decide +kernel) (f_HGrid_fixForm_fr e9)) (fr_tr (fr_mono (by decide) (by decide +kernel) (f_HGrid_turnMask_fr e8)) hM7))) (lq_l h)
  exact I1 n1 _ _ _ _ fr_refl hn1
noncomputable def f_HGrid_make (p1 : Int32) (p2 : Int32) (p3 : Int32) (p4 : Int32) (M : im_M) : Option (Int32 × im_M) := bd2 (f_HSegments_pack p1 p2 p3 M) fun (x1 : Int32) (M1 : im_M) => if ¬ x1 = 0 then bd1 (f_HBlocks_spread x1 p3 M1) fun (M2 : im_M) => bd1 (f_HGrid_begin x1 M2) fun (M3 : im_M) => bd1 (f_HGrid_carry 1 M3) fun (M4 : im_M) => bd2 (if 0 ≤ p4 then some (p4, M4) else bd2 (f_HGrid_bestMask p3 M4) fun (x6 : Int32) (M6 : im_M) => some (x6, M6)) fun (y7 : Int32) (M8 : im_M) => bd1 (f_HGrid_turnMask (im_i (im_setI M8 38 3 y7) 38 3) (im_setI M8 38 3 y7)) fun (M11 : im_M) => bd1 (f_HGrid_fixForm p3 (im_i M11 38 3) M11) fun (M12 : im_M) => some (1, M12) else some (0, M1)
theorem J_HGrid_make_d0 : decode J_HGrid_make.2.1 0 = .ok (.aload_n 0, 1) := by decide +kernel
theorem J_HGrid_make_d1 : decode J_HGrid_make.2.1 1 = .ok (.getfield 12, 3) := by decide +kernel
theorem J_HGrid_make_d4 : decode J_HGrid_make.2.1 4 = .ok (.aload_n 1, 1) := by decide +kernel
theorem J_HGrid_make_d5 : decode J_HGrid_make.2.1 5 = .ok (.iload_n 2, 1) := by decide +kernel
theorem J_HGrid_make_d6 : decode J_HGrid_make.2.1 6 = .ok (.iload_n 3, 1) := by decide +kernel
theorem J_HGrid_make_d7 : decode J_HGrid_make.2.1 7 = .ok (.iload 4, 2) := by decide +kernel
theorem J_HGrid_make_d9 : decode J_HGrid_make.2.1 9 = .ok (.invokevirtual 32, 3) := by decide +kernel
theorem J_HGrid_make_d12 : decode J_HGrid_make.2.1 12 = .ok (.istore 6, 2) := by decide +kernel
theorem J_HGrid_make_d14 : decode J_HGrid_make.2.1 14 = .ok (.iload 6, 2) := by decide +kernel
theorem J_HGrid_make_d16 : decode J_HGrid_make.2.1 16 = .ok (.ifCond .ne 5, 3) := by decide +kernel
theorem J_HGrid_make_d19 : decode J_HGrid_make.2.1 19 = .ok (.iconst 0, 1) := by decide +kernel
theorem J_HGrid_make_d20 : decode J_HGrid_make.2.1 20 = .ok (.ireturn, 1) := by decide +kernel
theorem J_HGrid_make_d21 : decode J_HGrid_make.2.1 21 = .ok (.aload_n 0, 1) := by decide +kernel
theorem J_HGrid_make_d22 : decode J_HGrid_make.2.1 22 = .ok (.getfield 21, 3) := by decide +kernel
theorem J_HGrid_make_d25 : decode J_HGrid_make.2.1 25 = .ok (.iload 6, 2) := by decide +kernel
theorem J_HGrid_make_d27 : decode J_HGrid_make.2.1 27 = .ok (.iload 4, 2) := by decide +kernel
theorem J_HGrid_make_d29 : decode J_HGrid_make.2.1 29 = .ok (.aload_n 0, 1) := by decide +kernel
theorem J_HGrid_make_d30 : decode J_HGrid_make.2.1 30 = .ok (.getfield 12, 3) := by decide +kernel
theorem J_HGrid_make_d33 : decode J_HGrid_make.2.1 33 = .ok (.getfield 36, 3) := by decide +kernel
theorem J_HGrid_make_d36 : decode J_HGrid_make.2.1 36 = .ok (.invokevirtual 39, 3) := by decide +kernel
theorem J_HGrid_make_d39 : decode J_HGrid_make.2.1 39 = .ok (.aload_n 0, 1) := by decide +kernel
theorem J_HGrid_make_d40 : decode J_HGrid_make.2.1 40 = .ok (.iload 6, 2) := by decide +kernel
theorem J_HGrid_make_d42 : decode J_HGrid_make.2.1 42 = .ok (.invokevirtual 43, 3) := by decide +kernel
theorem J_HGrid_make_d45 : decode J_HGrid_make.2.1 45 = .ok (.aload_n 0, 1) := by decide +kernel
theorem J_HGrid_make_d46 : decode J_HGrid_make.2.1 46 = .ok (.iconst 1, 1) := by decide +kernel
theorem J_HGrid_make_d47 : decode J_HGrid_make.2.1 47 = .ok (.invokevirtual 47, 3) := by decide +kernel
theorem J_HGrid_make_d50 : decode J_HGrid_make.2.1 50 = .ok (.aload_n 0, 1) := by decide +kernel
theorem J_HGrid_make_d51 : decode J_HGrid_make.2.1 51 = .ok (.iload 5, 2) := by decide +kernel
theorem J_HGrid_make_d53 : decode J_HGrid_make.2.1 53 = .ok (.ifCond .ge 12, 3) := by decide +kernel
theorem J_HGrid_make_d56 : decode J_HGrid_make.2.1 56 = .ok (.aload_n 0, 1) := by decide +kernel
theorem J_HGrid_make_d57 : decode J_HGrid_make.2.1 57 = .ok (.iload 4, 2) := by decide +kernel
theorem J_HGrid_make_d59 : decode J_HGrid_make.2.1 59 = .ok (.invokevirtual 51, 3) := by decide +kernel
theorem J_HGrid_make_d62 : decode J_HGrid_make.2.1 62 = .ok (.goto 5, 3) := by decide +kernel
theorem J_HGrid_make_d65 : decode J_HGrid_make.2.1 65 = .ok (.iload 5, 2) := by decide +kernel
theorem J_HGrid_make_d67 : decode J_HGrid_make.2.1 67 = .ok (.putfield 55, 3) := by decide +kernel
theorem J_HGrid_make_d70 : decode J_HGrid_make.2.1 70 = .ok (.aload_n 0, 1) := by decide +kernel
theorem J_HGrid_make_d71 : decode J_HGrid_make.2.1 71 = .ok (.aload_n 0, 1) := by decide +kernel
theorem J_HGrid_make_d72 : decode J_HGrid_make.2.1 72 = .ok (.getfield 55, 3) := by decide +kernel
theorem J_HGrid_make_d75 : decode J_HGrid_make.2.1 75 = .ok (.invokevirtual 59, 3) := by decide +kernel
theorem J_HGrid_make_d78 : decode J_HGrid_make.2.1 78 = .ok (.aload_n 0, 1) := by decide +kernel
theorem J_HGrid_make_d79 : decode J_HGrid_make.2.1 79 = .ok (.iload 4, 2) := by decide +kernel
theorem J_HGrid_make_d81 : decode J_HGrid_make.2.1 81 = .ok (.aload_n 0, 1) := by decide +kernel
theorem J_HGrid_make_d82 : decode J_HGrid_make.2.1 82 = .ok (.getfield 55, 3) := by decide +kernel
theorem J_HGrid_make_d85 : decode J_HGrid_make.2.1 85 = .ok (.invokevirtual 62, 3) := by decide +kernel
theorem J_HGrid_make_d88 : decode J_HGrid_make.2.1 88 = .ok (.iconst 1, 1) := by decide +kernel
theorem J_HGrid_make_d89 : decode J_HGrid_make.2.1 89 = .ok (.ireturn, 1) := by decide +kernel
theorem f_HGrid_make_ok {L : Nat} {xs : Nat → Int32} {dep : Nat} {w : Bool} {p1 : Int32} {p2 : Int32} {p3 : Int32} {p4 : Int32} {M : im_M} {Q : Int32 × im_M → Prop} (hM : lw_S w M) (h : ed (f_HGrid_make p1 p2 p3 p4 M) Q) : ia (tb_G L xs) (dep + 8) J_HGrid_make (rwI w Q) (0, lv_args 0 [.ref 38, .ref 14, .int p1, .int p2, .int p3, .int p4], [], M) := by
  have hS : im_St (tb_G L xs) (dep + 8) J_HGrid_make (ia (tb_G L xs) (dep + 8) J_HGrid_make (rwI w Q)) := ia_St
  unfold f_HGrid_make at h
  have l0 : im_lk (lv_args 0 [.ref 38, .ref 14, .int p1, .int p2, .int p3, .int p4]) 0 = some (.ref 38) := rfl
  have l1 : im_lk (lv_args 0 [.ref 38, .ref 14, .int p1, .int p2, .int p3, .int p4]) 1 = some (.ref 14) := rfl
  have l2 : im_lk (lv_args 0 [.ref 38, .ref 14, .int p1, .int p2, .int p3, .int p4]) 2 = some (.int p1) := rfl
  have l3 : im_lk (lv_args 0 [.ref 38, .ref 14, .int p1, .int p2, .int p3, .int p4]) 3 = some (.int p2) := rfl
  have l4 : im_lk (lv_args 0 [.ref 38, .ref 14, .int p1, .int p2, .int p3, .int p4]) 4 = some (.int p3) := rfl
  have l5 : im_lk (lv_args 0 [.ref 38, .ref 14, .int p1, .int p2, .int p3, .int p4]) 5 = some (.int p4) := rfl
  refine iq_aload_n hS 1 J_HGrid_make_d0 l0 rfl ?_
  refine iq_getR hS 4 J_HGrid_make_d1 lf_4_12 (Or.inl ⟨_, rfl⟩) (ka_38 hM) (ra_38_0 hM) rfl ?_
  refine iq_aload_n hS 5 J_HGrid_make_d4 l1 rfl ?_
  refine iq_iload_n hS 6 J_HGrid_make_d5 l2 rfl ?_
  refine iq_iload_n hS 7 J_HGrid_make_d6 l3 rfl ?_
  refine iq_iload hS 9 J_HGrid_make_d7 l4 rfl ?_
  obtain ⟨Q1, hQ1, h⟩ := bd2_ed h
  refine iq_cwI hS 12 J_HGrid_make_d9 rfl (pr_inst (vs := [_, _, _, _]) lc_4_32 lT_133 rfl rfl (by decide) (by decide) rfl (Nat.le_of_ble_eq_true rfl) (Nat.le_of_ble_eq_true rfl) (fun _ => Or.inl (pr_b (ka_39 hM) (by decide) rfl))) (f_HSegments_pack_ok (dep := dep + 0) hM h) rfl ?_
  intro x1 M1 hM1 h
  replace h := hQ1 _ _ h
  refine iq_istore hS 14 J_HGrid_make_d12 (by decide) rfl ?_
  refine iq_iload hS 16 J_HGrid_make_d14 lk_1s rfl ?_
  refine iq_if_ne hS 19 J_HGrid_make_d16 (t := 21) rfl (fun q16 => ?_) rfl (fun q16 => ?_)
  · replace h := ed_pos q16 h
    refine iq_aload_n hS 22 J_HGrid_make_d21 (lk_1r l0 (by decide)) rfl ?_
    refine iq_getR hS 25 J_HGrid_make_d22 lf_4_21 (Or.inl ⟨_, rfl⟩) (ka_38 hM1) (ra_38_5 hM1) rfl ?_
    refine iq_iload hS 27 J_HGrid_make_d25 lk_1s rfl ?_
    refine iq_iload hS 29 J_HGrid_make_d27 (lk_1i l4 (by decide)) rfl ?_
    refine iq_aload_n hS 30 J_HGrid_make_d29 (lk_1r l0 (by decide)) rfl ?_
    refine iq_getR hS 33 J_HGrid_make_d30 lf_4_12 (Or.inl ⟨_, rfl⟩) (ka_38 hM1) (ra_38_0 hM1) rfl ?_
    refine iq_getR hS 36 J_HGrid_make_d33 lf_4_36 (Or.inr ⟨_, rfl⟩) (ka_39 hM1) (ra_39_0 hM1) rfl ?_
    obtain ⟨Q2, hQ2, h⟩ := bd1_ed h
    refine iq_cwV hS 39 J_HGrid_make_d36 rfl (pr_inst (vs := [_, _, _]) lc_4_39 lT_147 rfl rfl (by decide) (by decide) rfl (Nat.le_of_ble_eq_true rfl) (Nat.le_of_ble_eq_true rfl) (fun _ => Or.inl (pr_b (ka_43 hM1) (by decide) rfl))) (f_HBlocks_spread_ok (dep := dep + 4) hM1 h) rfl ?_
    intro M2 hM2 h
    replace h := hQ2 _ h
    refine iq_aload_n hS 40 J_HGrid_make_d39 (lk_1r l0 (by decide)) rfl ?_
    refine iq_iload hS 42 J_HGrid_make_d40 lk_1s rfl ?_
    obtain ⟨Q3, hQ3, h⟩ := bd1_ed h
    refine iq_cwV hS 45 J_HGrid_make_d42 rfl (pr_inst (vs := [_]) lc_4_43 lT_155 rfl rfl (by decide) (by decide) rfl (Nat.le_of_ble_eq_true rfl) (Nat.le_of_ble_eq_true rfl) (fun _ => Or.inl (pr_b (ka_38 hM2) (by decide) rfl))) (f_HGrid_begin_ok (dep := dep + 4) hM2 h) rfl ?_
    intro M3 hM3 h
    replace h := hQ3 _ h
    refine iq_aload_n hS 46 J_HGrid_make_d45 (lk_1r l0 (by decide)) rfl ?_
    refine iq_iconst hS 47 J_HGrid_make_d46 (v := 1) (by decide +kernel) rfl ?_
    obtain ⟨Q4, hQ4, h⟩ := bd1_ed h
    refine iq_cwV hS 50 J_HGrid_make_d47 rfl (pr_inst (vs := [_]) lc_4_47 lT_167 rfl rfl (by decide) (by decide) rfl (Nat.le_of_ble_eq_true rfl) (Nat.le_of_ble_eq_true rfl) (fun _ => Or.inl (pr_b (ka_38 hM3) (by decide) rfl))) (f_HGrid_carry_ok (dep := dep + 5) hM3 h) rfl ?_
    intro M4 hM4 h
    replace h := hQ4 _ h
    refine iq_aload_n hS 51 J_HGrid_make_d50 (lk_1r l0 (by decide)) rfl ?_
    refine iq_iload hS 53 J_HGrid_make_d51 (lk_1i l5 (by decide)) rfl ?_
    obtain ⟨Q5, hQ5, h⟩ := bd2_ed h
    have J5 : ∀ (y7 : Int32) (M8 : im_M) (L' : List (Nat × Value)), lw_S w M8 → im_lk L' 0 = some (.ref 38) → im_lk L' 4 = some (.int p3) → Q5 (y7, M8) → ia (tb_G L xs) (dep + 8) J_HGrid_make (rwI w Q) (67, L', [.int y7, .ref 38], M8) := by
      intro y7 M8 L' hM8 l9 l10 h
      replace h := hQ5 _ _ h
      refine iq_putI hS 70 J_HGrid_make_d67 lf_4_55 (Or.inl rfl) rfl (ka_38 hM8) rfl ?_
      refine iq_aload_n hS 71 J_HGrid_make_d70 l9 rfl ?_
      refine iq_aload_n hS 72 J_HGrid_make_d71 l9 rfl ?_
      refine iq_getI hS 75 J_HGrid_make_d72 lf_4_55 (Or.inl rfl) (ka_38 (lw_sI hM8)) rfl ?_
      obtain ⟨Q11, hQ11, h⟩ := bd1_ed h
      refine iq_cwV hS 78 J_HGrid_make_d75 rfl (pr_inst (vs := [_]) lc_4_59 lT_174 rfl rfl (by decide) (by decide) rfl (Nat.le_of_ble_eq_true rfl) (Nat.le_of_ble_eq_true rfl) (fun _ => Or.inl (pr_b (ka_38 (lw_sI hM8)) (by decide) rfl))) (f_HGrid_turnMask_ok (dep := dep + 6) (lw_sI hM8) h) rfl ?_
      intro M11 hM11 h
      replace h := hQ11 _ h
      refine iq_aload_n hS 79 J_HGrid_make_d78 l9 rfl ?_
      refine iq_iload hS 81 J_HGrid_make_d79 l10 rfl ?_
      refine iq_aload_n hS 82 J_HGrid_make_d81 l9 rfl ?_
      refine iq_getI hS 85 J_HGrid_make_d82 lf_4_55 (Or.inl rfl) (ka_38 hM11) rfl ?_
      obtain ⟨Q12, hQ12, h⟩ := bd1_ed h
      refine iq_cwV hS 88 J_HGrid_make_d85 rfl (pr_inst (vs := [_, _]) lc_4_62 lT_161 rfl rfl (by decide) (by decide) rfl (Nat.le_of_ble_eq_true rfl) (Nat.le_of_ble_eq_true rfl) (fun _ => Or.inl (pr_b (ka_38 hM11) (by decide) rfl))) (f_HGrid_fixForm_ok (dep := dep + 5) hM11 h) rfl ?_
      intro M12 hM12 h
      replace h := hQ12 _ h
      refine iq_iconst hS 89 J_HGrid_make_d88 (v := 1) (by decide +kernel) rfl ?_
      exact iq_iret J_HGrid_make_d89 rfl rfl ⟨_, rfl, hM12, ed_some h⟩
    refine iq_if_ge hS 56 J_HGrid_make_d53 (t := 65) rfl (fun q53 => ?_) rfl (fun q53 => ?_)
    · replace h := ed_pos q53 h
      refine iq_iload hS 67 J_HGrid_make_d65 (lk_1i l5 (by decide)) rfl ?_
      exact J5 _ _ _ hM4 (lk_1r l0 (by decide)) (lk_1i l4 (by decide)) (ed_some h)
    · replace h := ed_neg q53 h
      refine iq_aload_n hS 57 J_HGrid_make_d56 (lk_1r l0 (by decide)) rfl ?_
      refine iq_iload hS 59 J_HGrid_make_d57 (lk_1i l4 (by decide)) rfl ?_
      obtain ⟨Q6, hQ6, h⟩ := bd2_ed h
      refine iq_cwI hS 62 J_HGrid_make_d59 rfl (pr_inst (vs := [_]) lc_4_51 lT_173 rfl rfl (by decide) (by decide) rfl (Nat.le_of_ble_eq_true rfl) (Nat.le_of_ble_eq_true rfl) (fun _ => Or.inl (pr_b (ka_38 hM4) (by decide) rfl))) (f_HGrid_bestMask_ok (dep := dep + 4) hM4 h) rfl ?_
      intro x6 M6 hM6 h
      replace h := hQ6 _ _ h
      refine iq_goto hS J_HGrid_make_d62 (t := 67) rfl ?_
      exact J5 _ _ _ hM6 (lk_1r l0 (by decide)) (lk_1i l4 (by decide)) (ed_some h)
  · replace h := ed_neg q16 h
    refine iq_iconst hS 20 J_HGrid_make_d19 (v := 0) (by decide +kernel) rfl ?_
    exact iq_iret J_HGrid_make_d20 rfl rfl ⟨_, rfl, hM1, ed_some h⟩
theorem f_HGrid_make_fr {p1 : Int32} {p2 : Int32} {p3 : Int32} {p4 : Int32} {M : im_M} {r : Int32 × im_M} (h : f_HGrid_make p1 p2 p3 p4 M = some r) : fr 54490696760950784 [(38, 1), (38, 3), (38, 6), (39, 5), (43, 10), (43, 11), (43, 12), (43, 13)] M r.2 := by
  replace h : ed (f_HGrid_make p1 p2 p3 p4 M) (fun x => x = r) := ⟨r, h, rfl⟩
  unfold f_HGrid_make at h
  obtain ⟨Q1, hQ1, h⟩ := bd2_ed h
  obtain ⟨⟨x1, M1⟩, e1, h⟩ := h
  replace h := hQ1 _ _ h
  by_cases q16 : ¬ x1 = 0
  · replace h := ed_pos q16 h
    obtain ⟨Q2, hQ2, h⟩ := bd1_ed h
    obtain ⟨M2, e2, h⟩ := h
    replace h := hQ2 _ h
    obtain ⟨Q3, hQ3, h⟩ := bd1_ed h
    obtain ⟨M3, e3, h⟩ := h
    replace h := hQ3 _ h
    obtain ⟨Q4, hQ4, h⟩ := bd1_ed h
    obtain ⟨M4, e4, h⟩ := h
    replace h := hQ4 _ h
    obtain ⟨Q5, hQ5, h⟩ := bd2_ed h
    have J5 : ∀ (y7 : Int32) (M8 : im_M), fr 54490696760950784 [(38, 1), (38, 3), (38, 6), (39, 5), (43, 10), (43, 11), (43, 12), (43, 13)] M M8 → Q5 (y7, M8) → fr 54490696760950784 [(38, 1), (38, 3), (38, 6), (39, 5), (43, 10), (43, 11), (43, 12), (43, 13)] M r.2 := by
      intro y7 M8 hM8 h
      replace h := hQ5 _ _ h
      obtain ⟨Q11, hQ11, h⟩ := bd1_ed h
      obtain ⟨M11, e11, h⟩ := h
      replace h := hQ11 _ h
      obtain ⟨Q12, hQ12, h⟩ := bd1_ed h
      obtain ⟨M12, e12, h⟩ := h
      replace h := hQ12 _ h
      exact fr_ret h (fr_tr (fr_mono (by decide) (by decide +kernel) (f_HGrid_fixForm_fr e12)) (fr_tr (fr_mono (by decide) (by decide +kernel) (f_HGrid_turnMask_fr e11)) (fr_F (by decide) hM8)))
    by_cases q53 : 0 ≤ p4
    · replace h := ed_pos q53 h
      exact J5 _ _ (fr_tr (fr_mono (by decide) (by decide +kernel) (f_HGrid_carry_fr e4)) (fr_tr (fr_mono (by decide) (by decide +kernel) (f_HGrid_begin_fr e3)) (fr_tr (fr_mono (by decide) (by decide +kernel) (f_HBlocks_spread_fr e2)) (fr_tr (fr_mono (by decide) (by decide +kernel) (f_HSegments_pack_fr e1)) fr_refl)))) (ed_some h)
    · replace h := ed_neg q53 h
      obtain ⟨Q6, hQ6, h⟩ := bd2_ed h
      obtain ⟨⟨x6, M6⟩, e6, h⟩ := h
      replace h := hQ6 _ _ h
      exact J5 _ _ (fr_tr (fr_mono (by decide) (by decide +kernel) (f_HGrid_bestMask_fr e6)) (fr_tr (fr_mono (by decide) (by decide +kernel) (f_HGrid_carry_fr e4)) (fr_tr (fr_mono (by decide) (by decide +kernel) (f_HGrid_begin_fr e3)) (fr_tr (fr_mono (by decide) (by decide +kernel) (f_HBlocks_spread_fr e2)) (fr_tr (fr_mono (by decide) (by decide +kernel) (f_HSegments_pack_fr e1)) fr_refl))))) (ed_some h)
  · replace h := ed_neg q16 h
    exact fr_ret h (fr_tr (fr_mono (by decide) (by decide +kernel) (f_HSegments_pack_fr e1)) fr_refl)
noncomputable def f_HPen_drawSquare_L20 (w : Bool) (v7 : Int32) (v8 : Int32) (v9 : Int32) (x10 : Int32) (M11 : im_M) : Option ((Int32 × im_M) ⊕ (im_M)) := if (im_i M11 38 1) ≤ x10 then some (.inr M11) else bd1 (f_HGrid_isDark x10 v9 M11) fun (x12 : Int32) => bd1 (if x12 = 0 then some M11 else bd1 (f_HPen_strike w (v8 * x10) (v8 * v9) v8 v8 M11) fun (M14 : im_M) => some M14) fun (M15 : im_M) => some (.inl ((x10 + 1), M15))
noncomputable def f_HPen_drawSquare_L2 (w : Bool) (v2 : Int32) (v3 : Int32) (x4 : Int32) (M5 : im_M) : Option ((Int32 × im_M) ⊕ (im_M)) := if v2 = 0 then some (.inr M5) else if (im_i M5 38 1) ≤ x4 then some (.inr M5) else bd1 (lp (uc2 (f_HPen_drawSquare_L20 w v2 v3 x4)) (0, M5)) fun (M21 : im_M) => some (.inl ((x4 + 1), M21))
noncomputable def f_HPen_drawSquare (w : Bool) (p0 : Int32) (p1 : Int32) (M : im_M) : Option (im_M) := bd1 (lp (uc2 (f_HPen_drawSquare_L2 w p0 p1)) (0, M)) fun (M22 : im_M) => some M22
theorem J_HPen_drawSquare_d0 : decode J_HPen_drawSquare.2.1 0 = .ok (.iconst 0, 1) := by decide +kernel
theorem J_HPen_drawSquare_d1 : decode J_HPen_drawSquare.2.1 1 = .ok (.istore_n 3, 1) := by decide +kernel
theorem J_HPen_drawSquare_d2 : decode J_HPen_drawSquare.2.1 2 = .ok (.iload_n 1, 1) := by decide +kernel
theorem J_HPen_drawSquare_d3 : decode J_HPen_drawSquare.2.1 3 = .ok (.ifCond .eq 67, 3) := by decide +kernel
theorem J_HPen_drawSquare_d6 : decode J_HPen_drawSquare.2.1 6 = .ok (.iload_n 3, 1) := by decide +kernel
theorem J_HPen_drawSquare_d7 : decode J_HPen_drawSquare.2.1 7 = .ok (.aload_n 0, 1) := by decide +kernel
theorem J_HPen_drawSquare_d8 : decode J_HPen_drawSquare.2.1 8 = .ok (.getfield 27, 3) := by decide +kernel
theorem J_HPen_drawSquare_d11 : decode J_HPen_drawSquare.2.1 11 = .ok (.getfield 127, 3) := by decide +kernel
theorem J_HPen_drawSquare_d14 : decode J_HPen_drawSquare.2.1 14 = .ok (.if_icmp .ge 56, 3) := by decide +kernel
theorem J_HPen_drawSquare_d17 : decode J_HPen_drawSquare.2.1 17 = .ok (.iconst 0, 1) := by decide +kernel
theorem J_HPen_drawSquare_d18 : decode J_HPen_drawSquare.2.1 18 = .ok (.istore 4, 2) := by decide +kernel
theorem J_HPen_drawSquare_d20 : decode J_HPen_drawSquare.2.1 20 = .ok (.iload 4, 2) := by decide +kernel
theorem J_HPen_drawSquare_d22 : decode J_HPen_drawSquare.2.1 22 = .ok (.aload_n 0, 1) := by decide +kernel
theorem J_HPen_drawSquare_d23 : decode J_HPen_drawSquare.2.1 23 = .ok (.getfield 27, 3) := by decide +kernel
theorem J_HPen_drawSquare_d26 : decode J_HPen_drawSquare.2.1 26 = .ok (.getfield 127, 3) := by decide +kernel
theorem J_HPen_drawSquare_d29 : decode J_HPen_drawSquare.2.1 29 = .ok (.if_icmp .ge 35, 3) := by decide +kernel
theorem J_HPen_drawSquare_d32 : decode J_HPen_drawSquare.2.1 32 = .ok (.aload_n 0, 1) := by decide +kernel
theorem J_HPen_drawSquare_d33 : decode J_HPen_drawSquare.2.1 33 = .ok (.getfield 27, 3) := by decide +kernel
theorem J_HPen_drawSquare_d36 : decode J_HPen_drawSquare.2.1 36 = .ok (.iload 4, 2) := by decide +kernel
theorem J_HPen_drawSquare_d38 : decode J_HPen_drawSquare.2.1 38 = .ok (.iload_n 3, 1) := by decide +kernel
theorem J_HPen_drawSquare_d39 : decode J_HPen_drawSquare.2.1 39 = .ok (.invokevirtual 130, 3) := by decide +kernel
theorem J_HPen_drawSquare_d42 : decode J_HPen_drawSquare.2.1 42 = .ok (.ifCond .eq 16, 3) := by decide +kernel
theorem J_HPen_drawSquare_d45 : decode J_HPen_drawSquare.2.1 45 = .ok (.aload_n 0, 1) := by decide +kernel
theorem J_HPen_drawSquare_d46 : decode J_HPen_drawSquare.2.1 46 = .ok (.iload_n 2, 1) := by decide +kernel
theorem J_HPen_drawSquare_d47 : decode J_HPen_drawSquare.2.1 47 = .ok (.iload 4, 2) := by decide +kernel
theorem J_HPen_drawSquare_d49 : decode J_HPen_drawSquare.2.1 49 = .ok (.imul, 1) := by decide +kernel
theorem J_HPen_drawSquare_d50 : decode J_HPen_drawSquare.2.1 50 = .ok (.iload_n 2, 1) := by decide +kernel
theorem J_HPen_drawSquare_d51 : decode J_HPen_drawSquare.2.1 51 = .ok (.iload_n 3, 1) := by decide +kernel
theorem J_HPen_drawSquare_d52 : decode J_HPen_drawSquare.2.1 52 = .ok (.imul, 1) := by decide +kernel
theorem J_HPen_drawSquare_d53 : decode J_HPen_drawSquare.2.1 53 = .ok (.iload_n 2, 1) := by decide +kernel
theorem J_HPen_drawSquare_d54 : decode J_HPen_drawSquare.2.1 54 = .ok (.iload_n 2, 1) := by decide +kernel
theorem J_HPen_drawSquare_d55 : decode J_HPen_drawSquare.2.1 55 = .ok (.invokevirtual 118, 3) := by decide +kernel
theorem J_HPen_drawSquare_d58 : decode J_HPen_drawSquare.2.1 58 = .ok (.iinc 4 1, 3) := by decide +kernel
theorem J_HPen_drawSquare_d61 : decode J_HPen_drawSquare.2.1 61 = .ok (.goto (-41), 3) := by decide +kernel
theorem J_HPen_drawSquare_d64 : decode J_HPen_drawSquare.2.1 64 = .ok (.iinc 3 1, 3) := by decide +kernel
theorem J_HPen_drawSquare_d67 : decode J_HPen_drawSquare.2.1 67 = .ok (.goto (-65), 3) := by decide +kernel
theorem J_HPen_drawSquare_d70 : decode J_HPen_drawSquare.2.1 70 = .ok (.return_, 1) := by decide +kernel
theorem f_HPen_drawSquare_ok {L : Nat} {xs : Nat → Int32} {dep : Nat} {w : Bool} {p0 : Int32} {p1 : Int32} {M : im_M} {Q : im_M → Prop} (hM : lw_S w M) (h : ed (f_HPen_drawSquare w p0 p1 M) Q) : ia (tb_G L xs) (dep + 3) J_HPen_drawSquare (rwV w Q) (0, lv_args 0 [.ref 56, .int p0, .int p1], [], M) := by
  have hS : im_St (tb_G L xs) (dep + 3) J_HPen_drawSquare (ia (tb_G L xs) (dep + 3) J_HPen_drawSquare (rwV w Q)) := ia_St
  unfold f_HPen_drawSquare at h
  have l0 : im_lk (lv_args 0 [.ref 56, .int p0, .int p1]) 0 = some (.ref 56) := rfl
  have l1 : im_lk (lv_args 0 [.ref 56, .int p0, .int p1]) 1 = some (.int p0) := rfl
  have l2 : im_lk (lv_args 0 [.ref 56, .int p0, .int p1]) 2 = some (.int p1) := rfl
  refine iq_iconst hS 1 J_HPen_drawSquare_d0 (v := 0) (by decide +kernel) rfl ?_
  refine iq_istore_n hS 2 J_HPen_drawSquare_d1 (by decide) rfl ?_
  obtain ⟨Q1, hQ1, h⟩ := bd1_ed h
  have K1 : ∀ (M2 : im_M) (L' : List (Nat × Value)), lw_S w M2 → Q1 M2 → ia (tb_G L xs) (dep + 3) J_HPen_drawSquare (rwV w Q) (70, L', [], M2) := by
    intro M2 L' hM2  h
    replace h := hQ1 _ h
    exact iq_ret J_HPen_drawSquare_d70 rfl ⟨rfl, hM2, ed_some h⟩
  obtain ⟨r1, hr1, hq1⟩ := h
  obtain ⟨n1, hn1⟩ := lp_n hr1
  have I1 : ∀ (n : Nat) (x3 : Int32) (M4 : im_M) (L' : List (Nat × Value)), lw_S w M4 → im_lk L' 0 = some (.ref 56) → im_lk L' 1 = some (.int p0) → im_lk L' 2 = some (.int p1) → im_lk L' 3 = some (.int x3) → lpn (uc2 (f_HPen_drawSquare_L2 w p0 p1)) n (x3, M4) = some r1 → ia (tb_G L xs) (dep + 3) J_HPen_drawSquare (rwV w Q) (2, L', [], M4) := by
    intro n
    induction n with
    | zero => intro x3 M4 L' hM4 l5 l6 l7 l8 hn; exact (lpn_0 hn).elim
    | succ n ih =>
      intro x3 M4 L' hM4 l5 l6 l7 l8 hn
      have h := lpn_ed2 hn
      unfold f_HPen_drawSquare_L2 at h
      refine iq_iload_n hS 3 J_HPen_drawSquare_d2 l6 rfl ?_
      refine iq_if_eq hS 6 J_HPen_drawSquare_d3 (t := 70) rfl (fun q3 => ?_) rfl (fun q3 => ?_)
      · replace h := ed_pos q3 h
        exact K1 _ _ hM4  (lq_r h hq1)
      · replace h := ed_neg q3 h
        refine iq_iload_n hS 7 J_HPen_drawSquare_d6 l8 rfl ?_
        refine iq_aload_n hS 8 J_HPen_drawSquare_d7 l5 rfl ?_
        refine iq_getR hS 11 J_HPen_drawSquare_d8 lf_6_27 (Or.inl ⟨_, rfl⟩) (ka_56 hM4) (ra_56_2 hM4) rfl ?_
        refine iq_getI hS 14 J_HPen_drawSquare_d11 lf_6_127 (Or.inl rfl) (ka_38 hM4) rfl ?_
        refine iq_icmp_ge hS 17 J_HPen_drawSquare_d14 (t := 70) rfl (fun q14 => ?_) rfl (fun q14 => ?_)
        · replace h := ed_pos q14 h
          exact K1 _ _ hM4  (lq_r h hq1)
        · replace h := ed_neg q14 h
          refine iq_iconst hS 18 J_HPen_drawSquare_d17 (v := 0) (by decide +kernel) rfl ?_
          refine iq_istore hS 20 J_HPen_drawSquare_d18 (by decide) rfl ?_
          obtain ⟨Q9, hQ9, h⟩ := bd1_ed h
          have K9 : ∀ (M10 : im_M) (L' : List (Nat × Value)), lw_S w M10 → im_lk L' 0 = some (.ref 56) → im_lk L' 1 = some (.int p0) → im_lk L' 2 = some (.int p1) → im_lk L' 3 = some (.int x3) → Q9 M10 → ia (tb_G L xs) (dep + 3) J_HPen_drawSquare (rwV w Q) (64, L', [], M10) := by
            intro M10 L' hM10 l11 l12 l13 l14 h
            replace h := hQ9 _ h
            refine iq_iincv hS 67 J_HPen_drawSquare_d64 (c := 1) (by decide +kernel) l14 (by decide) rfl ?_
            refine iq_goto hS J_HPen_drawSquare_d67 (t := 2) rfl ?_
            exact ih _ _ _ hM10 (lk_1r l11 (by decide)) (lk_1i l12 (by decide)) (lk_1i l13 (by decide)) lk_1s (lq_l h)
          obtain ⟨r9, hr9, hq9⟩ := h
          obtain ⟨n9, hn9⟩ := lp_n hr9
          have I9 : ∀ (n : Nat) (x15 : Int32) (M16 : im_M) (L' : List (Nat × Value)), lw_S w M16 → im_lk L' 0 = some (.ref 56) → im_lk L' 1 = some (.int p0) → im_lk L' 2 = some (.int p1) → im_lk L' 3 = some (.int x3) → im_lk L' 4 = some (.int x15) → lpn (uc2 (f_HPen_drawSquare_L20 w p0 p1 x3)) n (x15, M16) = some r9 → ia (tb_G L xs) (dep + 3) J_HPen_drawSquare (rwV w Q) (20, L', [], M16) := by
            intro n
            induction n with
            | zero => intro x15 M16 L' hM16 l17 l18 l19 l20 l21 hn; exact (lpn_0 hn).elim
            | succ n ih =>
              intro x15 M16 L' hM16 l17 l18 l19 l20 l21 hn
              have h := lpn_ed2 hn
              unfold f_HPen_drawSquare_L20 at h
              refine iq_iload hS 22 J_HPen_drawSquare_d20 l21 rfl ?_
              refine iq_aload_n hS 23 J_HPen_drawSquare_d22 l17 rfl ?_
              refine iq_getR hS 26 J_HPen_drawSquare_d23 lf_6_27 (Or.inl ⟨_, rfl⟩) (ka_56 hM16) (ra_56_2 hM16) rfl ?_
              refine iq_getI hS 29 J_HPen_drawSquare_d26 lf_6_127 (Or.inl rfl) (ka_38 hM16) rfl ?_
              refine iq_icmp_ge hS 32 J_HPen_drawSquare_d29 (t := 64) rfl (fun q29 => ?_) rfl (fun q29 => ?_)
              · replace h := ed_pos q29 h
                exact K9 _ _ hM16 l17 l18 l19 l20 (lq_r h hq9)
              · replace h := ed_neg q29 h
                refine iq_aload_n hS 33 J_HPen_drawSquare_d32 l17 rfl ?_
                refine iq_getR hS 36 J_HPen_drawSquare_d33 lf_6_27 (Or.inl ⟨_, rfl⟩) (ka_56 hM16) (ra_56_2 hM16) rfl ?_
                refine iq_iload hS 38 J_HPen_drawSquare_d36 l21 rfl ?_
                refine iq_iload_n hS 39 J_HPen_drawSquare_d38 l20 rfl ?_
                obtain ⟨Q22, hQ22, h⟩ := bd1_ed h
                refine iq_cpI hS 42 J_HPen_drawSquare_d39 rfl (pr_inst (vs := [_, _]) lc_6_130 lT_171 rfl rfl (by decide) (by decide) rfl (Nat.le_of_ble_eq_true rfl) (Nat.le_of_ble_eq_true rfl) (fun _ => Or.inl (pr_b (ka_38 hM16) (by decide) rfl))) (f_HGrid_isDark_ok (dep := dep + 2) hM16 h) rfl ?_
                intro x22 h
                replace h := hQ22 _ h
                obtain ⟨Q23, hQ23, h⟩ := bd1_ed h
                have J23 : ∀ (M25 : im_M) (L' : List (Nat × Value)), lw_S w M25 → im_lk L' 0 = some (.ref 56) → im_lk L' 1 = some (.int p0) → im_lk L' 2 = some (.int p1) → im_lk L' 3 = some (.int x3) → im_lk L' 4 = some (.int x15) → Q23 M25 → ia (tb_G L xs) (dep + 3) J_HPen_drawSquare (rwV w Q) (58, L', [], M25) := by
                  intro M25 L' hM25 l26 l27 l28 l29 l30 h
                  replace h := hQ23 _ h
                  refine iq_iincv hS 61 J_HPen_drawSquare_d58 (c := 1) (by decide +kernel) l30 (by decide) rfl ?_
                  refine iq_goto hS J_HPen_drawSquare_d61 (t := 20) rfl ?_
                  exact ih _ _ _ hM25 (lk_1r l26 (by decide)) (lk_1i l27 (by decide)) (lk_1i l28 (by decide)) (lk_1i l29 (by decide)) lk_1s (lq_l h)
                refine iq_if_eq hS 45 J_HPen_drawSquare_d42 (t := 58) rfl (fun q42 => ?_) rfl (fun q42 => ?_)
                · replace h := ed_pos q42 h
                  exact J23 _ _ hM16 l17 l18 l19 l20 l21 (ed_some h)
                · replace h := ed_neg q42 h
                  refine iq_aload_n hS 46 J_HPen_drawSquare_d45 l17 rfl ?_
                  refine iq_iload_n hS 47 J_HPen_drawSquare_d46 l19 rfl ?_
                  refine iq_iload hS 49 J_HPen_drawSquare_d47 l21 rfl ?_
                  refine iq_imul hS 50 J_HPen_drawSquare_d49 rfl ?_
                  refine iq_iload_n hS 51 J_HPen_drawSquare_d50 l19 rfl ?_
                  refine iq_iload_n hS 52 J_HPen_drawSquare_d51 l20 rfl ?_
                  refine iq_imul hS 53 J_HPen_drawSquare_d52 rfl ?_
                  refine iq_iload_n hS 54 J_HPen_drawSquare_d53 l19 rfl ?_
                  refine iq_iload_n hS 55 J_HPen_drawSquare_d54 l19 rfl ?_
                  obtain ⟨Q24, hQ24, h⟩ := bd1_ed h
                  refine iq_cwV hS 58 J_HPen_drawSquare_d55 rfl (pr_inst (vs := [_, _, _, _]) lc_6_118 lT_112 rfl rfl (by decide) (by decide) rfl (Nat.le_of_ble_eq_true rfl) (Nat.le_of_ble_eq_true rfl) (fun _ => Or.inl (pr_b (ka_56 hM16) (by decide) rfl))) (f_HPen_strike_ok (dep := dep + 0) hM16 h) rfl ?_
                  intro M24 hM24 h
                  replace h := hQ24 _ h
                  exact J23 _ _ hM24 l17 l18 l19 l20 l21 (ed_some h)
          exact I9 n9 _ _ _ hM4 (lk_1r l5 (by decide)) (lk_1i l6 (by decide)) (lk_1i l7 (by decide)) (lk_1i l8 (by decide)) lk_1s hn9
  exact I1 n1 _ _ _ hM (lk_1r l0 (by decide)) (lk_1i l1 (by decide)) (lk_1i l2 (by decide)) lk_1s hn1
theorem f_HPen_drawSquare_fr {w : Bool} {p0 : Int32} {p1 : Int32} {M : im_M} {r : im_M} (h : f_HPen_drawSquare w p0 p1 M = some r) : fr 1610612736 [(28, 3)] M r := by
  replace h : ed (f_HPen_drawSquare w p0 p1 M) (fun x => x = r) := ⟨r, h, rfl⟩
  unfold f_HPen_drawSquare at h
  obtain ⟨Q1, hQ1, h⟩ := bd1_ed h
  have K1 : ∀ (M2 : im_M), fr 1610612736 [(28, 3)] M M2 → Q1 M2 → fr 1610612736 [(28, 3)] M r := by
    intro M2 hM2 h
    replace h := hQ1 _ h
    exact fr_retV h hM2
  obtain ⟨r1, hr1, hq1⟩ := h
  obtain ⟨n1, hn1⟩ := lp_n hr1
  have I1 : ∀ (n : Nat) (x3 : Int32) (M4 : im_M), fr 1610612736 [(28, 3)] M M4 → lpn (uc2 (f_HPen_drawSquare_L2 w p0 p1)) n (x3, M4) = some r1 → fr 1610612736 [(28, 3)] M r := by
    intro n
    induction n with
    | zero => intro x3 M4 hM4 hn; exact (lpn_0 hn).elim
    | succ n ih =>
      intro x3 M4 hM4 hn
      have h := lpn_ed2 hn
      unfold f_HPen_drawSquare_L2 at h
      by_cases q3 : p0 = 0
      · replace h := ed_pos q3 h
        exact K1 _ hM4 (lq_r h hq1)
      · replace h := ed_neg q3 h
        by_cases q14 : (im_i M4 38 1) ≤ x3
        · replace h := ed_pos q14 h
          exact K1 _ hM4 (lq_r h hq1)
        · replace h := ed_neg q14 h
          obtain ⟨Q5, hQ5, h⟩ := bd1_ed h
          have K5 : ∀ (M6 : im_M), fr 1610612736 [(28, 3)] M M6 → Q5 M6 → fr 1610612736 [(28, 3)] M r := by
            intro M6 hM6 h
            replace h := hQ5 _ h
            exact ih _ _ hM6 (lq_l h)
          obtain ⟨r5, hr5, hq5⟩ := h
          obtain ⟨n5, hn5⟩ := lp_n hr5
          have I5 : ∀ (n : Nat) (x7 : Int32) (M8 : im_M), fr 1610612736 [(28, 3)] M M8 → lpn (uc2 (f_HPen_drawSquare_L20 w p0 p1 x3)) n (x7, M8) = some r5 → fr 1610612736 [(28, 3)] M r := by
            intro n
            induction n with
            | zero => intro x7 M8 hM8 hn; exact (lpn_0 hn).elim
            | succ n ih =>
              intro x7 M8 hM8 hn
              have h := lpn_ed2 hn
              unfold f_HPen_drawSquare_L20 at h
              by_cases q29 : (im_i M8 38 1) ≤ x7
              · replace h := ed_pos q29 h
                exact K5 _ hM8 (lq_r h hq5)
              · replace h := ed_neg q29 h
                obtain ⟨Q9, hQ9, h⟩ := bd1_ed h
                obtain ⟨x9, e9, h⟩ := h
                replace h := hQ9 _ h
                obtain ⟨Q10, hQ10, h⟩ := bd1_ed h
                have J10 : ∀ (M12 : im_M), fr 1610612736 [(28, 3)] M M12 → Q10 M12 → fr 1610612736 [(28, 3)] M r := by
                  intro M12 hM12 h
                  replace h := hQ10 _ h
                  exact ih _ _ hM12 (lq_l h)
                by_cases q42 : x9 = 0
                · replace h := ed_pos q42 h
                  exact J10 _ hM8 (ed_some h)
                · replace h := ed_neg q42 h
                  obtain ⟨Q11, hQ11, h⟩ := bd1_ed h
                  obtain ⟨M11, e11, h⟩ := h
                  replace h := hQ11 _ h
                  exact J10 _ (fr_tr (fr_mono (by decide) (by decide +kernel) (f_HPen_strike_fr e11)) hM8) (ed_some h)
          exact I5 n5 _ _ hM4 hn5
  exact I1 n1 _ _ fr_refl hn1
noncomputable def f_HPen_drawFrame (w : Bool) (p0 : Int32) (p1 : Int32) (p2 : Int32) (M : im_M) : Option (im_M) := jn1 (fun (M6 : im_M) => bd1 (f_HSheet_box w (im_i M6 56 5) (im_i M6 56 6) (((im_i M6 56 5) + p0) - 1) (((im_i M6 56 6) + p1) - 1) M6) fun (M10 : im_M) => some M10) fun k1 => if p0 ≤ ((2 : Int32) * p2) then k1 M else if ((2 : Int32) * p2) < p1 then bd1 (f_HSheet_box w (im_i M 56 5) (im_i M 56 6) (((im_i M 56 5) + p0) - 1) (((im_i M 56 6) + p2) - 1) M) fun (M2 : im_M) => bd1 (f_HSheet_box w (im_i M2 56 5) (((im_i M2 56 6) + p1) - p2) (((im_i M2 56 5) + p0) - 1) (((im_i M2 56 6) + p1) - 1) M2) fun (M3 : im_M) => bd1 (f_HSheet_box w (im_i M3 56 5) ((im_i M3 56 6) + p2) (((im_i M3 56 5) + p2) - 1) ((((im_i M3 56 6) + p1) - 1) - p2) M3) fun (M4 : im_M) => bd1 (f_HSheet_box w (((im_i M4 56 5) + p0) - p2) ((im_i M4 56 6) + p2) (((im_i M4 56 5) + p0) - 1) ((((im_i M4 56 6) + p1) - 1) - p2) M4) fun (M5 : im_M) => some M5 else k1 M
theorem J_HPen_drawFrame_d0 : decode J_HPen_drawFrame.2.1 0 = .ok (.iload_n 1, 1) := by decide +kernel
theorem J_HPen_drawFrame_d1 : decode J_HPen_drawFrame.2.1 1 = .ok (.iconst 2, 1) := by decide +kernel
theorem J_HPen_drawFrame_d2 : decode J_HPen_drawFrame.2.1 2 = .ok (.iload_n 3, 1) := by decide +kernel
theorem J_HPen_drawFrame_d3 : decode J_HPen_drawFrame.2.1 3 = .ok (.imul, 1) := by decide +kernel
theorem J_HPen_drawFrame_d4 : decode J_HPen_drawFrame.2.1 4 = .ok (.if_icmp .le 10, 3) := by decide +kernel
theorem J_HPen_drawFrame_d7 : decode J_HPen_drawFrame.2.1 7 = .ok (.iload_n 2, 1) := by decide +kernel
theorem J_HPen_drawFrame_d8 : decode J_HPen_drawFrame.2.1 8 = .ok (.iconst 2, 1) := by decide +kernel
theorem J_HPen_drawFrame_d9 : decode J_HPen_drawFrame.2.1 9 = .ok (.iload_n 3, 1) := by decide +kernel
theorem J_HPen_drawFrame_d10 : decode J_HPen_drawFrame.2.1 10 = .ok (.imul, 1) := by decide +kernel
theorem J_HPen_drawFrame_d11 : decode J_HPen_drawFrame.2.1 11 = .ok (.if_icmp .gt 35, 3) := by decide +kernel
theorem J_HPen_drawFrame_d14 : decode J_HPen_drawFrame.2.1 14 = .ok (.aload_n 0, 1) := by decide +kernel
theorem J_HPen_drawFrame_d15 : decode J_HPen_drawFrame.2.1 15 = .ok (.getfield 19, 3) := by decide +kernel
theorem J_HPen_drawFrame_d18 : decode J_HPen_drawFrame.2.1 18 = .ok (.aload_n 0, 1) := by decide +kernel
theorem J_HPen_drawFrame_d19 : decode J_HPen_drawFrame.2.1 19 = .ok (.getfield 43, 3) := by decide +kernel
theorem J_HPen_drawFrame_d22 : decode J_HPen_drawFrame.2.1 22 = .ok (.aload_n 0, 1) := by decide +kernel
theorem J_HPen_drawFrame_d23 : decode J_HPen_drawFrame.2.1 23 = .ok (.getfield 47, 3) := by decide +kernel
theorem J_HPen_drawFrame_d26 : decode J_HPen_drawFrame.2.1 26 = .ok (.aload_n 0, 1) := by decide +kernel
theorem J_HPen_drawFrame_d27 : decode J_HPen_drawFrame.2.1 27 = .ok (.getfield 43, 3) := by decide +kernel
theorem J_HPen_drawFrame_d30 : decode J_HPen_drawFrame.2.1 30 = .ok (.iload_n 1, 1) := by decide +kernel
theorem J_HPen_drawFrame_d31 : decode J_HPen_drawFrame.2.1 31 = .ok (.iadd, 1) := by decide +kernel
theorem J_HPen_drawFrame_d32 : decode J_HPen_drawFrame.2.1 32 = .ok (.iconst 1, 1) := by decide +kernel
theorem J_HPen_drawFrame_d33 : decode J_HPen_drawFrame.2.1 33 = .ok (.isub, 1) := by decide +kernel
theorem J_HPen_drawFrame_d34 : decode J_HPen_drawFrame.2.1 34 = .ok (.aload_n 0, 1) := by decide +kernel
theorem J_HPen_drawFrame_d35 : decode J_HPen_drawFrame.2.1 35 = .ok (.getfield 47, 3) := by decide +kernel
theorem J_HPen_drawFrame_d38 : decode J_HPen_drawFrame.2.1 38 = .ok (.iload_n 2, 1) := by decide +kernel
theorem J_HPen_drawFrame_d39 : decode J_HPen_drawFrame.2.1 39 = .ok (.iadd, 1) := by decide +kernel
theorem J_HPen_drawFrame_d40 : decode J_HPen_drawFrame.2.1 40 = .ok (.iconst 1, 1) := by decide +kernel
theorem J_HPen_drawFrame_d41 : decode J_HPen_drawFrame.2.1 41 = .ok (.isub, 1) := by decide +kernel
theorem J_HPen_drawFrame_d42 : decode J_HPen_drawFrame.2.1 42 = .ok (.invokevirtual 107, 3) := by decide +kernel
theorem J_HPen_drawFrame_d45 : decode J_HPen_drawFrame.2.1 45 = .ok (.return_, 1) := by decide +kernel
theorem J_HPen_drawFrame_d46 : decode J_HPen_drawFrame.2.1 46 = .ok (.aload_n 0, 1) := by decide +kernel
theorem J_HPen_drawFrame_d47 : decode J_HPen_drawFrame.2.1 47 = .ok (.getfield 19, 3) := by decide +kernel
theorem J_HPen_drawFrame_d50 : decode J_HPen_drawFrame.2.1 50 = .ok (.aload_n 0, 1) := by decide +kernel
theorem J_HPen_drawFrame_d51 : decode J_HPen_drawFrame.2.1 51 = .ok (.getfield 43, 3) := by decide +kernel
theorem J_HPen_drawFrame_d54 : decode J_HPen_drawFrame.2.1 54 = .ok (.aload_n 0, 1) := by decide +kernel
theorem J_HPen_drawFrame_d55 : decode J_HPen_drawFrame.2.1 55 = .ok (.getfield 47, 3) := by decide +kernel
theorem J_HPen_drawFrame_d58 : decode J_HPen_drawFrame.2.1 58 = .ok (.aload_n 0, 1) := by decide +kernel
theorem J_HPen_drawFrame_d59 : decode J_HPen_drawFrame.2.1 59 = .ok (.getfield 43, 3) := by decide +kernel
theorem J_HPen_drawFrame_d62 : decode J_HPen_drawFrame.2.1 62 = .ok (.iload_n 1, 1) := by decide +kernel
theorem J_HPen_drawFrame_d63 : decode J_HPen_drawFrame.2.1 63 = .ok (.iadd, 1) := by decide +kernel
theorem J_HPen_drawFrame_d64 : decode J_HPen_drawFrame.2.1 64 = .ok (.iconst 1, 1) := by decide +kernel
theorem J_HPen_drawFrame_d65 : decode J_HPen_drawFrame.2.1 65 = .ok (.isub, 1) := by decide +kernel
theorem J_HPen_drawFrame_d66 : decode J_HPen_drawFrame.2.1 66 = .ok (.aload_n 0, 1) := by decide +kernel
theorem J_HPen_drawFrame_d67 : decode J_HPen_drawFrame.2.1 67 = .ok (.getfield 47, 3) := by decide +kernel
theorem J_HPen_drawFrame_d70 : decode J_HPen_drawFrame.2.1 70 = .ok (.iload_n 3, 1) := by decide +kernel
theorem J_HPen_drawFrame_d71 : decode J_HPen_drawFrame.2.1 71 = .ok (.iadd, 1) := by decide +kernel
theorem J_HPen_drawFrame_d72 : decode J_HPen_drawFrame.2.1 72 = .ok (.iconst 1, 1) := by decide +kernel
theorem J_HPen_drawFrame_d73 : decode J_HPen_drawFrame.2.1 73 = .ok (.isub, 1) := by decide +kernel
theorem J_HPen_drawFrame_d74 : decode J_HPen_drawFrame.2.1 74 = .ok (.invokevirtual 107, 3) := by decide +kernel
theorem J_HPen_drawFrame_d77 : decode J_HPen_drawFrame.2.1 77 = .ok (.aload_n 0, 1) := by decide +kernel
theorem J_HPen_drawFrame_d78 : decode J_HPen_drawFrame.2.1 78 = .ok (.getfield 19, 3) := by decide +kernel
theorem J_HPen_drawFrame_d81 : decode J_HPen_drawFrame.2.1 81 = .ok (.aload_n 0, 1) := by decide +kernel
theorem J_HPen_drawFrame_d82 : decode J_HPen_drawFrame.2.1 82 = .ok (.getfield 43, 3) := by decide +kernel
theorem J_HPen_drawFrame_d85 : decode J_HPen_drawFrame.2.1 85 = .ok (.aload_n 0, 1) := by decide +kernel
theorem J_HPen_drawFrame_d86 : decode J_HPen_drawFrame.2.1 86 = .ok (.getfield 47, 3) := by decide +kernel
theorem J_HPen_drawFrame_d89 : decode J_HPen_drawFrame.2.1 89 = .ok (.iload_n 2, 1) := by decide +kernel
theorem J_HPen_drawFrame_d90 : decode J_HPen_drawFrame.2.1 90 = .ok (.iadd, 1) := by decide +kernel
theorem J_HPen_drawFrame_d91 : decode J_HPen_drawFrame.2.1 91 = .ok (.iload_n 3, 1) := by decide +kernel
theorem J_HPen_drawFrame_d92 : decode J_HPen_drawFrame.2.1 92 = .ok (.isub, 1) := by decide +kernel
theorem J_HPen_drawFrame_d93 : decode J_HPen_drawFrame.2.1 93 = .ok (.aload_n 0, 1) := by decide +kernel
theorem J_HPen_drawFrame_d94 : decode J_HPen_drawFrame.2.1 94 = .ok (.getfield 43, 3) := by decide +kernel
theorem J_HPen_drawFrame_d97 : decode J_HPen_drawFrame.2.1 97 = .ok (.iload_n 1, 1) := by decide +kernel
theorem J_HPen_drawFrame_d98 : decode J_HPen_drawFrame.2.1 98 = .ok (.iadd, 1) := by decide +kernel
theorem J_HPen_drawFrame_d99 : decode J_HPen_drawFrame.2.1 99 = .ok (.iconst 1, 1) := by decide +kernel
theorem J_HPen_drawFrame_d100 : decode J_HPen_drawFrame.2.1 100 = .ok (.isub, 1) := by decide +kernel
theorem J_HPen_drawFrame_d101 : decode J_HPen_drawFrame.2.1 101 = .ok (.aload_n 0, 1) := by decide +kernel
theorem J_HPen_drawFrame_d102 : decode J_HPen_drawFrame.2.1 102 = .ok (.getfield 47, 3) := by decide +kernel
theorem J_HPen_drawFrame_d105 : decode J_HPen_drawFrame.2.1 105 = .ok (.iload_n 2, 1) := by decide +kernel
theorem J_HPen_drawFrame_d106 : decode J_HPen_drawFrame.2.1 106 = .ok (.iadd, 1) := by decide +kernel
theorem J_HPen_drawFrame_d107 : decode J_HPen_drawFrame.2.1 107 = .ok (.iconst 1, 1) := by decide +kernel
theorem J_HPen_drawFrame_d108 : decode J_HPen_drawFrame.2.1 108 = .ok (.isub, 1) := by decide +kernel
theorem J_HPen_drawFrame_d109 : decode J_HPen_drawFrame.2.1 109 = .ok (.invokevirtual 107, 3) := by decide +kernel
theorem J_HPen_drawFrame_d112 : decode J_HPen_drawFrame.2.1 112 = .ok (.aload_n 0, 1) := by decide +kernel
theorem J_HPen_drawFrame_d113 : decode J_HPen_drawFrame.2.1 113 = .ok (.getfield 19, 3) := by decide +kernel
theorem J_HPen_drawFrame_d116 : decode J_HPen_drawFrame.2.1 116 = .ok (.aload_n 0, 1) := by decide +kernel
theorem J_HPen_drawFrame_d117 : decode J_HPen_drawFrame.2.1 117 = .ok (.getfield 43, 3) := by decide +kernel
theorem J_HPen_drawFrame_d120 : decode J_HPen_drawFrame.2.1 120 = .ok (.aload_n 0, 1) := by decide +kernel
theorem J_HPen_drawFrame_d121 : decode J_HPen_drawFrame.2.1 121 = .ok (.getfield 47, 3) := by decide +kernel
theorem J_HPen_drawFrame_d124 : decode J_HPen_drawFrame.2.1 124 = .ok (.iload_n 3, 1) := by decide +kernel
theorem J_HPen_drawFrame_d125 : decode J_HPen_drawFrame.2.1 125 = .ok (.iadd, 1) := by decide +kernel
theorem J_HPen_drawFrame_d126 : decode J_HPen_drawFrame.2.1 126 = .ok (.aload_n 0, 1) := by decide +kernel
theorem J_HPen_drawFrame_d127 : decode J_HPen_drawFrame.2.1 127 = .ok (.getfield 43, 3) := by decide +kernel
theorem J_HPen_drawFrame_d130 : decode J_HPen_drawFrame.2.1 130 = .ok (.iload_n 3, 1) := by decide +kernel
theorem J_HPen_drawFrame_d131 : decode J_HPen_drawFrame.2.1 131 = .ok (.iadd, 1) := by decide +kernel
theorem J_HPen_drawFrame_d132 : decode J_HPen_drawFrame.2.1 132 = .ok (.iconst 1, 1) := by decide +kernel
theorem J_HPen_drawFrame_d133 : decode J_HPen_drawFrame.2.1 133 = .ok (.isub, 1) := by decide +kernel
theorem J_HPen_drawFrame_d134 : decode J_HPen_drawFrame.2.1 134 = .ok (.aload_n 0, 1) := by decide +kernel
theorem J_HPen_drawFrame_d135 : decode J_HPen_drawFrame.2.1 135 = .ok (.getfield 47, 3) := by decide +kernel
theorem J_HPen_drawFrame_d138 : decode J_HPen_drawFrame.2.1 138 = .ok (.iload_n 2, 1) := by decide +kernel
theorem J_HPen_drawFrame_d139 : decode J_HPen_drawFrame.2.1 139 = .ok (.iadd, 1) := by decide +kernel
theorem J_HPen_drawFrame_d140 : decode J_HPen_drawFrame.2.1 140 = .ok (.iconst 1, 1) := by decide +kernel
theorem J_HPen_drawFrame_d141 : decode J_HPen_drawFrame.2.1 141 = .ok (.isub, 1) := by decide +kernel
theorem J_HPen_drawFrame_d142 : decode J_HPen_drawFrame.2.1 142 = .ok (.iload_n 3, 1) := by decide +kernel
theorem J_HPen_drawFrame_d143 : decode J_HPen_drawFrame.2.1 143 = .ok (.isub, 1) := by decide +kernel
theorem J_HPen_drawFrame_d144 : decode J_HPen_drawFrame.2.1 144 = .ok (.invokevirtual 107, 3) := by decide +kernel
theorem J_HPen_drawFrame_d147 : decode J_HPen_drawFrame.2.1 147 = .ok (.aload_n 0, 1) := by decide +kernel
theorem J_HPen_drawFrame_d148 : decode J_HPen_drawFrame.2.1 148 = .ok (.getfield 19, 3) := by decide +kernel
theorem J_HPen_drawFrame_d151 : decode J_HPen_drawFrame.2.1 151 = .ok (.aload_n 0, 1) := by decide +kernel
theorem J_HPen_drawFrame_d152 : decode J_HPen_drawFrame.2.1 152 = .ok (.getfield 43, 3) := by decide +kernel
theorem J_HPen_drawFrame_d155 : decode J_HPen_drawFrame.2.1 155 = .ok (.iload_n 1, 1) := by decide +kernel
theorem J_HPen_drawFrame_d156 : decode J_HPen_drawFrame.2.1 156 = .ok (.iadd, 1) := by decide +kernel
theorem J_HPen_drawFrame_d157 : decode J_HPen_drawFrame.2.1 157 = .ok (.iload_n 3, 1) := by decide +kernel
theorem J_HPen_drawFrame_d158 : decode J_HPen_drawFrame.2.1 158 = .ok (.isub, 1) := by decide +kernel
theorem J_HPen_drawFrame_d159 : decode J_HPen_drawFrame.2.1 159 = .ok (.aload_n 0, 1) := by decide +kernel
theorem J_HPen_drawFrame_d160 : decode J_HPen_drawFrame.2.1 160 = .ok (.getfield 47, 3) := by decide +kernel
theorem J_HPen_drawFrame_d163 : decode J_HPen_drawFrame.2.1 163 = .ok (.iload_n 3, 1) := by decide +kernel
theorem J_HPen_drawFrame_d164 : decode J_HPen_drawFrame.2.1 164 = .ok (.iadd, 1) := by decide +kernel
theorem J_HPen_drawFrame_d165 : decode J_HPen_drawFrame.2.1 165 = .ok (.aload_n 0, 1) := by decide +kernel
theorem J_HPen_drawFrame_d166 : decode J_HPen_drawFrame.2.1 166 = .ok (.getfield 43, 3) := by decide +kernel
theorem J_HPen_drawFrame_d169 : decode J_HPen_drawFrame.2.1 169 = .ok (.iload_n 1, 1) := by decide +kernel
theorem J_HPen_drawFrame_d170 : decode J_HPen_drawFrame.2.1 170 = .ok (.iadd, 1) := by decide +kernel
theorem J_HPen_drawFrame_d171 : decode J_HPen_drawFrame.2.1 171 = .ok (.iconst 1, 1) := by decide +kernel
theorem J_HPen_drawFrame_d172 : decode J_HPen_drawFrame.2.1 172 = .ok (.isub, 1) := by decide +kernel
theorem J_HPen_drawFrame_d173 : decode J_HPen_drawFrame.2.1 173 = .ok (.aload_n 0, 1) := by decide +kernel
theorem J_HPen_drawFrame_d174 : decode J_HPen_drawFrame.2.1 174 = .ok (.getfield 47, 3) := by decide +kernel
theorem J_HPen_drawFrame_d177 : decode J_HPen_drawFrame.2.1 177 = .ok (.iload_n 2, 1) := by decide +kernel
theorem J_HPen_drawFrame_d178 : decode J_HPen_drawFrame.2.1 178 = .ok (.iadd, 1) := by decide +kernel
theorem J_HPen_drawFrame_d179 : decode J_HPen_drawFrame.2.1 179 = .ok (.iconst 1, 1) := by decide +kernel
theorem J_HPen_drawFrame_d180 : decode J_HPen_drawFrame.2.1 180 = .ok (.isub, 1) := by decide +kernel
theorem J_HPen_drawFrame_d181 : decode J_HPen_drawFrame.2.1 181 = .ok (.iload_n 3, 1) := by decide +kernel
theorem J_HPen_drawFrame_d182 : decode J_HPen_drawFrame.2.1 182 = .ok (.isub, 1) := by decide +kernel
theorem J_HPen_drawFrame_d183 : decode J_HPen_drawFrame.2.1 183 = .ok (.invokevirtual 107, 3) := by decide +kernel
theorem J_HPen_drawFrame_d186 : decode J_HPen_drawFrame.2.1 186 = .ok (.return_, 1) := by decide +kernel
theorem f_HPen_drawFrame_ok {L : Nat} {xs : Nat → Int32} {dep : Nat} {w : Bool} {p0 : Int32} {p1 : Int32} {p2 : Int32} {M : im_M} {Q : im_M → Prop} (hM : lw_S w M) (h : ed (f_HPen_drawFrame w p0 p1 p2 M) Q) : ia (tb_G L xs) (dep + 2) J_HPen_drawFrame (rwV w Q) (0, lv_args 0 [.ref 56, .int p0, .int p1, .int p2], [], M) := by
  have hS : im_St (tb_G L xs) (dep + 2) J_HPen_drawFrame (ia (tb_G L xs) (dep + 2) J_HPen_drawFrame (rwV w Q)) := ia_St
  unfold f_HPen_drawFrame at h
  have l0 : im_lk (lv_args 0 [.ref 56, .int p0, .int p1, .int p2]) 0 = some (.ref 56) := rfl
  have l1 : im_lk (lv_args 0 [.ref 56, .int p0, .int p1, .int p2]) 1 = some (.int p0) := rfl
  have l2 : im_lk (lv_args 0 [.ref 56, .int p0, .int p1, .int p2]) 2 = some (.int p1) := rfl
  have l3 : im_lk (lv_args 0 [.ref 56, .int p0, .int p1, .int p2]) 3 = some (.int p2) := rfl
  refine iq_iload_n hS 1 J_HPen_drawFrame_d0 l1 rfl ?_
  refine iq_iconst hS 2 J_HPen_drawFrame_d1 (v := 2) (by decide +kernel) rfl ?_
  refine iq_iload_n hS 3 J_HPen_drawFrame_d2 l3 rfl ?_
  refine iq_imul hS 4 J_HPen_drawFrame_d3 rfl ?_
  obtain ⟨k1, Q1, hQ1, hk1, h⟩ := jn1_ed h
  have J1 : ∀ (M6 : im_M) (L' : List (Nat × Value)), lw_S w M6 → im_lk L' 0 = some (.ref 56) → im_lk L' 1 = some (.int p0) → im_lk L' 2 = some (.int p1) → Q1 M6 → ia (tb_G L xs) (dep + 2) J_HPen_drawFrame (rwV w Q) (14, L', [], M6) := by
    intro M6 L' hM6 l7 l8 l9 h
    replace h := hQ1 _ h
    refine iq_aload_n hS 15 J_HPen_drawFrame_d14 l7 rfl ?_
    refine iq_getR hS 18 J_HPen_drawFrame_d15 lf_6_19 (Or.inl ⟨_, rfl⟩) (ka_56 hM6) (ra_56_0 hM6) rfl ?_
    refine iq_aload_n hS 19 J_HPen_drawFrame_d18 l7 rfl ?_
    refine iq_getI hS 22 J_HPen_drawFrame_d19 lf_6_43 (Or.inl rfl) (ka_56 hM6) rfl ?_
    refine iq_aload_n hS 23 J_HPen_drawFrame_d22 l7 rfl ?_
    refine iq_getI hS 26 J_HPen_drawFrame_d23 lf_6_47 (Or.inl rfl) (ka_56 hM6) rfl ?_
    refine iq_aload_n hS 27 J_HPen_drawFrame_d26 l7 rfl ?_
    refine iq_getI hS 30 J_HPen_drawFrame_d27 lf_6_43 (Or.inl rfl) (ka_56 hM6) rfl ?_
    refine iq_iload_n hS 31 J_HPen_drawFrame_d30 l8 rfl ?_
    refine iq_iadd hS 32 J_HPen_drawFrame_d31 rfl ?_
    refine iq_iconst hS 33 J_HPen_drawFrame_d32 (v := 1) (by decide +kernel) rfl ?_
    refine iq_isub hS 34 J_HPen_drawFrame_d33 rfl ?_
    refine iq_aload_n hS 35 J_HPen_drawFrame_d34 l7 rfl ?_
    refine iq_getI hS 38 J_HPen_drawFrame_d35 lf_6_47 (Or.inl rfl) (ka_56 hM6) rfl ?_
    refine iq_iload_n hS 39 J_HPen_drawFrame_d38 l9 rfl ?_
    refine iq_iadd hS 40 J_HPen_drawFrame_d39 rfl ?_
    refine iq_iconst hS 41 J_HPen_drawFrame_d40 (v := 1) (by decide +kernel) rfl ?_
    refine iq_isub hS 42 J_HPen_drawFrame_d41 rfl ?_
    obtain ⟨Q10, hQ10, h⟩ := bd1_ed h
    refine iq_cwV hS 45 J_HPen_drawFrame_d42 rfl (pr_inst (vs := [_, _, _, _]) lc_6_107 lT_113 rfl rfl (by decide) (by decide) rfl (Nat.le_of_ble_eq_true rfl) (Nat.le_of_ble_eq_true rfl) (fun _ => Or.inl (pr_b (ka_28 hM6) (by decide) rfl))) (f_HSheet_box_ok (dep := dep + 0) hM6 h) rfl ?_
    intro M10 hM10 h
    replace h := hQ10 _ h
    exact iq_ret J_HPen_drawFrame_d45 rfl ⟨rfl, hM10, ed_some h⟩
  refine iq_icmp_le hS 7 J_HPen_drawFrame_d4 (t := 14) rfl (fun q4 => ?_) rfl (fun q4 => ?_)
  · replace h := ed_pos q4 h
    exact J1 _ _ hM l0 l1 l2 (hk1 _ h)
  · replace h := ed_neg q4 h
    refine iq_iload_n hS 8 J_HPen_drawFrame_d7 l2 rfl ?_
    refine iq_iconst hS 9 J_HPen_drawFrame_d8 (v := 2) (by decide +kernel) rfl ?_
    refine iq_iload_n hS 10 J_HPen_drawFrame_d9 l3 rfl ?_
    refine iq_imul hS 11 J_HPen_drawFrame_d10 rfl ?_
    refine iq_icmp_gt hS 14 J_HPen_drawFrame_d11 (t := 46) rfl (fun q11 => ?_) rfl (fun q11 => ?_)
    · replace h := ed_pos q11 h
      refine iq_aload_n hS 47 J_HPen_drawFrame_d46 l0 rfl ?_
      refine iq_getR hS 50 J_HPen_drawFrame_d47 lf_6_19 (Or.inl ⟨_, rfl⟩) (ka_56 hM) (ra_56_0 hM) rfl ?_
      refine iq_aload_n hS 51 J_HPen_drawFrame_d50 l0 rfl ?_
      refine iq_getI hS 54 J_HPen_drawFrame_d51 lf_6_43 (Or.inl rfl) (ka_56 hM) rfl ?_
      refine iq_aload_n hS 55 J_HPen_drawFrame_d54 l0 rfl ?_
      refine iq_getI hS 58 J_HPen_drawFrame_d55 lf_6_47 (Or.inl rfl) (ka_56 hM) rfl ?_
      refine iq_aload_n hS 59 J_HPen_drawFrame_d58 l0 rfl ?_
      refine iq_getI hS 62 J_HPen_drawFrame_d59 lf_6_43 (Or.inl rfl) (ka_56 hM) rfl ?_
      refine iq_iload_n hS 63 J_HPen_drawFrame_d62 l1 rfl ?_
      refine iq_iadd hS 64 J_HPen_drawFrame_d63 rfl ?_
      refine iq_iconst hS 65 J_HPen_drawFrame_d64 (v := 1) (by decide +kernel) rfl ?_
      refine iq_isub hS 66 J_HPen_drawFrame_d65 rfl ?_
      refine iq_aload_n hS 67 J_HPen_drawFrame_d66 l0 rfl ?_
      refine iq_getI hS 70 J_HPen_drawFrame_d67 lf_6_47 (Or.inl rfl) (ka_56 hM) rfl ?_
      refine iq_iload_n hS 71 J_HPen_drawFrame_d70 l3 rfl ?_
      refine iq_iadd hS 72 J_HPen_drawFrame_d71 rfl ?_
      refine iq_iconst hS 73 J_HPen_drawFrame_d72 (v := 1) (by decide +kernel) rfl ?_
      refine iq_isub hS 74 J_HPen_drawFrame_d73 rfl ?_
      obtain ⟨Q2, hQ2, h⟩ := bd1_ed h
      refine iq_cwV hS 77 J_HPen_drawFrame_d74 rfl (pr_inst (vs := [_, _, _, _]) lc_6_107 lT_113 rfl rfl (by decide) (by decide) rfl (Nat.le_of_ble_eq_true rfl) (Nat.le_of_ble_eq_true rfl) (fun _ => Or.inl (pr_b (ka_28 hM) (by decide) rfl))) (f_HSheet_box_ok (dep := dep + 0) hM h) rfl ?_
      intro M2 hM2 h
      replace h := hQ2 _ h
      refine iq_aload_n hS 78 J_HPen_drawFrame_d77 l0 rfl ?_
      refine iq_getR hS 81 J_HPen_drawFrame_d78 lf_6_19 (Or.inl ⟨_, rfl⟩) (ka_56 hM2) (ra_56_0 hM2) rfl ?_
      refine iq_aload_n hS 82 J_HPen_drawFrame_d81 l0 rfl ?_
      refine iq_getI hS 85 J_HPen_drawFrame_d82 lf_6_43 (Or.inl rfl) (ka_56 hM2) rfl ?_
      refine iq_aload_n hS 86 J_HPen_drawFrame_d85 l0 rfl ?_
      refine iq_getI hS 89 J_HPen_drawFrame_d86 lf_6_47 (Or.inl rfl) (ka_56 hM2) rfl ?_
      refine iq_iload_n hS 90 J_HPen_drawFrame_d89 l2 rfl ?_
      refine iq_iadd hS 91 J_HPen_drawFrame_d90 rfl ?_
      refine iq_iload_n hS 92 J_HPen_drawFrame_d91 l3 rfl ?_
      refine iq_isub hS 93 J_HPen_drawFrame_d92 rfl ?_
      refine iq_aload_n hS 94 J_HPen_drawFrame_d93 l0 rfl ?_
      refine iq_getI hS 97 J_HPen_drawFrame_d94 lf_6_43 (Or.inl rfl) (ka_56 hM2) rfl ?_
      refine iq_iload_n hS 98 J_HPen_drawFrame_d97 l1 rfl ?_
      refine iq_iadd hS 99 J_HPen_drawFrame_d98 rfl ?_
      refine iq_iconst hS 100 J_HPen_drawFrame_d99 (v := 1) (by decide +kernel) rfl ?_
      refine iq_isub hS 101 J_HPen_drawFrame_d100 rfl ?_
      refine iq_aload_n hS 102 J_HPen_drawFrame_d101 l0 rfl ?_
      refine iq_getI hS 105 J_HPen_drawFrame_d102 lf_6_47 (Or.inl rfl) (ka_56 hM2) rfl ?_
      refine iq_iload_n hS 106 J_HPen_drawFrame_d105 l2 rfl ?_
      refine iq_iadd hS 107 J_HPen_drawFrame_d106 rfl ?_
      refine iq_iconst hS 108 J_HPen_drawFrame_d107 (v := 1) (by decide +kernel) rfl ?_
      refine iq_isub hS 109 J_HPen_drawFrame_d108 rfl ?_
      obtain ⟨Q3, hQ3, h⟩ := bd1_ed h
      refine iq_cwV hS 112 J_HPen_drawFrame_d109 rfl (pr_inst (vs := [_, _, _, _]) lc_6_107 lT_113 rfl rfl (by decide) (by decide) rfl (Nat.le_of_ble_eq_true rfl) (Nat.le_of_ble_eq_true rfl) (fun _ => Or.inl (pr_b (ka_28 hM2) (by decide) rfl))) (f_HSheet_box_ok (dep := dep + 0) hM2 h) rfl ?_
      intro M3 hM3 h
      replace h := hQ3 _ h
      refine iq_aload_n hS 113 J_HPen_drawFrame_d112 l0 rfl ?_
      refine iq_getR hS 116 J_HPen_drawFrame_d113 lf_6_19 (Or.inl ⟨_, rfl⟩) (ka_56 hM3) (ra_56_0 hM3) rfl ?_
      refine iq_aload_n hS 117 J_HPen_drawFrame_d116 l0 rfl ?_
      refine iq_getI hS 120 J_HPen_drawFrame_d117 lf_6_43 (Or.inl rfl) (ka_56 hM3) rfl ?_
      refine iq_aload_n hS 121 J_HPen_drawFrame_d120 l0 rfl ?_
      refine iq_getI hS 124 J_HPen_drawFrame_d121 lf_6_47 (Or.inl rfl) (ka_56 hM3) rfl ?_
      refine iq_iload_n hS 125 J_HPen_drawFrame_d124 l3 rfl ?_
      refine iq_iadd hS 126 J_HPen_drawFrame_d125 rfl ?_
      refine iq_aload_n hS 127 J_HPen_drawFrame_d126 l0 rfl ?_
      refine iq_getI hS 130 J_HPen_drawFrame_d127 lf_6_43 (Or.inl rfl) (ka_56 hM3) rfl ?_
      refine iq_iload_n hS 131 J_HPen_drawFrame_d130 l3 rfl ?_
      refine iq_iadd hS 132 J_HPen_drawFrame_d131 rfl ?_
      refine iq_iconst hS 133 J_HPen_drawFrame_d132 (v := 1) (by decide +kernel) rfl ?_
      refine iq_isub hS 134 J_HPen_drawFrame_d133 rfl ?_
      refine iq_aload_n hS 135 J_HPen_drawFrame_d134 l0 rfl ?_
      refine iq_getI hS 138 J_HPen_drawFrame_d135 lf_6_47 (Or.inl rfl) (ka_56 hM3) rfl ?_
      refine iq_iload_n hS 139 J_HPen_drawFrame_d138 l2 rfl ?_
      refine iq_iadd hS 140 J_HPen_drawFrame_d139 rfl ?_
      refine iq_iconst hS 141 J_HPen_drawFrame_d140 (v := 1) (by decide +kernel) rfl ?_
      refine iq_isub hS 142 J_HPen_drawFrame_d141 rfl ?_
      refine iq_iload_n hS 143 J_HPen_drawFrame_d142 l3 rfl ?_
      refine iq_isub hS 144 J_HPen_drawFrame_d143 rfl ?_
      obtain ⟨Q4, hQ4, h⟩ := bd1_ed h
      refine iq_cwV hS 147 J_HPen_drawFrame_d144 rfl (pr_inst (vs := [_, _, _, _]) lc_6_107 lT_113 rfl rfl (by decide) (by decide) rfl (Nat.le_of_ble_eq_true rfl) (Nat.le_of_ble_eq_true rfl) (fun _ => Or.inl (pr_b (ka_28 hM3) (by decide) rfl))) (f_HSheet_box_ok (dep := dep + 0) hM3 h) rfl ?_
      intro M4 hM4 h
      replace h := hQ4 _ h
      refine iq_aload_n hS 148 J_HPen_drawFrame_d147 l0 rfl ?_
      refine iq_getR hS 151 J_HPen_drawFrame_d148 lf_6_19 (Or.inl ⟨_, rfl⟩) (ka_56 hM4) (ra_56_0 hM4) rfl ?_
      refine iq_aload_n hS 152 J_HPen_drawFrame_d151 l0 rfl ?_
      refine iq_getI hS 155 J_HPen_drawFrame_d152 lf_6_43 (Or.inl rfl) (ka_56 hM4) rfl ?_
      refine iq_iload_n hS 156 J_HPen_drawFrame_d155 l1 rfl ?_
      refine iq_iadd hS 157 J_HPen_drawFrame_d156 rfl ?_
      refine iq_iload_n hS 158 J_HPen_drawFrame_d157 l3 rfl ?_
      refine iq_isub hS 159 J_HPen_drawFrame_d158 rfl ?_
      refine iq_aload_n hS 160 J_HPen_drawFrame_d159 l0 rfl ?_
      refine iq_getI hS 163 J_HPen_drawFrame_d160 lf_6_47 (Or.inl rfl) (ka_56 hM4) rfl ?_
      refine iq_iload_n hS 164 J_HPen_drawFrame_d163 l3 rfl ?_
      refine iq_iadd hS 165 J_HPen_drawFrame_d164 rfl ?_
      refine iq_aload_n hS 166 J_HPen_drawFrame_d165 l0 rfl ?_
      refine iq_getI hS 169 J_HPen_drawFrame_d166 lf_6_43 (Or.inl rfl) (ka_56 hM4) rfl ?_
      refine iq_iload_n hS 170 J_HPen_drawFrame_d169 l1 rfl ?_
      refine iq_iadd hS 171 J_HPen_drawFrame_d170 rfl ?_
      refine iq_iconst hS 172 J_HPen_drawFrame_d171 (v := 1) (by decide +kernel) rfl ?_
      refine iq_isub hS 173 J_HPen_drawFrame_d172 rfl ?_
      refine iq_aload_n hS 174 J_HPen_drawFrame_d173 l0 rfl ?_
      refine iq_getI hS 177 J_HPen_drawFrame_d174 lf_6_47 (Or.inl rfl) (ka_56 hM4) rfl ?_
      refine iq_iload_n hS 178 J_HPen_drawFrame_d177 l2 rfl ?_
      refine iq_iadd hS 179 J_HPen_drawFrame_d178 rfl ?_
      refine iq_iconst hS 180 J_HPen_drawFrame_d179 (v := 1) (by decide +kernel) rfl ?_
      refine iq_isub hS 181 J_HPen_drawFrame_d180 rfl ?_
      refine iq_iload_n hS 182 J_HPen_drawFrame_d181 l3 rfl ?_
      refine iq_isub hS 183 J_HPen_drawFrame_d182 rfl ?_
      obtain ⟨Q5, hQ5, h⟩ := bd1_ed h
      refine iq_cwV hS 186 J_HPen_drawFrame_d183 rfl (pr_inst (vs := [_, _, _, _]) lc_6_107 lT_113 rfl rfl (by decide) (by decide) rfl (Nat.le_of_ble_eq_true rfl) (Nat.le_of_ble_eq_true rfl) (fun _ => Or.inl (pr_b (ka_28 hM4) (by decide) rfl))) (f_HSheet_box_ok (dep := dep + 0) hM4 h) rfl ?_
      intro M5 hM5 h
      replace h := hQ5 _ h
      exact iq_ret J_HPen_drawFrame_d186 rfl ⟨rfl, hM5, ed_some h⟩
    · replace h := ed_neg q11 h
      exact J1 _ _ hM l0 l1 l2 (hk1 _ h)
theorem f_HPen_drawFrame_fr {w : Bool} {p0 : Int32} {p1 : Int32} {p2 : Int32} {M : im_M} {r : im_M} (h : f_HPen_drawFrame w p0 p1 p2 M = some r) : fr 1610612736 [(28, 3)] M r := by
  replace h : ed (f_HPen_drawFrame w p0 p1 p2 M) (fun x => x = r) := ⟨r, h, rfl⟩
  unfold f_HPen_drawFrame at h
  obtain ⟨k1, Q1, hQ1, hk1, h⟩ := jn1_ed h
  have J1 : ∀ (M6 : im_M), fr 1610612736 [(28, 3)] M M6 → Q1 M6 → fr 1610612736 [(28, 3)] M r := by
    intro M6 hM6 h
    replace h := hQ1 _ h
    obtain ⟨Q10, hQ10, h⟩ := bd1_ed h
    obtain ⟨M10, e10, h⟩ := h
    replace h := hQ10 _ h
    exact fr_retV h (fr_tr (fr_mono (by decide) (by decide +kernel) (f_HSheet_box_fr e10)) hM6)
  by_cases q4 : p0 ≤ ((2 : Int32) * p2)
  · replace h := ed_pos q4 h
    exact J1 _ fr_refl (hk1 _ h)
  · replace h := ed_neg q4 h
    by_cases q11 : ((2 : Int32) * p2) < p1
    · replace h := ed_pos q11 h
      obtain ⟨Q2, hQ2, h⟩ := bd1_ed h
      obtain ⟨M2, e2, h⟩ := h
      replace h := hQ2 _ h
      obtain ⟨Q3, hQ3, h⟩ := bd1_ed h
      obtain ⟨M3, e3, h⟩ := h
      replace h := hQ3 _ h
      obtain ⟨Q4, hQ4, h⟩ := bd1_ed h
      obtain ⟨M4, e4, h⟩ := h
      replace h := hQ4 _ h
      obtain ⟨Q5, hQ5, h⟩ := bd1_ed h
      obtain ⟨M5, e5, h⟩ := h
      replace h := hQ5 _ h
      exact fr_retV h (fr_tr (fr_mono (by decide) (by decide +kernel) (f_HSheet_box_fr e5)) (fr_tr (fr_mono (by decide) (by decide +kernel) (f_HSheet_box_fr e4)) (fr_tr (fr_mono (by decide) (by decide +kernel) (f_HSheet_box_fr e3)) (fr_tr (fr_mono (by decide) (by decide +kernel) (f_HSheet_box_fr e2)) fr_refl))))
    · replace h := ed_neg q11 h
      exact J1 _ fr_refl (hk1 _ h)
noncomputable def f_HPen_indent_L13 (v2 : Int32) (v3 : Int32) (v4 : Int32) (v5 : Int64) (M9 : im_M) (x6 : Int32) (x7 : Int32) (x8 : Int32) : Option ((Int32 × Int32 × Int32) ⊕ (Int32)) := if 12 ≤ x8 then some (.inr x6) else if x7 ≤ x6 then some (.inr x6) else some (.inl (((if 0 < (lg_cmp (((((((2 : Int64) * (Int32.toInt64 ((x6 + x7) / 2))) - (Int32.toInt64 (v2 - 1))) * (Int32.toInt64 v4)) * (((2 : Int64) * (Int32.toInt64 ((x6 + x7) / 2))) - (Int32.toInt64 (v2 - 1)))) * (Int32.toInt64 v4)) + (((v5 * (Int32.toInt64 v3)) * v5) * (Int32.toInt64 v3))) ((((Int32.toInt64 v3) * (Int32.toInt64 v4)) * (Int32.toInt64 v3)) * (Int32.toInt64 v4))) then (((x6 + x7) / 2) + 1) else x6) : Int32), ((if 0 < (lg_cmp (((((((2 : Int64) * (Int32.toInt64 ((x6 + x7) / 2))) - (Int32.toInt64 (v2 - 1))) * (Int32.toInt64 v4)) * (((2 : Int64) * (Int32.toInt64 ((x6 + x7) / 2))) - (Int32.toInt64 (v2 - 1)))) * (Int32.toInt64 v4)) + (((v5 * (Int32.toInt64 v3)) * v5) * (Int32.toInt64 v3))) ((((Int32.toInt64 v3) * (Int32.toInt64 v4)) * (Int32.toInt64 v3)) * (Int32.toInt64 v4))) then x7 else ((x6 + x7) / 2)) : Int32), (x8 + 1)))
noncomputable def f_HPen_indent (p0 : Int32) (p1 : Int32) (p2 : Int32) (p3 : Int64) (M : im_M) : Option (Int32) := bd1 (lp (uc3 (f_HPen_indent_L13 p0 p1 p2 p3 M)) (0, ((p0 + 1) / 2), 0)) fun (y11 : Int32) => if ¬ y11 = ((p0 + 1) / 2) then some y11 else some (-1)
theorem J_HPen_indent_d0 : decode J_HPen_indent.2.1 0 = .ok (.iconst 0, 1) := by decide +kernel
theorem J_HPen_indent_d1 : decode J_HPen_indent.2.1 1 = .ok (.istore 5, 2) := by decide +kernel
theorem J_HPen_indent_d3 : decode J_HPen_indent.2.1 3 = .ok (.iload_n 0, 1) := by decide +kernel
theorem J_HPen_indent_d4 : decode J_HPen_indent.2.1 4 = .ok (.iconst 1, 1) := by decide +kernel
theorem J_HPen_indent_d5 : decode J_HPen_indent.2.1 5 = .ok (.iadd, 1) := by decide +kernel
theorem J_HPen_indent_d6 : decode J_HPen_indent.2.1 6 = .ok (.iconst 2, 1) := by decide +kernel
theorem J_HPen_indent_d7 : decode J_HPen_indent.2.1 7 = .ok (.idiv, 1) := by decide +kernel
theorem J_HPen_indent_d8 : decode J_HPen_indent.2.1 8 = .ok (.istore 6, 2) := by decide +kernel
theorem J_HPen_indent_d10 : decode J_HPen_indent.2.1 10 = .ok (.iconst 0, 1) := by decide +kernel
theorem J_HPen_indent_d11 : decode J_HPen_indent.2.1 11 = .ok (.istore 7, 2) := by decide +kernel
theorem J_HPen_indent_d13 : decode J_HPen_indent.2.1 13 = .ok (.iload 7, 2) := by decide +kernel
theorem J_HPen_indent_d15 : decode J_HPen_indent.2.1 15 = .ok (.bipush 12, 2) := by decide +kernel
theorem J_HPen_indent_d17 : decode J_HPen_indent.2.1 17 = .ok (.if_icmp .ge 88, 3) := by decide +kernel
theorem J_HPen_indent_d20 : decode J_HPen_indent.2.1 20 = .ok (.iload 5, 2) := by decide +kernel
theorem J_HPen_indent_d22 : decode J_HPen_indent.2.1 22 = .ok (.iload 6, 2) := by decide +kernel
theorem J_HPen_indent_d24 : decode J_HPen_indent.2.1 24 = .ok (.if_icmp .ge 81, 3) := by decide +kernel
theorem J_HPen_indent_d27 : decode J_HPen_indent.2.1 27 = .ok (.iload 5, 2) := by decide +kernel
theorem J_HPen_indent_d29 : decode J_HPen_indent.2.1 29 = .ok (.iload 6, 2) := by decide +kernel
theorem J_HPen_indent_d31 : decode J_HPen_indent.2.1 31 = .ok (.iadd, 1) := by decide +kernel
theorem J_HPen_indent_d32 : decode J_HPen_indent.2.1 32 = .ok (.iconst 2, 1) := by decide +kernel
theorem J_HPen_indent_d33 : decode J_HPen_indent.2.1 33 = .ok (.idiv, 1) := by decide +kernel
theorem J_HPen_indent_d34 : decode J_HPen_indent.2.1 34 = .ok (.istore 8, 2) := by decide +kernel
theorem J_HPen_indent_d36 : decode J_HPen_indent.2.1 36 = .ok (.ldc2_w 137, 3) := by decide +kernel
theorem J_HPen_indent_d39 : decode J_HPen_indent.2.1 39 = .ok (.iload 8, 2) := by decide +kernel
theorem J_HPen_indent_d41 : decode J_HPen_indent.2.1 41 = .ok (.i2l, 1) := by decide +kernel
theorem J_HPen_indent_d42 : decode J_HPen_indent.2.1 42 = .ok (.lmul, 1) := by decide +kernel
theorem J_HPen_indent_d43 : decode J_HPen_indent.2.1 43 = .ok (.iload_n 0, 1) := by decide +kernel
theorem J_HPen_indent_d44 : decode J_HPen_indent.2.1 44 = .ok (.iconst 1, 1) := by decide +kernel
theorem J_HPen_indent_d45 : decode J_HPen_indent.2.1 45 = .ok (.isub, 1) := by decide +kernel
theorem J_HPen_indent_d46 : decode J_HPen_indent.2.1 46 = .ok (.i2l, 1) := by decide +kernel
theorem J_HPen_indent_d47 : decode J_HPen_indent.2.1 47 = .ok (.lsub, 1) := by decide +kernel
theorem J_HPen_indent_d48 : decode J_HPen_indent.2.1 48 = .ok (.lstore 9, 2) := by decide +kernel
theorem J_HPen_indent_d50 : decode J_HPen_indent.2.1 50 = .ok (.lload 9, 2) := by decide +kernel
theorem J_HPen_indent_d52 : decode J_HPen_indent.2.1 52 = .ok (.iload_n 2, 1) := by decide +kernel
theorem J_HPen_indent_d53 : decode J_HPen_indent.2.1 53 = .ok (.i2l, 1) := by decide +kernel
theorem J_HPen_indent_d54 : decode J_HPen_indent.2.1 54 = .ok (.lmul, 1) := by decide +kernel
theorem J_HPen_indent_d55 : decode J_HPen_indent.2.1 55 = .ok (.lload 9, 2) := by decide +kernel
theorem J_HPen_indent_d57 : decode J_HPen_indent.2.1 57 = .ok (.lmul, 1) := by decide +kernel
theorem J_HPen_indent_d58 : decode J_HPen_indent.2.1 58 = .ok (.iload_n 2, 1) := by decide +kernel
theorem J_HPen_indent_d59 : decode J_HPen_indent.2.1 59 = .ok (.i2l, 1) := by decide +kernel
theorem J_HPen_indent_d60 : decode J_HPen_indent.2.1 60 = .ok (.lmul, 1) := by decide +kernel
theorem J_HPen_indent_d61 : decode J_HPen_indent.2.1 61 = .ok (.lload_n 3, 1) := by decide +kernel
theorem J_HPen_indent_d62 : decode J_HPen_indent.2.1 62 = .ok (.iload_n 1, 1) := by decide +kernel
theorem J_HPen_indent_d63 : decode J_HPen_indent.2.1 63 = .ok (.i2l, 1) := by decide +kernel
theorem J_HPen_indent_d64 : decode J_HPen_indent.2.1 64 = .ok (.lmul, 1) := by decide +kernel
theorem J_HPen_indent_d65 : decode J_HPen_indent.2.1 65 = .ok (.lload_n 3, 1) := by decide +kernel
theorem J_HPen_indent_d66 : decode J_HPen_indent.2.1 66 = .ok (.lmul, 1) := by decide +kernel
theorem J_HPen_indent_d67 : decode J_HPen_indent.2.1 67 = .ok (.iload_n 1, 1) := by decide +kernel
theorem J_HPen_indent_d68 : decode J_HPen_indent.2.1 68 = .ok (.i2l, 1) := by decide +kernel
theorem J_HPen_indent_d69 : decode J_HPen_indent.2.1 69 = .ok (.lmul, 1) := by decide +kernel
theorem J_HPen_indent_d70 : decode J_HPen_indent.2.1 70 = .ok (.ladd, 1) := by decide +kernel
theorem J_HPen_indent_d71 : decode J_HPen_indent.2.1 71 = .ok (.iload_n 1, 1) := by decide +kernel
theorem J_HPen_indent_d72 : decode J_HPen_indent.2.1 72 = .ok (.i2l, 1) := by decide +kernel
theorem J_HPen_indent_d73 : decode J_HPen_indent.2.1 73 = .ok (.iload_n 2, 1) := by decide +kernel
theorem J_HPen_indent_d74 : decode J_HPen_indent.2.1 74 = .ok (.i2l, 1) := by decide +kernel
theorem J_HPen_indent_d75 : decode J_HPen_indent.2.1 75 = .ok (.lmul, 1) := by decide +kernel
theorem J_HPen_indent_d76 : decode J_HPen_indent.2.1 76 = .ok (.iload_n 1, 1) := by decide +kernel
theorem J_HPen_indent_d77 : decode J_HPen_indent.2.1 77 = .ok (.i2l, 1) := by decide +kernel
theorem J_HPen_indent_d78 : decode J_HPen_indent.2.1 78 = .ok (.lmul, 1) := by decide +kernel
theorem J_HPen_indent_d79 : decode J_HPen_indent.2.1 79 = .ok (.iload_n 2, 1) := by decide +kernel
theorem J_HPen_indent_d80 : decode J_HPen_indent.2.1 80 = .ok (.i2l, 1) := by decide +kernel
theorem J_HPen_indent_d81 : decode J_HPen_indent.2.1 81 = .ok (.lmul, 1) := by decide +kernel
theorem J_HPen_indent_d82 : decode J_HPen_indent.2.1 82 = .ok (.lcmp, 1) := by decide +kernel
theorem J_HPen_indent_d83 : decode J_HPen_indent.2.1 83 = .ok (.ifCond .gt 10, 3) := by decide +kernel
theorem J_HPen_indent_d86 : decode J_HPen_indent.2.1 86 = .ok (.iload 8, 2) := by decide +kernel
theorem J_HPen_indent_d88 : decode J_HPen_indent.2.1 88 = .ok (.istore 6, 2) := by decide +kernel
theorem J_HPen_indent_d90 : decode J_HPen_indent.2.1 90 = .ok (.goto 9, 3) := by decide +kernel
theorem J_HPen_indent_d93 : decode J_HPen_indent.2.1 93 = .ok (.iload 8, 2) := by decide +kernel
theorem J_HPen_indent_d95 : decode J_HPen_indent.2.1 95 = .ok (.iconst 1, 1) := by decide +kernel
theorem J_HPen_indent_d96 : decode J_HPen_indent.2.1 96 = .ok (.iadd, 1) := by decide +kernel
theorem J_HPen_indent_d97 : decode J_HPen_indent.2.1 97 = .ok (.istore 5, 2) := by decide +kernel
theorem J_HPen_indent_d99 : decode J_HPen_indent.2.1 99 = .ok (.iinc 7 1, 3) := by decide +kernel
theorem J_HPen_indent_d102 : decode J_HPen_indent.2.1 102 = .ok (.goto (-89), 3) := by decide +kernel
theorem J_HPen_indent_d105 : decode J_HPen_indent.2.1 105 = .ok (.iload 5, 2) := by decide +kernel
theorem J_HPen_indent_d107 : decode J_HPen_indent.2.1 107 = .ok (.iload_n 0, 1) := by decide +kernel
theorem J_HPen_indent_d108 : decode J_HPen_indent.2.1 108 = .ok (.iconst 1, 1) := by decide +kernel
theorem J_HPen_indent_d109 : decode J_HPen_indent.2.1 109 = .ok (.iadd, 1) := by decide +kernel
theorem J_HPen_indent_d110 : decode J_HPen_indent.2.1 110 = .ok (.iconst 2, 1) := by decide +kernel
theorem J_HPen_indent_d111 : decode J_HPen_indent.2.1 111 = .ok (.idiv, 1) := by decide +kernel
theorem J_HPen_indent_d112 : decode J_HPen_indent.2.1 112 = .ok (.if_icmp .ne 7, 3) := by decide +kernel
theorem J_HPen_indent_d115 : decode J_HPen_indent.2.1 115 = .ok (.iconst (-1), 1) := by decide +kernel
theorem J_HPen_indent_d116 : decode J_HPen_indent.2.1 116 = .ok (.goto 5, 3) := by decide +kernel
theorem J_HPen_indent_d119 : decode J_HPen_indent.2.1 119 = .ok (.iload 5, 2) := by decide +kernel
theorem J_HPen_indent_d121 : decode J_HPen_indent.2.1 121 = .ok (.ireturn, 1) := by decide +kernel
theorem f_HPen_indent_ok {L : Nat} {xs : Nat → Int32} {dep : Nat} {w : Bool} {p0 : Int32} {p1 : Int32} {p2 : Int32} {p3 : Int64} {M : im_M} {Q : Int32 → Prop} (hM : lw_S w M) (h : ed (f_HPen_indent p0 p1 p2 p3 M) Q) : ia (tb_G L xs) dep J_HPen_indent (rpI M Q) (0, lv_args 0 [.int p0, .int p1, .int p2, .long p3], [], M) := by
  have hS : im_St (tb_G L xs) dep J_HPen_indent (ia (tb_G L xs) dep J_HPen_indent (rpI M Q)) := ia_St
  unfold f_HPen_indent at h
  have l0 : im_lk (lv_args 0 [.int p0, .int p1, .int p2, .long p3]) 0 = some (.int p0) := rfl
  have l1 : im_lk (lv_args 0 [.int p0, .int p1, .int p2, .long p3]) 1 = some (.int p1) := rfl
  have l2 : im_lk (lv_args 0 [.int p0, .int p1, .int p2, .long p3]) 2 = some (.int p2) := rfl
  have l3 : im_lk (lv_args 0 [.int p0, .int p1, .int p2, .long p3]) 3 = some (.long p3) := rfl
  refine iq_iconst hS 1 J_HPen_indent_d0 (v := 0) (by decide +kernel) rfl ?_
  refine iq_istore hS 3 J_HPen_indent_d1 (by decide) rfl ?_
  refine iq_iload_n hS 4 J_HPen_indent_d3 (lk_1i l0 (by decide)) rfl ?_
  refine iq_iconst hS 5 J_HPen_indent_d4 (v := 1) (by decide +kernel) rfl ?_
  refine iq_iadd hS 6 J_HPen_indent_d5 rfl ?_
  refine iq_iconst hS 7 J_HPen_indent_d6 (v := 2) (by decide +kernel) rfl ?_
  refine iq_idiv hS 8 J_HPen_indent_d7 (by decide) rfl ?_
  refine iq_istore hS 10 J_HPen_indent_d8 (by decide) rfl ?_
  refine iq_iconst hS 11 J_HPen_indent_d10 (v := 0) (by decide +kernel) rfl ?_
  refine iq_istore hS 13 J_HPen_indent_d11 (by decide) rfl ?_
  obtain ⟨Q1, hQ1, h⟩ := bd1_ed h
  have K1 : ∀ (y2 : Int32) (L' : List (Nat × Value)), im_lk L' 0 = some (.int p0) → im_lk L' 5 = some (.int y2) → Q1 y2 → ia (tb_G L xs) dep J_HPen_indent (rpI M Q) (105, L', [], M) := by
    intro y2 L' l3 l4 h
    replace h := hQ1 _ h
    refine iq_iload hS 107 J_HPen_indent_d105 l4 rfl ?_
    refine iq_iload_n hS 108 J_HPen_indent_d107 l3 rfl ?_
    refine iq_iconst hS 109 J_HPen_indent_d108 (v := 1) (by decide +kernel) rfl ?_
    refine iq_iadd hS 110 J_HPen_indent_d109 rfl ?_
    refine iq_iconst hS 111 J_HPen_indent_d110 (v := 2) (by decide +kernel) rfl ?_
    refine iq_idiv hS 112 J_HPen_indent_d111 (by decide) rfl ?_
    refine iq_icmp_ne hS 115 J_HPen_indent_d112 (t := 119) rfl (fun q112 => ?_) rfl (fun q112 => ?_)
    · replace h := ed_pos q112 h
      refine iq_iload hS 121 J_HPen_indent_d119 l4 rfl ?_
      exact iq_iret J_HPen_indent_d121 rfl rfl ⟨_, rfl, rfl, ed_some h⟩
    · replace h := ed_neg q112 h
      refine iq_iconst hS 116 J_HPen_indent_d115 (v := (-1)) (by decide +kernel) rfl ?_
      refine iq_goto hS J_HPen_indent_d116 (t := 121) rfl ?_
      exact iq_iret J_HPen_indent_d121 rfl rfl ⟨_, rfl, rfl, ed_some h⟩
  obtain ⟨r1, hr1, hq1⟩ := h
  obtain ⟨n1, hn1⟩ := lp_n hr1
  have I1 : ∀ (n : Nat) (x5 : Int32) (x6 : Int32) (x7 : Int32) (L' : List (Nat × Value)), im_lk L' 0 = some (.int p0) → im_lk L' 1 = some (.int p1) → im_lk L' 2 = some (.int p2) → im_lk L' 3 = some (.long p3) → im_lk L' 5 = some (.int x5) → im_lk L' 6 = some (.int x6) → im_lk L' 7 = some (.int x7) → lpn (uc3 (f_HPen_indent_L13 p0 p1 p2 p3 M)) n (x5, x6, x7) = some r1 → ia (tb_G L xs) dep J_HPen_indent (rpI M Q) (13, L', [], M) := by
    intro n
    induction n with
    | zero => intro x5 x6 x7 L' l8 l9 l10 l11 l12 l13 l14 hn; exact (lpn_0 hn).elim
    | succ n ih =>
      intro x5 x6 x7 L' l8 l9 l10 l11 l12 l13 l14 hn
      have h := lpn_ed3 hn
      unfold f_HPen_indent_L13 at h
      refine iq_iload hS 15 J_HPen_indent_d13 l14 rfl ?_
      refine iq_bipush hS 17 J_HPen_indent_d15 (v := 12) (by decide +kernel) rfl ?_
      refine iq_icmp_ge hS 20 J_HPen_indent_d17 (t := 105) rfl (fun q17 => ?_) rfl (fun q17 => ?_)
      · replace h := ed_pos q17 h
        exact K1 _ _ l8 l12 (lq_r h hq1)
      · replace h := ed_neg q17 h
        refine iq_iload hS 22 J_HPen_indent_d20 l12 rfl ?_
        refine iq_iload hS 24 J_HPen_indent_d22 l13 rfl ?_
        refine iq_icmp_ge hS 27 J_HPen_indent_d24 (t := 105) rfl (fun q24 => ?_) rfl (fun q24 => ?_)
        · replace h := ed_pos q24 h
          exact K1 _ _ l8 l12 (lq_r h hq1)
        · replace h := ed_neg q24 h
          refine iq_iload hS 29 J_HPen_indent_d27 l12 rfl ?_
          refine iq_iload hS 31 J_HPen_indent_d29 l13 rfl ?_
          refine iq_iadd hS 32 J_HPen_indent_d31 rfl ?_
          refine iq_iconst hS 33 J_HPen_indent_d32 (v := 2) (by decide +kernel) rfl ?_
          refine iq_idiv hS 34 J_HPen_indent_d33 (by decide) rfl ?_
          refine iq_istore hS 36 J_HPen_indent_d34 (by decide) rfl ?_
          refine iq_ldc2_w hS 39 J_HPen_indent_d36 lk_6_137 rfl ?_
          refine iq_iload hS 41 J_HPen_indent_d39 lk_1s rfl ?_
          refine iq_i2l hS 42 J_HPen_indent_d41 rfl ?_
          refine iq_lmul hS 43 J_HPen_indent_d42 rfl ?_
          refine iq_iload_n hS 44 J_HPen_indent_d43 (lk_1i l8 (by decide)) rfl ?_
          refine iq_iconst hS 45 J_HPen_indent_d44 (v := 1) (by decide +kernel) rfl ?_
          refine iq_isub hS 46 J_HPen_indent_d45 rfl ?_
          refine iq_i2l hS 47 J_HPen_indent_d46 rfl ?_
          refine iq_lsub hS 48 J_HPen_indent_d47 rfl ?_
          refine iq_lstore hS 50 J_HPen_indent_d48 (by decide) rfl ?_
          refine iq_lload hS 52 J_HPen_indent_d50 lk_2s rfl ?_
          refine iq_iload_n hS 53 J_HPen_indent_d52 (lk_2i (lk_1i l10 (by decide)) (by decide) (by decide)) rfl ?_
          refine iq_i2l hS 54 J_HPen_indent_d53 rfl ?_
          refine iq_lmul hS 55 J_HPen_indent_d54 rfl ?_
          refine iq_lload hS 57 J_HPen_indent_d55 lk_2s rfl ?_
          refine iq_lmul hS 58 J_HPen_indent_d57 rfl ?_
          refine iq_iload_n hS 59 J_HPen_indent_d58 (lk_2i (lk_1i l10 (by decide)) (by decide) (by decide)) rfl ?_
          refine iq_i2l hS 60 J_HPen_indent_d59 rfl ?_
          refine iq_lmul hS 61 J_HPen_indent_d60 rfl ?_
          refine iq_lload_n hS 62 J_HPen_indent_d61 (lk_2l (lk_1l l11 (by decide) (by decide)) (by decide) (by decide) (by decide)) rfl ?_
          refine iq_iload_n hS 63 J_HPen_indent_d62 (lk_2i (lk_1i l9 (by decide)) (by decide) (by decide)) rfl ?_
          refine iq_i2l hS 64 J_HPen_indent_d63 rfl ?_
          refine iq_lmul hS 65 J_HPen_indent_d64 rfl ?_
          refine iq_lload_n hS 66 J_HPen_indent_d65 (lk_2l (lk_1l l11 (by decide) (by decide)) (by decide) (by decide) (by decide)) rfl ?_
          refine iq_lmul hS 67 J_HPen_indent_d66 rfl ?_
          refine iq_iload_n hS 68 J_HPen_indent_d67 (lk_2i (lk_1i l9 (by decide)) (by decide) (by decide)) rfl ?_
          refine iq_i2l hS 69 J_HPen_indent_d68 rfl ?_
          refine iq_lmul hS 70 J_HPen_indent_d69 rfl ?_
          refine iq_ladd hS 71 J_HPen_indent_d70 rfl ?_
          refine iq_iload_n hS 72 J_HPen_indent_d71 (lk_2i (lk_1i l9 (by decide)) (by decide) (by decide)) rfl ?_
          refine iq_i2l hS 73 J_HPen_indent_d72 rfl ?_
          refine iq_iload_n hS 74 J_HPen_indent_d73 (lk_2i (lk_1i l10 (by decide)) (by decide) (by decide)) rfl ?_
          refine iq_i2l hS 75 J_HPen_indent_d74 rfl ?_
          refine iq_lmul hS 76 J_HPen_indent_d75 rfl ?_
          refine iq_iload_n hS 77 J_HPen_indent_d76 (lk_2i (lk_1i l9 (by decide)) (by decide) (by decide)) rfl ?_
          refine iq_i2l hS 78 J_HPen_indent_d77 rfl ?_
          refine iq_lmul hS 79 J_HPen_indent_d78 rfl ?_
          refine iq_iload_n hS 80 J_HPen_indent_d79 (lk_2i (lk_1i l10 (by decide)) (by decide) (by decide)) rfl ?_
          refine iq_i2l hS 81 J_HPen_indent_d80 rfl ?_
          refine iq_lmul hS 82 J_HPen_indent_d81 rfl ?_
          refine iq_lcmp hS 83 J_HPen_indent_d82 rfl ?_
          have J15 : ∀ (z16 : Int32) (z17 : Int32) (L' : List (Nat × Value)), z16 = ((if 0 < (lg_cmp (((((((2 : Int64) * (Int32.toInt64 ((x5 + x6) / 2))) - (Int32.toInt64 (p0 - 1))) * (Int32.toInt64 p2)) * (((2 : Int64) * (Int32.toInt64 ((x5 + x6) / 2))) - (Int32.toInt64 (p0 - 1)))) * (Int32.toInt64 p2)) + (((p3 * (Int32.toInt64 p1)) * p3) * (Int32.toInt64 p1))) ((((Int32.toInt64 p1) * (Int32.toInt64 p2)) * (Int32.toInt64 p1)) * (Int32.toInt64 p2))) then (((x5 + x6) / 2) + 1) else x5) : Int32) → z17 = ((if 0 < (lg_cmp (((((((2 : Int64) * (Int32.toInt64 ((x5 + x6) / 2))) - (Int32.toInt64 (p0 - 1))) * (Int32.toInt64 p2)) * (((2 : Int64) * (Int32.toInt64 ((x5 + x6) / 2))) - (Int32.toInt64 (p0 - 1)))) * (Int32.toInt64 p2)) + (((p3 * (Int32.toInt64 p1)) * p3) * (Int32.toInt64 p1))) ((((Int32.toInt64 p1) * (Int32.toInt64 p2)) * (Int32.toInt64 p1)) * (Int32.toInt64 p2))) then x6 else ((x5 + x6) / 2)) : Int32) → im_lk L' 0 = some (.int p0) → im_lk L' 1 = some (.int p1) → im_lk L' 2 = some (.int p2) → im_lk L' 3 = some (.long p3) → im_lk L' 5 = some (.int z16) → im_lk L' 6 = some (.int z17) → im_lk L' 7 = some (.int x7) → ia (tb_G L xs) dep J_HPen_indent (rpI M Q) (99, L', [], M) := by
            intro z16 z17 L' e18 e19 l20 l21 l22 l23 l24 l25 l26
            subst e18
            subst e19
            refine iq_iincv hS 102 J_HPen_indent_d99 (c := 1) (by decide +kernel) l26 (by decide) rfl ?_
            refine iq_goto hS J_HPen_indent_d102 (t := 13) rfl ?_
            exact ih _ _ _ _ (lk_1i l20 (by decide)) (lk_1i l21 (by decide)) (lk_1i l22 (by decide)) (lk_1l l23 (by decide) (by decide)) (lk_1i l24 (by decide)) (lk_1i l25 (by decide)) lk_1s (lq_l h)
          refine iq_if_gt hS 86 J_HPen_indent_d83 (t := 93) rfl (fun q83 => ?_) rfl (fun q83 => ?_)
          · refine iq_iload hS 95 J_HPen_indent_d93 (lk_2i lk_1s (by decide) (by decide)) rfl ?_
            refine iq_iconst hS 96 J_HPen_indent_d95 (v := 1) (by decide +kernel) rfl ?_
            refine iq_iadd hS 97 J_HPen_indent_d96 rfl ?_
            refine iq_istore hS 99 J_HPen_indent_d97 (by decide) rfl ?_
            exact J15 _ _ _ (by simp only [if_pos q83]) (by simp only [if_pos q83]) (lk_1i (lk_2i (lk_1i l8 (by decide)) (by decide) (by decide)) (by decide)) (lk_1i (lk_2i (lk_1i l9 (by decide)) (by decide) (by decide)) (by decide)) (lk_1i (lk_2i (lk_1i l10 (by decide)) (by decide) (by decide)) (by decide)) (lk_1l (lk_2l (lk_1l l11 (by decide) (by decide)) (by decide) (by decide) (by decide)) (by decide) (by decide)) lk_1s (lk_1i (lk_2i (lk_1i l13 (by decide)) (by decide) (by decide)) (by decide)) (lk_1i (lk_2i (lk_1i l14 (by decide)) (by decide) (by decide)) (by decide))
          · refine iq_iload hS 88 J_HPen_indent_d86 (lk_2i lk_1s (by decide) (by decide)) rfl ?_
            refine iq_istore hS 90 J_HPen_indent_d88 (by decide) rfl ?_
            refine iq_goto hS J_HPen_indent_d90 (t := 99) rfl ?_
            exact J15 _ _ _ (by simp only [if_neg q83]) (by simp only [if_neg q83]) (lk_1i (lk_2i (lk_1i l8 (by decide)) (by decide) (by decide)) (by decide)) (lk_1i (lk_2i (lk_1i l9 (by decide)) (by decide) (by decide)) (by decide)) (lk_1i (lk_2i (lk_1i l10 (by decide)) (by decide) (by decide)) (by decide)) (lk_1l (lk_2l (lk_1l l11 (by decide) (by decide)) (by decide) (by decide) (by decide)) (by decide) (by decide)) (lk_1i (lk_2i (lk_1i l12 (by decide)) (by decide) (by decide)) (by decide)) lk_1s (lk_1i (lk_2i (lk_1i l14 (by decide)) (by decide) (by decide)) (by decide))
  exact I1 n1 _ _ _ _ (lk_1i (lk_1i (lk_1i l0 (by decide)) (by decide)) (by decide)) (lk_1i (lk_1i (lk_1i l1 (by decide)) (by decide)) (by decide)) (lk_1i (lk_1i (lk_1i l2 (by decide)) (by decide)) (by decide)) (lk_1l (lk_1l (lk_1l l3 (by decide) (by decide)) (by decide) (by decide)) (by decide) (by decide)) (lk_1i (lk_1i lk_1s (by decide)) (by decide)) (lk_1i lk_1s (by decide)) lk_1s hn1
noncomputable def f_HPen_drawEllipse_L24 (w : Bool) (v3 : Int32) (v4 : Int32) (v5 : Int32) (v6 : Int32) (x7 : Int32) (M8 : im_M) : Option ((Int32 × im_M) ⊕ (im_M)) := if v4 ≤ x7 then some (.inr M8) else bd1 (if ((im_i M8 56 6) + x7) < 0 then some M8 else if (im_i M8 28 1) ≤ ((im_i M8 56 6) + x7) then some M8 else bd1 (f_HPen_indent v3 v3 v4 (((2 : Int64) * (Int32.toInt64 x7)) - (Int32.toInt64 (v4 - 1))) M8) fun (x10 : Int32) => bd1 (if v6 = 0 then some (-1) else bd1 (f_HPen_indent v3 (v3 - ((2 : Int32) * v5)) (v4 - ((2 : Int32) * v5)) (((2 : Int64) * (Int32.toInt64 x7)) - (Int32.toInt64 (v4 - 1))) M8) fun (x12 : Int32) => some x12) fun (y13 : Int32) => jn1 (fun (M24 : im_M) => if x10 = (-1) then some M24 else bd1 (f_HSheet_box w ((im_i M24 56 5) + x10) ((im_i M8 56 6) + x7) (((im_i M24 56 5) + y13) - 1) ((im_i M8 56 6) + x7) M24) fun (M34 : im_M) => bd1 (f_HSheet_box w (((im_i M34 56 5) + v3) - y13) ((im_i M8 56 6) + x7) ((((im_i M34 56 5) + v3) - 1) - x10) ((im_i M8 56 6) + x7) M34) fun (M35 : im_M) => some M35) fun k22 => if ¬ y13 = (-1) then k22 M8 else if x10 = (-1) then k22 M8 else bd1 (f_HSheet_box w ((im_i M8 56 5) + x10) ((im_i M8 56 6) + x7) ((((im_i M8 56 5) + v3) - 1) - x10) ((im_i M8 56 6) + x7) M8) fun (M23 : im_M) => some M23) fun (M36 : im_M) => some (.inl ((x7 + 1), M36))
noncomputable def f_HPen_drawEllipse (w : Bool) (p0 : Int32) (p1 : Int32) (p2 : Int32) (M : im_M) : Option (im_M) := bd1 (lp (uc2 (f_HPen_drawEllipse_L24 w p0 p1 p2 ((if p0 ≤ ((2 : Int32) * p2) then 0 else (if p1 ≤ ((2 : Int32) * p2) then 0 else 1)) : Int32))) (0, M)) fun (M43 : im_M) => some M43
theorem J_HPen_drawEllipse_d0 : decode J_HPen_drawEllipse.2.1 0 = .ok (.iload_n 1, 1) := by decide +kernel
theorem J_HPen_drawEllipse_d1 : decode J_HPen_drawEllipse.2.1 1 = .ok (.iconst 2, 1) := by decide +kernel
theorem J_HPen_drawEllipse_d2 : decode J_HPen_drawEllipse.2.1 2 = .ok (.iload_n 3, 1) := by decide +kernel
theorem J_HPen_drawEllipse_d3 : decode J_HPen_drawEllipse.2.1 3 = .ok (.imul, 1) := by decide +kernel
theorem J_HPen_drawEllipse_d4 : decode J_HPen_drawEllipse.2.1 4 = .ok (.if_icmp .le 14, 3) := by decide +kernel
theorem J_HPen_drawEllipse_d7 : decode J_HPen_drawEllipse.2.1 7 = .ok (.iload_n 2, 1) := by decide +kernel
theorem J_HPen_drawEllipse_d8 : decode J_HPen_drawEllipse.2.1 8 = .ok (.iconst 2, 1) := by decide +kernel
theorem J_HPen_drawEllipse_d9 : decode J_HPen_drawEllipse.2.1 9 = .ok (.iload_n 3, 1) := by decide +kernel
theorem J_HPen_drawEllipse_d10 : decode J_HPen_drawEllipse.2.1 10 = .ok (.imul, 1) := by decide +kernel
theorem J_HPen_drawEllipse_d11 : decode J_HPen_drawEllipse.2.1 11 = .ok (.if_icmp .le 7, 3) := by decide +kernel
theorem J_HPen_drawEllipse_d14 : decode J_HPen_drawEllipse.2.1 14 = .ok (.iconst 1, 1) := by decide +kernel
theorem J_HPen_drawEllipse_d15 : decode J_HPen_drawEllipse.2.1 15 = .ok (.goto 4, 3) := by decide +kernel
theorem J_HPen_drawEllipse_d18 : decode J_HPen_drawEllipse.2.1 18 = .ok (.iconst 0, 1) := by decide +kernel
theorem J_HPen_drawEllipse_d19 : decode J_HPen_drawEllipse.2.1 19 = .ok (.istore 4, 2) := by decide +kernel
theorem J_HPen_drawEllipse_d21 : decode J_HPen_drawEllipse.2.1 21 = .ok (.iconst 0, 1) := by decide +kernel
theorem J_HPen_drawEllipse_d22 : decode J_HPen_drawEllipse.2.1 22 = .ok (.istore 5, 2) := by decide +kernel
theorem J_HPen_drawEllipse_d24 : decode J_HPen_drawEllipse.2.1 24 = .ok (.iload 5, 2) := by decide +kernel
theorem J_HPen_drawEllipse_d26 : decode J_HPen_drawEllipse.2.1 26 = .ok (.iload_n 2, 1) := by decide +kernel
theorem J_HPen_drawEllipse_d27 : decode J_HPen_drawEllipse.2.1 27 = .ok (.if_icmp .ge 194, 3) := by decide +kernel
theorem J_HPen_drawEllipse_d30 : decode J_HPen_drawEllipse.2.1 30 = .ok (.aload_n 0, 1) := by decide +kernel
theorem J_HPen_drawEllipse_d31 : decode J_HPen_drawEllipse.2.1 31 = .ok (.getfield 47, 3) := by decide +kernel
theorem J_HPen_drawEllipse_d34 : decode J_HPen_drawEllipse.2.1 34 = .ok (.iload 5, 2) := by decide +kernel
theorem J_HPen_drawEllipse_d36 : decode J_HPen_drawEllipse.2.1 36 = .ok (.iadd, 1) := by decide +kernel
theorem J_HPen_drawEllipse_d37 : decode J_HPen_drawEllipse.2.1 37 = .ok (.istore 6, 2) := by decide +kernel
theorem J_HPen_drawEllipse_d39 : decode J_HPen_drawEllipse.2.1 39 = .ok (.iload 6, 2) := by decide +kernel
theorem J_HPen_drawEllipse_d41 : decode J_HPen_drawEllipse.2.1 41 = .ok (.ifCond .lt 174, 3) := by decide +kernel
theorem J_HPen_drawEllipse_d44 : decode J_HPen_drawEllipse.2.1 44 = .ok (.iload 6, 2) := by decide +kernel
theorem J_HPen_drawEllipse_d46 : decode J_HPen_drawEllipse.2.1 46 = .ok (.aload_n 0, 1) := by decide +kernel
theorem J_HPen_drawEllipse_d47 : decode J_HPen_drawEllipse.2.1 47 = .ok (.getfield 19, 3) := by decide +kernel
theorem J_HPen_drawEllipse_d50 : decode J_HPen_drawEllipse.2.1 50 = .ok (.getfield 134, 3) := by decide +kernel
theorem J_HPen_drawEllipse_d53 : decode J_HPen_drawEllipse.2.1 53 = .ok (.if_icmp .ge 162, 3) := by decide +kernel
theorem J_HPen_drawEllipse_d56 : decode J_HPen_drawEllipse.2.1 56 = .ok (.ldc2_w 137, 3) := by decide +kernel
theorem J_HPen_drawEllipse_d59 : decode J_HPen_drawEllipse.2.1 59 = .ok (.iload 5, 2) := by decide +kernel
theorem J_HPen_drawEllipse_d61 : decode J_HPen_drawEllipse.2.1 61 = .ok (.i2l, 1) := by decide +kernel
theorem J_HPen_drawEllipse_d62 : decode J_HPen_drawEllipse.2.1 62 = .ok (.lmul, 1) := by decide +kernel
theorem J_HPen_drawEllipse_d63 : decode J_HPen_drawEllipse.2.1 63 = .ok (.iload_n 2, 1) := by decide +kernel
theorem J_HPen_drawEllipse_d64 : decode J_HPen_drawEllipse.2.1 64 = .ok (.iconst 1, 1) := by decide +kernel
theorem J_HPen_drawEllipse_d65 : decode J_HPen_drawEllipse.2.1 65 = .ok (.isub, 1) := by decide +kernel
theorem J_HPen_drawEllipse_d66 : decode J_HPen_drawEllipse.2.1 66 = .ok (.i2l, 1) := by decide +kernel
theorem J_HPen_drawEllipse_d67 : decode J_HPen_drawEllipse.2.1 67 = .ok (.lsub, 1) := by decide +kernel
theorem J_HPen_drawEllipse_d68 : decode J_HPen_drawEllipse.2.1 68 = .ok (.lstore 7, 2) := by decide +kernel
theorem J_HPen_drawEllipse_d70 : decode J_HPen_drawEllipse.2.1 70 = .ok (.iload_n 1, 1) := by decide +kernel
theorem J_HPen_drawEllipse_d71 : decode J_HPen_drawEllipse.2.1 71 = .ok (.iload_n 1, 1) := by decide +kernel
theorem J_HPen_drawEllipse_d72 : decode J_HPen_drawEllipse.2.1 72 = .ok (.iload_n 2, 1) := by decide +kernel
theorem J_HPen_drawEllipse_d73 : decode J_HPen_drawEllipse.2.1 73 = .ok (.lload 7, 2) := by decide +kernel
theorem J_HPen_drawEllipse_d75 : decode J_HPen_drawEllipse.2.1 75 = .ok (.invokestatic 139, 3) := by decide +kernel
theorem J_HPen_drawEllipse_d78 : decode J_HPen_drawEllipse.2.1 78 = .ok (.istore 9, 2) := by decide +kernel
theorem J_HPen_drawEllipse_d80 : decode J_HPen_drawEllipse.2.1 80 = .ok (.iload 4, 2) := by decide +kernel
theorem J_HPen_drawEllipse_d82 : decode J_HPen_drawEllipse.2.1 82 = .ok (.ifCond .eq 22, 3) := by decide +kernel
theorem J_HPen_drawEllipse_d85 : decode J_HPen_drawEllipse.2.1 85 = .ok (.iload_n 1, 1) := by decide +kernel
theorem J_HPen_drawEllipse_d86 : decode J_HPen_drawEllipse.2.1 86 = .ok (.iload_n 1, 1) := by decide +kernel
theorem J_HPen_drawEllipse_d87 : decode J_HPen_drawEllipse.2.1 87 = .ok (.iconst 2, 1) := by decide +kernel
theorem J_HPen_drawEllipse_d88 : decode J_HPen_drawEllipse.2.1 88 = .ok (.iload_n 3, 1) := by decide +kernel
theorem J_HPen_drawEllipse_d89 : decode J_HPen_drawEllipse.2.1 89 = .ok (.imul, 1) := by decide +kernel
theorem J_HPen_drawEllipse_d90 : decode J_HPen_drawEllipse.2.1 90 = .ok (.isub, 1) := by decide +kernel
theorem J_HPen_drawEllipse_d91 : decode J_HPen_drawEllipse.2.1 91 = .ok (.iload_n 2, 1) := by decide +kernel
theorem J_HPen_drawEllipse_d92 : decode J_HPen_drawEllipse.2.1 92 = .ok (.iconst 2, 1) := by decide +kernel
theorem J_HPen_drawEllipse_d93 : decode J_HPen_drawEllipse.2.1 93 = .ok (.iload_n 3, 1) := by decide +kernel
theorem J_HPen_drawEllipse_d94 : decode J_HPen_drawEllipse.2.1 94 = .ok (.imul, 1) := by decide +kernel
theorem J_HPen_drawEllipse_d95 : decode J_HPen_drawEllipse.2.1 95 = .ok (.isub, 1) := by decide +kernel
theorem J_HPen_drawEllipse_d96 : decode J_HPen_drawEllipse.2.1 96 = .ok (.lload 7, 2) := by decide +kernel
theorem J_HPen_drawEllipse_d98 : decode J_HPen_drawEllipse.2.1 98 = .ok (.invokestatic 139, 3) := by decide +kernel
theorem J_HPen_drawEllipse_d101 : decode J_HPen_drawEllipse.2.1 101 = .ok (.goto 4, 3) := by decide +kernel
theorem J_HPen_drawEllipse_d104 : decode J_HPen_drawEllipse.2.1 104 = .ok (.iconst (-1), 1) := by decide +kernel
theorem J_HPen_drawEllipse_d105 : decode J_HPen_drawEllipse.2.1 105 = .ok (.istore 10, 2) := by decide +kernel
theorem J_HPen_drawEllipse_d107 : decode J_HPen_drawEllipse.2.1 107 = .ok (.iload 10, 2) := by decide +kernel
theorem J_HPen_drawEllipse_d109 : decode J_HPen_drawEllipse.2.1 109 = .ok (.iconst (-1), 1) := by decide +kernel
theorem J_HPen_drawEllipse_d110 : decode J_HPen_drawEllipse.2.1 110 = .ok (.if_icmp .ne 41, 3) := by decide +kernel
theorem J_HPen_drawEllipse_d113 : decode J_HPen_drawEllipse.2.1 113 = .ok (.iload 9, 2) := by decide +kernel
theorem J_HPen_drawEllipse_d115 : decode J_HPen_drawEllipse.2.1 115 = .ok (.iconst (-1), 1) := by decide +kernel
theorem J_HPen_drawEllipse_d116 : decode J_HPen_drawEllipse.2.1 116 = .ok (.if_icmp .eq 35, 3) := by decide +kernel
theorem J_HPen_drawEllipse_d119 : decode J_HPen_drawEllipse.2.1 119 = .ok (.aload_n 0, 1) := by decide +kernel
theorem J_HPen_drawEllipse_d120 : decode J_HPen_drawEllipse.2.1 120 = .ok (.getfield 19, 3) := by decide +kernel
theorem J_HPen_drawEllipse_d123 : decode J_HPen_drawEllipse.2.1 123 = .ok (.aload_n 0, 1) := by decide +kernel
theorem J_HPen_drawEllipse_d124 : decode J_HPen_drawEllipse.2.1 124 = .ok (.getfield 43, 3) := by decide +kernel
theorem J_HPen_drawEllipse_d127 : decode J_HPen_drawEllipse.2.1 127 = .ok (.iload 9, 2) := by decide +kernel
theorem J_HPen_drawEllipse_d129 : decode J_HPen_drawEllipse.2.1 129 = .ok (.iadd, 1) := by decide +kernel
theorem J_HPen_drawEllipse_d130 : decode J_HPen_drawEllipse.2.1 130 = .ok (.iload 6, 2) := by decide +kernel
theorem J_HPen_drawEllipse_d132 : decode J_HPen_drawEllipse.2.1 132 = .ok (.aload_n 0, 1) := by decide +kernel
theorem J_HPen_drawEllipse_d133 : decode J_HPen_drawEllipse.2.1 133 = .ok (.getfield 43, 3) := by decide +kernel
theorem J_HPen_drawEllipse_d136 : decode J_HPen_drawEllipse.2.1 136 = .ok (.iload_n 1, 1) := by decide +kernel
theorem J_HPen_drawEllipse_d137 : decode J_HPen_drawEllipse.2.1 137 = .ok (.iadd, 1) := by decide +kernel
theorem J_HPen_drawEllipse_d138 : decode J_HPen_drawEllipse.2.1 138 = .ok (.iconst 1, 1) := by decide +kernel
theorem J_HPen_drawEllipse_d139 : decode J_HPen_drawEllipse.2.1 139 = .ok (.isub, 1) := by decide +kernel
theorem J_HPen_drawEllipse_d140 : decode J_HPen_drawEllipse.2.1 140 = .ok (.iload 9, 2) := by decide +kernel
theorem J_HPen_drawEllipse_d142 : decode J_HPen_drawEllipse.2.1 142 = .ok (.isub, 1) := by decide +kernel
theorem J_HPen_drawEllipse_d143 : decode J_HPen_drawEllipse.2.1 143 = .ok (.iload 6, 2) := by decide +kernel
theorem J_HPen_drawEllipse_d145 : decode J_HPen_drawEllipse.2.1 145 = .ok (.invokevirtual 107, 3) := by decide +kernel
theorem J_HPen_drawEllipse_d148 : decode J_HPen_drawEllipse.2.1 148 = .ok (.goto 67, 3) := by decide +kernel
theorem J_HPen_drawEllipse_d151 : decode J_HPen_drawEllipse.2.1 151 = .ok (.iload 9, 2) := by decide +kernel
theorem J_HPen_drawEllipse_d153 : decode J_HPen_drawEllipse.2.1 153 = .ok (.iconst (-1), 1) := by decide +kernel
theorem J_HPen_drawEllipse_d154 : decode J_HPen_drawEllipse.2.1 154 = .ok (.if_icmp .eq 61, 3) := by decide +kernel
theorem J_HPen_drawEllipse_d157 : decode J_HPen_drawEllipse.2.1 157 = .ok (.aload_n 0, 1) := by decide +kernel
theorem J_HPen_drawEllipse_d158 : decode J_HPen_drawEllipse.2.1 158 = .ok (.getfield 19, 3) := by decide +kernel
theorem J_HPen_drawEllipse_d161 : decode J_HPen_drawEllipse.2.1 161 = .ok (.aload_n 0, 1) := by decide +kernel
theorem J_HPen_drawEllipse_d162 : decode J_HPen_drawEllipse.2.1 162 = .ok (.getfield 43, 3) := by decide +kernel
theorem J_HPen_drawEllipse_d165 : decode J_HPen_drawEllipse.2.1 165 = .ok (.iload 9, 2) := by decide +kernel
theorem J_HPen_drawEllipse_d167 : decode J_HPen_drawEllipse.2.1 167 = .ok (.iadd, 1) := by decide +kernel
theorem J_HPen_drawEllipse_d168 : decode J_HPen_drawEllipse.2.1 168 = .ok (.iload 6, 2) := by decide +kernel
theorem J_HPen_drawEllipse_d170 : decode J_HPen_drawEllipse.2.1 170 = .ok (.aload_n 0, 1) := by decide +kernel
theorem J_HPen_drawEllipse_d171 : decode J_HPen_drawEllipse.2.1 171 = .ok (.getfield 43, 3) := by decide +kernel
theorem J_HPen_drawEllipse_d174 : decode J_HPen_drawEllipse.2.1 174 = .ok (.iload 10, 2) := by decide +kernel
theorem J_HPen_drawEllipse_d176 : decode J_HPen_drawEllipse.2.1 176 = .ok (.iadd, 1) := by decide +kernel
theorem J_HPen_drawEllipse_d177 : decode J_HPen_drawEllipse.2.1 177 = .ok (.iconst 1, 1) := by decide +kernel
theorem J_HPen_drawEllipse_d178 : decode J_HPen_drawEllipse.2.1 178 = .ok (.isub, 1) := by decide +kernel
theorem J_HPen_drawEllipse_d179 : decode J_HPen_drawEllipse.2.1 179 = .ok (.iload 6, 2) := by decide +kernel
theorem J_HPen_drawEllipse_d181 : decode J_HPen_drawEllipse.2.1 181 = .ok (.invokevirtual 107, 3) := by decide +kernel
theorem J_HPen_drawEllipse_d184 : decode J_HPen_drawEllipse.2.1 184 = .ok (.aload_n 0, 1) := by decide +kernel
theorem J_HPen_drawEllipse_d185 : decode J_HPen_drawEllipse.2.1 185 = .ok (.getfield 19, 3) := by decide +kernel
theorem J_HPen_drawEllipse_d188 : decode J_HPen_drawEllipse.2.1 188 = .ok (.aload_n 0, 1) := by decide +kernel
theorem J_HPen_drawEllipse_d189 : decode J_HPen_drawEllipse.2.1 189 = .ok (.getfield 43, 3) := by decide +kernel
theorem J_HPen_drawEllipse_d192 : decode J_HPen_drawEllipse.2.1 192 = .ok (.iload_n 1, 1) := by decide +kernel
theorem J_HPen_drawEllipse_d193 : decode J_HPen_drawEllipse.2.1 193 = .ok (.iadd, 1) := by decide +kernel
theorem J_HPen_drawEllipse_d194 : decode J_HPen_drawEllipse.2.1 194 = .ok (.iload 10, 2) := by decide +kernel
theorem J_HPen_drawEllipse_d196 : decode J_HPen_drawEllipse.2.1 196 = .ok (.isub, 1) := by decide +kernel
theorem J_HPen_drawEllipse_d197 : decode J_HPen_drawEllipse.2.1 197 = .ok (.iload 6, 2) := by decide +kernel
theorem J_HPen_drawEllipse_d199 : decode J_HPen_drawEllipse.2.1 199 = .ok (.aload_n 0, 1) := by decide +kernel
theorem J_HPen_drawEllipse_d200 : decode J_HPen_drawEllipse.2.1 200 = .ok (.getfield 43, 3) := by decide +kernel
theorem J_HPen_drawEllipse_d203 : decode J_HPen_drawEllipse.2.1 203 = .ok (.iload_n 1, 1) := by decide +kernel
theorem J_HPen_drawEllipse_d204 : decode J_HPen_drawEllipse.2.1 204 = .ok (.iadd, 1) := by decide +kernel
theorem J_HPen_drawEllipse_d205 : decode J_HPen_drawEllipse.2.1 205 = .ok (.iconst 1, 1) := by decide +kernel
theorem J_HPen_drawEllipse_d206 : decode J_HPen_drawEllipse.2.1 206 = .ok (.isub, 1) := by decide +kernel
theorem J_HPen_drawEllipse_d207 : decode J_HPen_drawEllipse.2.1 207 = .ok (.iload 9, 2) := by decide +kernel
theorem J_HPen_drawEllipse_d209 : decode J_HPen_drawEllipse.2.1 209 = .ok (.isub, 1) := by decide +kernel
theorem J_HPen_drawEllipse_d210 : decode J_HPen_drawEllipse.2.1 210 = .ok (.iload 6, 2) := by decide +kernel
theorem J_HPen_drawEllipse_d212 : decode J_HPen_drawEllipse.2.1 212 = .ok (.invokevirtual 107, 3) := by decide +kernel
theorem J_HPen_drawEllipse_d215 : decode J_HPen_drawEllipse.2.1 215 = .ok (.iinc 5 1, 3) := by decide +kernel
theorem J_HPen_drawEllipse_d218 : decode J_HPen_drawEllipse.2.1 218 = .ok (.goto (-194), 3) := by decide +kernel
theorem J_HPen_drawEllipse_d221 : decode J_HPen_drawEllipse.2.1 221 = .ok (.return_, 1) := by decide +kernel
theorem f_HPen_drawEllipse_ok {L : Nat} {xs : Nat → Int32} {dep : Nat} {w : Bool} {p0 : Int32} {p1 : Int32} {p2 : Int32} {M : im_M} {Q : im_M → Prop} (hM : lw_S w M) (h : ed (f_HPen_drawEllipse w p0 p1 p2 M) Q) : ia (tb_G L xs) (dep + 2) J_HPen_drawEllipse (rwV w Q) (0, lv_args 0 [.ref 56, .int p0, .int p1, .int p2], [], M) := by
  have hS : im_St (tb_G L xs) (dep + 2) J_HPen_drawEllipse (ia (tb_G L xs) (dep + 2) J_HPen_drawEllipse (rwV w Q)) := ia_St
  unfold f_HPen_drawEllipse at h
  have l0 : im_lk (lv_args 0 [.ref 56, .int p0, .int p1, .int p2]) 0 = some (.ref 56) := rfl
  have l1 : im_lk (lv_args 0 [.ref 56, .int p0, .int p1, .int p2]) 1 = some (.int p0) := rfl
  have l2 : im_lk (lv_args 0 [.ref 56, .int p0, .int p1, .int p2]) 2 = some (.int p1) := rfl
  have l3 : im_lk (lv_args 0 [.ref 56, .int p0, .int p1, .int p2]) 3 = some (.int p2) := rfl
  refine iq_iload_n hS 1 J_HPen_drawEllipse_d0 l1 rfl ?_
  refine iq_iconst hS 2 J_HPen_drawEllipse_d1 (v := 2) (by decide +kernel) rfl ?_
  refine iq_iload_n hS 3 J_HPen_drawEllipse_d2 l3 rfl ?_
  refine iq_imul hS 4 J_HPen_drawEllipse_d3 rfl ?_
  have J1 : ∀ (z2 : Int32) (L' : List (Nat × Value)), z2 = ((if p0 ≤ ((2 : Int32) * p2) then 0 else (if p1 ≤ ((2 : Int32) * p2) then 0 else 1)) : Int32) → im_lk L' 0 = some (.ref 56) → im_lk L' 1 = some (.int p0) → im_lk L' 2 = some (.int p1) → im_lk L' 3 = some (.int p2) → ia (tb_G L xs) (dep + 2) J_HPen_drawEllipse (rwV w Q) (19, L', [.int z2], M) := by
    intro z2 L' e3 l4 l5 l6 l7
    subst e3
    refine iq_istore hS 21 J_HPen_drawEllipse_d19 (by decide) rfl ?_
    refine iq_iconst hS 22 J_HPen_drawEllipse_d21 (v := 0) (by decide +kernel) rfl ?_
    refine iq_istore hS 24 J_HPen_drawEllipse_d22 (by decide) rfl ?_
    obtain ⟨Q8, hQ8, h⟩ := bd1_ed h
    have K8 : ∀ (M9 : im_M) (L' : List (Nat × Value)), lw_S w M9 → Q8 M9 → ia (tb_G L xs) (dep + 2) J_HPen_drawEllipse (rwV w Q) (221, L', [], M9) := by
      intro M9 L' hM9  h
      replace h := hQ8 _ h
      exact iq_ret J_HPen_drawEllipse_d221 rfl ⟨rfl, hM9, ed_some h⟩
    obtain ⟨r8, hr8, hq8⟩ := h
    obtain ⟨n8, hn8⟩ := lp_n hr8
    have I8 : ∀ (n : Nat) (x10 : Int32) (M11 : im_M) (L' : List (Nat × Value)), lw_S w M11 → im_lk L' 0 = some (.ref 56) → im_lk L' 1 = some (.int p0) → im_lk L' 2 = some (.int p1) → im_lk L' 3 = some (.int p2) → im_lk L' 4 = some (.int ((if p0 ≤ ((2 : Int32) * p2) then 0 else (if p1 ≤ ((2 : Int32) * p2) then 0 else 1)) : Int32)) → im_lk L' 5 = some (.int x10) → lpn (uc2 (f_HPen_drawEllipse_L24 w p0 p1 p2 ((if p0 ≤ ((2 : Int32) * p2) then 0 else (if p1 ≤ ((2 : Int32) * p2) then 0 else 1)) : Int32))) n (x10, M11) = some r8 → ia (tb_G L xs) (dep + 2) J_HPen_drawEllipse (rwV w Q) (24, L', [], M11) := by
      intro n
      induction n with
      | zero => intro x10 M11 L' hM11 l12 l13 l14 l15 l16 l17 hn; exact (lpn_0 hn).elim
      | succ n ih =>
        intro x10 M11 L' hM11 l12 l13 l14 l15 l16 l17 hn
        have h := lpn_ed2 hn
        unfold f_HPen_drawEllipse_L24 at h
        refine iq_iload hS 26 J_HPen_drawEllipse_d24 l17 rfl ?_
        refine iq_iload_n hS 27 J_HPen_drawEllipse_d26 l14 rfl ?_
        refine iq_icmp_ge hS 30 J_HPen_drawEllipse_d27 (t := 221) rfl (fun q27 => ?_) rfl (fun q27 => ?_)
        · replace h := ed_pos q27 h
          exact K8 _ _ hM11  (lq_r h hq8)
        · replace h := ed_neg q27 h
          refine iq_aload_n hS 31 J_HPen_drawEllipse_d30 l12 rfl ?_
          refine iq_getI hS 34 J_HPen_drawEllipse_d31 lf_6_47 (Or.inl rfl) (ka_56 hM11) rfl ?_
          refine iq_iload hS 36 J_HPen_drawEllipse_d34 l17 rfl ?_
          refine iq_iadd hS 37 J_HPen_drawEllipse_d36 rfl ?_
          refine iq_istore hS 39 J_HPen_drawEllipse_d37 (by decide) rfl ?_
          refine iq_iload hS 41 J_HPen_drawEllipse_d39 lk_1s rfl ?_
          obtain ⟨Q18, hQ18, h⟩ := bd1_ed h
          have J18 : ∀ (M45 : im_M) (L' : List (Nat × Value)), lw_S w M45 → im_lk L' 0 = some (.ref 56) → im_lk L' 1 = some (.int p0) → im_lk L' 2 = some (.int p1) → im_lk L' 3 = some (.int p2) → im_lk L' 4 = some (.int ((if p0 ≤ ((2 : Int32) * p2) then 0 else (if p1 ≤ ((2 : Int32) * p2) then 0 else 1)) : Int32)) → im_lk L' 5 = some (.int x10) → Q18 M45 → ia (tb_G L xs) (dep + 2) J_HPen_drawEllipse (rwV w Q) (215, L', [], M45) := by
            intro M45 L' hM45 l46 l47 l48 l49 l50 l51 h
            replace h := hQ18 _ h
            refine iq_iincv hS 218 J_HPen_drawEllipse_d215 (c := 1) (by decide +kernel) l51 (by decide) rfl ?_
            refine iq_goto hS J_HPen_drawEllipse_d218 (t := 24) rfl ?_
            exact ih _ _ _ hM45 (lk_1r l46 (by decide)) (lk_1i l47 (by decide)) (lk_1i l48 (by decide)) (lk_1i l49 (by decide)) (lk_1i l50 (by decide)) lk_1s (lq_l h)
          refine iq_if_lt hS 44 J_HPen_drawEllipse_d41 (t := 215) rfl (fun q41 => ?_) rfl (fun q41 => ?_)
          · replace h := ed_pos q41 h
            exact J18 _ _ hM11 (lk_1r l12 (by decide)) (lk_1i l13 (by decide)) (lk_1i l14 (by decide)) (lk_1i l15 (by decide)) (lk_1i l16 (by decide)) (lk_1i l17 (by decide)) (ed_some h)
          · replace h := ed_neg q41 h
            refine iq_iload hS 46 J_HPen_drawEllipse_d44 lk_1s rfl ?_
            refine iq_aload_n hS 47 J_HPen_drawEllipse_d46 (lk_1r l12 (by decide)) rfl ?_
            refine iq_getR hS 50 J_HPen_drawEllipse_d47 lf_6_19 (Or.inl ⟨_, rfl⟩) (ka_56 hM11) (ra_56_0 hM11) rfl ?_
            refine iq_getI hS 53 J_HPen_drawEllipse_d50 lf_6_134 (Or.inl rfl) (ka_28 hM11) rfl ?_
            refine iq_icmp_ge hS 56 J_HPen_drawEllipse_d53 (t := 215) rfl (fun q53 => ?_) rfl (fun q53 => ?_)
            · replace h := ed_pos q53 h
              exact J18 _ _ hM11 (lk_1r l12 (by decide)) (lk_1i l13 (by decide)) (lk_1i l14 (by decide)) (lk_1i l15 (by decide)) (lk_1i l16 (by decide)) (lk_1i l17 (by decide)) (ed_some h)
            · replace h := ed_neg q53 h
              refine iq_ldc2_w hS 59 J_HPen_drawEllipse_d56 lk_6_137 rfl ?_
              refine iq_iload hS 61 J_HPen_drawEllipse_d59 (lk_1i l17 (by decide)) rfl ?_
              refine iq_i2l hS 62 J_HPen_drawEllipse_d61 rfl ?_
              refine iq_lmul hS 63 J_HPen_drawEllipse_d62 rfl ?_
              refine iq_iload_n hS 64 J_HPen_drawEllipse_d63 (lk_1i l14 (by decide)) rfl ?_
              refine iq_iconst hS 65 J_HPen_drawEllipse_d64 (v := 1) (by decide +kernel) rfl ?_
              refine iq_isub hS 66 J_HPen_drawEllipse_d65 rfl ?_
              refine iq_i2l hS 67 J_HPen_drawEllipse_d66 rfl ?_
              refine iq_lsub hS 68 J_HPen_drawEllipse_d67 rfl ?_
              refine iq_lstore hS 70 J_HPen_drawEllipse_d68 (by decide) rfl ?_
              refine iq_iload_n hS 71 J_HPen_drawEllipse_d70 (lk_2i (lk_1i l13 (by decide)) (by decide) (by decide)) rfl ?_
              refine iq_iload_n hS 72 J_HPen_drawEllipse_d71 (lk_2i (lk_1i l13 (by decide)) (by decide) (by decide)) rfl ?_
              refine iq_iload_n hS 73 J_HPen_drawEllipse_d72 (lk_2i (lk_1i l14 (by decide)) (by decide) (by decide)) rfl ?_
              refine iq_lload hS 75 J_HPen_drawEllipse_d73 lk_2s rfl ?_
              obtain ⟨Q19, hQ19, h⟩ := bd1_ed h
              refine iq_cpI hS 78 J_HPen_drawEllipse_d75 rfl (pr_stat (vs := [_, _, _, _]) lc_6_139 lT_182 rfl rfl (by decide) rfl (Nat.le_of_ble_eq_true rfl) (Nat.le_of_ble_eq_true rfl)) (f_HPen_indent_ok (dep := dep + 1) hM11 h) rfl ?_
              intro x19 h
              replace h := hQ19 _ h
              refine iq_istore hS 80 J_HPen_drawEllipse_d78 (by decide) rfl ?_
              refine iq_iload hS 82 J_HPen_drawEllipse_d80 (lk_1i (lk_2i (lk_1i l16 (by decide)) (by decide) (by decide)) (by decide)) rfl ?_
              obtain ⟨Q20, hQ20, h⟩ := bd1_ed h
              have J20 : ∀ (y22 : Int32) (L' : List (Nat × Value)), im_lk L' 0 = some (.ref 56) → im_lk L' 1 = some (.int p0) → im_lk L' 2 = some (.int p1) → im_lk L' 3 = some (.int p2) → im_lk L' 4 = some (.int ((if p0 ≤ ((2 : Int32) * p2) then 0 else (if p1 ≤ ((2 : Int32) * p2) then 0 else 1)) : Int32)) → im_lk L' 5 = some (.int x10) → im_lk L' 6 = some (.int ((im_i M11 56 6) + x10)) → im_lk L' 9 = some (.int x19) → Q20 y22 → ia (tb_G L xs) (dep + 2) J_HPen_drawEllipse (rwV w Q) (105, L', [.int y22], M11) := by
                intro y22 L' l23 l24 l25 l26 l27 l28 l29 l30 h
                replace h := hQ20 _ h
                refine iq_istore hS 107 J_HPen_drawEllipse_d105 (by decide) rfl ?_
                refine iq_iload hS 109 J_HPen_drawEllipse_d107 lk_1s rfl ?_
                refine iq_iconst hS 110 J_HPen_drawEllipse_d109 (v := (-1)) (by decide +kernel) rfl ?_
                obtain ⟨k31, Q31, hQ31, hk31, h⟩ := jn1_ed h
                have J31 : ∀ (M33 : im_M) (L' : List (Nat × Value)), lw_S w M33 → im_lk L' 0 = some (.ref 56) → im_lk L' 1 = some (.int p0) → im_lk L' 2 = some (.int p1) → im_lk L' 3 = some (.int p2) → im_lk L' 4 = some (.int ((if p0 ≤ ((2 : Int32) * p2) then 0 else (if p1 ≤ ((2 : Int32) * p2) then 0 else 1)) : Int32)) → im_lk L' 5 = some (.int x10) → im_lk L' 6 = some (.int ((im_i M11 56 6) + x10)) → im_lk L' 9 = some (.int x19) → im_lk L' 10 = some (.int y22) → Q31 M33 → ia (tb_G L xs) (dep + 2) J_HPen_drawEllipse (rwV w Q) (151, L', [], M33) := by
                  intro M33 L' hM33 l34 l35 l36 l37 l38 l39 l40 l41 l42 h
                  replace h := hQ31 _ h
                  refine iq_iload hS 153 J_HPen_drawEllipse_d151 l41 rfl ?_
                  refine iq_iconst hS 154 J_HPen_drawEllipse_d153 (v := (-1)) (by decide +kernel) rfl ?_
                  refine iq_icmp_eq hS 157 J_HPen_drawEllipse_d154 (t := 215) rfl (fun q154 => ?_) rfl (fun q154 => ?_)
                  · replace h := ed_pos q154 h
                    exact J18 _ _ hM33 l34 l35 l36 l37 l38 l39 (ed_some h)
                  · replace h := ed_neg q154 h
                    refine iq_aload_n hS 158 J_HPen_drawEllipse_d157 l34 rfl ?_
                    refine iq_getR hS 161 J_HPen_drawEllipse_d158 lf_6_19 (Or.inl ⟨_, rfl⟩) (ka_56 hM33) (ra_56_0 hM33) rfl ?_
                    refine iq_aload_n hS 162 J_HPen_drawEllipse_d161 l34 rfl ?_
                    refine iq_getI hS 165 J_HPen_drawEllipse_d162 lf_6_43 (Or.inl rfl) (ka_56 hM33) rfl ?_
                    refine iq_iload hS 167 J_HPen_drawEllipse_d165 l41 rfl ?_
                    refine iq_iadd hS 168 J_HPen_drawEllipse_d167 rfl ?_
                    refine iq_iload hS 170 J_HPen_drawEllipse_d168 l40 rfl ?_
                    refine iq_aload_n hS 171 J_HPen_drawEllipse_d170 l34 rfl ?_
                    refine iq_getI hS 174 J_HPen_drawEllipse_d171 lf_6_43 (Or.inl rfl) (ka_56 hM33) rfl ?_
                    refine iq_iload hS 176 J_HPen_drawEllipse_d174 l42 rfl ?_
                    refine iq_iadd hS 177 J_HPen_drawEllipse_d176 rfl ?_
                    refine iq_iconst hS 178 J_HPen_drawEllipse_d177 (v := 1) (by decide +kernel) rfl ?_
                    refine iq_isub hS 179 J_HPen_drawEllipse_d178 rfl ?_
                    refine iq_iload hS 181 J_HPen_drawEllipse_d179 l40 rfl ?_
                    obtain ⟨Q43, hQ43, h⟩ := bd1_ed h
                    refine iq_cwV hS 184 J_HPen_drawEllipse_d181 rfl (pr_inst (vs := [_, _, _, _]) lc_6_107 lT_113 rfl rfl (by decide) (by decide) rfl (Nat.le_of_ble_eq_true rfl) (Nat.le_of_ble_eq_true rfl) (fun _ => Or.inl (pr_b (ka_28 hM33) (by decide) rfl))) (f_HSheet_box_ok (dep := dep + 0) hM33 h) rfl ?_
                    intro M43 hM43 h
                    replace h := hQ43 _ h
                    refine iq_aload_n hS 185 J_HPen_drawEllipse_d184 l34 rfl ?_
                    refine iq_getR hS 188 J_HPen_drawEllipse_d185 lf_6_19 (Or.inl ⟨_, rfl⟩) (ka_56 hM43) (ra_56_0 hM43) rfl ?_
                    refine iq_aload_n hS 189 J_HPen_drawEllipse_d188 l34 rfl ?_
                    refine iq_getI hS 192 J_HPen_drawEllipse_d189 lf_6_43 (Or.inl rfl) (ka_56 hM43) rfl ?_
                    refine iq_iload_n hS 193 J_HPen_drawEllipse_d192 l35 rfl ?_
                    refine iq_iadd hS 194 J_HPen_drawEllipse_d193 rfl ?_
                    refine iq_iload hS 196 J_HPen_drawEllipse_d194 l42 rfl ?_
                    refine iq_isub hS 197 J_HPen_drawEllipse_d196 rfl ?_
                    refine iq_iload hS 199 J_HPen_drawEllipse_d197 l40 rfl ?_
                    refine iq_aload_n hS 200 J_HPen_drawEllipse_d199 l34 rfl ?_
                    refine iq_getI hS 203 J_HPen_drawEllipse_d200 lf_6_43 (Or.inl rfl) (ka_56 hM43) rfl ?_
                    refine iq_iload_n hS 204 J_HPen_drawEllipse_d203 l35 rfl ?_
                    refine iq_iadd hS 205 J_HPen_drawEllipse_d204 rfl ?_
                    refine iq_iconst hS 206 J_HPen_drawEllipse_d205 (v := 1) (by decide +kernel) rfl ?_
                    refine iq_isub hS 207 J_HPen_drawEllipse_d206 rfl ?_
                    refine iq_iload hS 209 J_HPen_drawEllipse_d207 l41 rfl ?_
                    refine iq_isub hS 210 J_HPen_drawEllipse_d209 rfl ?_
                    refine iq_iload hS 212 J_HPen_drawEllipse_d210 l40 rfl ?_
                    obtain ⟨Q44, hQ44, h⟩ := bd1_ed h
                    refine iq_cwV hS 215 J_HPen_drawEllipse_d212 rfl (pr_inst (vs := [_, _, _, _]) lc_6_107 lT_113 rfl rfl (by decide) (by decide) rfl (Nat.le_of_ble_eq_true rfl) (Nat.le_of_ble_eq_true rfl) (fun _ => Or.inl (pr_b (ka_28 hM43) (by decide) rfl))) (f_HSheet_box_ok (dep := dep + 0) hM43 h) rfl ?_
                    intro M44 hM44 h
                    replace h := hQ44 _ h
                    exact J18 _ _ hM44 l34 l35 l36 l37 l38 l39 (ed_some h)
                refine iq_icmp_ne hS 113 J_HPen_drawEllipse_d110 (t := 151) rfl (fun q110 => ?_) rfl (fun q110 => ?_)
                · replace h := ed_pos q110 h
                  exact J31 _ _ hM11 (lk_1r l23 (by decide)) (lk_1i l24 (by decide)) (lk_1i l25 (by decide)) (lk_1i l26 (by decide)) (lk_1i l27 (by decide)) (lk_1i l28 (by decide)) (lk_1i l29 (by decide)) (lk_1i l30 (by decide)) lk_1s (hk31 _ h)
                · replace h := ed_neg q110 h
                  refine iq_iload hS 115 J_HPen_drawEllipse_d113 (lk_1i l30 (by decide)) rfl ?_
                  refine iq_iconst hS 116 J_HPen_drawEllipse_d115 (v := (-1)) (by decide +kernel) rfl ?_
                  refine iq_icmp_eq hS 119 J_HPen_drawEllipse_d116 (t := 151) rfl (fun q116 => ?_) rfl (fun q116 => ?_)
                  · replace h := ed_pos q116 h
                    exact J31 _ _ hM11 (lk_1r l23 (by decide)) (lk_1i l24 (by decide)) (lk_1i l25 (by decide)) (lk_1i l26 (by decide)) (lk_1i l27 (by decide)) (lk_1i l28 (by decide)) (lk_1i l29 (by decide)) (lk_1i l30 (by decide)) lk_1s (hk31 _ h)
                  · replace h := ed_neg q116 h
                    refine iq_aload_n hS 120 J_HPen_drawEllipse_d119 (lk_1r l23 (by decide)) rfl ?_
                    refine iq_getR hS 123 J_HPen_drawEllipse_d120 lf_6_19 (Or.inl ⟨_, rfl⟩) (ka_56 hM11) (ra_56_0 hM11) rfl ?_
                    refine iq_aload_n hS 124 J_HPen_drawEllipse_d123 (lk_1r l23 (by decide)) rfl ?_
                    refine iq_getI hS 127 J_HPen_drawEllipse_d124 lf_6_43 (Or.inl rfl) (ka_56 hM11) rfl ?_
                    refine iq_iload hS 129 J_HPen_drawEllipse_d127 (lk_1i l30 (by decide)) rfl ?_
                    refine iq_iadd hS 130 J_HPen_drawEllipse_d129 rfl ?_
                    refine iq_iload hS 132 J_HPen_drawEllipse_d130 (lk_1i l29 (by decide)) rfl ?_
                    refine iq_aload_n hS 133 J_HPen_drawEllipse_d132 (lk_1r l23 (by decide)) rfl ?_
                    refine iq_getI hS 136 J_HPen_drawEllipse_d133 lf_6_43 (Or.inl rfl) (ka_56 hM11) rfl ?_
                    refine iq_iload_n hS 137 J_HPen_drawEllipse_d136 (lk_1i l24 (by decide)) rfl ?_
                    refine iq_iadd hS 138 J_HPen_drawEllipse_d137 rfl ?_
                    refine iq_iconst hS 139 J_HPen_drawEllipse_d138 (v := 1) (by decide +kernel) rfl ?_
                    refine iq_isub hS 140 J_HPen_drawEllipse_d139 rfl ?_
                    refine iq_iload hS 142 J_HPen_drawEllipse_d140 (lk_1i l30 (by decide)) rfl ?_
                    refine iq_isub hS 143 J_HPen_drawEllipse_d142 rfl ?_
                    refine iq_iload hS 145 J_HPen_drawEllipse_d143 (lk_1i l29 (by decide)) rfl ?_
                    obtain ⟨Q32, hQ32, h⟩ := bd1_ed h
                    refine iq_cwV hS 148 J_HPen_drawEllipse_d145 rfl (pr_inst (vs := [_, _, _, _]) lc_6_107 lT_113 rfl rfl (by decide) (by decide) rfl (Nat.le_of_ble_eq_true rfl) (Nat.le_of_ble_eq_true rfl) (fun _ => Or.inl (pr_b (ka_28 hM11) (by decide) rfl))) (f_HSheet_box_ok (dep := dep + 0) hM11 h) rfl ?_
                    intro M32 hM32 h
                    replace h := hQ32 _ h
                    refine iq_goto hS J_HPen_drawEllipse_d148 (t := 215) rfl ?_
                    exact J18 _ _ hM32 (lk_1r l23 (by decide)) (lk_1i l24 (by decide)) (lk_1i l25 (by decide)) (lk_1i l26 (by decide)) (lk_1i l27 (by decide)) (lk_1i l28 (by decide)) (ed_some h)
              refine iq_if_eq hS 85 J_HPen_drawEllipse_d82 (t := 104) rfl (fun q82 => ?_) rfl (fun q82 => ?_)
              · replace h := ed_pos q82 h
                refine iq_iconst hS 105 J_HPen_drawEllipse_d104 (v := (-1)) (by decide +kernel) rfl ?_
                exact J20 _ _ (lk_1r (lk_2r (lk_1r l12 (by decide)) (by decide) (by decide)) (by decide)) (lk_1i (lk_2i (lk_1i l13 (by decide)) (by decide) (by decide)) (by decide)) (lk_1i (lk_2i (lk_1i l14 (by decide)) (by decide) (by decide)) (by decide)) (lk_1i (lk_2i (lk_1i l15 (by decide)) (by decide) (by decide)) (by decide)) (lk_1i (lk_2i (lk_1i l16 (by decide)) (by decide) (by decide)) (by decide)) (lk_1i (lk_2i (lk_1i l17 (by decide)) (by decide) (by decide)) (by decide)) (lk_1i (lk_2i lk_1s (by decide) (by decide)) (by decide)) lk_1s (ed_some h)
              · replace h := ed_neg q82 h
                refine iq_iload_n hS 86 J_HPen_drawEllipse_d85 (lk_1i (lk_2i (lk_1i l13 (by decide)) (by decide) (by decide)) (by decide)) rfl ?_
                refine iq_iload_n hS 87 J_HPen_drawEllipse_d86 (lk_1i (lk_2i (lk_1i l13 (by decide)) (by decide) (by decide)) (by decide)) rfl ?_
                refine iq_iconst hS 88 J_HPen_drawEllipse_d87 (v := 2) (by decide +kernel) rfl ?_
                refine iq_iload_n hS 89 J_HPen_drawEllipse_d88 (lk_1i (lk_2i (lk_1i l15 (by decide)) (by decide) (by decide)) (by decide)) rfl ?_
                refine iq_imul hS 90 J_HPen_drawEllipse_d89 rfl ?_
                refine iq_isub hS 91 J_HPen_drawEllipse_d90 rfl ?_
                refine iq_iload_n hS 92 J_HPen_drawEllipse_d91 (lk_1i (lk_2i (lk_1i l14 (by decide)) (by decide) (by decide)) (by decide)) rfl ?_
                refine iq_iconst hS 93 J_HPen_drawEllipse_d92 (v := 2) (by decide +kernel) rfl ?_
                refine iq_iload_n hS 94 J_HPen_drawEllipse_d93 (lk_1i (lk_2i (lk_1i l15 (by decide)) (by decide) (by decide)) (by decide)) rfl ?_
                refine iq_imul hS 95 J_HPen_drawEllipse_d94 rfl ?_
                refine iq_isub hS 96 J_HPen_drawEllipse_d95 rfl ?_
                refine iq_lload hS 98 J_HPen_drawEllipse_d96 (lk_1l lk_2s (by decide) (by decide)) rfl ?_
                obtain ⟨Q21, hQ21, h⟩ := bd1_ed h
                refine iq_cpI hS 101 J_HPen_drawEllipse_d98 rfl (pr_stat (vs := [_, _, _, _]) lc_6_139 lT_182 rfl rfl (by decide) rfl (Nat.le_of_ble_eq_true rfl) (Nat.le_of_ble_eq_true rfl)) (f_HPen_indent_ok (dep := dep + 1) hM11 h) rfl ?_
                intro x21 h
                replace h := hQ21 _ h
                refine iq_goto hS J_HPen_drawEllipse_d101 (t := 105) rfl ?_
                exact J20 _ _ (lk_1r (lk_2r (lk_1r l12 (by decide)) (by decide) (by decide)) (by decide)) (lk_1i (lk_2i (lk_1i l13 (by decide)) (by decide) (by decide)) (by decide)) (lk_1i (lk_2i (lk_1i l14 (by decide)) (by decide) (by decide)) (by decide)) (lk_1i (lk_2i (lk_1i l15 (by decide)) (by decide) (by decide)) (by decide)) (lk_1i (lk_2i (lk_1i l16 (by decide)) (by decide) (by decide)) (by decide)) (lk_1i (lk_2i (lk_1i l17 (by decide)) (by decide) (by decide)) (by decide)) (lk_1i (lk_2i lk_1s (by decide) (by decide)) (by decide)) lk_1s (ed_some h)
    exact I8 n8 _ _ _ hM (lk_1r (lk_1r l4 (by decide)) (by decide)) (lk_1i (lk_1i l5 (by decide)) (by decide)) (lk_1i (lk_1i l6 (by decide)) (by decide)) (lk_1i (lk_1i l7 (by decide)) (by decide)) (lk_1i lk_1s (by decide)) lk_1s hn8
  refine iq_icmp_le hS 7 J_HPen_drawEllipse_d4 (t := 18) rfl (fun q4 => ?_) rfl (fun q4 => ?_)
  · refine iq_iconst hS 19 J_HPen_drawEllipse_d18 (v := 0) (by decide +kernel) rfl ?_
    exact J1 _ _ (by simp only [if_pos q4]) l0 l1 l2 l3
  · refine iq_iload_n hS 8 J_HPen_drawEllipse_d7 l2 rfl ?_
    refine iq_iconst hS 9 J_HPen_drawEllipse_d8 (v := 2) (by decide +kernel) rfl ?_
    refine iq_iload_n hS 10 J_HPen_drawEllipse_d9 l3 rfl ?_
    refine iq_imul hS 11 J_HPen_drawEllipse_d10 rfl ?_
    refine iq_icmp_le hS 14 J_HPen_drawEllipse_d11 (t := 18) rfl (fun q11 => ?_) rfl (fun q11 => ?_)
    · refine iq_iconst hS 19 J_HPen_drawEllipse_d18 (v := 0) (by decide +kernel) rfl ?_
      exact J1 _ _ (by simp only [if_neg q4, if_pos q11]) l0 l1 l2 l3
    · refine iq_iconst hS 15 J_HPen_drawEllipse_d14 (v := 1) (by decide +kernel) rfl ?_
      refine iq_goto hS J_HPen_drawEllipse_d15 (t := 19) rfl ?_
      exact J1 _ _ (by simp only [if_neg q4, if_neg q11]) l0 l1 l2 l3
theorem f_HPen_drawEllipse_fr {w : Bool} {p0 : Int32} {p1 : Int32} {p2 : Int32} {M : im_M} {r : im_M} (h : f_HPen_drawEllipse w p0 p1 p2 M = some r) : fr 1610612736 [(28, 3)] M r := by
  replace h : ed (f_HPen_drawEllipse w p0 p1 p2 M) (fun x => x = r) := ⟨r, h, rfl⟩
  unfold f_HPen_drawEllipse at h
  obtain ⟨Q2, hQ2, h⟩ := bd1_ed h
  have K2 : ∀ (M3 : im_M), fr 1610612736 [(28, 3)] M M3 → Q2 M3 → fr 1610612736 [(28, 3)] M r := by
    intro M3 hM3 h
    replace h := hQ2 _ h
    exact fr_retV h hM3
  obtain ⟨r2, hr2, hq2⟩ := h
  obtain ⟨n2, hn2⟩ := lp_n hr2
  have I2 : ∀ (n : Nat) (x4 : Int32) (M5 : im_M), fr 1610612736 [(28, 3)] M M5 → lpn (uc2 (f_HPen_drawEllipse_L24 w p0 p1 p2 ((if p0 ≤ ((2 : Int32) * p2) then 0 else (if p1 ≤ ((2 : Int32) * p2) then 0 else 1)) : Int32))) n (x4, M5) = some r2 → fr 1610612736 [(28, 3)] M r := by
    intro n
    induction n with
    | zero => intro x4 M5 hM5 hn; exact (lpn_0 hn).elim
    | succ n ih =>
      intro x4 M5 hM5 hn
      have h := lpn_ed2 hn
      unfold f_HPen_drawEllipse_L24 at h
      by_cases q27 : p1 ≤ x4
      · replace h := ed_pos q27 h
        exact K2 _ hM5 (lq_r h hq2)
      · replace h := ed_neg q27 h
        obtain ⟨Q6, hQ6, h⟩ := bd1_ed h
        have J6 : ∀ (M33 : im_M), fr 1610612736 [(28, 3)] M M33 → Q6 M33 → fr 1610612736 [(28, 3)] M r := by
          intro M33 hM33 h
          replace h := hQ6 _ h
          exact ih _ _ hM33 (lq_l h)
        by_cases q41 : ((im_i M5 56 6) + x4) < 0
        · replace h := ed_pos q41 h
          exact J6 _ hM5 (ed_some h)
        · replace h := ed_neg q41 h
          by_cases q53 : (im_i M5 28 1) ≤ ((im_i M5 56 6) + x4)
          · replace h := ed_pos q53 h
            exact J6 _ hM5 (ed_some h)
          · replace h := ed_neg q53 h
            obtain ⟨Q7, hQ7, h⟩ := bd1_ed h
            obtain ⟨x7, e7, h⟩ := h
            replace h := hQ7 _ h
            obtain ⟨Q8, hQ8, h⟩ := bd1_ed h
            have J8 : ∀ (y10 : Int32), Q8 y10 → fr 1610612736 [(28, 3)] M r := by
              intro y10 h
              replace h := hQ8 _ h
              obtain ⟨k19, Q19, hQ19, hk19, h⟩ := jn1_ed h
              have J19 : ∀ (M21 : im_M), fr 1610612736 [(28, 3)] M M21 → Q19 M21 → fr 1610612736 [(28, 3)] M r := by
                intro M21 hM21 h
                replace h := hQ19 _ h
                by_cases q154 : x7 = (-1)
                · replace h := ed_pos q154 h
                  exact J6 _ hM21 (ed_some h)
                · replace h := ed_neg q154 h
                  obtain ⟨Q31, hQ31, h⟩ := bd1_ed h
                  obtain ⟨M31, e31, h⟩ := h
                  replace h := hQ31 _ h
                  obtain ⟨Q32, hQ32, h⟩ := bd1_ed h
                  obtain ⟨M32, e32, h⟩ := h
                  replace h := hQ32 _ h
                  exact J6 _ (fr_tr (fr_mono (by decide) (by decide +kernel) (f_HSheet_box_fr e32)) (fr_tr (fr_mono (by decide) (by decide +kernel) (f_HSheet_box_fr e31)) hM21)) (ed_some h)
              by_cases q110 : ¬ y10 = (-1)
              · replace h := ed_pos q110 h
                exact J19 _ hM5 (hk19 _ h)
              · replace h := ed_neg q110 h
                by_cases q116 : x7 = (-1)
                · replace h := ed_pos q116 h
                  exact J19 _ hM5 (hk19 _ h)
                · replace h := ed_neg q116 h
                  obtain ⟨Q20, hQ20, h⟩ := bd1_ed h
                  obtain ⟨M20, e20, h⟩ := h
                  replace h := hQ20 _ h
                  exact J6 _ (fr_tr (fr_mono (by decide) (by decide +kernel) (f_HSheet_box_fr e20)) hM5) (ed_some h)
            by_cases q82 : ((if p0 ≤ ((2 : Int32) * p2) then 0 else (if p1 ≤ ((2 : Int32) * p2) then 0 else 1)) : Int32) = 0
            · replace h := ed_pos q82 h
              exact J8 _ (ed_some h)
            · replace h := ed_neg q82 h
              obtain ⟨Q9, hQ9, h⟩ := bd1_ed h
              obtain ⟨x9, e9, h⟩ := h
              replace h := hQ9 _ h
              exact J8 _ (ed_some h)
  exact I2 n2 _ _ fr_refl hn2
noncomputable def f_Math_floorDiv (p0 : Int32) (p1 : Int32) (M : im_M) : Option (Int32) := gd (¬ p1 = (0 : Int32)) <| if 0 ≤ (p0 ^^^ p1) then some (p0 / p1) else if ((p0 / p1) * p1) = p0 then some (p0 / p1) else some ((p0 / p1) - 1)
theorem J_Math_floorDiv_d0 : decode J_Math_floorDiv.2.1 0 = .ok (.iload_n 0, 1) := by decide +kernel
theorem J_Math_floorDiv_d1 : decode J_Math_floorDiv.2.1 1 = .ok (.iload_n 1, 1) := by decide +kernel
theorem J_Math_floorDiv_d2 : decode J_Math_floorDiv.2.1 2 = .ok (.idiv, 1) := by decide +kernel
theorem J_Math_floorDiv_d3 : decode J_Math_floorDiv.2.1 3 = .ok (.istore_n 2, 1) := by decide +kernel
theorem J_Math_floorDiv_d4 : decode J_Math_floorDiv.2.1 4 = .ok (.iload_n 0, 1) := by decide +kernel
theorem J_Math_floorDiv_d5 : decode J_Math_floorDiv.2.1 5 = .ok (.iload_n 1, 1) := by decide +kernel
theorem J_Math_floorDiv_d6 : decode J_Math_floorDiv.2.1 6 = .ok (.ixor, 1) := by decide +kernel
theorem J_Math_floorDiv_d7 : decode J_Math_floorDiv.2.1 7 = .ok (.ifCond .ge 14, 3) := by decide +kernel
theorem J_Math_floorDiv_d10 : decode J_Math_floorDiv.2.1 10 = .ok (.iload_n 2, 1) := by decide +kernel
theorem J_Math_floorDiv_d11 : decode J_Math_floorDiv.2.1 11 = .ok (.iload_n 1, 1) := by decide +kernel
theorem J_Math_floorDiv_d12 : decode J_Math_floorDiv.2.1 12 = .ok (.imul, 1) := by decide +kernel
theorem J_Math_floorDiv_d13 : decode J_Math_floorDiv.2.1 13 = .ok (.iload_n 0, 1) := by decide +kernel
theorem J_Math_floorDiv_d14 : decode J_Math_floorDiv.2.1 14 = .ok (.if_icmp .eq 7, 3) := by decide +kernel
theorem J_Math_floorDiv_d17 : decode J_Math_floorDiv.2.1 17 = .ok (.iload_n 2, 1) := by decide +kernel
theorem J_Math_floorDiv_d18 : decode J_Math_floorDiv.2.1 18 = .ok (.iconst 1, 1) := by decide +kernel
theorem J_Math_floorDiv_d19 : decode J_Math_floorDiv.2.1 19 = .ok (.isub, 1) := by decide +kernel
theorem J_Math_floorDiv_d20 : decode J_Math_floorDiv.2.1 20 = .ok (.ireturn, 1) := by decide +kernel
theorem J_Math_floorDiv_d21 : decode J_Math_floorDiv.2.1 21 = .ok (.iload_n 2, 1) := by decide +kernel
theorem J_Math_floorDiv_d22 : decode J_Math_floorDiv.2.1 22 = .ok (.ireturn, 1) := by decide +kernel
theorem f_Math_floorDiv_ok {L : Nat} {xs : Nat → Int32} {dep : Nat} {w : Bool} {p0 : Int32} {p1 : Int32} {M : im_M} {Q : Int32 → Prop} (hM : lw_S w M) (h : ed (f_Math_floorDiv p0 p1 M) Q) : ia (tb_G L xs) dep J_Math_floorDiv (rpI M Q) (0, lv_args 0 [.int p0, .int p1], [], M) := by
  have hS : im_St (tb_G L xs) dep J_Math_floorDiv (ia (tb_G L xs) dep J_Math_floorDiv (rpI M Q)) := ia_St
  unfold f_Math_floorDiv at h
  have l0 : im_lk (lv_args 0 [.int p0, .int p1]) 0 = some (.int p0) := rfl
  have l1 : im_lk (lv_args 0 [.int p0, .int p1]) 1 = some (.int p1) := rfl
  refine iq_iload_n hS 1 J_Math_floorDiv_d0 l0 rfl ?_
  refine iq_iload_n hS 2 J_Math_floorDiv_d1 l1 rfl ?_
  obtain ⟨g2, h⟩ := ed_gd h
  refine iq_idiv hS 3 J_Math_floorDiv_d2 g2 rfl ?_
  refine iq_istore_n hS 4 J_Math_floorDiv_d3 (by decide) rfl ?_
  refine iq_iload_n hS 5 J_Math_floorDiv_d4 (lk_1i l0 (by decide)) rfl ?_
  refine iq_iload_n hS 6 J_Math_floorDiv_d5 (lk_1i l1 (by decide)) rfl ?_
  refine iq_ixor hS 7 J_Math_floorDiv_d6 rfl ?_
  refine iq_if_ge hS 10 J_Math_floorDiv_d7 (t := 21) rfl (fun q7 => ?_) rfl (fun q7 => ?_)
  · replace h := ed_pos q7 h
    refine iq_iload_n hS 22 J_Math_floorDiv_d21 lk_1s rfl ?_
    exact iq_iret J_Math_floorDiv_d22 rfl rfl ⟨_, rfl, rfl, ed_some h⟩
  · replace h := ed_neg q7 h
    refine iq_iload_n hS 11 J_Math_floorDiv_d10 lk_1s rfl ?_
    refine iq_iload_n hS 12 J_Math_floorDiv_d11 (lk_1i l1 (by decide)) rfl ?_
    refine iq_imul hS 13 J_Math_floorDiv_d12 rfl ?_
    refine iq_iload_n hS 14 J_Math_floorDiv_d13 (lk_1i l0 (by decide)) rfl ?_
    refine iq_icmp_eq hS 17 J_Math_floorDiv_d14 (t := 21) rfl (fun q14 => ?_) rfl (fun q14 => ?_)
    · replace h := ed_pos q14 h
      refine iq_iload_n hS 22 J_Math_floorDiv_d21 lk_1s rfl ?_
      exact iq_iret J_Math_floorDiv_d22 rfl rfl ⟨_, rfl, rfl, ed_some h⟩
    · replace h := ed_neg q14 h
      refine iq_iload_n hS 18 J_Math_floorDiv_d17 lk_1s rfl ?_
      refine iq_iconst hS 19 J_Math_floorDiv_d18 (v := 1) (by decide +kernel) rfl ?_
      refine iq_isub hS 20 J_Math_floorDiv_d19 rfl ?_
      exact iq_iret J_Math_floorDiv_d20 rfl rfl ⟨_, rfl, rfl, ed_some h⟩
noncomputable def f_HPen_isNear (p0 : Int64) (p1 : Int64) (p2 : Int64) (p3 : Int64) (p4 : Int64) (M : im_M) : Option (Int32) := if 0 < (lg_cmp ((p0 * p2) + (p1 * p3)) 0) then if (lg_cmp ((p0 * p2) + (p1 * p3)) ((p2 * p2) + (p3 * p3))) < 0 then if 0 < (lg_cmp (((4 : Int64) * ((p0 * p3) - (p1 * p2))) * ((p0 * p3) - (p1 * p2))) ((p4 * p4) * ((p2 * p2) + (p3 * p3)))) then some 0 else some 1 else if 0 < (lg_cmp ((4 : Int64) * (((p0 - p2) * (p0 - p2)) + ((p1 - p3) * (p1 - p3)))) (p4 * p4)) then some 0 else some 1 else if 0 < (lg_cmp ((4 : Int64) * ((p0 * p0) + (p1 * p1))) (p4 * p4)) then some 0 else some 1
theorem J_HPen_isNear_d0 : decode J_HPen_isNear.2.1 0 = .ok (.lload_n 0, 1) := by decide +kernel
theorem J_HPen_isNear_d1 : decode J_HPen_isNear.2.1 1 = .ok (.lload 4, 2) := by decide +kernel
theorem J_HPen_isNear_d3 : decode J_HPen_isNear.2.1 3 = .ok (.lmul, 1) := by decide +kernel
theorem J_HPen_isNear_d4 : decode J_HPen_isNear.2.1 4 = .ok (.lload_n 2, 1) := by decide +kernel
theorem J_HPen_isNear_d5 : decode J_HPen_isNear.2.1 5 = .ok (.lload 6, 2) := by decide +kernel
theorem J_HPen_isNear_d7 : decode J_HPen_isNear.2.1 7 = .ok (.lmul, 1) := by decide +kernel
theorem J_HPen_isNear_d8 : decode J_HPen_isNear.2.1 8 = .ok (.ladd, 1) := by decide +kernel
theorem J_HPen_isNear_d9 : decode J_HPen_isNear.2.1 9 = .ok (.lstore 10, 2) := by decide +kernel
theorem J_HPen_isNear_d11 : decode J_HPen_isNear.2.1 11 = .ok (.lload 4, 2) := by decide +kernel
theorem J_HPen_isNear_d13 : decode J_HPen_isNear.2.1 13 = .ok (.lload 4, 2) := by decide +kernel
theorem J_HPen_isNear_d15 : decode J_HPen_isNear.2.1 15 = .ok (.lmul, 1) := by decide +kernel
theorem J_HPen_isNear_d16 : decode J_HPen_isNear.2.1 16 = .ok (.lload 6, 2) := by decide +kernel
theorem J_HPen_isNear_d18 : decode J_HPen_isNear.2.1 18 = .ok (.lload 6, 2) := by decide +kernel
theorem J_HPen_isNear_d20 : decode J_HPen_isNear.2.1 20 = .ok (.lmul, 1) := by decide +kernel
theorem J_HPen_isNear_d21 : decode J_HPen_isNear.2.1 21 = .ok (.ladd, 1) := by decide +kernel
theorem J_HPen_isNear_d22 : decode J_HPen_isNear.2.1 22 = .ok (.lstore 12, 2) := by decide +kernel
theorem J_HPen_isNear_d24 : decode J_HPen_isNear.2.1 24 = .ok (.lload 10, 2) := by decide +kernel
theorem J_HPen_isNear_d26 : decode J_HPen_isNear.2.1 26 = .ok (.lconst 0, 1) := by decide +kernel
theorem J_HPen_isNear_d27 : decode J_HPen_isNear.2.1 27 = .ok (.lcmp, 1) := by decide +kernel
theorem J_HPen_isNear_d28 : decode J_HPen_isNear.2.1 28 = .ok (.ifCond .gt 29, 3) := by decide +kernel
theorem J_HPen_isNear_d31 : decode J_HPen_isNear.2.1 31 = .ok (.ldc2_w 166, 3) := by decide +kernel
theorem J_HPen_isNear_d34 : decode J_HPen_isNear.2.1 34 = .ok (.lload_n 0, 1) := by decide +kernel
theorem J_HPen_isNear_d35 : decode J_HPen_isNear.2.1 35 = .ok (.lload_n 0, 1) := by decide +kernel
theorem J_HPen_isNear_d36 : decode J_HPen_isNear.2.1 36 = .ok (.lmul, 1) := by decide +kernel
theorem J_HPen_isNear_d37 : decode J_HPen_isNear.2.1 37 = .ok (.lload_n 2, 1) := by decide +kernel
theorem J_HPen_isNear_d38 : decode J_HPen_isNear.2.1 38 = .ok (.lload_n 2, 1) := by decide +kernel
theorem J_HPen_isNear_d39 : decode J_HPen_isNear.2.1 39 = .ok (.lmul, 1) := by decide +kernel
theorem J_HPen_isNear_d40 : decode J_HPen_isNear.2.1 40 = .ok (.ladd, 1) := by decide +kernel
theorem J_HPen_isNear_d41 : decode J_HPen_isNear.2.1 41 = .ok (.lmul, 1) := by decide +kernel
theorem J_HPen_isNear_d42 : decode J_HPen_isNear.2.1 42 = .ok (.lload 8, 2) := by decide +kernel
theorem J_HPen_isNear_d44 : decode J_HPen_isNear.2.1 44 = .ok (.lload 8, 2) := by decide +kernel
theorem J_HPen_isNear_d46 : decode J_HPen_isNear.2.1 46 = .ok (.lmul, 1) := by decide +kernel
theorem J_HPen_isNear_d47 : decode J_HPen_isNear.2.1 47 = .ok (.lcmp, 1) := by decide +kernel
theorem J_HPen_isNear_d48 : decode J_HPen_isNear.2.1 48 = .ok (.ifCond .gt 7, 3) := by decide +kernel
theorem J_HPen_isNear_d51 : decode J_HPen_isNear.2.1 51 = .ok (.iconst 1, 1) := by decide +kernel
theorem J_HPen_isNear_d52 : decode J_HPen_isNear.2.1 52 = .ok (.goto 4, 3) := by decide +kernel
theorem J_HPen_isNear_d55 : decode J_HPen_isNear.2.1 55 = .ok (.iconst 0, 1) := by decide +kernel
theorem J_HPen_isNear_d56 : decode J_HPen_isNear.2.1 56 = .ok (.ireturn, 1) := by decide +kernel
theorem J_HPen_isNear_d57 : decode J_HPen_isNear.2.1 57 = .ok (.lload 10, 2) := by decide +kernel
theorem J_HPen_isNear_d59 : decode J_HPen_isNear.2.1 59 = .ok (.lload 12, 2) := by decide +kernel
theorem J_HPen_isNear_d61 : decode J_HPen_isNear.2.1 61 = .ok (.lcmp, 1) := by decide +kernel
theorem J_HPen_isNear_d62 : decode J_HPen_isNear.2.1 62 = .ok (.ifCond .lt 41, 3) := by decide +kernel
theorem J_HPen_isNear_d65 : decode J_HPen_isNear.2.1 65 = .ok (.ldc2_w 166, 3) := by decide +kernel
theorem J_HPen_isNear_d68 : decode J_HPen_isNear.2.1 68 = .ok (.lload_n 0, 1) := by decide +kernel
theorem J_HPen_isNear_d69 : decode J_HPen_isNear.2.1 69 = .ok (.lload 4, 2) := by decide +kernel
theorem J_HPen_isNear_d71 : decode J_HPen_isNear.2.1 71 = .ok (.lsub, 1) := by decide +kernel
theorem J_HPen_isNear_d72 : decode J_HPen_isNear.2.1 72 = .ok (.lload_n 0, 1) := by decide +kernel
theorem J_HPen_isNear_d73 : decode J_HPen_isNear.2.1 73 = .ok (.lload 4, 2) := by decide +kernel
theorem J_HPen_isNear_d75 : decode J_HPen_isNear.2.1 75 = .ok (.lsub, 1) := by decide +kernel
theorem J_HPen_isNear_d76 : decode J_HPen_isNear.2.1 76 = .ok (.lmul, 1) := by decide +kernel
theorem J_HPen_isNear_d77 : decode J_HPen_isNear.2.1 77 = .ok (.lload_n 2, 1) := by decide +kernel
theorem J_HPen_isNear_d78 : decode J_HPen_isNear.2.1 78 = .ok (.lload 6, 2) := by decide +kernel
theorem J_HPen_isNear_d80 : decode J_HPen_isNear.2.1 80 = .ok (.lsub, 1) := by decide +kernel
theorem J_HPen_isNear_d81 : decode J_HPen_isNear.2.1 81 = .ok (.lload_n 2, 1) := by decide +kernel
theorem J_HPen_isNear_d82 : decode J_HPen_isNear.2.1 82 = .ok (.lload 6, 2) := by decide +kernel
theorem J_HPen_isNear_d84 : decode J_HPen_isNear.2.1 84 = .ok (.lsub, 1) := by decide +kernel
theorem J_HPen_isNear_d85 : decode J_HPen_isNear.2.1 85 = .ok (.lmul, 1) := by decide +kernel
theorem J_HPen_isNear_d86 : decode J_HPen_isNear.2.1 86 = .ok (.ladd, 1) := by decide +kernel
theorem J_HPen_isNear_d87 : decode J_HPen_isNear.2.1 87 = .ok (.lmul, 1) := by decide +kernel
theorem J_HPen_isNear_d88 : decode J_HPen_isNear.2.1 88 = .ok (.lload 8, 2) := by decide +kernel
theorem J_HPen_isNear_d90 : decode J_HPen_isNear.2.1 90 = .ok (.lload 8, 2) := by decide +kernel
theorem J_HPen_isNear_d92 : decode J_HPen_isNear.2.1 92 = .ok (.lmul, 1) := by decide +kernel
theorem J_HPen_isNear_d93 : decode J_HPen_isNear.2.1 93 = .ok (.lcmp, 1) := by decide +kernel
theorem J_HPen_isNear_d94 : decode J_HPen_isNear.2.1 94 = .ok (.ifCond .gt 7, 3) := by decide +kernel
theorem J_HPen_isNear_d97 : decode J_HPen_isNear.2.1 97 = .ok (.iconst 1, 1) := by decide +kernel
theorem J_HPen_isNear_d98 : decode J_HPen_isNear.2.1 98 = .ok (.goto 4, 3) := by decide +kernel
theorem J_HPen_isNear_d101 : decode J_HPen_isNear.2.1 101 = .ok (.iconst 0, 1) := by decide +kernel
theorem J_HPen_isNear_d102 : decode J_HPen_isNear.2.1 102 = .ok (.ireturn, 1) := by decide +kernel
theorem J_HPen_isNear_d103 : decode J_HPen_isNear.2.1 103 = .ok (.lload_n 0, 1) := by decide +kernel
theorem J_HPen_isNear_d104 : decode J_HPen_isNear.2.1 104 = .ok (.lload 6, 2) := by decide +kernel
theorem J_HPen_isNear_d106 : decode J_HPen_isNear.2.1 106 = .ok (.lmul, 1) := by decide +kernel
theorem J_HPen_isNear_d107 : decode J_HPen_isNear.2.1 107 = .ok (.lload_n 2, 1) := by decide +kernel
theorem J_HPen_isNear_d108 : decode J_HPen_isNear.2.1 108 = .ok (.lload 4, 2) := by decide +kernel
theorem J_HPen_isNear_d110 : decode J_HPen_isNear.2.1 110 = .ok (.lmul, 1) := by decide +kernel
theorem J_HPen_isNear_d111 : decode J_HPen_isNear.2.1 111 = .ok (.lsub, 1) := by decide +kernel
theorem J_HPen_isNear_d112 : decode J_HPen_isNear.2.1 112 = .ok (.lstore 14, 2) := by decide +kernel
theorem J_HPen_isNear_d114 : decode J_HPen_isNear.2.1 114 = .ok (.ldc2_w 166, 3) := by decide +kernel
theorem J_HPen_isNear_d117 : decode J_HPen_isNear.2.1 117 = .ok (.lload 14, 2) := by decide +kernel
theorem J_HPen_isNear_d119 : decode J_HPen_isNear.2.1 119 = .ok (.lmul, 1) := by decide +kernel
theorem J_HPen_isNear_d120 : decode J_HPen_isNear.2.1 120 = .ok (.lload 14, 2) := by decide +kernel
theorem J_HPen_isNear_d122 : decode J_HPen_isNear.2.1 122 = .ok (.lmul, 1) := by decide +kernel
theorem J_HPen_isNear_d123 : decode J_HPen_isNear.2.1 123 = .ok (.lload 8, 2) := by decide +kernel
theorem J_HPen_isNear_d125 : decode J_HPen_isNear.2.1 125 = .ok (.lload 8, 2) := by decide +kernel
theorem J_HPen_isNear_d127 : decode J_HPen_isNear.2.1 127 = .ok (.lmul, 1) := by decide +kernel
theorem J_HPen_isNear_d128 : decode J_HPen_isNear.2.1 128 = .ok (.lload 12, 2) := by decide +kernel
theorem J_HPen_isNear_d130 : decode J_HPen_isNear.2.1 130 = .ok (.lmul, 1) := by decide +kernel
theorem J_HPen_isNear_d131 : decode J_HPen_isNear.2.1 131 = .ok (.lcmp, 1) := by decide +kernel
theorem J_HPen_isNear_d132 : decode J_HPen_isNear.2.1 132 = .ok (.ifCond .gt 7, 3) := by decide +kernel
theorem J_HPen_isNear_d135 : decode J_HPen_isNear.2.1 135 = .ok (.iconst 1, 1) := by decide +kernel
theorem J_HPen_isNear_d136 : decode J_HPen_isNear.2.1 136 = .ok (.goto 4, 3) := by decide +kernel
theorem J_HPen_isNear_d139 : decode J_HPen_isNear.2.1 139 = .ok (.iconst 0, 1) := by decide +kernel
theorem J_HPen_isNear_d140 : decode J_HPen_isNear.2.1 140 = .ok (.ireturn, 1) := by decide +kernel
theorem f_HPen_isNear_ok {L : Nat} {xs : Nat → Int32} {dep : Nat} {w : Bool} {p0 : Int64} {p1 : Int64} {p2 : Int64} {p3 : Int64} {p4 : Int64} {M : im_M} {Q : Int32 → Prop} (hM : lw_S w M) (h : ed (f_HPen_isNear p0 p1 p2 p3 p4 M) Q) : ia (tb_G L xs) dep J_HPen_isNear (rpI M Q) (0, lv_args 0 [.long p0, .long p1, .long p2, .long p3, .long p4], [], M) := by
  have hS : im_St (tb_G L xs) dep J_HPen_isNear (ia (tb_G L xs) dep J_HPen_isNear (rpI M Q)) := ia_St
  unfold f_HPen_isNear at h
  have l0 : im_lk (lv_args 0 [.long p0, .long p1, .long p2, .long p3, .long p4]) 0 = some (.long p0) := rfl
  have l2 : im_lk (lv_args 0 [.long p0, .long p1, .long p2, .long p3, .long p4]) 2 = some (.long p1) := rfl
  have l4 : im_lk (lv_args 0 [.long p0, .long p1, .long p2, .long p3, .long p4]) 4 = some (.long p2) := rfl
  have l6 : im_lk (lv_args 0 [.long p0, .long p1, .long p2, .long p3, .long p4]) 6 = some (.long p3) := rfl
  have l8 : im_lk (lv_args 0 [.long p0, .long p1, .long p2, .long p3, .long p4]) 8 = some (.long p4) := rfl
  refine iq_lload_n hS 1 J_HPen_isNear_d0 l0 rfl ?_
  refine iq_lload hS 3 J_HPen_isNear_d1 l4 rfl ?_
  refine iq_lmul hS 4 J_HPen_isNear_d3 rfl ?_
  refine iq_lload_n hS 5 J_HPen_isNear_d4 l2 rfl ?_
  refine iq_lload hS 7 J_HPen_isNear_d5 l6 rfl ?_
  refine iq_lmul hS 8 J_HPen_isNear_d7 rfl ?_
  refine iq_ladd hS 9 J_HPen_isNear_d8 rfl ?_
  refine iq_lstore hS 11 J_HPen_isNear_d9 (by decide) rfl ?_
  refine iq_lload hS 13 J_HPen_isNear_d11 (lk_2l l4 (by decide) (by decide) (by decide)) rfl ?_
  refine iq_lload hS 15 J_HPen_isNear_d13 (lk_2l l4 (by decide) (by decide) (by decide)) rfl ?_
  refine iq_lmul hS 16 J_HPen_isNear_d15 rfl ?_
  refine iq_lload hS 18 J_HPen_isNear_d16 (lk_2l l6 (by decide) (by decide) (by decide)) rfl ?_
  refine iq_lload hS 20 J_HPen_isNear_d18 (lk_2l l6 (by decide) (by decide) (by decide)) rfl ?_
  refine iq_lmul hS 21 J_HPen_isNear_d20 rfl ?_
  refine iq_ladd hS 22 J_HPen_isNear_d21 rfl ?_
  refine iq_lstore hS 24 J_HPen_isNear_d22 (by decide) rfl ?_
  refine iq_lload hS 26 J_HPen_isNear_d24 (lk_2l lk_2s (by decide) (by decide) (by decide)) rfl ?_
  refine iq_lconst hS 27 J_HPen_isNear_d26 (v := 0) (by decide +kernel) rfl ?_
  refine iq_lcmp hS 28 J_HPen_isNear_d27 rfl ?_
  refine iq_if_gt hS 31 J_HPen_isNear_d28 (t := 57) rfl (fun q28 => ?_) rfl (fun q28 => ?_)
  · replace h := ed_pos q28 h
    refine iq_lload hS 59 J_HPen_isNear_d57 (lk_2l lk_2s (by decide) (by decide) (by decide)) rfl ?_
    refine iq_lload hS 61 J_HPen_isNear_d59 lk_2s rfl ?_
    refine iq_lcmp hS 62 J_HPen_isNear_d61 rfl ?_
    refine iq_if_lt hS 65 J_HPen_isNear_d62 (t := 103) rfl (fun q62 => ?_) rfl (fun q62 => ?_)
    · replace h := ed_pos q62 h
      refine iq_lload_n hS 104 J_HPen_isNear_d103 (lk_2l (lk_2l l0 (by decide) (by decide) (by decide)) (by decide) (by decide) (by decide)) rfl ?_
      refine iq_lload hS 106 J_HPen_isNear_d104 (lk_2l (lk_2l l6 (by decide) (by decide) (by decide)) (by decide) (by decide) (by decide)) rfl ?_
      refine iq_lmul hS 107 J_HPen_isNear_d106 rfl ?_
      refine iq_lload_n hS 108 J_HPen_isNear_d107 (lk_2l (lk_2l l2 (by decide) (by decide) (by decide)) (by decide) (by decide) (by decide)) rfl ?_
      refine iq_lload hS 110 J_HPen_isNear_d108 (lk_2l (lk_2l l4 (by decide) (by decide) (by decide)) (by decide) (by decide) (by decide)) rfl ?_
      refine iq_lmul hS 111 J_HPen_isNear_d110 rfl ?_
      refine iq_lsub hS 112 J_HPen_isNear_d111 rfl ?_
      refine iq_lstore hS 114 J_HPen_isNear_d112 (by decide) rfl ?_
      refine iq_ldc2_w hS 117 J_HPen_isNear_d114 lk_6_166 rfl ?_
      refine iq_lload hS 119 J_HPen_isNear_d117 lk_2s rfl ?_
      refine iq_lmul hS 120 J_HPen_isNear_d119 rfl ?_
      refine iq_lload hS 122 J_HPen_isNear_d120 lk_2s rfl ?_
      refine iq_lmul hS 123 J_HPen_isNear_d122 rfl ?_
      refine iq_lload hS 125 J_HPen_isNear_d123 (lk_2l (lk_2l (lk_2l l8 (by decide) (by decide) (by decide)) (by decide) (by decide) (by decide)) (by decide) (by decide) (by decide)) rfl ?_
      refine iq_lload hS 127 J_HPen_isNear_d125 (lk_2l (lk_2l (lk_2l l8 (by decide) (by decide) (by decide)) (by decide) (by decide) (by decide)) (by decide) (by decide) (by decide)) rfl ?_
      refine iq_lmul hS 128 J_HPen_isNear_d127 rfl ?_
      refine iq_lload hS 130 J_HPen_isNear_d128 (lk_2l lk_2s (by decide) (by decide) (by decide)) rfl ?_
      refine iq_lmul hS 131 J_HPen_isNear_d130 rfl ?_
      refine iq_lcmp hS 132 J_HPen_isNear_d131 rfl ?_
      refine iq_if_gt hS 135 J_HPen_isNear_d132 (t := 139) rfl (fun q132 => ?_) rfl (fun q132 => ?_)
      · replace h := ed_pos q132 h
        refine iq_iconst hS 140 J_HPen_isNear_d139 (v := 0) (by decide +kernel) rfl ?_
        exact iq_iret J_HPen_isNear_d140 rfl rfl ⟨_, rfl, rfl, ed_some h⟩
      · replace h := ed_neg q132 h
        refine iq_iconst hS 136 J_HPen_isNear_d135 (v := 1) (by decide +kernel) rfl ?_
        refine iq_goto hS J_HPen_isNear_d136 (t := 140) rfl ?_
        exact iq_iret J_HPen_isNear_d140 rfl rfl ⟨_, rfl, rfl, ed_some h⟩
    · replace h := ed_neg q62 h
      refine iq_ldc2_w hS 68 J_HPen_isNear_d65 lk_6_166 rfl ?_
      refine iq_lload_n hS 69 J_HPen_isNear_d68 (lk_2l (lk_2l l0 (by decide) (by decide) (by decide)) (by decide) (by decide) (by decide)) rfl ?_
      refine iq_lload hS 71 J_HPen_isNear_d69 (lk_2l (lk_2l l4 (by decide) (by decide) (by decide)) (by decide) (by decide) (by decide)) rfl ?_
      refine iq_lsub hS 72 J_HPen_isNear_d71 rfl ?_
      refine iq_lload_n hS 73 J_HPen_isNear_d72 (lk_2l (lk_2l l0 (by decide) (by decide) (by decide)) (by decide) (by decide) (by decide)) rfl ?_
      refine iq_lload hS 75 J_HPen_isNear_d73 (lk_2l (lk_2l l4 (by decide) (by decide) (by decide)) (by decide) (by decide) (by decide)) rfl ?_
      refine iq_lsub hS 76 J_HPen_isNear_d75 rfl ?_
      refine iq_lmul hS 77 J_HPen_isNear_d76 rfl ?_
      refine iq_lload_n hS 78 J_HPen_isNear_d77 (lk_2l (lk_2l l2 (by decide) (by decide) (by decide)) (by decide) (by decide) (by decide)) rfl ?_
      refine iq_lload hS 80 J_HPen_isNear_d78 (lk_2l (lk_2l l6 (by decide) (by decide) (by decide)) (by decide) (by decide) (by decide)) rfl ?_
      refine iq_lsub hS 81 J_HPen_isNear_d80 rfl ?_
      refine iq_lload_n hS 82 J_HPen_isNear_d81 (lk_2l (lk_2l l2 (by decide) (by decide) (by decide)) (by decide) (by decide) (by decide)) rfl ?_
      refine iq_lload hS 84 J_HPen_isNear_d82 (lk_2l (lk_2l l6 (by decide) (by decide) (by decide)) (by decide) (by decide) (by decide)) rfl ?_
      refine iq_lsub hS 85 J_HPen_isNear_d84 rfl ?_
      refine iq_lmul hS 86 J_HPen_isNear_d85 rfl ?_
      refine iq_ladd hS 87 J_HPen_isNear_d86 rfl ?_
      refine iq_lmul hS 88 J_HPen_isNear_d87 rfl ?_
      refine iq_lload hS 90 J_HPen_isNear_d88 (lk_2l (lk_2l l8 (by decide) (by decide) (by decide)) (by decide) (by decide) (by decide)) rfl ?_
      refine iq_lload hS 92 J_HPen_isNear_d90 (lk_2l (lk_2l l8 (by decide) (by decide) (by decide)) (by decide) (by decide) (by decide)) rfl ?_
      refine iq_lmul hS 93 J_HPen_isNear_d92 rfl ?_
      refine iq_lcmp hS 94 J_HPen_isNear_d93 rfl ?_
      refine iq_if_gt hS 97 J_HPen_isNear_d94 (t := 101) rfl (fun q94 => ?_) rfl (fun q94 => ?_)
      · replace h := ed_pos q94 h
        refine iq_iconst hS 102 J_HPen_isNear_d101 (v := 0) (by decide +kernel) rfl ?_
        exact iq_iret J_HPen_isNear_d102 rfl rfl ⟨_, rfl, rfl, ed_some h⟩
      · replace h := ed_neg q94 h
        refine iq_iconst hS 98 J_HPen_isNear_d97 (v := 1) (by decide +kernel) rfl ?_
        refine iq_goto hS J_HPen_isNear_d98 (t := 102) rfl ?_
        exact iq_iret J_HPen_isNear_d102 rfl rfl ⟨_, rfl, rfl, ed_some h⟩
  · replace h := ed_neg q28 h
    refine iq_ldc2_w hS 34 J_HPen_isNear_d31 lk_6_166 rfl ?_
    refine iq_lload_n hS 35 J_HPen_isNear_d34 (lk_2l (lk_2l l0 (by decide) (by decide) (by decide)) (by decide) (by decide) (by decide)) rfl ?_
    refine iq_lload_n hS 36 J_HPen_isNear_d35 (lk_2l (lk_2l l0 (by decide) (by decide) (by decide)) (by decide) (by decide) (by decide)) rfl ?_
    refine iq_lmul hS 37 J_HPen_isNear_d36 rfl ?_
    refine iq_lload_n hS 38 J_HPen_isNear_d37 (lk_2l (lk_2l l2 (by decide) (by decide) (by decide)) (by decide) (by decide) (by decide)) rfl ?_
    refine iq_lload_n hS 39 J_HPen_isNear_d38 (lk_2l (lk_2l l2 (by decide) (by decide) (by decide)) (by decide) (by decide) (by decide)) rfl ?_
    refine iq_lmul hS 40 J_HPen_isNear_d39 rfl ?_
    refine iq_ladd hS 41 J_HPen_isNear_d40 rfl ?_
    refine iq_lmul hS 42 J_HPen_isNear_d41 rfl ?_
    refine iq_lload hS 44 J_HPen_isNear_d42 (lk_2l (lk_2l l8 (by decide) (by decide) (by decide)) (by decide) (by decide) (by decide)) rfl ?_
    refine iq_lload hS 46 J_HPen_isNear_d44 (lk_2l (lk_2l l8 (by decide) (by decide) (by decide)) (by decide) (by decide) (by decide)) rfl ?_
    refine iq_lmul hS 47 J_HPen_isNear_d46 rfl ?_
    refine iq_lcmp hS 48 J_HPen_isNear_d47 rfl ?_
    refine iq_if_gt hS 51 J_HPen_isNear_d48 (t := 55) rfl (fun q48 => ?_) rfl (fun q48 => ?_)
    · replace h := ed_pos q48 h
      refine iq_iconst hS 56 J_HPen_isNear_d55 (v := 0) (by decide +kernel) rfl ?_
      exact iq_iret J_HPen_isNear_d56 rfl rfl ⟨_, rfl, rfl, ed_some h⟩
    · replace h := ed_neg q48 h
      refine iq_iconst hS 52 J_HPen_isNear_d51 (v := 1) (by decide +kernel) rfl ?_
      refine iq_goto hS J_HPen_isNear_d52 (t := 56) rfl ?_
      exact iq_iret J_HPen_isNear_d56 rfl rfl ⟨_, rfl, rfl, ed_some h⟩
noncomputable def f_HPen_lastNear_L9 (v2 : Int32) (v3 : Int32) (v4 : Int32) (v5 : Int32) (M9 : im_M) (x6 : Int32) (x7 : Int32) (x8 : Int32) : Option ((Int32 × Int32 × Int32) ⊕ (Int32)) := if 16 ≤ x8 then some (.inr x6) else bd1 (f_Math_abs (x7 - x6) M9) fun (x10 : Int32) => if x10 ≤ 1 then some (.inr x6) else bd1 (f_HPen_isNear (Int32.toInt64 ((x6 + x7) / 2)) (Int32.toInt64 v2) (Int32.toInt64 v3) (Int32.toInt64 v4) (Int32.toInt64 v5) M9) fun (x11 : Int32) => some (.inl (((if x11 = 0 then x6 else ((x6 + x7) / 2)) : Int32), ((if x11 = 0 then ((x6 + x7) / 2) else x7) : Int32), (x8 + 1)))
noncomputable def f_HPen_lastNear (p0 : Int32) (p1 : Int32) (p2 : Int32) (p3 : Int32) (p4 : Int32) (p5 : Int32) (M : im_M) : Option (Int32) := bd1 (lp (uc3 (f_HPen_lastNear_L9 p2 p3 p4 p5 M)) (p0, p1, 0)) fun (y13 : Int32) => some y13
theorem J_HPen_lastNear_d0 : decode J_HPen_lastNear.2.1 0 = .ok (.iload_n 0, 1) := by decide +kernel
theorem J_HPen_lastNear_d1 : decode J_HPen_lastNear.2.1 1 = .ok (.istore 6, 2) := by decide +kernel
theorem J_HPen_lastNear_d3 : decode J_HPen_lastNear.2.1 3 = .ok (.iload_n 1, 1) := by decide +kernel
theorem J_HPen_lastNear_d4 : decode J_HPen_lastNear.2.1 4 = .ok (.istore 7, 2) := by decide +kernel
theorem J_HPen_lastNear_d6 : decode J_HPen_lastNear.2.1 6 = .ok (.iconst 0, 1) := by decide +kernel
theorem J_HPen_lastNear_d7 : decode J_HPen_lastNear.2.1 7 = .ok (.istore 8, 2) := by decide +kernel
theorem J_HPen_lastNear_d9 : decode J_HPen_lastNear.2.1 9 = .ok (.iload 8, 2) := by decide +kernel
theorem J_HPen_lastNear_d11 : decode J_HPen_lastNear.2.1 11 = .ok (.bipush 16, 2) := by decide +kernel
theorem J_HPen_lastNear_d13 : decode J_HPen_lastNear.2.1 13 = .ok (.if_icmp .ge 60, 3) := by decide +kernel
theorem J_HPen_lastNear_d16 : decode J_HPen_lastNear.2.1 16 = .ok (.iload 7, 2) := by decide +kernel
theorem J_HPen_lastNear_d18 : decode J_HPen_lastNear.2.1 18 = .ok (.iload 6, 2) := by decide +kernel
theorem J_HPen_lastNear_d20 : decode J_HPen_lastNear.2.1 20 = .ok (.isub, 1) := by decide +kernel
theorem J_HPen_lastNear_d21 : decode J_HPen_lastNear.2.1 21 = .ok (.invokestatic 162, 3) := by decide +kernel
theorem J_HPen_lastNear_d24 : decode J_HPen_lastNear.2.1 24 = .ok (.iconst 1, 1) := by decide +kernel
theorem J_HPen_lastNear_d25 : decode J_HPen_lastNear.2.1 25 = .ok (.if_icmp .le 48, 3) := by decide +kernel
theorem J_HPen_lastNear_d28 : decode J_HPen_lastNear.2.1 28 = .ok (.iload 6, 2) := by decide +kernel
theorem J_HPen_lastNear_d30 : decode J_HPen_lastNear.2.1 30 = .ok (.iload 7, 2) := by decide +kernel
theorem J_HPen_lastNear_d32 : decode J_HPen_lastNear.2.1 32 = .ok (.iadd, 1) := by decide +kernel
theorem J_HPen_lastNear_d33 : decode J_HPen_lastNear.2.1 33 = .ok (.iconst 2, 1) := by decide +kernel
theorem J_HPen_lastNear_d34 : decode J_HPen_lastNear.2.1 34 = .ok (.idiv, 1) := by decide +kernel
theorem J_HPen_lastNear_d35 : decode J_HPen_lastNear.2.1 35 = .ok (.istore 9, 2) := by decide +kernel
theorem J_HPen_lastNear_d37 : decode J_HPen_lastNear.2.1 37 = .ok (.iload 9, 2) := by decide +kernel
theorem J_HPen_lastNear_d39 : decode J_HPen_lastNear.2.1 39 = .ok (.i2l, 1) := by decide +kernel
theorem J_HPen_lastNear_d40 : decode J_HPen_lastNear.2.1 40 = .ok (.iload_n 2, 1) := by decide +kernel
theorem J_HPen_lastNear_d41 : decode J_HPen_lastNear.2.1 41 = .ok (.i2l, 1) := by decide +kernel
theorem J_HPen_lastNear_d42 : decode J_HPen_lastNear.2.1 42 = .ok (.iload_n 3, 1) := by decide +kernel
theorem J_HPen_lastNear_d43 : decode J_HPen_lastNear.2.1 43 = .ok (.i2l, 1) := by decide +kernel
theorem J_HPen_lastNear_d44 : decode J_HPen_lastNear.2.1 44 = .ok (.iload 4, 2) := by decide +kernel
theorem J_HPen_lastNear_d46 : decode J_HPen_lastNear.2.1 46 = .ok (.i2l, 1) := by decide +kernel
theorem J_HPen_lastNear_d47 : decode J_HPen_lastNear.2.1 47 = .ok (.iload 5, 2) := by decide +kernel
theorem J_HPen_lastNear_d49 : decode J_HPen_lastNear.2.1 49 = .ok (.i2l, 1) := by decide +kernel
theorem J_HPen_lastNear_d50 : decode J_HPen_lastNear.2.1 50 = .ok (.invokestatic 154, 3) := by decide +kernel
theorem J_HPen_lastNear_d53 : decode J_HPen_lastNear.2.1 53 = .ok (.ifCond .eq 10, 3) := by decide +kernel
theorem J_HPen_lastNear_d56 : decode J_HPen_lastNear.2.1 56 = .ok (.iload 9, 2) := by decide +kernel
theorem J_HPen_lastNear_d58 : decode J_HPen_lastNear.2.1 58 = .ok (.istore 6, 2) := by decide +kernel
theorem J_HPen_lastNear_d60 : decode J_HPen_lastNear.2.1 60 = .ok (.goto 7, 3) := by decide +kernel
theorem J_HPen_lastNear_d63 : decode J_HPen_lastNear.2.1 63 = .ok (.iload 9, 2) := by decide +kernel
theorem J_HPen_lastNear_d65 : decode J_HPen_lastNear.2.1 65 = .ok (.istore 7, 2) := by decide +kernel
theorem J_HPen_lastNear_d67 : decode J_HPen_lastNear.2.1 67 = .ok (.iinc 8 1, 3) := by decide +kernel
theorem J_HPen_lastNear_d70 : decode J_HPen_lastNear.2.1 70 = .ok (.goto (-61), 3) := by decide +kernel
theorem J_HPen_lastNear_d73 : decode J_HPen_lastNear.2.1 73 = .ok (.iload 6, 2) := by decide +kernel
theorem J_HPen_lastNear_d75 : decode J_HPen_lastNear.2.1 75 = .ok (.ireturn, 1) := by decide +kernel
theorem f_HPen_lastNear_ok {L : Nat} {xs : Nat → Int32} {dep : Nat} {w : Bool} {p0 : Int32} {p1 : Int32} {p2 : Int32} {p3 : Int32} {p4 : Int32} {p5 : Int32} {M : im_M} {Q : Int32 → Prop} (hM : lw_S w M) (h : ed (f_HPen_lastNear p0 p1 p2 p3 p4 p5 M) Q) : ia (tb_G L xs) (dep + 1) J_HPen_lastNear (rpI M Q) (0, lv_args 0 [.int p0, .int p1, .int p2, .int p3, .int p4, .int p5], [], M) := by
  have hS : im_St (tb_G L xs) (dep + 1) J_HPen_lastNear (ia (tb_G L xs) (dep + 1) J_HPen_lastNear (rpI M Q)) := ia_St
  unfold f_HPen_lastNear at h
  have l0 : im_lk (lv_args 0 [.int p0, .int p1, .int p2, .int p3, .int p4, .int p5]) 0 = some (.int p0) := rfl
  have l1 : im_lk (lv_args 0 [.int p0, .int p1, .int p2, .int p3, .int p4, .int p5]) 1 = some (.int p1) := rfl
  have l2 : im_lk (lv_args 0 [.int p0, .int p1, .int p2, .int p3, .int p4, .int p5]) 2 = some (.int p2) := rfl
  have l3 : im_lk (lv_args 0 [.int p0, .int p1, .int p2, .int p3, .int p4, .int p5]) 3 = some (.int p3) := rfl
  have l4 : im_lk (lv_args 0 [.int p0, .int p1, .int p2, .int p3, .int p4, .int p5]) 4 = some (.int p4) := rfl
  have l5 : im_lk (lv_args 0 [.int p0, .int p1, .int p2, .int p3, .int p4, .int p5]) 5 = some (.int p5) := rfl
  refine iq_iload_n hS 1 J_HPen_lastNear_d0 l0 rfl ?_
  refine iq_istore hS 3 J_HPen_lastNear_d1 (by decide) rfl ?_
  refine iq_iload_n hS 4 J_HPen_lastNear_d3 (lk_1i l1 (by decide)) rfl ?_
  refine iq_istore hS 6 J_HPen_lastNear_d4 (by decide) rfl ?_
  refine iq_iconst hS 7 J_HPen_lastNear_d6 (v := 0) (by decide +kernel) rfl ?_
  refine iq_istore hS 9 J_HPen_lastNear_d7 (by decide) rfl ?_
  obtain ⟨Q1, hQ1, h⟩ := bd1_ed h
  have K1 : ∀ (y2 : Int32) (L' : List (Nat × Value)), im_lk L' 6 = some (.int y2) → Q1 y2 → ia (tb_G L xs) (dep + 1) J_HPen_lastNear (rpI M Q) (73, L', [], M) := by
    intro y2 L' l3 h
    replace h := hQ1 _ h
    refine iq_iload hS 75 J_HPen_lastNear_d73 l3 rfl ?_
    exact iq_iret J_HPen_lastNear_d75 rfl rfl ⟨_, rfl, rfl, ed_some h⟩
  obtain ⟨r1, hr1, hq1⟩ := h
  obtain ⟨n1, hn1⟩ := lp_n hr1
  have I1 : ∀ (n : Nat) (x4 : Int32) (x5 : Int32) (x6 : Int32) (L' : List (Nat × Value)), im_lk L' 2 = some (.int p2) → im_lk L' 3 = some (.int p3) → im_lk L' 4 = some (.int p4) → im_lk L' 5 = some (.int p5) → im_lk L' 6 = some (.int x4) → im_lk L' 7 = some (.int x5) → im_lk L' 8 = some (.int x6) → lpn (uc3 (f_HPen_lastNear_L9 p2 p3 p4 p5 M)) n (x4, x5, x6) = some r1 → ia (tb_G L xs) (dep + 1) J_HPen_lastNear (rpI M Q) (9, L', [], M) := by
    intro n
    induction n with
    | zero => intro x4 x5 x6 L' l7 l8 l9 l10 l11 l12 l13 hn; exact (lpn_0 hn).elim
    | succ n ih =>
      intro x4 x5 x6 L' l7 l8 l9 l10 l11 l12 l13 hn
      have h := lpn_ed3 hn
      unfold f_HPen_lastNear_L9 at h
      refine iq_iload hS 11 J_HPen_lastNear_d9 l13 rfl ?_
      refine iq_bipush hS 13 J_HPen_lastNear_d11 (v := 16) (by decide +kernel) rfl ?_
      refine iq_icmp_ge hS 16 J_HPen_lastNear_d13 (t := 73) rfl (fun q13 => ?_) rfl (fun q13 => ?_)
      · replace h := ed_pos q13 h
        exact K1 _ _ l11 (lq_r h hq1)
      · replace h := ed_neg q13 h
        refine iq_iload hS 18 J_HPen_lastNear_d16 l12 rfl ?_
        refine iq_iload hS 20 J_HPen_lastNear_d18 l11 rfl ?_
        refine iq_isub hS 21 J_HPen_lastNear_d20 rfl ?_
        obtain ⟨Q14, hQ14, h⟩ := bd1_ed h
        refine iq_cpI hS 24 J_HPen_lastNear_d21 rfl (pr_stat (vs := [_]) lc_6_162 lT_158 rfl rfl (by decide) rfl (Nat.le_of_ble_eq_true rfl) (Nat.le_of_ble_eq_true rfl)) (f_Math_abs_ok (dep := dep + 0) hM h) rfl ?_
        intro x14 h
        replace h := hQ14 _ h
        refine iq_iconst hS 25 J_HPen_lastNear_d24 (v := 1) (by decide +kernel) rfl ?_
        refine iq_icmp_le hS 28 J_HPen_lastNear_d25 (t := 73) rfl (fun q25 => ?_) rfl (fun q25 => ?_)
        · replace h := ed_pos q25 h
          exact K1 _ _ l11 (lq_r h hq1)
        · replace h := ed_neg q25 h
          refine iq_iload hS 30 J_HPen_lastNear_d28 l11 rfl ?_
          refine iq_iload hS 32 J_HPen_lastNear_d30 l12 rfl ?_
          refine iq_iadd hS 33 J_HPen_lastNear_d32 rfl ?_
          refine iq_iconst hS 34 J_HPen_lastNear_d33 (v := 2) (by decide +kernel) rfl ?_
          refine iq_idiv hS 35 J_HPen_lastNear_d34 (by decide) rfl ?_
          refine iq_istore hS 37 J_HPen_lastNear_d35 (by decide) rfl ?_
          refine iq_iload hS 39 J_HPen_lastNear_d37 lk_1s rfl ?_
          refine iq_i2l hS 40 J_HPen_lastNear_d39 rfl ?_
          refine iq_iload_n hS 41 J_HPen_lastNear_d40 (lk_1i l7 (by decide)) rfl ?_
          refine iq_i2l hS 42 J_HPen_lastNear_d41 rfl ?_
          refine iq_iload_n hS 43 J_HPen_lastNear_d42 (lk_1i l8 (by decide)) rfl ?_
          refine iq_i2l hS 44 J_HPen_lastNear_d43 rfl ?_
          refine iq_iload hS 46 J_HPen_lastNear_d44 (lk_1i l9 (by decide)) rfl ?_
          refine iq_i2l hS 47 J_HPen_lastNear_d46 rfl ?_
          refine iq_iload hS 49 J_HPen_lastNear_d47 (lk_1i l10 (by decide)) rfl ?_
          refine iq_i2l hS 50 J_HPen_lastNear_d49 rfl ?_
          obtain ⟨Q15, hQ15, h⟩ := bd1_ed h
          refine iq_cpI hS 53 J_HPen_lastNear_d50 rfl (pr_stat (vs := [_, _, _, _, _]) lc_6_154 lT_185 rfl rfl (by decide) rfl (Nat.le_of_ble_eq_true rfl) (Nat.le_of_ble_eq_true rfl)) (f_HPen_isNear_ok (dep := dep + 0) hM h) rfl ?_
          intro x15 h
          replace h := hQ15 _ h
          have J16 : ∀ (z17 : Int32) (z18 : Int32) (L' : List (Nat × Value)), z17 = ((if x15 = 0 then x4 else ((x4 + x5) / 2)) : Int32) → z18 = ((if x15 = 0 then ((x4 + x5) / 2) else x5) : Int32) → im_lk L' 2 = some (.int p2) → im_lk L' 3 = some (.int p3) → im_lk L' 4 = some (.int p4) → im_lk L' 5 = some (.int p5) → im_lk L' 6 = some (.int z17) → im_lk L' 7 = some (.int z18) → im_lk L' 8 = some (.int x6) → ia (tb_G L xs) (dep + 1) J_HPen_lastNear (rpI M Q) (67, L', [], M) := by
            intro z17 z18 L' e19 e20 l21 l22 l23 l24 l25 l26 l27
            subst e19
            subst e20
            refine iq_iincv hS 70 J_HPen_lastNear_d67 (c := 1) (by decide +kernel) l27 (by decide) rfl ?_
            refine iq_goto hS J_HPen_lastNear_d70 (t := 9) rfl ?_
            exact ih _ _ _ _ (lk_1i l21 (by decide)) (lk_1i l22 (by decide)) (lk_1i l23 (by decide)) (lk_1i l24 (by decide)) (lk_1i l25 (by decide)) (lk_1i l26 (by decide)) lk_1s (lq_l h)
          refine iq_if_eq hS 56 J_HPen_lastNear_d53 (t := 63) rfl (fun q53 => ?_) rfl (fun q53 => ?_)
          · refine iq_iload hS 65 J_HPen_lastNear_d63 lk_1s rfl ?_
            refine iq_istore hS 67 J_HPen_lastNear_d65 (by decide) rfl ?_
            exact J16 _ _ _ (by simp only [if_pos q53]) (by simp only [if_pos q53]) (lk_1i (lk_1i l7 (by decide)) (by decide)) (lk_1i (lk_1i l8 (by decide)) (by decide)) (lk_1i (lk_1i l9 (by decide)) (by decide)) (lk_1i (lk_1i l10 (by decide)) (by decide)) (lk_1i (lk_1i l11 (by decide)) (by decide)) lk_1s (lk_1i (lk_1i l13 (by decide)) (by decide))
          · refine iq_iload hS 58 J_HPen_lastNear_d56 lk_1s rfl ?_
            refine iq_istore hS 60 J_HPen_lastNear_d58 (by decide) rfl ?_
            refine iq_goto hS J_HPen_lastNear_d60 (t := 67) rfl ?_
            exact J16 _ _ _ (by simp only [if_neg q53]) (by simp only [if_neg q53]) (lk_1i (lk_1i l7 (by decide)) (by decide)) (lk_1i (lk_1i l8 (by decide)) (by decide)) (lk_1i (lk_1i l9 (by decide)) (by decide)) (lk_1i (lk_1i l10 (by decide)) (by decide)) lk_1s (lk_1i (lk_1i l12 (by decide)) (by decide)) (lk_1i (lk_1i l13 (by decide)) (by decide))
  exact I1 n1 _ _ _ _ (lk_1i (lk_1i (lk_1i l2 (by decide)) (by decide)) (by decide)) (lk_1i (lk_1i (lk_1i l3 (by decide)) (by decide)) (by decide)) (lk_1i (lk_1i (lk_1i l4 (by decide)) (by decide)) (by decide)) (lk_1i (lk_1i (lk_1i l5 (by decide)) (by decide)) (by decide)) (lk_1i (lk_1i lk_1s (by decide)) (by decide)) (lk_1i lk_1s (by decide)) lk_1s hn1
noncomputable def f_HPen_drawLine_L47 (w : Bool) (v6 : Int32) (v7 : Int32) (v8 : Int32) (v9 : Int32) (x10 : Int32) (M11 : im_M) : Option ((Int32 × im_M) ⊕ (im_M)) := if v9 < x10 then some (.inr M11) else bd1 (f_Math_min 0 v7 M11) fun (x12 : Int32) => bd1 (f_Math_max 0 v7 M11) fun (x13 : Int32) => bd1 (f_Math_min x13 x10 M11) fun (x14 : Int32) => bd1 (f_Math_max x12 x14 M11) fun (x15 : Int32) => bd1 (if ¬ v7 = 0 then bd1 (f_Math_floorDiv (v6 * x15) v7 M11) fun (x17 : Int32) => some x17 else some 0) fun (y18 : Int32) => bd1 (f_HPen_isNear (Int32.toInt64 y18) (Int32.toInt64 x10) (Int32.toInt64 v6) (Int32.toInt64 v7) (Int32.toInt64 v8) M11) fun (x25 : Int32) => bd1 (f_HPen_isNear (Int32.toInt64 ((if ¬ x25 = 0 then y18 else (y18 + 1)) : Int32)) (Int32.toInt64 x10) (Int32.toInt64 v6) (Int32.toInt64 v7) (Int32.toInt64 v8) M11) fun (x27 : Int32) => bd1 (if x27 = 0 then some M11 else bd1 (f_Math_min 0 v6 M11) fun (x29 : Int32) => bd1 (f_HPen_lastNear ((if ¬ x25 = 0 then y18 else (y18 + 1)) : Int32) ((x29 - v8) - 1) x10 v6 v7 v8 M11) fun (x30 : Int32) => bd1 (f_Math_max 0 v6 M11) fun (x31 : Int32) => bd1 (f_HPen_lastNear ((if ¬ x25 = 0 then y18 else (y18 + 1)) : Int32) ((x31 + v8) + 1) x10 v6 v7 v8 M11) fun (x32 : Int32) => bd1 (f_HSheet_box w ((im_i M11 56 5) + x30) ((im_i M11 56 6) + x10) ((im_i M11 56 5) + x32) ((im_i M11 56 6) + x10) M11) fun (M33 : im_M) => some M33) fun (M34 : im_M) => some (.inl ((x10 + 1), M34))
noncomputable def f_HPen_drawLine (w : Bool) (p0 : Int32) (p1 : Int32) (p2 : Int32) (M : im_M) : Option (im_M) := bd1 (f_Math_min 0 p1 M) fun (x1 : Int32) => bd1 (f_Math_max (x1 - p2) (-(im_i M 56 6)) M) fun (x2 : Int32) => bd1 (f_Math_max 0 p1 M) fun (x3 : Int32) => bd1 (f_Math_min (x3 + p2) (((im_i M 28 1) - 1) - (im_i M 56 6)) M) fun (x4 : Int32) => bd1 (lp (uc2 (f_HPen_drawLine_L47 w p0 p1 p2 x4)) (x2, M)) fun (M41 : im_M) => some M41
theorem J_HPen_drawLine_d0 : decode J_HPen_drawLine.2.1 0 = .ok (.iconst 0, 1) := by decide +kernel
theorem J_HPen_drawLine_d1 : decode J_HPen_drawLine.2.1 1 = .ok (.iload_n 2, 1) := by decide +kernel
theorem J_HPen_drawLine_d2 : decode J_HPen_drawLine.2.1 2 = .ok (.invokestatic 143, 3) := by decide +kernel
theorem J_HPen_drawLine_d5 : decode J_HPen_drawLine.2.1 5 = .ok (.iload_n 3, 1) := by decide +kernel
theorem J_HPen_drawLine_d6 : decode J_HPen_drawLine.2.1 6 = .ok (.isub, 1) := by decide +kernel
theorem J_HPen_drawLine_d7 : decode J_HPen_drawLine.2.1 7 = .ok (.aload_n 0, 1) := by decide +kernel
theorem J_HPen_drawLine_d8 : decode J_HPen_drawLine.2.1 8 = .ok (.getfield 47, 3) := by decide +kernel
theorem J_HPen_drawLine_d11 : decode J_HPen_drawLine.2.1 11 = .ok (.ineg, 1) := by decide +kernel
theorem J_HPen_drawLine_d12 : decode J_HPen_drawLine.2.1 12 = .ok (.invokestatic 148, 3) := by decide +kernel
theorem J_HPen_drawLine_d15 : decode J_HPen_drawLine.2.1 15 = .ok (.istore 4, 2) := by decide +kernel
theorem J_HPen_drawLine_d17 : decode J_HPen_drawLine.2.1 17 = .ok (.iconst 0, 1) := by decide +kernel
theorem J_HPen_drawLine_d18 : decode J_HPen_drawLine.2.1 18 = .ok (.iload_n 2, 1) := by decide +kernel
theorem J_HPen_drawLine_d19 : decode J_HPen_drawLine.2.1 19 = .ok (.invokestatic 148, 3) := by decide +kernel
theorem J_HPen_drawLine_d22 : decode J_HPen_drawLine.2.1 22 = .ok (.iload_n 3, 1) := by decide +kernel
theorem J_HPen_drawLine_d23 : decode J_HPen_drawLine.2.1 23 = .ok (.iadd, 1) := by decide +kernel
theorem J_HPen_drawLine_d24 : decode J_HPen_drawLine.2.1 24 = .ok (.aload_n 0, 1) := by decide +kernel
theorem J_HPen_drawLine_d25 : decode J_HPen_drawLine.2.1 25 = .ok (.getfield 19, 3) := by decide +kernel
theorem J_HPen_drawLine_d28 : decode J_HPen_drawLine.2.1 28 = .ok (.getfield 134, 3) := by decide +kernel
theorem J_HPen_drawLine_d31 : decode J_HPen_drawLine.2.1 31 = .ok (.iconst 1, 1) := by decide +kernel
theorem J_HPen_drawLine_d32 : decode J_HPen_drawLine.2.1 32 = .ok (.isub, 1) := by decide +kernel
theorem J_HPen_drawLine_d33 : decode J_HPen_drawLine.2.1 33 = .ok (.aload_n 0, 1) := by decide +kernel
theorem J_HPen_drawLine_d34 : decode J_HPen_drawLine.2.1 34 = .ok (.getfield 47, 3) := by decide +kernel
theorem J_HPen_drawLine_d37 : decode J_HPen_drawLine.2.1 37 = .ok (.isub, 1) := by decide +kernel
theorem J_HPen_drawLine_d38 : decode J_HPen_drawLine.2.1 38 = .ok (.invokestatic 143, 3) := by decide +kernel
theorem J_HPen_drawLine_d41 : decode J_HPen_drawLine.2.1 41 = .ok (.istore 5, 2) := by decide +kernel
theorem J_HPen_drawLine_d43 : decode J_HPen_drawLine.2.1 43 = .ok (.iload 4, 2) := by decide +kernel
theorem J_HPen_drawLine_d45 : decode J_HPen_drawLine.2.1 45 = .ok (.istore 6, 2) := by decide +kernel
theorem J_HPen_drawLine_d47 : decode J_HPen_drawLine.2.1 47 = .ok (.iload 6, 2) := by decide +kernel
theorem J_HPen_drawLine_d49 : decode J_HPen_drawLine.2.1 49 = .ok (.iload 5, 2) := by decide +kernel
theorem J_HPen_drawLine_d51 : decode J_HPen_drawLine.2.1 51 = .ok (.if_icmp .gt 163, 3) := by decide +kernel
theorem J_HPen_drawLine_d54 : decode J_HPen_drawLine.2.1 54 = .ok (.iconst 0, 1) := by decide +kernel
theorem J_HPen_drawLine_d55 : decode J_HPen_drawLine.2.1 55 = .ok (.iload_n 2, 1) := by decide +kernel
theorem J_HPen_drawLine_d56 : decode J_HPen_drawLine.2.1 56 = .ok (.invokestatic 143, 3) := by decide +kernel
theorem J_HPen_drawLine_d59 : decode J_HPen_drawLine.2.1 59 = .ok (.iconst 0, 1) := by decide +kernel
theorem J_HPen_drawLine_d60 : decode J_HPen_drawLine.2.1 60 = .ok (.iload_n 2, 1) := by decide +kernel
theorem J_HPen_drawLine_d61 : decode J_HPen_drawLine.2.1 61 = .ok (.invokestatic 148, 3) := by decide +kernel
theorem J_HPen_drawLine_d64 : decode J_HPen_drawLine.2.1 64 = .ok (.iload 6, 2) := by decide +kernel
theorem J_HPen_drawLine_d66 : decode J_HPen_drawLine.2.1 66 = .ok (.invokestatic 143, 3) := by decide +kernel
theorem J_HPen_drawLine_d69 : decode J_HPen_drawLine.2.1 69 = .ok (.invokestatic 148, 3) := by decide +kernel
theorem J_HPen_drawLine_d72 : decode J_HPen_drawLine.2.1 72 = .ok (.istore 7, 2) := by decide +kernel
theorem J_HPen_drawLine_d74 : decode J_HPen_drawLine.2.1 74 = .ok (.iload_n 2, 1) := by decide +kernel
theorem J_HPen_drawLine_d75 : decode J_HPen_drawLine.2.1 75 = .ok (.ifCond .ne 7, 3) := by decide +kernel
theorem J_HPen_drawLine_d78 : decode J_HPen_drawLine.2.1 78 = .ok (.iconst 0, 1) := by decide +kernel
theorem J_HPen_drawLine_d79 : decode J_HPen_drawLine.2.1 79 = .ok (.goto 11, 3) := by decide +kernel
theorem J_HPen_drawLine_d82 : decode J_HPen_drawLine.2.1 82 = .ok (.iload_n 1, 1) := by decide +kernel
theorem J_HPen_drawLine_d83 : decode J_HPen_drawLine.2.1 83 = .ok (.iload 7, 2) := by decide +kernel
theorem J_HPen_drawLine_d85 : decode J_HPen_drawLine.2.1 85 = .ok (.imul, 1) := by decide +kernel
theorem J_HPen_drawLine_d86 : decode J_HPen_drawLine.2.1 86 = .ok (.iload_n 2, 1) := by decide +kernel
theorem J_HPen_drawLine_d87 : decode J_HPen_drawLine.2.1 87 = .ok (.invokestatic 151, 3) := by decide +kernel
theorem J_HPen_drawLine_d90 : decode J_HPen_drawLine.2.1 90 = .ok (.istore 8, 2) := by decide +kernel
theorem J_HPen_drawLine_d92 : decode J_HPen_drawLine.2.1 92 = .ok (.iload 8, 2) := by decide +kernel
theorem J_HPen_drawLine_d94 : decode J_HPen_drawLine.2.1 94 = .ok (.i2l, 1) := by decide +kernel
theorem J_HPen_drawLine_d95 : decode J_HPen_drawLine.2.1 95 = .ok (.iload 6, 2) := by decide +kernel
theorem J_HPen_drawLine_d97 : decode J_HPen_drawLine.2.1 97 = .ok (.i2l, 1) := by decide +kernel
theorem J_HPen_drawLine_d98 : decode J_HPen_drawLine.2.1 98 = .ok (.iload_n 1, 1) := by decide +kernel
theorem J_HPen_drawLine_d99 : decode J_HPen_drawLine.2.1 99 = .ok (.i2l, 1) := by decide +kernel
theorem J_HPen_drawLine_d100 : decode J_HPen_drawLine.2.1 100 = .ok (.iload_n 2, 1) := by decide +kernel
theorem J_HPen_drawLine_d101 : decode J_HPen_drawLine.2.1 101 = .ok (.i2l, 1) := by decide +kernel
theorem J_HPen_drawLine_d102 : decode J_HPen_drawLine.2.1 102 = .ok (.iload_n 3, 1) := by decide +kernel
theorem J_HPen_drawLine_d103 : decode J_HPen_drawLine.2.1 103 = .ok (.i2l, 1) := by decide +kernel
theorem J_HPen_drawLine_d104 : decode J_HPen_drawLine.2.1 104 = .ok (.invokestatic 154, 3) := by decide +kernel
theorem J_HPen_drawLine_d107 : decode J_HPen_drawLine.2.1 107 = .ok (.ifCond .ne 6, 3) := by decide +kernel
theorem J_HPen_drawLine_d110 : decode J_HPen_drawLine.2.1 110 = .ok (.iinc 8 1, 3) := by decide +kernel
theorem J_HPen_drawLine_d113 : decode J_HPen_drawLine.2.1 113 = .ok (.iload 8, 2) := by decide +kernel
theorem J_HPen_drawLine_d115 : decode J_HPen_drawLine.2.1 115 = .ok (.i2l, 1) := by decide +kernel
theorem J_HPen_drawLine_d116 : decode J_HPen_drawLine.2.1 116 = .ok (.iload 6, 2) := by decide +kernel
theorem J_HPen_drawLine_d118 : decode J_HPen_drawLine.2.1 118 = .ok (.i2l, 1) := by decide +kernel
theorem J_HPen_drawLine_d119 : decode J_HPen_drawLine.2.1 119 = .ok (.iload_n 1, 1) := by decide +kernel
theorem J_HPen_drawLine_d120 : decode J_HPen_drawLine.2.1 120 = .ok (.i2l, 1) := by decide +kernel
theorem J_HPen_drawLine_d121 : decode J_HPen_drawLine.2.1 121 = .ok (.iload_n 2, 1) := by decide +kernel
theorem J_HPen_drawLine_d122 : decode J_HPen_drawLine.2.1 122 = .ok (.i2l, 1) := by decide +kernel
theorem J_HPen_drawLine_d123 : decode J_HPen_drawLine.2.1 123 = .ok (.iload_n 3, 1) := by decide +kernel
theorem J_HPen_drawLine_d124 : decode J_HPen_drawLine.2.1 124 = .ok (.i2l, 1) := by decide +kernel
theorem J_HPen_drawLine_d125 : decode J_HPen_drawLine.2.1 125 = .ok (.invokestatic 154, 3) := by decide +kernel
theorem J_HPen_drawLine_d128 : decode J_HPen_drawLine.2.1 128 = .ok (.ifCond .eq 80, 3) := by decide +kernel
theorem J_HPen_drawLine_d131 : decode J_HPen_drawLine.2.1 131 = .ok (.iload 8, 2) := by decide +kernel
theorem J_HPen_drawLine_d133 : decode J_HPen_drawLine.2.1 133 = .ok (.iconst 0, 1) := by decide +kernel
theorem J_HPen_drawLine_d134 : decode J_HPen_drawLine.2.1 134 = .ok (.iload_n 1, 1) := by decide +kernel
theorem J_HPen_drawLine_d135 : decode J_HPen_drawLine.2.1 135 = .ok (.invokestatic 143, 3) := by decide +kernel
theorem J_HPen_drawLine_d138 : decode J_HPen_drawLine.2.1 138 = .ok (.iload_n 3, 1) := by decide +kernel
theorem J_HPen_drawLine_d139 : decode J_HPen_drawLine.2.1 139 = .ok (.isub, 1) := by decide +kernel
theorem J_HPen_drawLine_d140 : decode J_HPen_drawLine.2.1 140 = .ok (.iconst 1, 1) := by decide +kernel
theorem J_HPen_drawLine_d141 : decode J_HPen_drawLine.2.1 141 = .ok (.isub, 1) := by decide +kernel
theorem J_HPen_drawLine_d142 : decode J_HPen_drawLine.2.1 142 = .ok (.iload 6, 2) := by decide +kernel
theorem J_HPen_drawLine_d144 : decode J_HPen_drawLine.2.1 144 = .ok (.iload_n 1, 1) := by decide +kernel
theorem J_HPen_drawLine_d145 : decode J_HPen_drawLine.2.1 145 = .ok (.iload_n 2, 1) := by decide +kernel
theorem J_HPen_drawLine_d146 : decode J_HPen_drawLine.2.1 146 = .ok (.iload_n 3, 1) := by decide +kernel
theorem J_HPen_drawLine_d147 : decode J_HPen_drawLine.2.1 147 = .ok (.invokestatic 158, 3) := by decide +kernel
theorem J_HPen_drawLine_d150 : decode J_HPen_drawLine.2.1 150 = .ok (.istore 9, 2) := by decide +kernel
theorem J_HPen_drawLine_d152 : decode J_HPen_drawLine.2.1 152 = .ok (.iload 8, 2) := by decide +kernel
theorem J_HPen_drawLine_d154 : decode J_HPen_drawLine.2.1 154 = .ok (.iconst 0, 1) := by decide +kernel
theorem J_HPen_drawLine_d155 : decode J_HPen_drawLine.2.1 155 = .ok (.iload_n 1, 1) := by decide +kernel
theorem J_HPen_drawLine_d156 : decode J_HPen_drawLine.2.1 156 = .ok (.invokestatic 148, 3) := by decide +kernel
theorem J_HPen_drawLine_d159 : decode J_HPen_drawLine.2.1 159 = .ok (.iload_n 3, 1) := by decide +kernel
theorem J_HPen_drawLine_d160 : decode J_HPen_drawLine.2.1 160 = .ok (.iadd, 1) := by decide +kernel
theorem J_HPen_drawLine_d161 : decode J_HPen_drawLine.2.1 161 = .ok (.iconst 1, 1) := by decide +kernel
theorem J_HPen_drawLine_d162 : decode J_HPen_drawLine.2.1 162 = .ok (.iadd, 1) := by decide +kernel
theorem J_HPen_drawLine_d163 : decode J_HPen_drawLine.2.1 163 = .ok (.iload 6, 2) := by decide +kernel
theorem J_HPen_drawLine_d165 : decode J_HPen_drawLine.2.1 165 = .ok (.iload_n 1, 1) := by decide +kernel
theorem J_HPen_drawLine_d166 : decode J_HPen_drawLine.2.1 166 = .ok (.iload_n 2, 1) := by decide +kernel
theorem J_HPen_drawLine_d167 : decode J_HPen_drawLine.2.1 167 = .ok (.iload_n 3, 1) := by decide +kernel
theorem J_HPen_drawLine_d168 : decode J_HPen_drawLine.2.1 168 = .ok (.invokestatic 158, 3) := by decide +kernel
theorem J_HPen_drawLine_d171 : decode J_HPen_drawLine.2.1 171 = .ok (.istore 10, 2) := by decide +kernel
theorem J_HPen_drawLine_d173 : decode J_HPen_drawLine.2.1 173 = .ok (.aload_n 0, 1) := by decide +kernel
theorem J_HPen_drawLine_d174 : decode J_HPen_drawLine.2.1 174 = .ok (.getfield 19, 3) := by decide +kernel
theorem J_HPen_drawLine_d177 : decode J_HPen_drawLine.2.1 177 = .ok (.aload_n 0, 1) := by decide +kernel
theorem J_HPen_drawLine_d178 : decode J_HPen_drawLine.2.1 178 = .ok (.getfield 43, 3) := by decide +kernel
theorem J_HPen_drawLine_d181 : decode J_HPen_drawLine.2.1 181 = .ok (.iload 9, 2) := by decide +kernel
theorem J_HPen_drawLine_d183 : decode J_HPen_drawLine.2.1 183 = .ok (.iadd, 1) := by decide +kernel
theorem J_HPen_drawLine_d184 : decode J_HPen_drawLine.2.1 184 = .ok (.aload_n 0, 1) := by decide +kernel
theorem J_HPen_drawLine_d185 : decode J_HPen_drawLine.2.1 185 = .ok (.getfield 47, 3) := by decide +kernel
theorem J_HPen_drawLine_d188 : decode J_HPen_drawLine.2.1 188 = .ok (.iload 6, 2) := by decide +kernel
theorem J_HPen_drawLine_d190 : decode J_HPen_drawLine.2.1 190 = .ok (.iadd, 1) := by decide +kernel
theorem J_HPen_drawLine_d191 : decode J_HPen_drawLine.2.1 191 = .ok (.aload_n 0, 1) := by decide +kernel
theorem J_HPen_drawLine_d192 : decode J_HPen_drawLine.2.1 192 = .ok (.getfield 43, 3) := by decide +kernel
theorem J_HPen_drawLine_d195 : decode J_HPen_drawLine.2.1 195 = .ok (.iload 10, 2) := by decide +kernel
theorem J_HPen_drawLine_d197 : decode J_HPen_drawLine.2.1 197 = .ok (.iadd, 1) := by decide +kernel
theorem J_HPen_drawLine_d198 : decode J_HPen_drawLine.2.1 198 = .ok (.aload_n 0, 1) := by decide +kernel
theorem J_HPen_drawLine_d199 : decode J_HPen_drawLine.2.1 199 = .ok (.getfield 47, 3) := by decide +kernel
theorem J_HPen_drawLine_d202 : decode J_HPen_drawLine.2.1 202 = .ok (.iload 6, 2) := by decide +kernel
theorem J_HPen_drawLine_d204 : decode J_HPen_drawLine.2.1 204 = .ok (.iadd, 1) := by decide +kernel
theorem J_HPen_drawLine_d205 : decode J_HPen_drawLine.2.1 205 = .ok (.invokevirtual 107, 3) := by decide +kernel
theorem J_HPen_drawLine_d208 : decode J_HPen_drawLine.2.1 208 = .ok (.iinc 6 1, 3) := by decide +kernel
theorem J_HPen_drawLine_d211 : decode J_HPen_drawLine.2.1 211 = .ok (.goto (-164), 3) := by decide +kernel
theorem J_HPen_drawLine_d214 : decode J_HPen_drawLine.2.1 214 = .ok (.return_, 1) := by decide +kernel
theorem f_HPen_drawLine_ok {L : Nat} {xs : Nat → Int32} {dep : Nat} {w : Bool} {p0 : Int32} {p1 : Int32} {p2 : Int32} {M : im_M} {Q : im_M → Prop} (hM : lw_S w M) (h : ed (f_HPen_drawLine w p0 p1 p2 M) Q) : ia (tb_G L xs) (dep + 2) J_HPen_drawLine (rwV w Q) (0, lv_args 0 [.ref 56, .int p0, .int p1, .int p2], [], M) := by
  have hS : im_St (tb_G L xs) (dep + 2) J_HPen_drawLine (ia (tb_G L xs) (dep + 2) J_HPen_drawLine (rwV w Q)) := ia_St
  unfold f_HPen_drawLine at h
  have l0 : im_lk (lv_args 0 [.ref 56, .int p0, .int p1, .int p2]) 0 = some (.ref 56) := rfl
  have l1 : im_lk (lv_args 0 [.ref 56, .int p0, .int p1, .int p2]) 1 = some (.int p0) := rfl
  have l2 : im_lk (lv_args 0 [.ref 56, .int p0, .int p1, .int p2]) 2 = some (.int p1) := rfl
  have l3 : im_lk (lv_args 0 [.ref 56, .int p0, .int p1, .int p2]) 3 = some (.int p2) := rfl
  refine iq_iconst hS 1 J_HPen_drawLine_d0 (v := 0) (by decide +kernel) rfl ?_
  refine iq_iload_n hS 2 J_HPen_drawLine_d1 l2 rfl ?_
  obtain ⟨Q1, hQ1, h⟩ := bd1_ed h
  refine iq_cpI hS 5 J_HPen_drawLine_d2 rfl (pr_stat (vs := [_, _]) lc_6_143 lT_28 rfl rfl (by decide) rfl (Nat.le_of_ble_eq_true rfl) (Nat.le_of_ble_eq_true rfl)) (f_Math_min_ok (dep := dep + 1) hM h) rfl ?_
  intro x1 h
  replace h := hQ1 _ h
  refine iq_iload_n hS 6 J_HPen_drawLine_d5 l3 rfl ?_
  refine iq_isub hS 7 J_HPen_drawLine_d6 rfl ?_
  refine iq_aload_n hS 8 J_HPen_drawLine_d7 l0 rfl ?_
  refine iq_getI hS 11 J_HPen_drawLine_d8 lf_6_47 (Or.inl rfl) (ka_56 hM) rfl ?_
  refine iq_ineg hS 12 J_HPen_drawLine_d11 rfl ?_
  obtain ⟨Q2, hQ2, h⟩ := bd1_ed h
  refine iq_cpI hS 15 J_HPen_drawLine_d12 rfl (pr_stat (vs := [_, _]) lc_6_148 lT_27 rfl rfl (by decide) rfl (Nat.le_of_ble_eq_true rfl) (Nat.le_of_ble_eq_true rfl)) (f_Math_max_ok (dep := dep + 1) hM h) rfl ?_
  intro x2 h
  replace h := hQ2 _ h
  refine iq_istore hS 17 J_HPen_drawLine_d15 (by decide) rfl ?_
  refine iq_iconst hS 18 J_HPen_drawLine_d17 (v := 0) (by decide +kernel) rfl ?_
  refine iq_iload_n hS 19 J_HPen_drawLine_d18 (lk_1i l2 (by decide)) rfl ?_
  obtain ⟨Q3, hQ3, h⟩ := bd1_ed h
  refine iq_cpI hS 22 J_HPen_drawLine_d19 rfl (pr_stat (vs := [_, _]) lc_6_148 lT_27 rfl rfl (by decide) rfl (Nat.le_of_ble_eq_true rfl) (Nat.le_of_ble_eq_true rfl)) (f_Math_max_ok (dep := dep + 1) hM h) rfl ?_
  intro x3 h
  replace h := hQ3 _ h
  refine iq_iload_n hS 23 J_HPen_drawLine_d22 (lk_1i l3 (by decide)) rfl ?_
  refine iq_iadd hS 24 J_HPen_drawLine_d23 rfl ?_
  refine iq_aload_n hS 25 J_HPen_drawLine_d24 (lk_1r l0 (by decide)) rfl ?_
  refine iq_getR hS 28 J_HPen_drawLine_d25 lf_6_19 (Or.inl ⟨_, rfl⟩) (ka_56 hM) (ra_56_0 hM) rfl ?_
  refine iq_getI hS 31 J_HPen_drawLine_d28 lf_6_134 (Or.inl rfl) (ka_28 hM) rfl ?_
  refine iq_iconst hS 32 J_HPen_drawLine_d31 (v := 1) (by decide +kernel) rfl ?_
  refine iq_isub hS 33 J_HPen_drawLine_d32 rfl ?_
  refine iq_aload_n hS 34 J_HPen_drawLine_d33 (lk_1r l0 (by decide)) rfl ?_
  refine iq_getI hS 37 J_HPen_drawLine_d34 lf_6_47 (Or.inl rfl) (ka_56 hM) rfl ?_
  refine iq_isub hS 38 J_HPen_drawLine_d37 rfl ?_
  obtain ⟨Q4, hQ4, h⟩ := bd1_ed h
  refine iq_cpI hS 41 J_HPen_drawLine_d38 rfl (pr_stat (vs := [_, _]) lc_6_143 lT_28 rfl rfl (by decide) rfl (Nat.le_of_ble_eq_true rfl) (Nat.le_of_ble_eq_true rfl)) (f_Math_min_ok (dep := dep + 1) hM h) rfl ?_
  intro x4 h
  replace h := hQ4 _ h
  refine iq_istore hS 43 J_HPen_drawLine_d41 (by decide) rfl ?_
  refine iq_iload hS 45 J_HPen_drawLine_d43 (lk_1i lk_1s (by decide)) rfl ?_
  refine iq_istore hS 47 J_HPen_drawLine_d45 (by decide) rfl ?_
  obtain ⟨Q5, hQ5, h⟩ := bd1_ed h
  have K5 : ∀ (M6 : im_M) (L' : List (Nat × Value)), lw_S w M6 → Q5 M6 → ia (tb_G L xs) (dep + 2) J_HPen_drawLine (rwV w Q) (214, L', [], M6) := by
    intro M6 L' hM6  h
    replace h := hQ5 _ h
    exact iq_ret J_HPen_drawLine_d214 rfl ⟨rfl, hM6, ed_some h⟩
  obtain ⟨r5, hr5, hq5⟩ := h
  obtain ⟨n5, hn5⟩ := lp_n hr5
  have I5 : ∀ (n : Nat) (x7 : Int32) (M8 : im_M) (L' : List (Nat × Value)), lw_S w M8 → im_lk L' 0 = some (.ref 56) → im_lk L' 1 = some (.int p0) → im_lk L' 2 = some (.int p1) → im_lk L' 3 = some (.int p2) → im_lk L' 5 = some (.int x4) → im_lk L' 6 = some (.int x7) → lpn (uc2 (f_HPen_drawLine_L47 w p0 p1 p2 x4)) n (x7, M8) = some r5 → ia (tb_G L xs) (dep + 2) J_HPen_drawLine (rwV w Q) (47, L', [], M8) := by
    intro n
    induction n with
    | zero => intro x7 M8 L' hM8 l9 l10 l11 l12 l13 l14 hn; exact (lpn_0 hn).elim
    | succ n ih =>
      intro x7 M8 L' hM8 l9 l10 l11 l12 l13 l14 hn
      have h := lpn_ed2 hn
      unfold f_HPen_drawLine_L47 at h
      refine iq_iload hS 49 J_HPen_drawLine_d47 l14 rfl ?_
      refine iq_iload hS 51 J_HPen_drawLine_d49 l13 rfl ?_
      refine iq_icmp_gt hS 54 J_HPen_drawLine_d51 (t := 214) rfl (fun q51 => ?_) rfl (fun q51 => ?_)
      · replace h := ed_pos q51 h
        exact K5 _ _ hM8  (lq_r h hq5)
      · replace h := ed_neg q51 h
        refine iq_iconst hS 55 J_HPen_drawLine_d54 (v := 0) (by decide +kernel) rfl ?_
        refine iq_iload_n hS 56 J_HPen_drawLine_d55 l11 rfl ?_
        obtain ⟨Q15, hQ15, h⟩ := bd1_ed h
        refine iq_cpI hS 59 J_HPen_drawLine_d56 rfl (pr_stat (vs := [_, _]) lc_6_143 lT_28 rfl rfl (by decide) rfl (Nat.le_of_ble_eq_true rfl) (Nat.le_of_ble_eq_true rfl)) (f_Math_min_ok (dep := dep + 1) hM8 h) rfl ?_
        intro x15 h
        replace h := hQ15 _ h
        refine iq_iconst hS 60 J_HPen_drawLine_d59 (v := 0) (by decide +kernel) rfl ?_
        refine iq_iload_n hS 61 J_HPen_drawLine_d60 l11 rfl ?_
        obtain ⟨Q16, hQ16, h⟩ := bd1_ed h
        refine iq_cpI hS 64 J_HPen_drawLine_d61 rfl (pr_stat (vs := [_, _]) lc_6_148 lT_27 rfl rfl (by decide) rfl (Nat.le_of_ble_eq_true rfl) (Nat.le_of_ble_eq_true rfl)) (f_Math_max_ok (dep := dep + 1) hM8 h) rfl ?_
        intro x16 h
        replace h := hQ16 _ h
        refine iq_iload hS 66 J_HPen_drawLine_d64 l14 rfl ?_
        obtain ⟨Q17, hQ17, h⟩ := bd1_ed h
        refine iq_cpI hS 69 J_HPen_drawLine_d66 rfl (pr_stat (vs := [_, _]) lc_6_143 lT_28 rfl rfl (by decide) rfl (Nat.le_of_ble_eq_true rfl) (Nat.le_of_ble_eq_true rfl)) (f_Math_min_ok (dep := dep + 1) hM8 h) rfl ?_
        intro x17 h
        replace h := hQ17 _ h
        obtain ⟨Q18, hQ18, h⟩ := bd1_ed h
        refine iq_cpI hS 72 J_HPen_drawLine_d69 rfl (pr_stat (vs := [_, _]) lc_6_148 lT_27 rfl rfl (by decide) rfl (Nat.le_of_ble_eq_true rfl) (Nat.le_of_ble_eq_true rfl)) (f_Math_max_ok (dep := dep + 1) hM8 h) rfl ?_
        intro x18 h
        replace h := hQ18 _ h
        refine iq_istore hS 74 J_HPen_drawLine_d72 (by decide) rfl ?_
        refine iq_iload_n hS 75 J_HPen_drawLine_d74 (lk_1i l11 (by decide)) rfl ?_
        obtain ⟨Q19, hQ19, h⟩ := bd1_ed h
        have J19 : ∀ (y21 : Int32) (L' : List (Nat × Value)), im_lk L' 0 = some (.ref 56) → im_lk L' 1 = some (.int p0) → im_lk L' 2 = some (.int p1) → im_lk L' 3 = some (.int p2) → im_lk L' 5 = some (.int x4) → im_lk L' 6 = some (.int x7) → Q19 y21 → ia (tb_G L xs) (dep + 2) J_HPen_drawLine (rwV w Q) (90, L', [.int y21], M8) := by
          intro y21 L' l22 l23 l24 l25 l26 l27 h
          replace h := hQ19 _ h
          refine iq_istore hS 92 J_HPen_drawLine_d90 (by decide) rfl ?_
          refine iq_iload hS 94 J_HPen_drawLine_d92 lk_1s rfl ?_
          refine iq_i2l hS 95 J_HPen_drawLine_d94 rfl ?_
          refine iq_iload hS 97 J_HPen_drawLine_d95 (lk_1i l27 (by decide)) rfl ?_
          refine iq_i2l hS 98 J_HPen_drawLine_d97 rfl ?_
          refine iq_iload_n hS 99 J_HPen_drawLine_d98 (lk_1i l23 (by decide)) rfl ?_
          refine iq_i2l hS 100 J_HPen_drawLine_d99 rfl ?_
          refine iq_iload_n hS 101 J_HPen_drawLine_d100 (lk_1i l24 (by decide)) rfl ?_
          refine iq_i2l hS 102 J_HPen_drawLine_d101 rfl ?_
          refine iq_iload_n hS 103 J_HPen_drawLine_d102 (lk_1i l25 (by decide)) rfl ?_
          refine iq_i2l hS 104 J_HPen_drawLine_d103 rfl ?_
          obtain ⟨Q28, hQ28, h⟩ := bd1_ed h
          refine iq_cpI hS 107 J_HPen_drawLine_d104 rfl (pr_stat (vs := [_, _, _, _, _]) lc_6_154 lT_185 rfl rfl (by decide) rfl (Nat.le_of_ble_eq_true rfl) (Nat.le_of_ble_eq_true rfl)) (f_HPen_isNear_ok (dep := dep + 1) hM8 h) rfl ?_
          intro x28 h
          replace h := hQ28 _ h
          have J29 : ∀ (z30 : Int32) (L' : List (Nat × Value)), z30 = ((if ¬ x28 = 0 then y21 else (y21 + 1)) : Int32) → im_lk L' 0 = some (.ref 56) → im_lk L' 1 = some (.int p0) → im_lk L' 2 = some (.int p1) → im_lk L' 3 = some (.int p2) → im_lk L' 5 = some (.int x4) → im_lk L' 6 = some (.int x7) → im_lk L' 8 = some (.int z30) → ia (tb_G L xs) (dep + 2) J_HPen_drawLine (rwV w Q) (113, L', [], M8) := by
            intro z30 L' e31 l32 l33 l34 l35 l36 l37 l38
            subst e31
            refine iq_iload hS 115 J_HPen_drawLine_d113 l38 rfl ?_
            refine iq_i2l hS 116 J_HPen_drawLine_d115 rfl ?_
            refine iq_iload hS 118 J_HPen_drawLine_d116 l37 rfl ?_
            refine iq_i2l hS 119 J_HPen_drawLine_d118 rfl ?_
            refine iq_iload_n hS 120 J_HPen_drawLine_d119 l33 rfl ?_
            refine iq_i2l hS 121 J_HPen_drawLine_d120 rfl ?_
            refine iq_iload_n hS 122 J_HPen_drawLine_d121 l34 rfl ?_
            refine iq_i2l hS 123 J_HPen_drawLine_d122 rfl ?_
            refine iq_iload_n hS 124 J_HPen_drawLine_d123 l35 rfl ?_
            refine iq_i2l hS 125 J_HPen_drawLine_d124 rfl ?_
            obtain ⟨Q39, hQ39, h⟩ := bd1_ed h
            refine iq_cpI hS 128 J_HPen_drawLine_d125 rfl (pr_stat (vs := [_, _, _, _, _]) lc_6_154 lT_185 rfl rfl (by decide) rfl (Nat.le_of_ble_eq_true rfl) (Nat.le_of_ble_eq_true rfl)) (f_HPen_isNear_ok (dep := dep + 1) hM8 h) rfl ?_
            intro x39 h
            replace h := hQ39 _ h
            obtain ⟨Q40, hQ40, h⟩ := bd1_ed h
            have J40 : ∀ (M46 : im_M) (L' : List (Nat × Value)), lw_S w M46 → im_lk L' 0 = some (.ref 56) → im_lk L' 1 = some (.int p0) → im_lk L' 2 = some (.int p1) → im_lk L' 3 = some (.int p2) → im_lk L' 5 = some (.int x4) → im_lk L' 6 = some (.int x7) → Q40 M46 → ia (tb_G L xs) (dep + 2) J_HPen_drawLine (rwV w Q) (208, L', [], M46) := by
              intro M46 L' hM46 l47 l48 l49 l50 l51 l52 h
              replace h := hQ40 _ h
              refine iq_iincv hS 211 J_HPen_drawLine_d208 (c := 1) (by decide +kernel) l52 (by decide) rfl ?_
              refine iq_goto hS J_HPen_drawLine_d211 (t := 47) rfl ?_
              exact ih _ _ _ hM46 (lk_1r l47 (by decide)) (lk_1i l48 (by decide)) (lk_1i l49 (by decide)) (lk_1i l50 (by decide)) (lk_1i l51 (by decide)) lk_1s (lq_l h)
            refine iq_if_eq hS 131 J_HPen_drawLine_d128 (t := 208) rfl (fun q128 => ?_) rfl (fun q128 => ?_)
            · replace h := ed_pos q128 h
              exact J40 _ _ hM8 l32 l33 l34 l35 l36 l37 (ed_some h)
            · replace h := ed_neg q128 h
              refine iq_iload hS 133 J_HPen_drawLine_d131 l38 rfl ?_
              refine iq_iconst hS 134 J_HPen_drawLine_d133 (v := 0) (by decide +kernel) rfl ?_
              refine iq_iload_n hS 135 J_HPen_drawLine_d134 l33 rfl ?_
              obtain ⟨Q41, hQ41, h⟩ := bd1_ed h
              refine iq_cpI hS 138 J_HPen_drawLine_d135 rfl (pr_stat (vs := [_, _]) lc_6_143 lT_28 rfl rfl (by decide) rfl (Nat.le_of_ble_eq_true rfl) (Nat.le_of_ble_eq_true rfl)) (f_Math_min_ok (dep := dep + 1) hM8 h) rfl ?_
              intro x41 h
              replace h := hQ41 _ h
              refine iq_iload_n hS 139 J_HPen_drawLine_d138 l35 rfl ?_
              refine iq_isub hS 140 J_HPen_drawLine_d139 rfl ?_
              refine iq_iconst hS 141 J_HPen_drawLine_d140 (v := 1) (by decide +kernel) rfl ?_
              refine iq_isub hS 142 J_HPen_drawLine_d141 rfl ?_
              refine iq_iload hS 144 J_HPen_drawLine_d142 l37 rfl ?_
              refine iq_iload_n hS 145 J_HPen_drawLine_d144 l33 rfl ?_
              refine iq_iload_n hS 146 J_HPen_drawLine_d145 l34 rfl ?_
              refine iq_iload_n hS 147 J_HPen_drawLine_d146 l35 rfl ?_
              obtain ⟨Q42, hQ42, h⟩ := bd1_ed h
              refine iq_cpI hS 150 J_HPen_drawLine_d147 rfl (pr_stat (vs := [_, _, _, _, _, _]) lc_6_158 lT_186 rfl rfl (by decide) rfl (Nat.le_of_ble_eq_true rfl) (Nat.le_of_ble_eq_true rfl)) (f_HPen_lastNear_ok (dep := dep + 0) hM8 h) rfl ?_
              intro x42 h
              replace h := hQ42 _ h
              refine iq_istore hS 152 J_HPen_drawLine_d150 (by decide) rfl ?_
              refine iq_iload hS 154 J_HPen_drawLine_d152 (lk_1i l38 (by decide)) rfl ?_
              refine iq_iconst hS 155 J_HPen_drawLine_d154 (v := 0) (by decide +kernel) rfl ?_
              refine iq_iload_n hS 156 J_HPen_drawLine_d155 (lk_1i l33 (by decide)) rfl ?_
              obtain ⟨Q43, hQ43, h⟩ := bd1_ed h
              refine iq_cpI hS 159 J_HPen_drawLine_d156 rfl (pr_stat (vs := [_, _]) lc_6_148 lT_27 rfl rfl (by decide) rfl (Nat.le_of_ble_eq_true rfl) (Nat.le_of_ble_eq_true rfl)) (f_Math_max_ok (dep := dep + 1) hM8 h) rfl ?_
              intro x43 h
              replace h := hQ43 _ h
              refine iq_iload_n hS 160 J_HPen_drawLine_d159 (lk_1i l35 (by decide)) rfl ?_
              refine iq_iadd hS 161 J_HPen_drawLine_d160 rfl ?_
              refine iq_iconst hS 162 J_HPen_drawLine_d161 (v := 1) (by decide +kernel) rfl ?_
              refine iq_iadd hS 163 J_HPen_drawLine_d162 rfl ?_
              refine iq_iload hS 165 J_HPen_drawLine_d163 (lk_1i l37 (by decide)) rfl ?_
              refine iq_iload_n hS 166 J_HPen_drawLine_d165 (lk_1i l33 (by decide)) rfl ?_
              refine iq_iload_n hS 167 J_HPen_drawLine_d166 (lk_1i l34 (by decide)) rfl ?_
              refine iq_iload_n hS 168 J_HPen_drawLine_d167 (lk_1i l35 (by decide)) rfl ?_
              obtain ⟨Q44, hQ44, h⟩ := bd1_ed h
              refine iq_cpI hS 171 J_HPen_drawLine_d168 rfl (pr_stat (vs := [_, _, _, _, _, _]) lc_6_158 lT_186 rfl rfl (by decide) rfl (Nat.le_of_ble_eq_true rfl) (Nat.le_of_ble_eq_true rfl)) (f_HPen_lastNear_ok (dep := dep + 0) hM8 h) rfl ?_
              intro x44 h
              replace h := hQ44 _ h
              refine iq_istore hS 173 J_HPen_drawLine_d171 (by decide) rfl ?_
              refine iq_aload_n hS 174 J_HPen_drawLine_d173 (lk_1r (lk_1r l32 (by decide)) (by decide)) rfl ?_
              refine iq_getR hS 177 J_HPen_drawLine_d174 lf_6_19 (Or.inl ⟨_, rfl⟩) (ka_56 hM8) (ra_56_0 hM8) rfl ?_
              refine iq_aload_n hS 178 J_HPen_drawLine_d177 (lk_1r (lk_1r l32 (by decide)) (by decide)) rfl ?_
              refine iq_getI hS 181 J_HPen_drawLine_d178 lf_6_43 (Or.inl rfl) (ka_56 hM8) rfl ?_
              refine iq_iload hS 183 J_HPen_drawLine_d181 (lk_1i lk_1s (by decide)) rfl ?_
              refine iq_iadd hS 184 J_HPen_drawLine_d183 rfl ?_
              refine iq_aload_n hS 185 J_HPen_drawLine_d184 (lk_1r (lk_1r l32 (by decide)) (by decide)) rfl ?_
              refine iq_getI hS 188 J_HPen_drawLine_d185 lf_6_47 (Or.inl rfl) (ka_56 hM8) rfl ?_
              refine iq_iload hS 190 J_HPen_drawLine_d188 (lk_1i (lk_1i l37 (by decide)) (by decide)) rfl ?_
              refine iq_iadd hS 191 J_HPen_drawLine_d190 rfl ?_
              refine iq_aload_n hS 192 J_HPen_drawLine_d191 (lk_1r (lk_1r l32 (by decide)) (by decide)) rfl ?_
              refine iq_getI hS 195 J_HPen_drawLine_d192 lf_6_43 (Or.inl rfl) (ka_56 hM8) rfl ?_
              refine iq_iload hS 197 J_HPen_drawLine_d195 lk_1s rfl ?_
              refine iq_iadd hS 198 J_HPen_drawLine_d197 rfl ?_
              refine iq_aload_n hS 199 J_HPen_drawLine_d198 (lk_1r (lk_1r l32 (by decide)) (by decide)) rfl ?_
              refine iq_getI hS 202 J_HPen_drawLine_d199 lf_6_47 (Or.inl rfl) (ka_56 hM8) rfl ?_
              refine iq_iload hS 204 J_HPen_drawLine_d202 (lk_1i (lk_1i l37 (by decide)) (by decide)) rfl ?_
              refine iq_iadd hS 205 J_HPen_drawLine_d204 rfl ?_
              obtain ⟨Q45, hQ45, h⟩ := bd1_ed h
              refine iq_cwV hS 208 J_HPen_drawLine_d205 rfl (pr_inst (vs := [_, _, _, _]) lc_6_107 lT_113 rfl rfl (by decide) (by decide) rfl (Nat.le_of_ble_eq_true rfl) (Nat.le_of_ble_eq_true rfl) (fun _ => Or.inl (pr_b (ka_28 hM8) (by decide) rfl))) (f_HSheet_box_ok (dep := dep + 0) hM8 h) rfl ?_
              intro M45 hM45 h
              replace h := hQ45 _ h
              exact J40 _ _ hM45 (lk_1r (lk_1r l32 (by decide)) (by decide)) (lk_1i (lk_1i l33 (by decide)) (by decide)) (lk_1i (lk_1i l34 (by decide)) (by decide)) (lk_1i (lk_1i l35 (by decide)) (by decide)) (lk_1i (lk_1i l36 (by decide)) (by decide)) (lk_1i (lk_1i l37 (by decide)) (by decide)) (ed_some h)
          refine iq_if_ne hS 110 J_HPen_drawLine_d107 (t := 113) rfl (fun q107 => ?_) rfl (fun q107 => ?_)
          · exact J29 _ _ (by simp only [if_pos q107]) (lk_1r l22 (by decide)) (lk_1i l23 (by decide)) (lk_1i l24 (by decide)) (lk_1i l25 (by decide)) (lk_1i l26 (by decide)) (lk_1i l27 (by decide)) lk_1s
          · refine iq_iincv hS 113 J_HPen_drawLine_d110 (c := 1) (by decide +kernel) lk_1s (by decide) rfl ?_
            exact J29 _ _ (by simp only [if_neg q107]) (lk_1r (lk_1r l22 (by decide)) (by decide)) (lk_1i (lk_1i l23 (by decide)) (by decide)) (lk_1i (lk_1i l24 (by decide)) (by decide)) (lk_1i (lk_1i l25 (by decide)) (by decide)) (lk_1i (lk_1i l26 (by decide)) (by decide)) (lk_1i (lk_1i l27 (by decide)) (by decide)) lk_1s
        refine iq_if_ne hS 78 J_HPen_drawLine_d75 (t := 82) rfl (fun q75 => ?_) rfl (fun q75 => ?_)
        · replace h := ed_pos q75 h
          refine iq_iload_n hS 83 J_HPen_drawLine_d82 (lk_1i l10 (by decide)) rfl ?_
          refine iq_iload hS 85 J_HPen_drawLine_d83 lk_1s rfl ?_
          refine iq_imul hS 86 J_HPen_drawLine_d85 rfl ?_
          refine iq_iload_n hS 87 J_HPen_drawLine_d86 (lk_1i l11 (by decide)) rfl ?_
          obtain ⟨Q20, hQ20, h⟩ := bd1_ed h
          refine iq_cpI hS 90 J_HPen_drawLine_d87 rfl (pr_stat (vs := [_, _]) lc_6_151 lT_184 rfl rfl (by decide) rfl (Nat.le_of_ble_eq_true rfl) (Nat.le_of_ble_eq_true rfl)) (f_Math_floorDiv_ok (dep := dep + 1) hM8 h) rfl ?_
          intro x20 h
          replace h := hQ20 _ h
          exact J19 _ _ (lk_1r l9 (by decide)) (lk_1i l10 (by decide)) (lk_1i l11 (by decide)) (lk_1i l12 (by decide)) (lk_1i l13 (by decide)) (lk_1i l14 (by decide)) (ed_some h)
        · replace h := ed_neg q75 h
          refine iq_iconst hS 79 J_HPen_drawLine_d78 (v := 0) (by decide +kernel) rfl ?_
          refine iq_goto hS J_HPen_drawLine_d79 (t := 90) rfl ?_
          exact J19 _ _ (lk_1r l9 (by decide)) (lk_1i l10 (by decide)) (lk_1i l11 (by decide)) (lk_1i l12 (by decide)) (lk_1i l13 (by decide)) (lk_1i l14 (by decide)) (ed_some h)
  exact I5 n5 _ _ _ hM (lk_1r (lk_1r (lk_1r l0 (by decide)) (by decide)) (by decide)) (lk_1i (lk_1i (lk_1i l1 (by decide)) (by decide)) (by decide)) (lk_1i (lk_1i (lk_1i l2 (by decide)) (by decide)) (by decide)) (lk_1i (lk_1i (lk_1i l3 (by decide)) (by decide)) (by decide)) (lk_1i lk_1s (by decide)) lk_1s hn5
theorem f_HPen_drawLine_fr {w : Bool} {p0 : Int32} {p1 : Int32} {p2 : Int32} {M : im_M} {r : im_M} (h : f_HPen_drawLine w p0 p1 p2 M = some r) : fr 1610612736 [(28, 3)] M r := by
  replace h : ed (f_HPen_drawLine w p0 p1 p2 M) (fun x => x = r) := ⟨r, h, rfl⟩
  unfold f_HPen_drawLine at h
  obtain ⟨Q1, hQ1, h⟩ := bd1_ed h
  obtain ⟨x1, e1, h⟩ := h
  replace h := hQ1 _ h
  obtain ⟨Q2, hQ2, h⟩ := bd1_ed h
  obtain ⟨x2, e2, h⟩ := h
  replace h := hQ2 _ h
  obtain ⟨Q3, hQ3, h⟩ := bd1_ed h
  obtain ⟨x3, e3, h⟩ := h
  replace h := hQ3 _ h
  obtain ⟨Q4, hQ4, h⟩ := bd1_ed h
  obtain ⟨x4, e4, h⟩ := h
  replace h := hQ4 _ h
  obtain ⟨Q5, hQ5, h⟩ := bd1_ed h
  have K5 : ∀ (M6 : im_M), fr 1610612736 [(28, 3)] M M6 → Q5 M6 → fr 1610612736 [(28, 3)] M r := by
    intro M6 hM6 h
    replace h := hQ5 _ h
    exact fr_retV h hM6
  obtain ⟨r5, hr5, hq5⟩ := h
  obtain ⟨n5, hn5⟩ := lp_n hr5
  have I5 : ∀ (n : Nat) (x7 : Int32) (M8 : im_M), fr 1610612736 [(28, 3)] M M8 → lpn (uc2 (f_HPen_drawLine_L47 w p0 p1 p2 x4)) n (x7, M8) = some r5 → fr 1610612736 [(28, 3)] M r := by
    intro n
    induction n with
    | zero => intro x7 M8 hM8 hn; exact (lpn_0 hn).elim
    | succ n ih =>
      intro x7 M8 hM8 hn
      have h := lpn_ed2 hn
      unfold f_HPen_drawLine_L47 at h
      by_cases q51 : x4 < x7
      · replace h := ed_pos q51 h
        exact K5 _ hM8 (lq_r h hq5)
      · replace h := ed_neg q51 h
        obtain ⟨Q9, hQ9, h⟩ := bd1_ed h
        obtain ⟨x9, e9, h⟩ := h
        replace h := hQ9 _ h
        obtain ⟨Q10, hQ10, h⟩ := bd1_ed h
        obtain ⟨x10, e10, h⟩ := h
        replace h := hQ10 _ h
        obtain ⟨Q11, hQ11, h⟩ := bd1_ed h
        obtain ⟨x11, e11, h⟩ := h
        replace h := hQ11 _ h
        obtain ⟨Q12, hQ12, h⟩ := bd1_ed h
        obtain ⟨x12, e12, h⟩ := h
        replace h := hQ12 _ h
        obtain ⟨Q13, hQ13, h⟩ := bd1_ed h
        have J13 : ∀ (y15 : Int32), Q13 y15 → fr 1610612736 [(28, 3)] M r := by
          intro y15 h
          replace h := hQ13 _ h
          obtain ⟨Q22, hQ22, h⟩ := bd1_ed h
          obtain ⟨x22, e22, h⟩ := h
          replace h := hQ22 _ h
          obtain ⟨Q24, hQ24, h⟩ := bd1_ed h
          obtain ⟨x24, e24, h⟩ := h
          replace h := hQ24 _ h
          obtain ⟨Q25, hQ25, h⟩ := bd1_ed h
          have J25 : ∀ (M31 : im_M), fr 1610612736 [(28, 3)] M M31 → Q25 M31 → fr 1610612736 [(28, 3)] M r := by
            intro M31 hM31 h
            replace h := hQ25 _ h
            exact ih _ _ hM31 (lq_l h)
          by_cases q128 : x24 = 0
          · replace h := ed_pos q128 h
            exact J25 _ hM8 (ed_some h)
          · replace h := ed_neg q128 h
            obtain ⟨Q26, hQ26, h⟩ := bd1_ed h
            obtain ⟨x26, e26, h⟩ := h
            replace h := hQ26 _ h
            obtain ⟨Q27, hQ27, h⟩ := bd1_ed h
            obtain ⟨x27, e27, h⟩ := h
            replace h := hQ27 _ h
            obtain ⟨Q28, hQ28, h⟩ := bd1_ed h
            obtain ⟨x28, e28, h⟩ := h
            replace h := hQ28 _ h
            obtain ⟨Q29, hQ29, h⟩ := bd1_ed h
            obtain ⟨x29, e29, h⟩ := h
            replace h := hQ29 _ h
            obtain ⟨Q30, hQ30, h⟩ := bd1_ed h
            obtain ⟨M30, e30, h⟩ := h
            replace h := hQ30 _ h
            exact J25 _ (fr_tr (fr_mono (by decide) (by decide +kernel) (f_HSheet_box_fr e30)) hM8) (ed_some h)
        by_cases q75 : ¬ p1 = 0
        · replace h := ed_pos q75 h
          obtain ⟨Q14, hQ14, h⟩ := bd1_ed h
          obtain ⟨x14, e14, h⟩ := h
          replace h := hQ14 _ h
          exact J13 _ (ed_some h)
        · replace h := ed_neg q75 h
          exact J13 _ (ed_some h)
  exact I5 n5 _ _ fr_refl hn5
noncomputable def f_HPen_drawPicture_L41 (w : Bool) (v11 : Int32) (v12 : Int32) (v13 : Int32) (v14 : Int32) (v15 : Int32) (x16 : Int32) (M17 : im_M) : Option ((Int32 × im_M) ⊕ (im_M)) := if v12 ≤ x16 then some (.inr M17) else bd1 (f_HOrders_byteAt v11 ((v15 * v13) + (x16 / 8)) M17) fun (x18 : Int32) => bd1 (if ((x18 >>> (((7 : Int32) - (x16 - x16 / 8 * 8)) &&& 31 : Int32) : Int32) &&& 1) = 0 then some M17 else bd1 (f_HSheet_box w ((im_i M17 56 5) + x16) ((im_i M17 56 6) + v15) ((im_i M17 56 5) + x16) ((im_i M17 56 6) + v15) M17) fun (M20 : im_M) => some M20) fun (M21 : im_M) => some (.inl ((x16 + 1), M21))
noncomputable def f_HPen_drawPicture_L31 (w : Bool) (v4 : Int32) (v5 : Int32) (v6 : Int32) (v7 : Int32) (x8 : Int32) (M9 : im_M) : Option ((Int32 × im_M) ⊕ (im_M)) := if v7 ≤ x8 then some (.inr M9) else bd1 (lp (uc2 (f_HPen_drawPicture_L41 w v4 v5 v6 v7 x8)) (0, M9)) fun (M30 : im_M) => some (.inl ((x8 + 1), M30))
noncomputable def f_HPen_drawPicture (w : Bool) (p1 : Int32) (M : im_M) : Option (im_M) := bd1 (f_HOrders_value_1 p1 5 M) fun (x1 : Int32) => bd1 (f_HOrders_value_1 p1 8 M) fun (x2 : Int32) => gd (¬ ((x1 + 7) / 8) = (0 : Int32)) <| bd1 (lp (uc2 (f_HPen_drawPicture_L31 w p1 x1 ((x1 + 7) / 8) (x2 / ((x1 + 7) / 8)))) (0, M)) fun (M31 : im_M) => some M31
theorem J_HPen_drawPicture_d0 : decode J_HPen_drawPicture.2.1 0 = .ok (.aload_n 1, 1) := by decide +kernel
theorem J_HPen_drawPicture_d1 : decode J_HPen_drawPicture.2.1 1 = .ok (.iload_n 2, 1) := by decide +kernel
theorem J_HPen_drawPicture_d2 : decode J_HPen_drawPicture.2.1 2 = .ok (.iconst 5, 1) := by decide +kernel
theorem J_HPen_drawPicture_d3 : decode J_HPen_drawPicture.2.1 3 = .ok (.invokevirtual 39, 3) := by decide +kernel
theorem J_HPen_drawPicture_d6 : decode J_HPen_drawPicture.2.1 6 = .ok (.istore_n 3, 1) := by decide +kernel
theorem J_HPen_drawPicture_d7 : decode J_HPen_drawPicture.2.1 7 = .ok (.iload_n 3, 1) := by decide +kernel
theorem J_HPen_drawPicture_d8 : decode J_HPen_drawPicture.2.1 8 = .ok (.bipush 7, 2) := by decide +kernel
theorem J_HPen_drawPicture_d10 : decode J_HPen_drawPicture.2.1 10 = .ok (.iadd, 1) := by decide +kernel
theorem J_HPen_drawPicture_d11 : decode J_HPen_drawPicture.2.1 11 = .ok (.bipush 8, 2) := by decide +kernel
theorem J_HPen_drawPicture_d13 : decode J_HPen_drawPicture.2.1 13 = .ok (.idiv, 1) := by decide +kernel
theorem J_HPen_drawPicture_d14 : decode J_HPen_drawPicture.2.1 14 = .ok (.istore 4, 2) := by decide +kernel
theorem J_HPen_drawPicture_d16 : decode J_HPen_drawPicture.2.1 16 = .ok (.aload_n 1, 1) := by decide +kernel
theorem J_HPen_drawPicture_d17 : decode J_HPen_drawPicture.2.1 17 = .ok (.iload_n 2, 1) := by decide +kernel
theorem J_HPen_drawPicture_d18 : decode J_HPen_drawPicture.2.1 18 = .ok (.bipush 8, 2) := by decide +kernel
theorem J_HPen_drawPicture_d20 : decode J_HPen_drawPicture.2.1 20 = .ok (.invokevirtual 39, 3) := by decide +kernel
theorem J_HPen_drawPicture_d23 : decode J_HPen_drawPicture.2.1 23 = .ok (.iload 4, 2) := by decide +kernel
theorem J_HPen_drawPicture_d25 : decode J_HPen_drawPicture.2.1 25 = .ok (.idiv, 1) := by decide +kernel
theorem J_HPen_drawPicture_d26 : decode J_HPen_drawPicture.2.1 26 = .ok (.istore 5, 2) := by decide +kernel
theorem J_HPen_drawPicture_d28 : decode J_HPen_drawPicture.2.1 28 = .ok (.iconst 0, 1) := by decide +kernel
theorem J_HPen_drawPicture_d29 : decode J_HPen_drawPicture.2.1 29 = .ok (.istore 6, 2) := by decide +kernel
theorem J_HPen_drawPicture_d31 : decode J_HPen_drawPicture.2.1 31 = .ok (.iload 6, 2) := by decide +kernel
theorem J_HPen_drawPicture_d33 : decode J_HPen_drawPicture.2.1 33 = .ok (.iload 5, 2) := by decide +kernel
theorem J_HPen_drawPicture_d35 : decode J_HPen_drawPicture.2.1 35 = .ok (.if_icmp .ge 93, 3) := by decide +kernel
theorem J_HPen_drawPicture_d38 : decode J_HPen_drawPicture.2.1 38 = .ok (.iconst 0, 1) := by decide +kernel
theorem J_HPen_drawPicture_d39 : decode J_HPen_drawPicture.2.1 39 = .ok (.istore 7, 2) := by decide +kernel
theorem J_HPen_drawPicture_d41 : decode J_HPen_drawPicture.2.1 41 = .ok (.iload 7, 2) := by decide +kernel
theorem J_HPen_drawPicture_d43 : decode J_HPen_drawPicture.2.1 43 = .ok (.iload_n 3, 1) := by decide +kernel
theorem J_HPen_drawPicture_d44 : decode J_HPen_drawPicture.2.1 44 = .ok (.if_icmp .ge 78, 3) := by decide +kernel
theorem J_HPen_drawPicture_d47 : decode J_HPen_drawPicture.2.1 47 = .ok (.aload_n 1, 1) := by decide +kernel
theorem J_HPen_drawPicture_d48 : decode J_HPen_drawPicture.2.1 48 = .ok (.iload_n 2, 1) := by decide +kernel
theorem J_HPen_drawPicture_d49 : decode J_HPen_drawPicture.2.1 49 = .ok (.iload 6, 2) := by decide +kernel
theorem J_HPen_drawPicture_d51 : decode J_HPen_drawPicture.2.1 51 = .ok (.iload 4, 2) := by decide +kernel
theorem J_HPen_drawPicture_d53 : decode J_HPen_drawPicture.2.1 53 = .ok (.imul, 1) := by decide +kernel
theorem J_HPen_drawPicture_d54 : decode J_HPen_drawPicture.2.1 54 = .ok (.iload 7, 2) := by decide +kernel
theorem J_HPen_drawPicture_d56 : decode J_HPen_drawPicture.2.1 56 = .ok (.bipush 8, 2) := by decide +kernel
theorem J_HPen_drawPicture_d58 : decode J_HPen_drawPicture.2.1 58 = .ok (.idiv, 1) := by decide +kernel
theorem J_HPen_drawPicture_d59 : decode J_HPen_drawPicture.2.1 59 = .ok (.iadd, 1) := by decide +kernel
theorem J_HPen_drawPicture_d60 : decode J_HPen_drawPicture.2.1 60 = .ok (.invokevirtual 111, 3) := by decide +kernel
theorem J_HPen_drawPicture_d63 : decode J_HPen_drawPicture.2.1 63 = .ok (.istore 8, 2) := by decide +kernel
theorem J_HPen_drawPicture_d65 : decode J_HPen_drawPicture.2.1 65 = .ok (.iload 8, 2) := by decide +kernel
theorem J_HPen_drawPicture_d67 : decode J_HPen_drawPicture.2.1 67 = .ok (.bipush 7, 2) := by decide +kernel
theorem J_HPen_drawPicture_d69 : decode J_HPen_drawPicture.2.1 69 = .ok (.iload 7, 2) := by decide +kernel
theorem J_HPen_drawPicture_d71 : decode J_HPen_drawPicture.2.1 71 = .ok (.bipush 8, 2) := by decide +kernel
theorem J_HPen_drawPicture_d73 : decode J_HPen_drawPicture.2.1 73 = .ok (.irem, 1) := by decide +kernel
theorem J_HPen_drawPicture_d74 : decode J_HPen_drawPicture.2.1 74 = .ok (.isub, 1) := by decide +kernel
theorem J_HPen_drawPicture_d75 : decode J_HPen_drawPicture.2.1 75 = .ok (.ishr, 1) := by decide +kernel
theorem J_HPen_drawPicture_d76 : decode J_HPen_drawPicture.2.1 76 = .ok (.iconst 1, 1) := by decide +kernel
theorem J_HPen_drawPicture_d77 : decode J_HPen_drawPicture.2.1 77 = .ok (.iand, 1) := by decide +kernel
theorem J_HPen_drawPicture_d78 : decode J_HPen_drawPicture.2.1 78 = .ok (.ifCond .eq 38, 3) := by decide +kernel
theorem J_HPen_drawPicture_d81 : decode J_HPen_drawPicture.2.1 81 = .ok (.aload_n 0, 1) := by decide +kernel
theorem J_HPen_drawPicture_d82 : decode J_HPen_drawPicture.2.1 82 = .ok (.getfield 19, 3) := by decide +kernel
theorem J_HPen_drawPicture_d85 : decode J_HPen_drawPicture.2.1 85 = .ok (.aload_n 0, 1) := by decide +kernel
theorem J_HPen_drawPicture_d86 : decode J_HPen_drawPicture.2.1 86 = .ok (.getfield 43, 3) := by decide +kernel
theorem J_HPen_drawPicture_d89 : decode J_HPen_drawPicture.2.1 89 = .ok (.iload 7, 2) := by decide +kernel
theorem J_HPen_drawPicture_d91 : decode J_HPen_drawPicture.2.1 91 = .ok (.iadd, 1) := by decide +kernel
theorem J_HPen_drawPicture_d92 : decode J_HPen_drawPicture.2.1 92 = .ok (.aload_n 0, 1) := by decide +kernel
theorem J_HPen_drawPicture_d93 : decode J_HPen_drawPicture.2.1 93 = .ok (.getfield 47, 3) := by decide +kernel
theorem J_HPen_drawPicture_d96 : decode J_HPen_drawPicture.2.1 96 = .ok (.iload 6, 2) := by decide +kernel
theorem J_HPen_drawPicture_d98 : decode J_HPen_drawPicture.2.1 98 = .ok (.iadd, 1) := by decide +kernel
theorem J_HPen_drawPicture_d99 : decode J_HPen_drawPicture.2.1 99 = .ok (.aload_n 0, 1) := by decide +kernel
theorem J_HPen_drawPicture_d100 : decode J_HPen_drawPicture.2.1 100 = .ok (.getfield 43, 3) := by decide +kernel
theorem J_HPen_drawPicture_d103 : decode J_HPen_drawPicture.2.1 103 = .ok (.iload 7, 2) := by decide +kernel
theorem J_HPen_drawPicture_d105 : decode J_HPen_drawPicture.2.1 105 = .ok (.iadd, 1) := by decide +kernel
theorem J_HPen_drawPicture_d106 : decode J_HPen_drawPicture.2.1 106 = .ok (.aload_n 0, 1) := by decide +kernel
theorem J_HPen_drawPicture_d107 : decode J_HPen_drawPicture.2.1 107 = .ok (.getfield 47, 3) := by decide +kernel
theorem J_HPen_drawPicture_d110 : decode J_HPen_drawPicture.2.1 110 = .ok (.iload 6, 2) := by decide +kernel
theorem J_HPen_drawPicture_d112 : decode J_HPen_drawPicture.2.1 112 = .ok (.iadd, 1) := by decide +kernel
theorem J_HPen_drawPicture_d113 : decode J_HPen_drawPicture.2.1 113 = .ok (.invokevirtual 107, 3) := by decide +kernel
theorem J_HPen_drawPicture_d116 : decode J_HPen_drawPicture.2.1 116 = .ok (.iinc 7 1, 3) := by decide +kernel
theorem J_HPen_drawPicture_d119 : decode J_HPen_drawPicture.2.1 119 = .ok (.goto (-78), 3) := by decide +kernel
theorem J_HPen_drawPicture_d122 : decode J_HPen_drawPicture.2.1 122 = .ok (.iinc 6 1, 3) := by decide +kernel
theorem J_HPen_drawPicture_d125 : decode J_HPen_drawPicture.2.1 125 = .ok (.goto (-94), 3) := by decide +kernel
theorem J_HPen_drawPicture_d128 : decode J_HPen_drawPicture.2.1 128 = .ok (.return_, 1) := by decide +kernel
theorem f_HPen_drawPicture_ok {L : Nat} {xs : Nat → Int32} {dep : Nat} {w : Bool} {p1 : Int32} {M : im_M} {Q : im_M → Prop} (hM : lw_S w M) (h : ed (f_HPen_drawPicture w p1 M) Q) : ia (tb_G L xs) (dep + 2) J_HPen_drawPicture (rwV w Q) (0, lv_args 0 [.ref 56, .ref 11, .int p1], [], M) := by
  have hS : im_St (tb_G L xs) (dep + 2) J_HPen_drawPicture (ia (tb_G L xs) (dep + 2) J_HPen_drawPicture (rwV w Q)) := ia_St
  unfold f_HPen_drawPicture at h
  have l0 : im_lk (lv_args 0 [.ref 56, .ref 11, .int p1]) 0 = some (.ref 56) := rfl
  have l1 : im_lk (lv_args 0 [.ref 56, .ref 11, .int p1]) 1 = some (.ref 11) := rfl
  have l2 : im_lk (lv_args 0 [.ref 56, .ref 11, .int p1]) 2 = some (.int p1) := rfl
  refine iq_aload_n hS 1 J_HPen_drawPicture_d0 l1 rfl ?_
  refine iq_iload_n hS 2 J_HPen_drawPicture_d1 l2 rfl ?_
  refine iq_iconst hS 3 J_HPen_drawPicture_d2 (v := 5) (by decide +kernel) rfl ?_
  obtain ⟨Q1, hQ1, h⟩ := bd1_ed h
  refine iq_cpI hS 6 J_HPen_drawPicture_d3 rfl (pr_inst (vs := [_, _]) lc_6_39 lT_77 rfl rfl (by decide) (by decide) rfl (Nat.le_of_ble_eq_true rfl) (Nat.le_of_ble_eq_true rfl) (fun _ => Or.inl (pr_b (ka_11 hM) (by decide) rfl))) (f_HOrders_value_1_ok (dep := dep + 1) hM h) rfl ?_
  intro x1 h
  replace h := hQ1 _ h
  refine iq_istore_n hS 7 J_HPen_drawPicture_d6 (by decide) rfl ?_
  refine iq_iload_n hS 8 J_HPen_drawPicture_d7 lk_1s rfl ?_
  refine iq_bipush hS 10 J_HPen_drawPicture_d8 (v := 7) (by decide +kernel) rfl ?_
  refine iq_iadd hS 11 J_HPen_drawPicture_d10 rfl ?_
  refine iq_bipush hS 13 J_HPen_drawPicture_d11 (v := 8) (by decide +kernel) rfl ?_
  refine iq_idiv hS 14 J_HPen_drawPicture_d13 (by decide) rfl ?_
  refine iq_istore hS 16 J_HPen_drawPicture_d14 (by decide) rfl ?_
  refine iq_aload_n hS 17 J_HPen_drawPicture_d16 (lk_1r (lk_1r l1 (by decide)) (by decide)) rfl ?_
  refine iq_iload_n hS 18 J_HPen_drawPicture_d17 (lk_1i (lk_1i l2 (by decide)) (by decide)) rfl ?_
  refine iq_bipush hS 20 J_HPen_drawPicture_d18 (v := 8) (by decide +kernel) rfl ?_
  obtain ⟨Q2, hQ2, h⟩ := bd1_ed h
  refine iq_cpI hS 23 J_HPen_drawPicture_d20 rfl (pr_inst (vs := [_, _]) lc_6_39 lT_77 rfl rfl (by decide) (by decide) rfl (Nat.le_of_ble_eq_true rfl) (Nat.le_of_ble_eq_true rfl) (fun _ => Or.inl (pr_b (ka_11 hM) (by decide) rfl))) (f_HOrders_value_1_ok (dep := dep + 1) hM h) rfl ?_
  intro x2 h
  replace h := hQ2 _ h
  refine iq_iload hS 25 J_HPen_drawPicture_d23 lk_1s rfl ?_
  obtain ⟨g25, h⟩ := ed_gd h
  refine iq_idiv hS 26 J_HPen_drawPicture_d25 g25 rfl ?_
  refine iq_istore hS 28 J_HPen_drawPicture_d26 (by decide) rfl ?_
  refine iq_iconst hS 29 J_HPen_drawPicture_d28 (v := 0) (by decide +kernel) rfl ?_
  refine iq_istore hS 31 J_HPen_drawPicture_d29 (by decide) rfl ?_
  obtain ⟨Q3, hQ3, h⟩ := bd1_ed h
  have K3 : ∀ (M4 : im_M) (L' : List (Nat × Value)), lw_S w M4 → Q3 M4 → ia (tb_G L xs) (dep + 2) J_HPen_drawPicture (rwV w Q) (128, L', [], M4) := by
    intro M4 L' hM4  h
    replace h := hQ3 _ h
    exact iq_ret J_HPen_drawPicture_d128 rfl ⟨rfl, hM4, ed_some h⟩
  obtain ⟨r3, hr3, hq3⟩ := h
  obtain ⟨n3, hn3⟩ := lp_n hr3
  have I3 : ∀ (n : Nat) (x5 : Int32) (M6 : im_M) (L' : List (Nat × Value)), lw_S w M6 → im_lk L' 0 = some (.ref 56) → im_lk L' 1 = some (.ref 11) → im_lk L' 2 = some (.int p1) → im_lk L' 3 = some (.int x1) → im_lk L' 4 = some (.int ((x1 + 7) / 8)) → im_lk L' 5 = some (.int (x2 / ((x1 + 7) / 8))) → im_lk L' 6 = some (.int x5) → lpn (uc2 (f_HPen_drawPicture_L31 w p1 x1 ((x1 + 7) / 8) (x2 / ((x1 + 7) / 8)))) n (x5, M6) = some r3 → ia (tb_G L xs) (dep + 2) J_HPen_drawPicture (rwV w Q) (31, L', [], M6) := by
    intro n
    induction n with
    | zero => intro x5 M6 L' hM6 l7 l8 l9 l10 l11 l12 l13 hn; exact (lpn_0 hn).elim
    | succ n ih =>
      intro x5 M6 L' hM6 l7 l8 l9 l10 l11 l12 l13 hn
      have h := lpn_ed2 hn
      unfold f_HPen_drawPicture_L31 at h
      refine iq_iload hS 33 J_HPen_drawPicture_d31 l13 rfl ?_
      refine iq_iload hS 35 J_HPen_drawPicture_d33 l12 rfl ?_
      refine iq_icmp_ge hS 38 J_HPen_drawPicture_d35 (t := 128) rfl (fun q35 => ?_) rfl (fun q35 => ?_)
      · replace h := ed_pos q35 h
        exact K3 _ _ hM6  (lq_r h hq3)
      · replace h := ed_neg q35 h
        refine iq_iconst hS 39 J_HPen_drawPicture_d38 (v := 0) (by decide +kernel) rfl ?_
        refine iq_istore hS 41 J_HPen_drawPicture_d39 (by decide) rfl ?_
        obtain ⟨Q14, hQ14, h⟩ := bd1_ed h
        have K14 : ∀ (M15 : im_M) (L' : List (Nat × Value)), lw_S w M15 → im_lk L' 0 = some (.ref 56) → im_lk L' 1 = some (.ref 11) → im_lk L' 2 = some (.int p1) → im_lk L' 3 = some (.int x1) → im_lk L' 4 = some (.int ((x1 + 7) / 8)) → im_lk L' 5 = some (.int (x2 / ((x1 + 7) / 8))) → im_lk L' 6 = some (.int x5) → Q14 M15 → ia (tb_G L xs) (dep + 2) J_HPen_drawPicture (rwV w Q) (122, L', [], M15) := by
          intro M15 L' hM15 l16 l17 l18 l19 l20 l21 l22 h
          replace h := hQ14 _ h
          refine iq_iincv hS 125 J_HPen_drawPicture_d122 (c := 1) (by decide +kernel) l22 (by decide) rfl ?_
          refine iq_goto hS J_HPen_drawPicture_d125 (t := 31) rfl ?_
          exact ih _ _ _ hM15 (lk_1r l16 (by decide)) (lk_1r l17 (by decide)) (lk_1i l18 (by decide)) (lk_1i l19 (by decide)) (lk_1i l20 (by decide)) (lk_1i l21 (by decide)) lk_1s (lq_l h)
        obtain ⟨r14, hr14, hq14⟩ := h
        obtain ⟨n14, hn14⟩ := lp_n hr14
        have I14 : ∀ (n : Nat) (x23 : Int32) (M24 : im_M) (L' : List (Nat × Value)), lw_S w M24 → im_lk L' 0 = some (.ref 56) → im_lk L' 1 = some (.ref 11) → im_lk L' 2 = some (.int p1) → im_lk L' 3 = some (.int x1) → im_lk L' 4 = some (.int ((x1 + 7) / 8)) → im_lk L' 5 = some (.int (x2 / ((x1 + 7) / 8))) → im_lk L' 6 = some (.int x5) → im_lk L' 7 = some (.int x23) → lpn (uc2 (f_HPen_drawPicture_L41 w p1 x1 ((x1 + 7) / 8) (x2 / ((x1 + 7) / 8)) x5)) n (x23, M24) = some r14 → ia (tb_G L xs) (dep + 2) J_HPen_drawPicture (rwV w Q) (41, L', [], M24) := by
          intro n
          induction n with
          | zero => intro x23 M24 L' hM24 l25 l26 l27 l28 l29 l30 l31 l32 hn; exact (lpn_0 hn).elim
          | succ n ih =>
            intro x23 M24 L' hM24 l25 l26 l27 l28 l29 l30 l31 l32 hn
            have h := lpn_ed2 hn
            unfold f_HPen_drawPicture_L41 at h
            refine iq_iload hS 43 J_HPen_drawPicture_d41 l32 rfl ?_
            refine iq_iload_n hS 44 J_HPen_drawPicture_d43 l28 rfl ?_
            refine iq_icmp_ge hS 47 J_HPen_drawPicture_d44 (t := 122) rfl (fun q44 => ?_) rfl (fun q44 => ?_)
            · replace h := ed_pos q44 h
              exact K14 _ _ hM24 l25 l26 l27 l28 l29 l30 l31 (lq_r h hq14)
            · replace h := ed_neg q44 h
              refine iq_aload_n hS 48 J_HPen_drawPicture_d47 l26 rfl ?_
              refine iq_iload_n hS 49 J_HPen_drawPicture_d48 l27 rfl ?_
              refine iq_iload hS 51 J_HPen_drawPicture_d49 l31 rfl ?_
              refine iq_iload hS 53 J_HPen_drawPicture_d51 l29 rfl ?_
              refine iq_imul hS 54 J_HPen_drawPicture_d53 rfl ?_
              refine iq_iload hS 56 J_HPen_drawPicture_d54 l32 rfl ?_
              refine iq_bipush hS 58 J_HPen_drawPicture_d56 (v := 8) (by decide +kernel) rfl ?_
              refine iq_idiv hS 59 J_HPen_drawPicture_d58 (by decide) rfl ?_
              refine iq_iadd hS 60 J_HPen_drawPicture_d59 rfl ?_
              obtain ⟨Q33, hQ33, h⟩ := bd1_ed h
              refine iq_cpI hS 63 J_HPen_drawPicture_d60 rfl (pr_inst (vs := [_, _]) lc_6_111 lT_110 rfl rfl (by decide) (by decide) rfl (Nat.le_of_ble_eq_true rfl) (Nat.le_of_ble_eq_true rfl) (fun _ => Or.inl (pr_b (ka_11 hM24) (by decide) rfl))) (f_HOrders_byteAt_ok (dep := dep + 1) hM24 h) rfl ?_
              intro x33 h
              replace h := hQ33 _ h
              refine iq_istore hS 65 J_HPen_drawPicture_d63 (by decide) rfl ?_
              refine iq_iload hS 67 J_HPen_drawPicture_d65 lk_1s rfl ?_
              refine iq_bipush hS 69 J_HPen_drawPicture_d67 (v := 7) (by decide +kernel) rfl ?_
              refine iq_iload hS 71 J_HPen_drawPicture_d69 (lk_1i l32 (by decide)) rfl ?_
              refine iq_bipush hS 73 J_HPen_drawPicture_d71 (v := 8) (by decide +kernel) rfl ?_
              refine iq_irem hS 74 J_HPen_drawPicture_d73 (by decide) rfl ?_
              refine iq_isub hS 75 J_HPen_drawPicture_d74 rfl ?_
              refine iq_ishr hS 76 J_HPen_drawPicture_d75 rfl ?_
              refine iq_iconst hS 77 J_HPen_drawPicture_d76 (v := 1) (by decide +kernel) rfl ?_
              refine iq_iand hS 78 J_HPen_drawPicture_d77 rfl ?_
              obtain ⟨Q34, hQ34, h⟩ := bd1_ed h
              have J34 : ∀ (M36 : im_M) (L' : List (Nat × Value)), lw_S w M36 → im_lk L' 0 = some (.ref 56) → im_lk L' 1 = some (.ref 11) → im_lk L' 2 = some (.int p1) → im_lk L' 3 = some (.int x1) → im_lk L' 4 = some (.int ((x1 + 7) / 8)) → im_lk L' 5 = some (.int (x2 / ((x1 + 7) / 8))) → im_lk L' 6 = some (.int x5) → im_lk L' 7 = some (.int x23) → Q34 M36 → ia (tb_G L xs) (dep + 2) J_HPen_drawPicture (rwV w Q) (116, L', [], M36) := by
                intro M36 L' hM36 l37 l38 l39 l40 l41 l42 l43 l44 h
                replace h := hQ34 _ h
                refine iq_iincv hS 119 J_HPen_drawPicture_d116 (c := 1) (by decide +kernel) l44 (by decide) rfl ?_
                refine iq_goto hS J_HPen_drawPicture_d119 (t := 41) rfl ?_
                exact ih _ _ _ hM36 (lk_1r l37 (by decide)) (lk_1r l38 (by decide)) (lk_1i l39 (by decide)) (lk_1i l40 (by decide)) (lk_1i l41 (by decide)) (lk_1i l42 (by decide)) (lk_1i l43 (by decide)) lk_1s (lq_l h)
              refine iq_if_eq hS 81 J_HPen_drawPicture_d78 (t := 116) rfl (fun q78 => ?_) rfl (fun q78 => ?_)
              · replace h := ed_pos q78 h
                exact J34 _ _ hM24 (lk_1r l25 (by decide)) (lk_1r l26 (by decide)) (lk_1i l27 (by decide)) (lk_1i l28 (by decide)) (lk_1i l29 (by decide)) (lk_1i l30 (by decide)) (lk_1i l31 (by decide)) (lk_1i l32 (by decide)) (ed_some h)
              · replace h := ed_neg q78 h
                refine iq_aload_n hS 82 J_HPen_drawPicture_d81 (lk_1r l25 (by decide)) rfl ?_
                refine iq_getR hS 85 J_HPen_drawPicture_d82 lf_6_19 (Or.inl ⟨_, rfl⟩) (ka_56 hM24) (ra_56_0 hM24) rfl ?_
                refine iq_aload_n hS 86 J_HPen_drawPicture_d85 (lk_1r l25 (by decide)) rfl ?_
                refine iq_getI hS 89 J_HPen_drawPicture_d86 lf_6_43 (Or.inl rfl) (ka_56 hM24) rfl ?_
                refine iq_iload hS 91 J_HPen_drawPicture_d89 (lk_1i l32 (by decide)) rfl ?_
                refine iq_iadd hS 92 J_HPen_drawPicture_d91 rfl ?_
                refine iq_aload_n hS 93 J_HPen_drawPicture_d92 (lk_1r l25 (by decide)) rfl ?_
                refine iq_getI hS 96 J_HPen_drawPicture_d93 lf_6_47 (Or.inl rfl) (ka_56 hM24) rfl ?_
                refine iq_iload hS 98 J_HPen_drawPicture_d96 (lk_1i l31 (by decide)) rfl ?_
                refine iq_iadd hS 99 J_HPen_drawPicture_d98 rfl ?_
                refine iq_aload_n hS 100 J_HPen_drawPicture_d99 (lk_1r l25 (by decide)) rfl ?_
                refine iq_getI hS 103 J_HPen_drawPicture_d100 lf_6_43 (Or.inl rfl) (ka_56 hM24) rfl ?_
                refine iq_iload hS 105 J_HPen_drawPicture_d103 (lk_1i l32 (by decide)) rfl ?_
                refine iq_iadd hS 106 J_HPen_drawPicture_d105 rfl ?_
                refine iq_aload_n hS 107 J_HPen_drawPicture_d106 (lk_1r l25 (by decide)) rfl ?_
                refine iq_getI hS 110 J_HPen_drawPicture_d107 lf_6_47 (Or.inl rfl) (ka_56 hM24) rfl ?_
                refine iq_iload hS 112 J_HPen_drawPicture_d110 (lk_1i l31 (by decide)) rfl ?_
                refine iq_iadd hS 113 J_HPen_drawPicture_d112 rfl ?_
                obtain ⟨Q35, hQ35, h⟩ := bd1_ed h
                refine iq_cwV hS 116 J_HPen_drawPicture_d113 rfl (pr_inst (vs := [_, _, _, _]) lc_6_107 lT_113 rfl rfl (by decide) (by decide) rfl (Nat.le_of_ble_eq_true rfl) (Nat.le_of_ble_eq_true rfl) (fun _ => Or.inl (pr_b (ka_28 hM24) (by decide) rfl))) (f_HSheet_box_ok (dep := dep + 0) hM24 h) rfl ?_
                intro M35 hM35 h
                replace h := hQ35 _ h
                exact J34 _ _ hM35 (lk_1r l25 (by decide)) (lk_1r l26 (by decide)) (lk_1i l27 (by decide)) (lk_1i l28 (by decide)) (lk_1i l29 (by decide)) (lk_1i l30 (by decide)) (lk_1i l31 (by decide)) (lk_1i l32 (by decide)) (ed_some h)
        exact I14 n14 _ _ _ hM6 (lk_1r l7 (by decide)) (lk_1r l8 (by decide)) (lk_1i l9 (by decide)) (lk_1i l10 (by decide)) (lk_1i l11 (by decide)) (lk_1i l12 (by decide)) (lk_1i l13 (by decide)) lk_1s hn14
  exact I3 n3 _ _ _ hM (lk_1r (lk_1r (lk_1r (lk_1r l0 (by decide)) (by decide)) (by decide)) (by decide)) (lk_1r (lk_1r (lk_1r (lk_1r l1 (by decide)) (by decide)) (by decide)) (by decide)) (lk_1i (lk_1i (lk_1i (lk_1i l2 (by decide)) (by decide)) (by decide)) (by decide)) (lk_1i (lk_1i (lk_1i lk_1s (by decide)) (by decide)) (by decide)) (lk_1i (lk_1i lk_1s (by decide)) (by decide)) (lk_1i lk_1s (by decide)) lk_1s hn3
theorem f_HPen_drawPicture_fr {w : Bool} {p1 : Int32} {M : im_M} {r : im_M} (h : f_HPen_drawPicture w p1 M = some r) : fr 1610612736 [(28, 3)] M r := by
  replace h : ed (f_HPen_drawPicture w p1 M) (fun x => x = r) := ⟨r, h, rfl⟩
  unfold f_HPen_drawPicture at h
  obtain ⟨Q1, hQ1, h⟩ := bd1_ed h
  obtain ⟨x1, e1, h⟩ := h
  replace h := hQ1 _ h
  obtain ⟨Q2, hQ2, h⟩ := bd1_ed h
  obtain ⟨x2, e2, h⟩ := h
  replace h := hQ2 _ h
  obtain ⟨g25, h⟩ := ed_gd h
  obtain ⟨Q3, hQ3, h⟩ := bd1_ed h
  have K3 : ∀ (M4 : im_M), fr 1610612736 [(28, 3)] M M4 → Q3 M4 → fr 1610612736 [(28, 3)] M r := by
    intro M4 hM4 h
    replace h := hQ3 _ h
    exact fr_retV h hM4
  obtain ⟨r3, hr3, hq3⟩ := h
  obtain ⟨n3, hn3⟩ := lp_n hr3
  have I3 : ∀ (n : Nat) (x5 : Int32) (M6 : im_M), fr 1610612736 [(28, 3)] M M6 → lpn (uc2 (f_HPen_drawPicture_L31 w p1 x1 ((x1 + 7) / 8) (x2 / ((x1 + 7) / 8)))) n (x5, M6) = some r3 → fr 1610612736 [(28, 3)] M r := by
    intro n
    induction n with
    | zero => intro x5 M6 hM6 hn; exact (lpn_0 hn).elim
    | succ n ih =>
      intro x5 M6 hM6 hn
      have h := lpn_ed2 hn
      unfold f_HPen_drawPicture_L31 at h
      by_cases q35 : (x2 / ((x1 + 7) / 8)) ≤ x5
      · replace h := ed_pos q35 h
        exact K3 _ hM6 (lq_r h hq3)
      · replace h := ed_neg q35 h
        obtain ⟨Q7, hQ7, h⟩ := bd1_ed h
        have K7 : ∀ (M8 : im_M), fr 1610612736 [(28, 3)] M M8 → Q7 M8 → fr 1610612736 [(28, 3)] M r := by
          intro M8 hM8 h
          replace h := hQ7 _ h
          exact ih _ _ hM8 (lq_l h)
        obtain ⟨r7, hr7, hq7⟩ := h
        obtain ⟨n7, hn7⟩ := lp_n hr7
        have I7 : ∀ (n : Nat) (x9 : Int32) (M10 : im_M), fr 1610612736 [(28, 3)] M M10 → lpn (uc2 (f_HPen_drawPicture_L41 w p1 x1 ((x1 + 7) / 8) (x2 / ((x1 + 7) / 8)) x5)) n (x9, M10) = some r7 → fr 1610612736 [(28, 3)] M r := by
          intro n
          induction n with
          | zero => intro x9 M10 hM10 hn; exact (lpn_0 hn).elim
          | succ n ih =>
            intro x9 M10 hM10 hn
            have h := lpn_ed2 hn
            unfold f_HPen_drawPicture_L41 at h
            by_cases q44 : x1 ≤ x9
            · replace h := ed_pos q44 h
              exact K7 _ hM10 (lq_r h hq7)
            · replace h := ed_neg q44 h
              obtain ⟨Q11, hQ11, h⟩ := bd1_ed h
              obtain ⟨x11, e11, h⟩ := h
              replace h := hQ11 _ h
              obtain ⟨Q12, hQ12, h⟩ := bd1_ed h
              have J12 : ∀ (M14 : im_M), fr 1610612736 [(28, 3)] M M14 → Q12 M14 → fr 1610612736 [(28, 3)] M r := by
                intro M14 hM14 h
                replace h := hQ12 _ h
                exact ih _ _ hM14 (lq_l h)
              by_cases q78 : ((x11 >>> (((7 : Int32) - (x9 - x9 / 8 * 8)) &&& 31 : Int32) : Int32) &&& 1) = 0
              · replace h := ed_pos q78 h
                exact J12 _ hM10 (ed_some h)
              · replace h := ed_neg q78 h
                obtain ⟨Q13, hQ13, h⟩ := bd1_ed h
                obtain ⟨M13, e13, h⟩ := h
                replace h := hQ13 _ h
                exact J12 _ (fr_tr (fr_mono (by decide) (by decide +kernel) (f_HSheet_box_fr e13)) hM10) (ed_some h)
        exact I7 n7 _ _ hM6 hn7
  exact I3 n3 _ _ fr_refl hn3
