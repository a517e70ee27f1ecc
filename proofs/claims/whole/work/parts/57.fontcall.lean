/-! FONT AND CELL: THE CALLS (CLASS) -/
theorem J_H_font_d0 : decode J_H_font.2.1 0 = .ok (.iload_n 1, 1) := by decide +kernel
theorem J_H_font_d1 : decode J_H_font.2.1 1 = .ok (.ifCond .lt 42, 3) := by decide +kernel
theorem J_H_font_d4 : decode J_H_font.2.1 4 = .ok (.iload_n 1, 1) := by decide +kernel
theorem J_H_font_d5 : decode J_H_font.2.1 5 = .ok (.iconst 3, 1) := by decide +kernel
theorem J_H_font_d6 : decode J_H_font.2.1 6 = .ok (.if_icmp .gt 37, 3) := by decide +kernel
theorem J_H_font_d9 : decode J_H_font.2.1 9 = .ok (.iload_n 2, 1) := by decide +kernel
theorem J_H_font_d10 : decode J_H_font.2.1 10 = .ok (.iconst 1, 1) := by decide +kernel
theorem J_H_font_d11 : decode J_H_font.2.1 11 = .ok (.if_icmp .lt 32, 3) := by decide +kernel
theorem J_H_font_d14 : decode J_H_font.2.1 14 = .ok (.iload_n 2, 1) := by decide +kernel
theorem J_H_font_d15 : decode J_H_font.2.1 15 = .ok (.bipush 32, 2) := by decide +kernel
theorem J_H_font_d17 : decode J_H_font.2.1 17 = .ok (.if_icmp .gt 26, 3) := by decide +kernel
theorem J_H_font_d20 : decode J_H_font.2.1 20 = .ok (.iload_n 3, 1) := by decide +kernel
theorem J_H_font_d21 : decode J_H_font.2.1 21 = .ok (.iconst 1, 1) := by decide +kernel
theorem J_H_font_d22 : decode J_H_font.2.1 22 = .ok (.if_icmp .lt 21, 3) := by decide +kernel
theorem J_H_font_d25 : decode J_H_font.2.1 25 = .ok (.iload_n 3, 1) := by decide +kernel
theorem J_H_font_d26 : decode J_H_font.2.1 26 = .ok (.bipush 32, 2) := by decide +kernel
theorem J_H_font_d28 : decode J_H_font.2.1 28 = .ok (.if_icmp .gt 15, 3) := by decide +kernel
theorem J_H_font_d31 : decode J_H_font.2.1 31 = .ok (.iload 4, 2) := by decide +kernel
theorem J_H_font_d33 : decode J_H_font.2.1 33 = .ok (.ifCond .lt 10, 3) := by decide +kernel
theorem J_H_font_d36 : decode J_H_font.2.1 36 = .ok (.iload 4, 2) := by decide +kernel
theorem J_H_font_d38 : decode J_H_font.2.1 38 = .ok (.bipush 32, 2) := by decide +kernel
theorem J_H_font_d40 : decode J_H_font.2.1 40 = .ok (.if_icmp .le 11, 3) := by decide +kernel
theorem J_H_font_d51 : decode J_H_font.2.1 51 = .ok (.aload_n 0, 1) := by decide +kernel
theorem J_H_font_d52 : decode J_H_font.2.1 52 = .ok (.getfield 60, 3) := by decide +kernel
theorem J_H_font_d55 : decode J_H_font.2.1 55 = .ok (.iload_n 1, 1) := by decide +kernel
theorem J_H_font_d56 : decode J_H_font.2.1 56 = .ok (.iload_n 2, 1) := by decide +kernel
theorem J_H_font_d57 : decode J_H_font.2.1 57 = .ok (.iload_n 3, 1) := by decide +kernel
theorem J_H_font_d58 : decode J_H_font.2.1 58 = .ok (.iload 4, 2) := by decide +kernel
theorem J_H_font_d60 : decode J_H_font.2.1 60 = .ok (.invokevirtual 95, 3) := by decide +kernel
theorem J_H_font_d63 : decode J_H_font.2.1 63 = .ok (.return_, 1) := by decide +kernel
theorem J_H_font_d43 : decode J_H_font.2.1 43 = .ok (.new 84, 3) := by decide +kernel
theorem J_H_font_d46 : decode J_H_font.2.1 46 = .ok (.dup, 1) := by decide +kernel
theorem J_H_font_d47 : decode J_H_font.2.1 47 = .ok (.invokespecial 86, 3) := by decide +kernel
theorem J_H_font_d50 : decode J_H_font.2.1 50 = .ok (.athrow, 1) := by decide +kernel
theorem H_font {L : Nat} {xs : Nat → Int32} {dep : Nat} {u : Bool} {M : im_M} {f a b g : Nat} (hf : f ≤ 3) (ha : 1 ≤ a ∧ a ≤ 32) (hb : 1 ≤ b ∧ b ≤ 32) (hg : g ≤ 32) (hM : lw_S u M) : ia (tb_G L xs) (dep + 3) J_H_font (fun r M1 => r = none ∧ M1 = fo_M M f (nI a) (nI b) (nI g)) (0, lv_args 0 [.ref 0, .int (nI f), .int (nI a), .int (nI b), .int (nI g)], [], M) := by
  have hS : im_St (tb_G L xs) (dep + 3) J_H_font (ia (tb_G L xs) (dep + 3) J_H_font (fun r M1 => r = none ∧ M1 = fo_M M f (nI a) (nI b) (nI g))) := ia_St
  have l0 : im_lk (lv_args 0 [.ref 0, .int (nI f), .int (nI a), .int (nI b), .int (nI g)]) 0 = some (.ref 0) := rfl
  have l1 : im_lk (lv_args 0 [.ref 0, .int (nI f), .int (nI a), .int (nI b), .int (nI g)]) 1 = some (.int (nI f)) := rfl
  have l2 : im_lk (lv_args 0 [.ref 0, .int (nI f), .int (nI a), .int (nI b), .int (nI g)]) 2 = some (.int (nI a)) := rfl
  have l3 : im_lk (lv_args 0 [.ref 0, .int (nI f), .int (nI a), .int (nI b), .int (nI g)]) 3 = some (.int (nI b)) := rfl
  have l4 : im_lk (lv_args 0 [.ref 0, .int (nI f), .int (nI a), .int (nI b), .int (nI g)]) 4 = some (.int (nI g)) := rfl
  refine iq_iload_n hS 1 J_H_font_d0 l1 rfl ?_
  refine iq_if_lt hS 4 J_H_font_d1 (t := 43) rfl (fun q1 => absurd q1 (nI_pos (by omega))) rfl (fun q1 => ?_)
  refine iq_iload_n hS 5 J_H_font_d4 l1 rfl ?_
  refine iq_iconst hS 6 J_H_font_d5 (v := 3) (by decide +kernel) rfl ?_
  refine iq_icmp_gt hS 9 J_H_font_d6 (t := 43) rfl (fun q6 => absurd q6 (nI_nlt (a := 3) (by omega) (by decide))) rfl (fun q6 => ?_)
  refine iq_iload_n hS 10 J_H_font_d9 l2 rfl ?_
  refine iq_iconst hS 11 J_H_font_d10 (v := 1) (by decide +kernel) rfl ?_
  refine iq_icmp_lt hS 14 J_H_font_d11 (t := 43) rfl (fun q11 => absurd q11 (nI_nlt (b := 1) (by omega) (by omega))) rfl (fun q11 => ?_)
  refine iq_iload_n hS 15 J_H_font_d14 l2 rfl ?_
  refine iq_bipush hS 17 J_H_font_d15 (v := 32) (by decide +kernel) rfl ?_
  refine iq_icmp_gt hS 20 J_H_font_d17 (t := 43) rfl (fun q17 => absurd q17 (nI_nlt (a := 32) (by omega) (by decide))) rfl (fun q17 => ?_)
  refine iq_iload_n hS 21 J_H_font_d20 l3 rfl ?_
  refine iq_iconst hS 22 J_H_font_d21 (v := 1) (by decide +kernel) rfl ?_
  refine iq_icmp_lt hS 25 J_H_font_d22 (t := 43) rfl (fun q22 => absurd q22 (nI_nlt (b := 1) (by omega) (by omega))) rfl (fun q22 => ?_)
  refine iq_iload_n hS 26 J_H_font_d25 l3 rfl ?_
  refine iq_bipush hS 28 J_H_font_d26 (v := 32) (by decide +kernel) rfl ?_
  refine iq_icmp_gt hS 31 J_H_font_d28 (t := 43) rfl (fun q28 => absurd q28 (nI_nlt (a := 32) (by omega) (by decide))) rfl (fun q28 => ?_)
  refine iq_iload hS 33 J_H_font_d31 l4 rfl ?_
  refine iq_if_lt hS 36 J_H_font_d33 (t := 43) rfl (fun q33 => absurd q33 (nI_pos (by omega))) rfl (fun q33 => ?_)
  refine iq_iload hS 38 J_H_font_d36 l4 rfl ?_
  refine iq_bipush hS 40 J_H_font_d38 (v := 32) (by decide +kernel) rfl ?_
  refine iq_icmp_le hS 43 J_H_font_d40 (t := 51) rfl (fun q40 => ?_) rfl (fun q40 => absurd (nI_le (b := 32) (by omega) (by decide)) q40)
  refine iq_aload_n hS 52 J_H_font_d51 l0 rfl ?_
  refine iq_getR hS 55 J_H_font_d52 lf_11_60 (Or.inl ⟨_, rfl⟩) (ka_0 hM) (ra_0_4 hM) rfl ?_
  refine iq_iload_n hS 56 J_H_font_d55 l1 rfl ?_
  refine iq_iload_n hS 57 J_H_font_d56 l2 rfl ?_
  refine iq_iload_n hS 58 J_H_font_d57 l3 rfl ?_
  refine iq_iload hS 60 J_H_font_d58 l4 rfl ?_
  refine iq_call hS 63 J_H_font_d60 rfl (pr_inst (vs := [_, _, _, _]) lc_11_95 lT_98 rfl rfl (by decide) (by decide) rfl (Nat.le_of_ble_eq_true rfl) (Nat.le_of_ble_eq_true rfl) (fun _ => Or.inl (pr_b (ka_56 hM) (by decide) rfl))) (H_newFont hf hM) rfl ?_
  rintro v M1 ⟨rfl, rfl⟩
  exact iq_ret J_H_font_d63 rfl ⟨rfl, rfl⟩
theorem H_font_no {L : Nat} {xs : Nat → Int32} {dep : Nat} {M : im_M} {p0 p1 p2 p3 : Int32} (hn : ¬ (¬ p0 < 0 ∧ ¬ 3 < p0 ∧ ¬ p1 < 1 ∧ ¬ 32 < p1 ∧ ¬ p2 < 1 ∧ ¬ 32 < p2 ∧ ¬ p3 < 0 ∧ p3 ≤ 32)) : it (tb_G L xs) tb_X (dep + 5) J_H_font (fun E M1 => E = 0 ∧ M1 = im_noX M) (0, lv_args 0 [.ref 0, .int p0, .int p1, .int p2, .int p3], [], M) := by
  have hS : im_St (tb_G L xs) (dep + 5) J_H_font (it (tb_G L xs) tb_X (dep + 5) J_H_font (fun E M1 => E = 0 ∧ M1 = im_noX M)) := it_St
  have l0 : im_lk (lv_args 0 [.ref 0, .int p0, .int p1, .int p2, .int p3]) 0 = some (.ref 0) := rfl
  have l1 : im_lk (lv_args 0 [.ref 0, .int p0, .int p1, .int p2, .int p3]) 1 = some (.int p0) := rfl
  have l2 : im_lk (lv_args 0 [.ref 0, .int p0, .int p1, .int p2, .int p3]) 2 = some (.int p1) := rfl
  have l3 : im_lk (lv_args 0 [.ref 0, .int p0, .int p1, .int p2, .int p3]) 3 = some (.int p2) := rfl
  have l4 : im_lk (lv_args 0 [.ref 0, .int p0, .int p1, .int p2, .int p3]) 4 = some (.int p3) := rfl
  refine iq_iload_n hS 1 J_H_font_d0 l1 rfl ?_
  refine iq_if_lt hS 4 J_H_font_d1 (t := 43) rfl (fun q1 => ?_) rfl (fun q1 => ?_)
  · exact it_now J_H_font_d43 gx_84 J_H_font_d46 J_H_font_d47 J_H_font_d50 (Nat.le_of_ble_eq_true rfl) (by omega) ⟨rfl, rfl⟩
  · refine iq_iload_n hS 5 J_H_font_d4 l1 rfl ?_
    refine iq_iconst hS 6 J_H_font_d5 (v := 3) (by decide +kernel) rfl ?_
    refine iq_icmp_gt hS 9 J_H_font_d6 (t := 43) rfl (fun q6 => ?_) rfl (fun q6 => ?_)
    · exact it_now J_H_font_d43 gx_84 J_H_font_d46 J_H_font_d47 J_H_font_d50 (Nat.le_of_ble_eq_true rfl) (by omega) ⟨rfl, rfl⟩
    · refine iq_iload_n hS 10 J_H_font_d9 l2 rfl ?_
      refine iq_iconst hS 11 J_H_font_d10 (v := 1) (by decide +kernel) rfl ?_
      refine iq_icmp_lt hS 14 J_H_font_d11 (t := 43) rfl (fun q11 => ?_) rfl (fun q11 => ?_)
      · exact it_now J_H_font_d43 gx_84 J_H_font_d46 J_H_font_d47 J_H_font_d50 (Nat.le_of_ble_eq_true rfl) (by omega) ⟨rfl, rfl⟩
      · refine iq_iload_n hS 15 J_H_font_d14 l2 rfl ?_
        refine iq_bipush hS 17 J_H_font_d15 (v := 32) (by decide +kernel) rfl ?_
        refine iq_icmp_gt hS 20 J_H_font_d17 (t := 43) rfl (fun q17 => ?_) rfl (fun q17 => ?_)
        · exact it_now J_H_font_d43 gx_84 J_H_font_d46 J_H_font_d47 J_H_font_d50 (Nat.le_of_ble_eq_true rfl) (by omega) ⟨rfl, rfl⟩
        · refine iq_iload_n hS 21 J_H_font_d20 l3 rfl ?_
          refine iq_iconst hS 22 J_H_font_d21 (v := 1) (by decide +kernel) rfl ?_
          refine iq_icmp_lt hS 25 J_H_font_d22 (t := 43) rfl (fun q22 => ?_) rfl (fun q22 => ?_)
          · exact it_now J_H_font_d43 gx_84 J_H_font_d46 J_H_font_d47 J_H_font_d50 (Nat.le_of_ble_eq_true rfl) (by omega) ⟨rfl, rfl⟩
          · refine iq_iload_n hS 26 J_H_font_d25 l3 rfl ?_
            refine iq_bipush hS 28 J_H_font_d26 (v := 32) (by decide +kernel) rfl ?_
            refine iq_icmp_gt hS 31 J_H_font_d28 (t := 43) rfl (fun q28 => ?_) rfl (fun q28 => ?_)
            · exact it_now J_H_font_d43 gx_84 J_H_font_d46 J_H_font_d47 J_H_font_d50 (Nat.le_of_ble_eq_true rfl) (by omega) ⟨rfl, rfl⟩
            · refine iq_iload hS 33 J_H_font_d31 l4 rfl ?_
              refine iq_if_lt hS 36 J_H_font_d33 (t := 43) rfl (fun q33 => ?_) rfl (fun q33 => ?_)
              · exact it_now J_H_font_d43 gx_84 J_H_font_d46 J_H_font_d47 J_H_font_d50 (Nat.le_of_ble_eq_true rfl) (by omega) ⟨rfl, rfl⟩
              · refine iq_iload hS 38 J_H_font_d36 l4 rfl ?_
                refine iq_bipush hS 40 J_H_font_d38 (v := 32) (by decide +kernel) rfl ?_
                refine iq_icmp_le hS 43 J_H_font_d40 (t := 51) rfl (fun q40 => absurd ⟨q1, q6, q11, q17, q22, q28, q33, q40⟩ hn) rfl (fun q40 => ?_)
                exact it_now J_H_font_d43 gx_84 J_H_font_d46 J_H_font_d47 J_H_font_d50 (Nat.le_of_ble_eq_true rfl) (by omega) ⟨rfl, rfl⟩
