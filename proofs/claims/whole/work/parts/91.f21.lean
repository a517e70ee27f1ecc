/-! METHODS AS FUNCTIONS -/
noncomputable def f_MSquareRows_lines_L21 (v7 : Int32) (v8 : Int32) (M13 : im_M) (x9 : Int32) (x10 : Int32) (x11 : Int32) (x12 : Int32) : Option ((Int32 × Int32 × Int32 × Int32) ⊕ (Int32)) := if (im_i M13 108 8) ≤ x12 then some (.inr x9) else bd1 (f_MSquareRows_module x12 v8 v7 M13) fun (x14 : Int32) => bd1 (jn0 (fun (_ : Unit) => some 1) fun k16 => if x12 ≤ 0 then k16 () else bd1 (f_MSquareRows_module (x12 - 1) v8 v7 M13) fun (x17 : Int32) => if ¬ x17 = x14 then k16 () else some (x10 + 1)) fun (y25 : Int32) => some (.inl (((if x12 < 10 then ((if ¬ y25 = 5 then (if y25 ≤ 5 then x9 else (x9 + 1)) else (x9 + 3)) : Int32) else (if (((x11 <<< (1 &&& 31)) ||| x14) &&& 2047) = 1488 then (((if ¬ y25 = 5 then (if y25 ≤ 5 then x9 else (x9 + 1)) else (x9 + 3)) : Int32) + 40) else (if ¬ (((x11 <<< (1 &&& 31)) ||| x14) &&& 2047) = 93 then ((if ¬ y25 = 5 then (if y25 ≤ 5 then x9 else (x9 + 1)) else (x9 + 3)) : Int32) else (((if ¬ y25 = 5 then (if y25 ≤ 5 then x9 else (x9 + 1)) else (x9 + 3)) : Int32) + 40)))) : Int32), y25, (((x11 <<< (1 &&& 31)) ||| x14) &&& 2047), (x12 + 1)))
noncomputable def f_MSquareRows_lines_L4 (v2 : Int32) (M5 : im_M) (x3 : Int32) (x4 : Int32) : Option ((Int32 × Int32) ⊕ (Int32)) := if (im_i M5 108 8) ≤ x4 then some (.inr x3) else bd1 (lp (uc4 (f_MSquareRows_lines_L21 v2 x4 M5)) (x3, 0, 0, 0)) fun (y35 : Int32) => some (.inl (y35, (x4 + 1)))
noncomputable def f_MSquareRows_lines (p0 : Int32) (M : im_M) : Option (Int32) := bd1 (lp (uc2 (f_MSquareRows_lines_L4 p0 M)) (0, 0)) fun (y36 : Int32) => some y36
theorem J_MSquareRows_lines_d0 : decode J_MSquareRows_lines.2.1 0 = .ok (.iconst 0, 1) := by decide +kernel
theorem J_MSquareRows_lines_d1 : decode J_MSquareRows_lines.2.1 1 = .ok (.istore_n 2, 1) := by decide +kernel
theorem J_MSquareRows_lines_d2 : decode J_MSquareRows_lines.2.1 2 = .ok (.iconst 0, 1) := by decide +kernel
theorem J_MSquareRows_lines_d3 : decode J_MSquareRows_lines.2.1 3 = .ok (.istore_n 3, 1) := by decide +kernel
theorem J_MSquareRows_lines_d4 : decode J_MSquareRows_lines.2.1 4 = .ok (.iload_n 3, 1) := by decide +kernel
theorem J_MSquareRows_lines_d5 : decode J_MSquareRows_lines.2.1 5 = .ok (.aload_n 0, 1) := by decide +kernel
theorem J_MSquareRows_lines_d6 : decode J_MSquareRows_lines.2.1 6 = .ok (.getfield 163, 3) := by decide +kernel
theorem J_MSquareRows_lines_d9 : decode J_MSquareRows_lines.2.1 9 = .ok (.if_icmp .ge 143, 3) := by decide +kernel
theorem J_MSquareRows_lines_d12 : decode J_MSquareRows_lines.2.1 12 = .ok (.iconst 0, 1) := by decide +kernel
theorem J_MSquareRows_lines_d13 : decode J_MSquareRows_lines.2.1 13 = .ok (.istore 4, 2) := by decide +kernel
theorem J_MSquareRows_lines_d15 : decode J_MSquareRows_lines.2.1 15 = .ok (.iconst 0, 1) := by decide +kernel
theorem J_MSquareRows_lines_d16 : decode J_MSquareRows_lines.2.1 16 = .ok (.istore 5, 2) := by decide +kernel
theorem J_MSquareRows_lines_d18 : decode J_MSquareRows_lines.2.1 18 = .ok (.iconst 0, 1) := by decide +kernel
theorem J_MSquareRows_lines_d19 : decode J_MSquareRows_lines.2.1 19 = .ok (.istore 6, 2) := by decide +kernel
theorem J_MSquareRows_lines_d21 : decode J_MSquareRows_lines.2.1 21 = .ok (.iload 6, 2) := by decide +kernel
theorem J_MSquareRows_lines_d23 : decode J_MSquareRows_lines.2.1 23 = .ok (.aload_n 0, 1) := by decide +kernel
theorem J_MSquareRows_lines_d24 : decode J_MSquareRows_lines.2.1 24 = .ok (.getfield 163, 3) := by decide +kernel
theorem J_MSquareRows_lines_d27 : decode J_MSquareRows_lines.2.1 27 = .ok (.if_icmp .ge 119, 3) := by decide +kernel
theorem J_MSquareRows_lines_d30 : decode J_MSquareRows_lines.2.1 30 = .ok (.aload_n 0, 1) := by decide +kernel
theorem J_MSquareRows_lines_d31 : decode J_MSquareRows_lines.2.1 31 = .ok (.iload 6, 2) := by decide +kernel
theorem J_MSquareRows_lines_d33 : decode J_MSquareRows_lines.2.1 33 = .ok (.iload_n 3, 1) := by decide +kernel
theorem J_MSquareRows_lines_d34 : decode J_MSquareRows_lines.2.1 34 = .ok (.iload_n 1, 1) := by decide +kernel
theorem J_MSquareRows_lines_d35 : decode J_MSquareRows_lines.2.1 35 = .ok (.invokevirtual 206, 3) := by decide +kernel
theorem J_MSquareRows_lines_d38 : decode J_MSquareRows_lines.2.1 38 = .ok (.istore 7, 2) := by decide +kernel
theorem J_MSquareRows_lines_d40 : decode J_MSquareRows_lines.2.1 40 = .ok (.iload 6, 2) := by decide +kernel
theorem J_MSquareRows_lines_d42 : decode J_MSquareRows_lines.2.1 42 = .ok (.ifCond .le 25, 3) := by decide +kernel
theorem J_MSquareRows_lines_d45 : decode J_MSquareRows_lines.2.1 45 = .ok (.aload_n 0, 1) := by decide +kernel
theorem J_MSquareRows_lines_d46 : decode J_MSquareRows_lines.2.1 46 = .ok (.iload 6, 2) := by decide +kernel
theorem J_MSquareRows_lines_d48 : decode J_MSquareRows_lines.2.1 48 = .ok (.iconst 1, 1) := by decide +kernel
theorem J_MSquareRows_lines_d49 : decode J_MSquareRows_lines.2.1 49 = .ok (.isub, 1) := by decide +kernel
theorem J_MSquareRows_lines_d50 : decode J_MSquareRows_lines.2.1 50 = .ok (.iload_n 3, 1) := by decide +kernel
theorem J_MSquareRows_lines_d51 : decode J_MSquareRows_lines.2.1 51 = .ok (.iload_n 1, 1) := by decide +kernel
theorem J_MSquareRows_lines_d52 : decode J_MSquareRows_lines.2.1 52 = .ok (.invokevirtual 206, 3) := by decide +kernel
theorem J_MSquareRows_lines_d55 : decode J_MSquareRows_lines.2.1 55 = .ok (.iload 7, 2) := by decide +kernel
theorem J_MSquareRows_lines_d57 : decode J_MSquareRows_lines.2.1 57 = .ok (.if_icmp .ne 10, 3) := by decide +kernel
theorem J_MSquareRows_lines_d60 : decode J_MSquareRows_lines.2.1 60 = .ok (.iload 4, 2) := by decide +kernel
theorem J_MSquareRows_lines_d62 : decode J_MSquareRows_lines.2.1 62 = .ok (.iconst 1, 1) := by decide +kernel
theorem J_MSquareRows_lines_d63 : decode J_MSquareRows_lines.2.1 63 = .ok (.iadd, 1) := by decide +kernel
theorem J_MSquareRows_lines_d64 : decode J_MSquareRows_lines.2.1 64 = .ok (.goto 4, 3) := by decide +kernel
theorem J_MSquareRows_lines_d67 : decode J_MSquareRows_lines.2.1 67 = .ok (.iconst 1, 1) := by decide +kernel
theorem J_MSquareRows_lines_d68 : decode J_MSquareRows_lines.2.1 68 = .ok (.istore 4, 2) := by decide +kernel
theorem J_MSquareRows_lines_d70 : decode J_MSquareRows_lines.2.1 70 = .ok (.iload 4, 2) := by decide +kernel
theorem J_MSquareRows_lines_d72 : decode J_MSquareRows_lines.2.1 72 = .ok (.iconst 5, 1) := by decide +kernel
theorem J_MSquareRows_lines_d73 : decode J_MSquareRows_lines.2.1 73 = .ok (.if_icmp .ne 9, 3) := by decide +kernel
theorem J_MSquareRows_lines_d76 : decode J_MSquareRows_lines.2.1 76 = .ok (.iload_n 2, 1) := by decide +kernel
theorem J_MSquareRows_lines_d77 : decode J_MSquareRows_lines.2.1 77 = .ok (.iconst 3, 1) := by decide +kernel
theorem J_MSquareRows_lines_d78 : decode J_MSquareRows_lines.2.1 78 = .ok (.iadd, 1) := by decide +kernel
theorem J_MSquareRows_lines_d79 : decode J_MSquareRows_lines.2.1 79 = .ok (.goto 16, 3) := by decide +kernel
theorem J_MSquareRows_lines_d82 : decode J_MSquareRows_lines.2.1 82 = .ok (.iload 4, 2) := by decide +kernel
theorem J_MSquareRows_lines_d84 : decode J_MSquareRows_lines.2.1 84 = .ok (.iconst 5, 1) := by decide +kernel
theorem J_MSquareRows_lines_d85 : decode J_MSquareRows_lines.2.1 85 = .ok (.if_icmp .le 9, 3) := by decide +kernel
theorem J_MSquareRows_lines_d88 : decode J_MSquareRows_lines.2.1 88 = .ok (.iload_n 2, 1) := by decide +kernel
theorem J_MSquareRows_lines_d89 : decode J_MSquareRows_lines.2.1 89 = .ok (.iconst 1, 1) := by decide +kernel
theorem J_MSquareRows_lines_d90 : decode J_MSquareRows_lines.2.1 90 = .ok (.iadd, 1) := by decide +kernel
theorem J_MSquareRows_lines_d91 : decode J_MSquareRows_lines.2.1 91 = .ok (.goto 4, 3) := by decide +kernel
theorem J_MSquareRows_lines_d94 : decode J_MSquareRows_lines.2.1 94 = .ok (.iload_n 2, 1) := by decide +kernel
theorem J_MSquareRows_lines_d95 : decode J_MSquareRows_lines.2.1 95 = .ok (.istore_n 2, 1) := by decide +kernel
theorem J_MSquareRows_lines_d96 : decode J_MSquareRows_lines.2.1 96 = .ok (.iload 5, 2) := by decide +kernel
theorem J_MSquareRows_lines_d98 : decode J_MSquareRows_lines.2.1 98 = .ok (.iconst 1, 1) := by decide +kernel
theorem J_MSquareRows_lines_d99 : decode J_MSquareRows_lines.2.1 99 = .ok (.ishl, 1) := by decide +kernel
theorem J_MSquareRows_lines_d100 : decode J_MSquareRows_lines.2.1 100 = .ok (.iload 7, 2) := by decide +kernel
theorem J_MSquareRows_lines_d102 : decode J_MSquareRows_lines.2.1 102 = .ok (.ior, 1) := by decide +kernel
theorem J_MSquareRows_lines_d103 : decode J_MSquareRows_lines.2.1 103 = .ok (.sipush 2047, 3) := by decide +kernel
theorem J_MSquareRows_lines_d106 : decode J_MSquareRows_lines.2.1 106 = .ok (.iand, 1) := by decide +kernel
theorem J_MSquareRows_lines_d107 : decode J_MSquareRows_lines.2.1 107 = .ok (.istore 5, 2) := by decide +kernel
theorem J_MSquareRows_lines_d109 : decode J_MSquareRows_lines.2.1 109 = .ok (.iload 6, 2) := by decide +kernel
theorem J_MSquareRows_lines_d111 : decode J_MSquareRows_lines.2.1 111 = .ok (.bipush 10, 2) := by decide +kernel
theorem J_MSquareRows_lines_d113 : decode J_MSquareRows_lines.2.1 113 = .ok (.if_icmp .lt 25, 3) := by decide +kernel
theorem J_MSquareRows_lines_d116 : decode J_MSquareRows_lines.2.1 116 = .ok (.iload 5, 2) := by decide +kernel
theorem J_MSquareRows_lines_d118 : decode J_MSquareRows_lines.2.1 118 = .ok (.sipush 1488, 3) := by decide +kernel
theorem J_MSquareRows_lines_d121 : decode J_MSquareRows_lines.2.1 121 = .ok (.if_icmp .eq 10, 3) := by decide +kernel
theorem J_MSquareRows_lines_d124 : decode J_MSquareRows_lines.2.1 124 = .ok (.iload 5, 2) := by decide +kernel
theorem J_MSquareRows_lines_d126 : decode J_MSquareRows_lines.2.1 126 = .ok (.bipush 93, 2) := by decide +kernel
theorem J_MSquareRows_lines_d128 : decode J_MSquareRows_lines.2.1 128 = .ok (.if_icmp .ne 10, 3) := by decide +kernel
theorem J_MSquareRows_lines_d131 : decode J_MSquareRows_lines.2.1 131 = .ok (.iload_n 2, 1) := by decide +kernel
theorem J_MSquareRows_lines_d132 : decode J_MSquareRows_lines.2.1 132 = .ok (.bipush 40, 2) := by decide +kernel
theorem J_MSquareRows_lines_d134 : decode J_MSquareRows_lines.2.1 134 = .ok (.iadd, 1) := by decide +kernel
theorem J_MSquareRows_lines_d135 : decode J_MSquareRows_lines.2.1 135 = .ok (.goto 4, 3) := by decide +kernel
theorem J_MSquareRows_lines_d138 : decode J_MSquareRows_lines.2.1 138 = .ok (.iload_n 2, 1) := by decide +kernel
theorem J_MSquareRows_lines_d139 : decode J_MSquareRows_lines.2.1 139 = .ok (.istore_n 2, 1) := by decide +kernel
theorem J_MSquareRows_lines_d140 : decode J_MSquareRows_lines.2.1 140 = .ok (.iinc 6 1, 3) := by decide +kernel
theorem J_MSquareRows_lines_d143 : decode J_MSquareRows_lines.2.1 143 = .ok (.goto (-122), 3) := by decide +kernel
theorem J_MSquareRows_lines_d146 : decode J_MSquareRows_lines.2.1 146 = .ok (.iinc 3 1, 3) := by decide +kernel
theorem J_MSquareRows_lines_d149 : decode J_MSquareRows_lines.2.1 149 = .ok (.goto (-145), 3) := by decide +kernel
theorem J_MSquareRows_lines_d152 : decode J_MSquareRows_lines.2.1 152 = .ok (.iload_n 2, 1) := by decide +kernel
theorem J_MSquareRows_lines_d153 : decode J_MSquareRows_lines.2.1 153 = .ok (.ireturn, 1) := by decide +kernel
theorem f_MSquareRows_lines_ok {L : Nat} {xs : Nat → Int32} {dep : Nat} {w : Bool} {p0 : Int32} {M : im_M} {Q : Int32 → Prop} (hM : lw_S w M) (h : ed (f_MSquareRows_lines p0 M) Q) : ia (tb_G L xs) (dep + 1) J_MSquareRows_lines (rpI M Q) (0, lv_args 0 [.ref 108, .int p0], [], M) := by
  have hS : im_St (tb_G L xs) (dep + 1) J_MSquareRows_lines (ia (tb_G L xs) (dep + 1) J_MSquareRows_lines (rpI M Q)) := ia_St
  unfold f_MSquareRows_lines at h
  have l0 : im_lk (lv_args 0 [.ref 108, .int p0]) 0 = some (.ref 108) := rfl
  have l1 : im_lk (lv_args 0 [.ref 108, .int p0]) 1 = some (.int p0) := rfl
  refine iq_iconst hS 1 J_MSquareRows_lines_d0 (v := 0) (by decide +kernel) rfl ?_
  refine iq_istore_n hS 2 J_MSquareRows_lines_d1 (by decide) rfl ?_
  refine iq_iconst hS 3 J_MSquareRows_lines_d2 (v := 0) (by decide +kernel) rfl ?_
  refine iq_istore_n hS 4 J_MSquareRows_lines_d3 (by decide) rfl ?_
  obtain ⟨Q1, hQ1, h⟩ := bd1_ed h
  have K1 : ∀ (y2 : Int32) (L' : List (Nat × Value)), im_lk L' 2 = some (.int y2) → Q1 y2 → ia (tb_G L xs) (dep + 1) J_MSquareRows_lines (rpI M Q) (152, L', [], M) := by
    intro y2 L' l3 h
    replace h := hQ1 _ h
    refine iq_iload_n hS 153 J_MSquareRows_lines_d152 l3 rfl ?_
    exact iq_iret J_MSquareRows_lines_d153 rfl rfl ⟨_, rfl, rfl, ed_some h⟩
  obtain ⟨r1, hr1, hq1⟩ := h
  obtain ⟨n1, hn1⟩ := lp_n hr1
  have I1 : ∀ (n : Nat) (x4 : Int32) (x5 : Int32) (L' : List (Nat × Value)), im_lk L' 0 = some (.ref 108) → im_lk L' 1 = some (.int p0) → im_lk L' 2 = some (.int x4) → im_lk L' 3 = some (.int x5) → lpn (uc2 (f_MSquareRows_lines_L4 p0 M)) n (x4, x5) = some r1 → ia (tb_G L xs) (dep + 1) J_MSquareRows_lines (rpI M Q) (4, L', [], M) := by
    intro n
    induction n with
    | zero => intro x4 x5 L' l6 l7 l8 l9 hn; exact (lpn_0 hn).elim
    | succ n ih =>
      intro x4 x5 L' l6 l7 l8 l9 hn
      have h := lpn_ed2 hn
      unfold f_MSquareRows_lines_L4 at h
      refine iq_iload_n hS 5 J_MSquareRows_lines_d4 l9 rfl ?_
      refine iq_aload_n hS 6 J_MSquareRows_lines_d5 l6 rfl ?_
      refine iq_getI hS 9 J_MSquareRows_lines_d6 lf_16_163 (Or.inl rfl) (ka_108 hM) rfl ?_
      refine iq_icmp_ge hS 12 J_MSquareRows_lines_d9 (t := 152) rfl (fun q9 => ?_) rfl (fun q9 => ?_)
      · replace h := ed_pos q9 h
        exact K1 _ _ l8 (lq_r h hq1)
      · replace h := ed_neg q9 h
        refine iq_iconst hS 13 J_MSquareRows_lines_d12 (v := 0) (by decide +kernel) rfl ?_
        refine iq_istore hS 15 J_MSquareRows_lines_d13 (by decide) rfl ?_
        refine iq_iconst hS 16 J_MSquareRows_lines_d15 (v := 0) (by decide +kernel) rfl ?_
        refine iq_istore hS 18 J_MSquareRows_lines_d16 (by decide) rfl ?_
        refine iq_iconst hS 19 J_MSquareRows_lines_d18 (v := 0) (by decide +kernel) rfl ?_
        refine iq_istore hS 21 J_MSquareRows_lines_d19 (by decide) rfl ?_
        obtain ⟨Q10, hQ10, h⟩ := bd1_ed h
        have K10 : ∀ (y11 : Int32) (L' : List (Nat × Value)), im_lk L' 0 = some (.ref 108) → im_lk L' 1 = some (.int p0) → im_lk L' 2 = some (.int y11) → im_lk L' 3 = some (.int x5) → Q10 y11 → ia (tb_G L xs) (dep + 1) J_MSquareRows_lines (rpI M Q) (146, L', [], M) := by
          intro y11 L' l12 l13 l14 l15 h
          replace h := hQ10 _ h
          refine iq_iincv hS 149 J_MSquareRows_lines_d146 (c := 1) (by decide +kernel) l15 (by decide) rfl ?_
          refine iq_goto hS J_MSquareRows_lines_d149 (t := 4) rfl ?_
          exact ih _ _ _ (lk_1r l12 (by decide)) (lk_1i l13 (by decide)) (lk_1i l14 (by decide)) lk_1s (lq_l h)
        obtain ⟨r10, hr10, hq10⟩ := h
        obtain ⟨n10, hn10⟩ := lp_n hr10
        have I10 : ∀ (n : Nat) (x16 : Int32) (x17 : Int32) (x18 : Int32) (x19 : Int32) (L' : List (Nat × Value)), im_lk L' 0 = some (.ref 108) → im_lk L' 1 = some (.int p0) → im_lk L' 2 = some (.int x16) → im_lk L' 3 = some (.int x5) → im_lk L' 4 = some (.int x17) → im_lk L' 5 = some (.int x18) → im_lk L' 6 = some (.int x19) → lpn (uc4 (f_MSquareRows_lines_L21 p0 x5 M)) n (x16, x17, x18, x19) = some r10 → ia (tb_G L xs) (dep + 1) J_MSquareRows_lines (rpI M Q) (21, L', [], M) := by
          intro n
          induction n with
          | zero => intro x16 x17 x18 x19 L' l20 l21 l22 l23 l24 l25 l26 hn; exact (lpn_0 hn).elim
          | succ n ih =>
            intro x16 x17 x18 x19 L' l20 l21 l22 l23 l24 l25 l26 hn
            have h := lpn_ed4 hn
            unfold f_MSquareRows_lines_L21 at h
            refine iq_iload hS 23 J_MSquareRows_lines_d21 l26 rfl ?_
            refine iq_aload_n hS 24 J_MSquareRows_lines_d23 l20 rfl ?_
            refine iq_getI hS 27 J_MSquareRows_lines_d24 lf_16_163 (Or.inl rfl) (ka_108 hM) rfl ?_
            refine iq_icmp_ge hS 30 J_MSquareRows_lines_d27 (t := 146) rfl (fun q27 => ?_) rfl (fun q27 => ?_)
            · replace h := ed_pos q27 h
              exact K10 _ _ l20 l21 l22 l23 (lq_r h hq10)
            · replace h := ed_neg q27 h
              refine iq_aload_n hS 31 J_MSquareRows_lines_d30 l20 rfl ?_
              refine iq_iload hS 33 J_MSquareRows_lines_d31 l26 rfl ?_
              refine iq_iload_n hS 34 J_MSquareRows_lines_d33 l23 rfl ?_
              refine iq_iload_n hS 35 J_MSquareRows_lines_d34 l21 rfl ?_
              obtain ⟨Q27, hQ27, h⟩ := bd1_ed h
              refine iq_cpI hS 38 J_MSquareRows_lines_d35 rfl (pr_inst (vs := [_, _, _]) lc_16_206 lT_426 rfl rfl (by decide) (by decide) rfl (Nat.le_of_ble_eq_true rfl) (Nat.le_of_ble_eq_true rfl) (fun _ => Or.inl (pr_b (ka_108 hM) (by decide) rfl))) (f_MSquareRows_module_ok (dep := dep + 0) hM h) rfl ?_
              intro x27 h
              replace h := hQ27 _ h
              refine iq_istore hS 40 J_MSquareRows_lines_d38 (by decide) rfl ?_
              refine iq_iload hS 42 J_MSquareRows_lines_d40 (lk_1i l26 (by decide)) rfl ?_
              obtain ⟨Q28, hQ28, h⟩ := bd1_ed h
              have J28 : ∀ (y38 : Int32) (L' : List (Nat × Value)), im_lk L' 0 = some (.ref 108) → im_lk L' 1 = some (.int p0) → im_lk L' 2 = some (.int x16) → im_lk L' 3 = some (.int x5) → im_lk L' 5 = some (.int x18) → im_lk L' 6 = some (.int x19) → im_lk L' 7 = some (.int x27) → Q28 y38 → ia (tb_G L xs) (dep + 1) J_MSquareRows_lines (rpI M Q) (68, L', [.int y38], M) := by
                intro y38 L' l39 l40 l41 l42 l43 l44 l45 h
                replace h := hQ28 _ h
                refine iq_istore hS 70 J_MSquareRows_lines_d68 (by decide) rfl ?_
                refine iq_iload hS 72 J_MSquareRows_lines_d70 lk_1s rfl ?_
                refine iq_iconst hS 73 J_MSquareRows_lines_d72 (v := 5) (by decide +kernel) rfl ?_
                have J46 : ∀ (z47 : Int32) (L' : List (Nat × Value)), z47 = ((if ¬ y38 = 5 then (if y38 ≤ 5 then x16 else (x16 + 1)) else (x16 + 3)) : Int32) → im_lk L' 0 = some (.ref 108) → im_lk L' 1 = some (.int p0) → im_lk L' 3 = some (.int x5) → im_lk L' 4 = some (.int y38) → im_lk L' 5 = some (.int x18) → im_lk L' 6 = some (.int x19) → im_lk L' 7 = some (.int x27) → ia (tb_G L xs) (dep + 1) J_MSquareRows_lines (rpI M Q) (95, L', [.int z47], M) := by
                  intro z47 L' e48 l49 l50 l51 l52 l53 l54 l55
                  subst e48
                  refine iq_istore_n hS 96 J_MSquareRows_lines_d95 (by decide) rfl ?_
                  refine iq_iload hS 98 J_MSquareRows_lines_d96 (lk_1i l53 (by decide)) rfl ?_
                  refine iq_iconst hS 99 J_MSquareRows_lines_d98 (v := 1) (by decide +kernel) rfl ?_
                  refine iq_ishl hS 100 J_MSquareRows_lines_d99 rfl ?_
                  refine iq_iload hS 102 J_MSquareRows_lines_d100 (lk_1i l55 (by decide)) rfl ?_
                  refine iq_ior hS 103 J_MSquareRows_lines_d102 rfl ?_
                  refine iq_sipush hS 106 J_MSquareRows_lines_d103 (v := 2047) (by decide +kernel) rfl ?_
                  refine iq_iand hS 107 J_MSquareRows_lines_d106 rfl ?_
                  refine iq_istore hS 109 J_MSquareRows_lines_d107 (by decide) rfl ?_
                  refine iq_iload hS 111 J_MSquareRows_lines_d109 (lk_1i (lk_1i l54 (by decide)) (by decide)) rfl ?_
                  refine iq_bipush hS 113 J_MSquareRows_lines_d111 (v := 10) (by decide +kernel) rfl ?_
                  have J56 : ∀ (z57 : Int32) (L' : List (Nat × Value)), z57 = ((if x19 < 10 then ((if ¬ y38 = 5 then (if y38 ≤ 5 then x16 else (x16 + 1)) else (x16 + 3)) : Int32) else (if (((x18 <<< (1 &&& 31)) ||| x27) &&& 2047) = 1488 then (((if ¬ y38 = 5 then (if y38 ≤ 5 then x16 else (x16 + 1)) else (x16 + 3)) : Int32) + 40) else (if ¬ (((x18 <<< (1 &&& 31)) ||| x27) &&& 2047) = 93 then ((if ¬ y38 = 5 then (if y38 ≤ 5 then x16 else (x16 + 1)) else (x16 + 3)) : Int32) else (((if ¬ y38 = 5 then (if y38 ≤ 5 then x16 else (x16 + 1)) else (x16 + 3)) : Int32) + 40)))) : Int32) → im_lk L' 0 = some (.ref 108) → im_lk L' 1 = some (.int p0) → im_lk L' 3 = some (.int x5) → im_lk L' 4 = some (.int y38) → im_lk L' 5 = some (.int (((x18 <<< (1 &&& 31)) ||| x27) &&& 2047)) → im_lk L' 6 = some (.int x19) → ia (tb_G L xs) (dep + 1) J_MSquareRows_lines (rpI M Q) (139, L', [.int z57], M) := by
                    intro z57 L' e58 l59 l60 l61 l62 l63 l64
                    subst e58
                    refine iq_istore_n hS 140 J_MSquareRows_lines_d139 (by decide) rfl ?_
                    refine iq_iincv hS 143 J_MSquareRows_lines_d140 (c := 1) (by decide +kernel) (lk_1i l64 (by decide)) (by decide) rfl ?_
                    refine iq_goto hS J_MSquareRows_lines_d143 (t := 21) rfl ?_
                    exact ih _ _ _ _ _ (lk_1r (lk_1r l59 (by decide)) (by decide)) (lk_1i (lk_1i l60 (by decide)) (by decide)) (lk_1i lk_1s (by decide)) (lk_1i (lk_1i l61 (by decide)) (by decide)) (lk_1i (lk_1i l62 (by decide)) (by decide)) (lk_1i (lk_1i l63 (by decide)) (by decide)) lk_1s (lq_l h)
                  refine iq_icmp_lt hS 116 J_MSquareRows_lines_d113 (t := 138) rfl (fun q113 => ?_) rfl (fun q113 => ?_)
                  · refine iq_iload_n hS 139 J_MSquareRows_lines_d138 (lk_1i lk_1s (by decide)) rfl ?_
                    exact J56 _ _ (by rw [if_pos q113]) (lk_1r (lk_1r l49 (by decide)) (by decide)) (lk_1i (lk_1i l50 (by decide)) (by decide)) (lk_1i (lk_1i l51 (by decide)) (by decide)) (lk_1i (lk_1i l52 (by decide)) (by decide)) lk_1s (lk_1i (lk_1i l54 (by decide)) (by decide))
                  · refine iq_iload hS 118 J_MSquareRows_lines_d116 lk_1s rfl ?_
                    refine iq_sipush hS 121 J_MSquareRows_lines_d118 (v := 1488) (by decide +kernel) rfl ?_
                    refine iq_icmp_eq hS 124 J_MSquareRows_lines_d121 (t := 131) rfl (fun q121 => ?_) rfl (fun q121 => ?_)
                    · refine iq_iload_n hS 132 J_MSquareRows_lines_d131 (lk_1i lk_1s (by decide)) rfl ?_
                      refine iq_bipush hS 134 J_MSquareRows_lines_d132 (v := 40) (by decide +kernel) rfl ?_
                      refine iq_iadd hS 135 J_MSquareRows_lines_d134 rfl ?_
                      refine iq_goto hS J_MSquareRows_lines_d135 (t := 139) rfl ?_
                      exact J56 _ _ (by rw [if_neg q113, if_pos q121]) (lk_1r (lk_1r l49 (by decide)) (by decide)) (lk_1i (lk_1i l50 (by decide)) (by decide)) (lk_1i (lk_1i l51 (by decide)) (by decide)) (lk_1i (lk_1i l52 (by decide)) (by decide)) lk_1s (lk_1i (lk_1i l54 (by decide)) (by decide))
                    · refine iq_iload hS 126 J_MSquareRows_lines_d124 lk_1s rfl ?_
                      refine iq_bipush hS 128 J_MSquareRows_lines_d126 (v := 93) (by decide +kernel) rfl ?_
                      refine iq_icmp_ne hS 131 J_MSquareRows_lines_d128 (t := 138) rfl (fun q128 => ?_) rfl (fun q128 => ?_)
                      · refine iq_iload_n hS 139 J_MSquareRows_lines_d138 (lk_1i lk_1s (by decide)) rfl ?_
                        exact J56 _ _ (by rw [if_neg q113, if_neg q121, if_pos q128]) (lk_1r (lk_1r l49 (by decide)) (by decide)) (lk_1i (lk_1i l50 (by decide)) (by decide)) (lk_1i (lk_1i l51 (by decide)) (by decide)) (lk_1i (lk_1i l52 (by decide)) (by decide)) lk_1s (lk_1i (lk_1i l54 (by decide)) (by decide))
                      · refine iq_iload_n hS 132 J_MSquareRows_lines_d131 (lk_1i lk_1s (by decide)) rfl ?_
                        refine iq_bipush hS 134 J_MSquareRows_lines_d132 (v := 40) (by decide +kernel) rfl ?_
                        refine iq_iadd hS 135 J_MSquareRows_lines_d134 rfl ?_
                        refine iq_goto hS J_MSquareRows_lines_d135 (t := 139) rfl ?_
                        exact J56 _ _ (by rw [if_neg q113, if_neg q121, if_neg q128]) (lk_1r (lk_1r l49 (by decide)) (by decide)) (lk_1i (lk_1i l50 (by decide)) (by decide)) (lk_1i (lk_1i l51 (by decide)) (by decide)) (lk_1i (lk_1i l52 (by decide)) (by decide)) lk_1s (lk_1i (lk_1i l54 (by decide)) (by decide))
                refine iq_icmp_ne hS 76 J_MSquareRows_lines_d73 (t := 82) rfl (fun q73 => ?_) rfl (fun q73 => ?_)
                · refine iq_iload hS 84 J_MSquareRows_lines_d82 lk_1s rfl ?_
                  refine iq_iconst hS 85 J_MSquareRows_lines_d84 (v := 5) (by decide +kernel) rfl ?_
                  refine iq_icmp_le hS 88 J_MSquareRows_lines_d85 (t := 94) rfl (fun q85 => ?_) rfl (fun q85 => ?_)
                  · refine iq_iload_n hS 95 J_MSquareRows_lines_d94 (lk_1i l41 (by decide)) rfl ?_
                    exact J46 _ _ (by rw [if_pos q73, if_pos q85]) (lk_1r l39 (by decide)) (lk_1i l40 (by decide)) (lk_1i l42 (by decide)) lk_1s (lk_1i l43 (by decide)) (lk_1i l44 (by decide)) (lk_1i l45 (by decide))
                  · refine iq_iload_n hS 89 J_MSquareRows_lines_d88 (lk_1i l41 (by decide)) rfl ?_
                    refine iq_iconst hS 90 J_MSquareRows_lines_d89 (v := 1) (by decide +kernel) rfl ?_
                    refine iq_iadd hS 91 J_MSquareRows_lines_d90 rfl ?_
                    refine iq_goto hS J_MSquareRows_lines_d91 (t := 95) rfl ?_
                    exact J46 _ _ (by rw [if_pos q73, if_neg q85]) (lk_1r l39 (by decide)) (lk_1i l40 (by decide)) (lk_1i l42 (by decide)) lk_1s (lk_1i l43 (by decide)) (lk_1i l44 (by decide)) (lk_1i l45 (by decide))
                · refine iq_iload_n hS 77 J_MSquareRows_lines_d76 (lk_1i l41 (by decide)) rfl ?_
                  refine iq_iconst hS 78 J_MSquareRows_lines_d77 (v := 3) (by decide +kernel) rfl ?_
                  refine iq_iadd hS 79 J_MSquareRows_lines_d78 rfl ?_
                  refine iq_goto hS J_MSquareRows_lines_d79 (t := 95) rfl ?_
                  exact J46 _ _ (by rw [if_neg q73]) (lk_1r l39 (by decide)) (lk_1i l40 (by decide)) (lk_1i l42 (by decide)) lk_1s (lk_1i l43 (by decide)) (lk_1i l44 (by decide)) (lk_1i l45 (by decide))
              obtain ⟨k29, Q29, hQ29, hk29, h⟩ := jn0_ed h
              have J29 : ∀  (L' : List (Nat × Value)), im_lk L' 0 = some (.ref 108) → im_lk L' 1 = some (.int p0) → im_lk L' 2 = some (.int x16) → im_lk L' 3 = some (.int x5) → im_lk L' 5 = some (.int x18) → im_lk L' 6 = some (.int x19) → im_lk L' 7 = some (.int x27) → Q29 () → ia (tb_G L xs) (dep + 1) J_MSquareRows_lines (rpI M Q) (67, L', [], M) := by
                intro  L' l31 l32 l33 l34 l35 l36 l37 h
                replace h := hQ29  h
                refine iq_iconst hS 68 J_MSquareRows_lines_d67 (v := 1) (by decide +kernel) rfl ?_
                exact J28 _ _ l31 l32 l33 l34 l35 l36 l37 (ed_some h)
              refine iq_if_le hS 45 J_MSquareRows_lines_d42 (t := 67) rfl (fun q42 => ?_) rfl (fun q42 => ?_)
              · replace h := ed_pos q42 h
                exact J29  _ (lk_1r l20 (by decide)) (lk_1i l21 (by decide)) (lk_1i l22 (by decide)) (lk_1i l23 (by decide)) (lk_1i l25 (by decide)) (lk_1i l26 (by decide)) lk_1s (hk29  h)
              · replace h := ed_neg q42 h
                refine iq_aload_n hS 46 J_MSquareRows_lines_d45 (lk_1r l20 (by decide)) rfl ?_
                refine iq_iload hS 48 J_MSquareRows_lines_d46 (lk_1i l26 (by decide)) rfl ?_
                refine iq_iconst hS 49 J_MSquareRows_lines_d48 (v := 1) (by decide +kernel) rfl ?_
                refine iq_isub hS 50 J_MSquareRows_lines_d49 rfl ?_
                refine iq_iload_n hS 51 J_MSquareRows_lines_d50 (lk_1i l23 (by decide)) rfl ?_
                refine iq_iload_n hS 52 J_MSquareRows_lines_d51 (lk_1i l21 (by decide)) rfl ?_
                obtain ⟨Q30, hQ30, h⟩ := bd1_ed h
                refine iq_cpI hS 55 J_MSquareRows_lines_d52 rfl (pr_inst (vs := [_, _, _]) lc_16_206 lT_426 rfl rfl (by decide) (by decide) rfl (Nat.le_of_ble_eq_true rfl) (Nat.le_of_ble_eq_true rfl) (fun _ => Or.inl (pr_b (ka_108 hM) (by decide) rfl))) (f_MSquareRows_module_ok (dep := dep + 0) hM h) rfl ?_
                intro x30 h
                replace h := hQ30 _ h
                refine iq_iload hS 57 J_MSquareRows_lines_d55 lk_1s rfl ?_
                refine iq_icmp_ne hS 60 J_MSquareRows_lines_d57 (t := 67) rfl (fun q57 => ?_) rfl (fun q57 => ?_)
                · replace h := ed_pos q57 h
                  exact J29  _ (lk_1r l20 (by decide)) (lk_1i l21 (by decide)) (lk_1i l22 (by decide)) (lk_1i l23 (by decide)) (lk_1i l25 (by decide)) (lk_1i l26 (by decide)) lk_1s (hk29  h)
                · replace h := ed_neg q57 h
                  refine iq_iload hS 62 J_MSquareRows_lines_d60 (lk_1i l24 (by decide)) rfl ?_
                  refine iq_iconst hS 63 J_MSquareRows_lines_d62 (v := 1) (by decide +kernel) rfl ?_
                  refine iq_iadd hS 64 J_MSquareRows_lines_d63 rfl ?_
                  refine iq_goto hS J_MSquareRows_lines_d64 (t := 68) rfl ?_
                  exact J28 _ _ (lk_1r l20 (by decide)) (lk_1i l21 (by decide)) (lk_1i l22 (by decide)) (lk_1i l23 (by decide)) (lk_1i l25 (by decide)) (lk_1i l26 (by decide)) lk_1s (ed_some h)
        exact I10 n10 _ _ _ _ _ (lk_1r (lk_1r (lk_1r l6 (by decide)) (by decide)) (by decide)) (lk_1i (lk_1i (lk_1i l7 (by decide)) (by decide)) (by decide)) (lk_1i (lk_1i (lk_1i l8 (by decide)) (by decide)) (by decide)) (lk_1i (lk_1i (lk_1i l9 (by decide)) (by decide)) (by decide)) (lk_1i (lk_1i lk_1s (by decide)) (by decide)) (lk_1i lk_1s (by decide)) lk_1s hn10
  exact I1 n1 _ _ _ (lk_1r (lk_1r l0 (by decide)) (by decide)) (lk_1i (lk_1i l1 (by decide)) (by decide)) (lk_1i lk_1s (by decide)) lk_1s hn1
noncomputable def f_MSquareRows_penalty_L27 (v9 : Int32) (M13 : im_M) (x10 : Int32) (x11 : Int32) (x12 : Int32) : Option ((Int32 × Int32 × Int32) ⊕ (Int32 × Int32)) := if (im_i M13 108 8) ≤ x12 then some (.inr (x10, x11)) else bd1 (f_MSquareRows_module x12 v9 0 M13) fun (x14 : Int32) => bd1 (if x12 ≤ 0 then some x10 else if v9 ≤ 0 then some x10 else bd1 (f_MSquareRows_module x12 v9 0 M13) fun (x16 : Int32) => bd1 (f_MSquareRows_module (x12 - 1) v9 0 M13) fun (x17 : Int32) => bd1 (f_MSquareRows_module x12 (v9 - 1) 0 M13) fun (x18 : Int32) => bd1 (f_MSquareRows_module (x12 - 1) (v9 - 1) 0 M13) fun (x19 : Int32) => some ((if (((x16 + x17) + x18) + x19) = 0 then (x10 + 3) else (if ¬ (((x16 + x17) + x18) + x19) = 4 then x10 else (x10 + 3))) : Int32)) fun (y21 : Int32) => some (.inl (y21, (x11 + x14), (x12 + 1)))
noncomputable def f_MSquareRows_penalty_L16 (M7 : im_M) (x4 : Int32) (x5 : Int32) (x6 : Int32) : Option ((Int32 × Int32 × Int32) ⊕ (Int32 × Int32)) := if (im_i M7 108 8) ≤ x6 then some (.inr (x4, x5)) else bd2 (lp (uc3 (f_MSquareRows_penalty_L27 x6 M7)) (x4, x5, 0)) fun (y27 : Int32) (y28 : Int32) => some (.inl (y27, y28, (x6 + 1)))
noncomputable def f_MSquareRows_penalty (M : im_M) : Option (Int32) := bd1 (f_MSquareRows_lines 0 M) fun (x1 : Int32) => bd1 (f_MSquareRows_lines 1 M) fun (x2 : Int32) => bd2 (lp (uc3 (f_MSquareRows_penalty_L16 M)) ((x1 + x2), 0, 0)) fun (y29 : Int32) (y30 : Int32) => gd (¬ ((im_i M 108 8) * (im_i M 108 8)) = (0 : Int32)) <| some (y29 + ((10 : Int32) * (((if 0 ≤ (((20 : Int32) * y30) - ((10 : Int32) * ((im_i M 108 8) * (im_i M 108 8)))) then (((20 : Int32) * y30) - ((10 : Int32) * ((im_i M 108 8) * (im_i M 108 8)))) else (-(((20 : Int32) * y30) - ((10 : Int32) * ((im_i M 108 8) * (im_i M 108 8)))))) : Int32) / ((im_i M 108 8) * (im_i M 108 8)))))
theorem J_MSquareRows_penalty_d0 : decode J_MSquareRows_penalty.2.1 0 = .ok (.aload_n 0, 1) := by decide +kernel
theorem J_MSquareRows_penalty_d1 : decode J_MSquareRows_penalty.2.1 1 = .ok (.iconst 0, 1) := by decide +kernel
theorem J_MSquareRows_penalty_d2 : decode J_MSquareRows_penalty.2.1 2 = .ok (.invokevirtual 210, 3) := by decide +kernel
theorem J_MSquareRows_penalty_d5 : decode J_MSquareRows_penalty.2.1 5 = .ok (.aload_n 0, 1) := by decide +kernel
theorem J_MSquareRows_penalty_d6 : decode J_MSquareRows_penalty.2.1 6 = .ok (.iconst 1, 1) := by decide +kernel
theorem J_MSquareRows_penalty_d7 : decode J_MSquareRows_penalty.2.1 7 = .ok (.invokevirtual 210, 3) := by decide +kernel
theorem J_MSquareRows_penalty_d10 : decode J_MSquareRows_penalty.2.1 10 = .ok (.iadd, 1) := by decide +kernel
theorem J_MSquareRows_penalty_d11 : decode J_MSquareRows_penalty.2.1 11 = .ok (.istore_n 1, 1) := by decide +kernel
theorem J_MSquareRows_penalty_d12 : decode J_MSquareRows_penalty.2.1 12 = .ok (.iconst 0, 1) := by decide +kernel
theorem J_MSquareRows_penalty_d13 : decode J_MSquareRows_penalty.2.1 13 = .ok (.istore_n 2, 1) := by decide +kernel
theorem J_MSquareRows_penalty_d14 : decode J_MSquareRows_penalty.2.1 14 = .ok (.iconst 0, 1) := by decide +kernel
theorem J_MSquareRows_penalty_d15 : decode J_MSquareRows_penalty.2.1 15 = .ok (.istore_n 3, 1) := by decide +kernel
theorem J_MSquareRows_penalty_d16 : decode J_MSquareRows_penalty.2.1 16 = .ok (.iload_n 3, 1) := by decide +kernel
theorem J_MSquareRows_penalty_d17 : decode J_MSquareRows_penalty.2.1 17 = .ok (.aload_n 0, 1) := by decide +kernel
theorem J_MSquareRows_penalty_d18 : decode J_MSquareRows_penalty.2.1 18 = .ok (.getfield 163, 3) := by decide +kernel
theorem J_MSquareRows_penalty_d21 : decode J_MSquareRows_penalty.2.1 21 = .ok (.if_icmp .ge 111, 3) := by decide +kernel
theorem J_MSquareRows_penalty_d24 : decode J_MSquareRows_penalty.2.1 24 = .ok (.iconst 0, 1) := by decide +kernel
theorem J_MSquareRows_penalty_d25 : decode J_MSquareRows_penalty.2.1 25 = .ok (.istore 4, 2) := by decide +kernel
theorem J_MSquareRows_penalty_d27 : decode J_MSquareRows_penalty.2.1 27 = .ok (.iload 4, 2) := by decide +kernel
theorem J_MSquareRows_penalty_d29 : decode J_MSquareRows_penalty.2.1 29 = .ok (.aload_n 0, 1) := by decide +kernel
theorem J_MSquareRows_penalty_d30 : decode J_MSquareRows_penalty.2.1 30 = .ok (.getfield 163, 3) := by decide +kernel
theorem J_MSquareRows_penalty_d33 : decode J_MSquareRows_penalty.2.1 33 = .ok (.if_icmp .ge 93, 3) := by decide +kernel
theorem J_MSquareRows_penalty_d36 : decode J_MSquareRows_penalty.2.1 36 = .ok (.iload_n 2, 1) := by decide +kernel
theorem J_MSquareRows_penalty_d37 : decode J_MSquareRows_penalty.2.1 37 = .ok (.aload_n 0, 1) := by decide +kernel
theorem J_MSquareRows_penalty_d38 : decode J_MSquareRows_penalty.2.1 38 = .ok (.iload 4, 2) := by decide +kernel
theorem J_MSquareRows_penalty_d40 : decode J_MSquareRows_penalty.2.1 40 = .ok (.iload_n 3, 1) := by decide +kernel
theorem J_MSquareRows_penalty_d41 : decode J_MSquareRows_penalty.2.1 41 = .ok (.iconst 0, 1) := by decide +kernel
theorem J_MSquareRows_penalty_d42 : decode J_MSquareRows_penalty.2.1 42 = .ok (.invokevirtual 206, 3) := by decide +kernel
theorem J_MSquareRows_penalty_d45 : decode J_MSquareRows_penalty.2.1 45 = .ok (.iadd, 1) := by decide +kernel
theorem J_MSquareRows_penalty_d46 : decode J_MSquareRows_penalty.2.1 46 = .ok (.istore_n 2, 1) := by decide +kernel
theorem J_MSquareRows_penalty_d47 : decode J_MSquareRows_penalty.2.1 47 = .ok (.iload 4, 2) := by decide +kernel
theorem J_MSquareRows_penalty_d49 : decode J_MSquareRows_penalty.2.1 49 = .ok (.ifCond .le 71, 3) := by decide +kernel
theorem J_MSquareRows_penalty_d52 : decode J_MSquareRows_penalty.2.1 52 = .ok (.iload_n 3, 1) := by decide +kernel
theorem J_MSquareRows_penalty_d53 : decode J_MSquareRows_penalty.2.1 53 = .ok (.ifCond .le 67, 3) := by decide +kernel
theorem J_MSquareRows_penalty_d56 : decode J_MSquareRows_penalty.2.1 56 = .ok (.aload_n 0, 1) := by decide +kernel
theorem J_MSquareRows_penalty_d57 : decode J_MSquareRows_penalty.2.1 57 = .ok (.iload 4, 2) := by decide +kernel
theorem J_MSquareRows_penalty_d59 : decode J_MSquareRows_penalty.2.1 59 = .ok (.iload_n 3, 1) := by decide +kernel
theorem J_MSquareRows_penalty_d60 : decode J_MSquareRows_penalty.2.1 60 = .ok (.iconst 0, 1) := by decide +kernel
theorem J_MSquareRows_penalty_d61 : decode J_MSquareRows_penalty.2.1 61 = .ok (.invokevirtual 206, 3) := by decide +kernel
theorem J_MSquareRows_penalty_d64 : decode J_MSquareRows_penalty.2.1 64 = .ok (.aload_n 0, 1) := by decide +kernel
theorem J_MSquareRows_penalty_d65 : decode J_MSquareRows_penalty.2.1 65 = .ok (.iload 4, 2) := by decide +kernel
theorem J_MSquareRows_penalty_d67 : decode J_MSquareRows_penalty.2.1 67 = .ok (.iconst 1, 1) := by decide +kernel
theorem J_MSquareRows_penalty_d68 : decode J_MSquareRows_penalty.2.1 68 = .ok (.isub, 1) := by decide +kernel
theorem J_MSquareRows_penalty_d69 : decode J_MSquareRows_penalty.2.1 69 = .ok (.iload_n 3, 1) := by decide +kernel
theorem J_MSquareRows_penalty_d70 : decode J_MSquareRows_penalty.2.1 70 = .ok (.iconst 0, 1) := by decide +kernel
theorem J_MSquareRows_penalty_d71 : decode J_MSquareRows_penalty.2.1 71 = .ok (.invokevirtual 206, 3) := by decide +kernel
theorem J_MSquareRows_penalty_d74 : decode J_MSquareRows_penalty.2.1 74 = .ok (.iadd, 1) := by decide +kernel
theorem J_MSquareRows_penalty_d75 : decode J_MSquareRows_penalty.2.1 75 = .ok (.aload_n 0, 1) := by decide +kernel
theorem J_MSquareRows_penalty_d76 : decode J_MSquareRows_penalty.2.1 76 = .ok (.iload 4, 2) := by decide +kernel
theorem J_MSquareRows_penalty_d78 : decode J_MSquareRows_penalty.2.1 78 = .ok (.iload_n 3, 1) := by decide +kernel
theorem J_MSquareRows_penalty_d79 : decode J_MSquareRows_penalty.2.1 79 = .ok (.iconst 1, 1) := by decide +kernel
theorem J_MSquareRows_penalty_d80 : decode J_MSquareRows_penalty.2.1 80 = .ok (.isub, 1) := by decide +kernel
theorem J_MSquareRows_penalty_d81 : decode J_MSquareRows_penalty.2.1 81 = .ok (.iconst 0, 1) := by decide +kernel
theorem J_MSquareRows_penalty_d82 : decode J_MSquareRows_penalty.2.1 82 = .ok (.invokevirtual 206, 3) := by decide +kernel
theorem J_MSquareRows_penalty_d85 : decode J_MSquareRows_penalty.2.1 85 = .ok (.iadd, 1) := by decide +kernel
theorem J_MSquareRows_penalty_d86 : decode J_MSquareRows_penalty.2.1 86 = .ok (.aload_n 0, 1) := by decide +kernel
theorem J_MSquareRows_penalty_d87 : decode J_MSquareRows_penalty.2.1 87 = .ok (.iload 4, 2) := by decide +kernel
theorem J_MSquareRows_penalty_d89 : decode J_MSquareRows_penalty.2.1 89 = .ok (.iconst 1, 1) := by decide +kernel
theorem J_MSquareRows_penalty_d90 : decode J_MSquareRows_penalty.2.1 90 = .ok (.isub, 1) := by decide +kernel
theorem J_MSquareRows_penalty_d91 : decode J_MSquareRows_penalty.2.1 91 = .ok (.iload_n 3, 1) := by decide +kernel
theorem J_MSquareRows_penalty_d92 : decode J_MSquareRows_penalty.2.1 92 = .ok (.iconst 1, 1) := by decide +kernel
theorem J_MSquareRows_penalty_d93 : decode J_MSquareRows_penalty.2.1 93 = .ok (.isub, 1) := by decide +kernel
theorem J_MSquareRows_penalty_d94 : decode J_MSquareRows_penalty.2.1 94 = .ok (.iconst 0, 1) := by decide +kernel
theorem J_MSquareRows_penalty_d95 : decode J_MSquareRows_penalty.2.1 95 = .ok (.invokevirtual 206, 3) := by decide +kernel
theorem J_MSquareRows_penalty_d98 : decode J_MSquareRows_penalty.2.1 98 = .ok (.iadd, 1) := by decide +kernel
theorem J_MSquareRows_penalty_d99 : decode J_MSquareRows_penalty.2.1 99 = .ok (.istore 5, 2) := by decide +kernel
theorem J_MSquareRows_penalty_d101 : decode J_MSquareRows_penalty.2.1 101 = .ok (.iload 5, 2) := by decide +kernel
theorem J_MSquareRows_penalty_d103 : decode J_MSquareRows_penalty.2.1 103 = .ok (.ifCond .eq 9, 3) := by decide +kernel
theorem J_MSquareRows_penalty_d106 : decode J_MSquareRows_penalty.2.1 106 = .ok (.iload 5, 2) := by decide +kernel
theorem J_MSquareRows_penalty_d108 : decode J_MSquareRows_penalty.2.1 108 = .ok (.iconst 4, 1) := by decide +kernel
theorem J_MSquareRows_penalty_d109 : decode J_MSquareRows_penalty.2.1 109 = .ok (.if_icmp .ne 9, 3) := by decide +kernel
theorem J_MSquareRows_penalty_d112 : decode J_MSquareRows_penalty.2.1 112 = .ok (.iload_n 1, 1) := by decide +kernel
theorem J_MSquareRows_penalty_d113 : decode J_MSquareRows_penalty.2.1 113 = .ok (.iconst 3, 1) := by decide +kernel
theorem J_MSquareRows_penalty_d114 : decode J_MSquareRows_penalty.2.1 114 = .ok (.iadd, 1) := by decide +kernel
theorem J_MSquareRows_penalty_d115 : decode J_MSquareRows_penalty.2.1 115 = .ok (.goto 4, 3) := by decide +kernel
theorem J_MSquareRows_penalty_d118 : decode J_MSquareRows_penalty.2.1 118 = .ok (.iload_n 1, 1) := by decide +kernel
theorem J_MSquareRows_penalty_d119 : decode J_MSquareRows_penalty.2.1 119 = .ok (.istore_n 1, 1) := by decide +kernel
theorem J_MSquareRows_penalty_d120 : decode J_MSquareRows_penalty.2.1 120 = .ok (.iinc 4 1, 3) := by decide +kernel
theorem J_MSquareRows_penalty_d123 : decode J_MSquareRows_penalty.2.1 123 = .ok (.goto (-96), 3) := by decide +kernel
theorem J_MSquareRows_penalty_d126 : decode J_MSquareRows_penalty.2.1 126 = .ok (.iinc 3 1, 3) := by decide +kernel
theorem J_MSquareRows_penalty_d129 : decode J_MSquareRows_penalty.2.1 129 = .ok (.goto (-113), 3) := by decide +kernel
theorem J_MSquareRows_penalty_d132 : decode J_MSquareRows_penalty.2.1 132 = .ok (.aload_n 0, 1) := by decide +kernel
theorem J_MSquareRows_penalty_d133 : decode J_MSquareRows_penalty.2.1 133 = .ok (.getfield 163, 3) := by decide +kernel
theorem J_MSquareRows_penalty_d136 : decode J_MSquareRows_penalty.2.1 136 = .ok (.aload_n 0, 1) := by decide +kernel
theorem J_MSquareRows_penalty_d137 : decode J_MSquareRows_penalty.2.1 137 = .ok (.getfield 163, 3) := by decide +kernel
theorem J_MSquareRows_penalty_d140 : decode J_MSquareRows_penalty.2.1 140 = .ok (.imul, 1) := by decide +kernel
theorem J_MSquareRows_penalty_d141 : decode J_MSquareRows_penalty.2.1 141 = .ok (.istore_n 3, 1) := by decide +kernel
theorem J_MSquareRows_penalty_d142 : decode J_MSquareRows_penalty.2.1 142 = .ok (.bipush 20, 2) := by decide +kernel
theorem J_MSquareRows_penalty_d144 : decode J_MSquareRows_penalty.2.1 144 = .ok (.iload_n 2, 1) := by decide +kernel
theorem J_MSquareRows_penalty_d145 : decode J_MSquareRows_penalty.2.1 145 = .ok (.imul, 1) := by decide +kernel
theorem J_MSquareRows_penalty_d146 : decode J_MSquareRows_penalty.2.1 146 = .ok (.bipush 10, 2) := by decide +kernel
theorem J_MSquareRows_penalty_d148 : decode J_MSquareRows_penalty.2.1 148 = .ok (.iload_n 3, 1) := by decide +kernel
theorem J_MSquareRows_penalty_d149 : decode J_MSquareRows_penalty.2.1 149 = .ok (.imul, 1) := by decide +kernel
theorem J_MSquareRows_penalty_d150 : decode J_MSquareRows_penalty.2.1 150 = .ok (.isub, 1) := by decide +kernel
theorem J_MSquareRows_penalty_d151 : decode J_MSquareRows_penalty.2.1 151 = .ok (.istore 4, 2) := by decide +kernel
theorem J_MSquareRows_penalty_d153 : decode J_MSquareRows_penalty.2.1 153 = .ok (.iload_n 1, 1) := by decide +kernel
theorem J_MSquareRows_penalty_d154 : decode J_MSquareRows_penalty.2.1 154 = .ok (.bipush 10, 2) := by decide +kernel
theorem J_MSquareRows_penalty_d156 : decode J_MSquareRows_penalty.2.1 156 = .ok (.iload 4, 2) := by decide +kernel
theorem J_MSquareRows_penalty_d158 : decode J_MSquareRows_penalty.2.1 158 = .ok (.ifCond .ge 9, 3) := by decide +kernel
theorem J_MSquareRows_penalty_d161 : decode J_MSquareRows_penalty.2.1 161 = .ok (.iload 4, 2) := by decide +kernel
theorem J_MSquareRows_penalty_d163 : decode J_MSquareRows_penalty.2.1 163 = .ok (.ineg, 1) := by decide +kernel
theorem J_MSquareRows_penalty_d164 : decode J_MSquareRows_penalty.2.1 164 = .ok (.goto 5, 3) := by decide +kernel
theorem J_MSquareRows_penalty_d167 : decode J_MSquareRows_penalty.2.1 167 = .ok (.iload 4, 2) := by decide +kernel
theorem J_MSquareRows_penalty_d169 : decode J_MSquareRows_penalty.2.1 169 = .ok (.iload_n 3, 1) := by decide +kernel
theorem J_MSquareRows_penalty_d170 : decode J_MSquareRows_penalty.2.1 170 = .ok (.idiv, 1) := by decide +kernel
theorem J_MSquareRows_penalty_d171 : decode J_MSquareRows_penalty.2.1 171 = .ok (.imul, 1) := by decide +kernel
theorem J_MSquareRows_penalty_d172 : decode J_MSquareRows_penalty.2.1 172 = .ok (.iadd, 1) := by decide +kernel
theorem J_MSquareRows_penalty_d173 : decode J_MSquareRows_penalty.2.1 173 = .ok (.ireturn, 1) := by decide +kernel
theorem f_MSquareRows_penalty_ok {L : Nat} {xs : Nat → Int32} {dep : Nat} {w : Bool} {M : im_M} {Q : Int32 → Prop} (hM : lw_S w M) (h : ed (f_MSquareRows_penalty M) Q) : ia (tb_G L xs) (dep + 2) J_MSquareRows_penalty (rpI M Q) (0, lv_args 0 [.ref 108], [], M) := by
  have hS : im_St (tb_G L xs) (dep + 2) J_MSquareRows_penalty (ia (tb_G L xs) (dep + 2) J_MSquareRows_penalty (rpI M Q)) := ia_St
  unfold f_MSquareRows_penalty at h
  have l0 : im_lk (lv_args 0 [.ref 108]) 0 = some (.ref 108) := rfl
  refine iq_aload_n hS 1 J_MSquareRows_penalty_d0 l0 rfl ?_
  refine iq_iconst hS 2 J_MSquareRows_penalty_d1 (v := 0) (by decide +kernel) rfl ?_
  obtain ⟨Q1, hQ1, h⟩ := bd1_ed h
  refine iq_cpI hS 5 J_MSquareRows_penalty_d2 rfl (pr_inst (vs := [_]) lc_16_210 lT_425 rfl rfl (by decide) (by decide) rfl (Nat.le_of_ble_eq_true rfl) (Nat.le_of_ble_eq_true rfl) (fun _ => Or.inl (pr_b (ka_108 hM) (by decide) rfl))) (f_MSquareRows_lines_ok (dep := dep + 0) hM h) rfl ?_
  intro x1 h
  replace h := hQ1 _ h
  refine iq_aload_n hS 6 J_MSquareRows_penalty_d5 l0 rfl ?_
  refine iq_iconst hS 7 J_MSquareRows_penalty_d6 (v := 1) (by decide +kernel) rfl ?_
  obtain ⟨Q2, hQ2, h⟩ := bd1_ed h
  refine iq_cpI hS 10 J_MSquareRows_penalty_d7 rfl (pr_inst (vs := [_]) lc_16_210 lT_425 rfl rfl (by decide) (by decide) rfl (Nat.le_of_ble_eq_true rfl) (Nat.le_of_ble_eq_true rfl) (fun _ => Or.inl (pr_b (ka_108 hM) (by decide) rfl))) (f_MSquareRows_lines_ok (dep := dep + 0) hM h) rfl ?_
  intro x2 h
  replace h := hQ2 _ h
  refine iq_iadd hS 11 J_MSquareRows_penalty_d10 rfl ?_
  refine iq_istore_n hS 12 J_MSquareRows_penalty_d11 (by decide) rfl ?_
  refine iq_iconst hS 13 J_MSquareRows_penalty_d12 (v := 0) (by decide +kernel) rfl ?_
  refine iq_istore_n hS 14 J_MSquareRows_penalty_d13 (by decide) rfl ?_
  refine iq_iconst hS 15 J_MSquareRows_penalty_d14 (v := 0) (by decide +kernel) rfl ?_
  refine iq_istore_n hS 16 J_MSquareRows_penalty_d15 (by decide) rfl ?_
  obtain ⟨Q3, hQ3, h⟩ := bd2_ed h
  have K3 : ∀ (y4 : Int32) (y5 : Int32) (L' : List (Nat × Value)), im_lk L' 0 = some (.ref 108) → im_lk L' 1 = some (.int y4) → im_lk L' 2 = some (.int y5) → Q3 (y4, y5) → ia (tb_G L xs) (dep + 2) J_MSquareRows_penalty (rpI M Q) (132, L', [], M) := by
    intro y4 y5 L' l6 l7 l8 h
    replace h := hQ3 _ _ h
    refine iq_aload_n hS 133 J_MSquareRows_penalty_d132 l6 rfl ?_
    refine iq_getI hS 136 J_MSquareRows_penalty_d133 lf_16_163 (Or.inl rfl) (ka_108 hM) rfl ?_
    refine iq_aload_n hS 137 J_MSquareRows_penalty_d136 l6 rfl ?_
    refine iq_getI hS 140 J_MSquareRows_penalty_d137 lf_16_163 (Or.inl rfl) (ka_108 hM) rfl ?_
    refine iq_imul hS 141 J_MSquareRows_penalty_d140 rfl ?_
    refine iq_istore_n hS 142 J_MSquareRows_penalty_d141 (by decide) rfl ?_
    refine iq_bipush hS 144 J_MSquareRows_penalty_d142 (v := 20) (by decide +kernel) rfl ?_
    refine iq_iload_n hS 145 J_MSquareRows_penalty_d144 (lk_1i l8 (by decide)) rfl ?_
    refine iq_imul hS 146 J_MSquareRows_penalty_d145 rfl ?_
    refine iq_bipush hS 148 J_MSquareRows_penalty_d146 (v := 10) (by decide +kernel) rfl ?_
    refine iq_iload_n hS 149 J_MSquareRows_penalty_d148 lk_1s rfl ?_
    refine iq_imul hS 150 J_MSquareRows_penalty_d149 rfl ?_
    refine iq_isub hS 151 J_MSquareRows_penalty_d150 rfl ?_
    refine iq_istore hS 153 J_MSquareRows_penalty_d151 (by decide) rfl ?_
    refine iq_iload_n hS 154 J_MSquareRows_penalty_d153 (lk_1i (lk_1i l7 (by decide)) (by decide)) rfl ?_
    refine iq_bipush hS 156 J_MSquareRows_penalty_d154 (v := 10) (by decide +kernel) rfl ?_
    refine iq_iload hS 158 J_MSquareRows_penalty_d156 lk_1s rfl ?_
    have J9 : ∀ (z10 : Int32) (L' : List (Nat × Value)), z10 = ((if 0 ≤ (((20 : Int32) * y5) - ((10 : Int32) * ((im_i M 108 8) * (im_i M 108 8)))) then (((20 : Int32) * y5) - ((10 : Int32) * ((im_i M 108 8) * (im_i M 108 8)))) else (-(((20 : Int32) * y5) - ((10 : Int32) * ((im_i M 108 8) * (im_i M 108 8)))))) : Int32) → im_lk L' 3 = some (.int ((im_i M 108 8) * (im_i M 108 8))) → ia (tb_G L xs) (dep + 2) J_MSquareRows_penalty (rpI M Q) (169, L', [.int z10, .int 10, .int y4], M) := by
      intro z10 L' e11 l12
      subst e11
      refine iq_iload_n hS 170 J_MSquareRows_penalty_d169 l12 rfl ?_
      obtain ⟨g170, h⟩ := ed_gd h
      refine iq_idiv hS 171 J_MSquareRows_penalty_d170 g170 rfl ?_
      refine iq_imul hS 172 J_MSquareRows_penalty_d171 rfl ?_
      refine iq_iadd hS 173 J_MSquareRows_penalty_d172 rfl ?_
      exact iq_iret J_MSquareRows_penalty_d173 rfl rfl ⟨_, rfl, rfl, ed_some h⟩
    refine iq_if_ge hS 161 J_MSquareRows_penalty_d158 (t := 167) rfl (fun q158 => ?_) rfl (fun q158 => ?_)
    · refine iq_iload hS 169 J_MSquareRows_penalty_d167 lk_1s rfl ?_
      exact J9 _ _ (by rw [if_pos q158]) (lk_1i lk_1s (by decide))
    · refine iq_iload hS 163 J_MSquareRows_penalty_d161 lk_1s rfl ?_
      refine iq_ineg hS 164 J_MSquareRows_penalty_d163 rfl ?_
      refine iq_goto hS J_MSquareRows_penalty_d164 (t := 169) rfl ?_
      exact J9 _ _ (by rw [if_neg q158]) (lk_1i lk_1s (by decide))
  obtain ⟨r3, hr3, hq3⟩ := h
  obtain ⟨n3, hn3⟩ := lp_n hr3
  have I3 : ∀ (n : Nat) (x13 : Int32) (x14 : Int32) (x15 : Int32) (L' : List (Nat × Value)), im_lk L' 0 = some (.ref 108) → im_lk L' 1 = some (.int x13) → im_lk L' 2 = some (.int x14) → im_lk L' 3 = some (.int x15) → lpn (uc3 (f_MSquareRows_penalty_L16 M)) n (x13, x14, x15) = some r3 → ia (tb_G L xs) (dep + 2) J_MSquareRows_penalty (rpI M Q) (16, L', [], M) := by
    intro n
    induction n with
    | zero => intro x13 x14 x15 L' l16 l17 l18 l19 hn; exact (lpn_0 hn).elim
    | succ n ih =>
      intro x13 x14 x15 L' l16 l17 l18 l19 hn
      have h := lpn_ed3 hn
      unfold f_MSquareRows_penalty_L16 at h
      refine iq_iload_n hS 17 J_MSquareRows_penalty_d16 l19 rfl ?_
      refine iq_aload_n hS 18 J_MSquareRows_penalty_d17 l16 rfl ?_
      refine iq_getI hS 21 J_MSquareRows_penalty_d18 lf_16_163 (Or.inl rfl) (ka_108 hM) rfl ?_
      refine iq_icmp_ge hS 24 J_MSquareRows_penalty_d21 (t := 132) rfl (fun q21 => ?_) rfl (fun q21 => ?_)
      · replace h := ed_pos q21 h
        exact K3 _ _ _ l16 l17 l18 (lq_r h hq3)
      · replace h := ed_neg q21 h
        refine iq_iconst hS 25 J_MSquareRows_penalty_d24 (v := 0) (by decide +kernel) rfl ?_
        refine iq_istore hS 27 J_MSquareRows_penalty_d25 (by decide) rfl ?_
        obtain ⟨Q20, hQ20, h⟩ := bd2_ed h
        have K20 : ∀ (y21 : Int32) (y22 : Int32) (L' : List (Nat × Value)), im_lk L' 0 = some (.ref 108) → im_lk L' 1 = some (.int y21) → im_lk L' 2 = some (.int y22) → im_lk L' 3 = some (.int x15) → Q20 (y21, y22) → ia (tb_G L xs) (dep + 2) J_MSquareRows_penalty (rpI M Q) (126, L', [], M) := by
          intro y21 y22 L' l23 l24 l25 l26 h
          replace h := hQ20 _ _ h
          refine iq_iincv hS 129 J_MSquareRows_penalty_d126 (c := 1) (by decide +kernel) l26 (by decide) rfl ?_
          refine iq_goto hS J_MSquareRows_penalty_d129 (t := 16) rfl ?_
          exact ih _ _ _ _ (lk_1r l23 (by decide)) (lk_1i l24 (by decide)) (lk_1i l25 (by decide)) lk_1s (lq_l h)
        obtain ⟨r20, hr20, hq20⟩ := h
        obtain ⟨n20, hn20⟩ := lp_n hr20
        have I20 : ∀ (n : Nat) (x27 : Int32) (x28 : Int32) (x29 : Int32) (L' : List (Nat × Value)), im_lk L' 0 = some (.ref 108) → im_lk L' 1 = some (.int x27) → im_lk L' 2 = some (.int x28) → im_lk L' 3 = some (.int x15) → im_lk L' 4 = some (.int x29) → lpn (uc3 (f_MSquareRows_penalty_L27 x15 M)) n (x27, x28, x29) = some r20 → ia (tb_G L xs) (dep + 2) J_MSquareRows_penalty (rpI M Q) (27, L', [], M) := by
          intro n
          induction n with
          | zero => intro x27 x28 x29 L' l30 l31 l32 l33 l34 hn; exact (lpn_0 hn).elim
          | succ n ih =>
            intro x27 x28 x29 L' l30 l31 l32 l33 l34 hn
            have h := lpn_ed3 hn
            unfold f_MSquareRows_penalty_L27 at h
            refine iq_iload hS 29 J_MSquareRows_penalty_d27 l34 rfl ?_
            refine iq_aload_n hS 30 J_MSquareRows_penalty_d29 l30 rfl ?_
            refine iq_getI hS 33 J_MSquareRows_penalty_d30 lf_16_163 (Or.inl rfl) (ka_108 hM) rfl ?_
            refine iq_icmp_ge hS 36 J_MSquareRows_penalty_d33 (t := 126) rfl (fun q33 => ?_) rfl (fun q33 => ?_)
            · replace h := ed_pos q33 h
              exact K20 _ _ _ l30 l31 l32 l33 (lq_r h hq20)
            · replace h := ed_neg q33 h
              refine iq_iload_n hS 37 J_MSquareRows_penalty_d36 l32 rfl ?_
              refine iq_aload_n hS 38 J_MSquareRows_penalty_d37 l30 rfl ?_
              refine iq_iload hS 40 J_MSquareRows_penalty_d38 l34 rfl ?_
              refine iq_iload_n hS 41 J_MSquareRows_penalty_d40 l33 rfl ?_
              refine iq_iconst hS 42 J_MSquareRows_penalty_d41 (v := 0) (by decide +kernel) rfl ?_
              obtain ⟨Q35, hQ35, h⟩ := bd1_ed h
              refine iq_cpI hS 45 J_MSquareRows_penalty_d42 rfl (pr_inst (vs := [_, _, _]) lc_16_206 lT_426 rfl rfl (by decide) (by decide) rfl (Nat.le_of_ble_eq_true rfl) (Nat.le_of_ble_eq_true rfl) (fun _ => Or.inl (pr_b (ka_108 hM) (by decide) rfl))) (f_MSquareRows_module_ok (dep := dep + 1) hM h) rfl ?_
              intro x35 h
              replace h := hQ35 _ h
              refine iq_iadd hS 46 J_MSquareRows_penalty_d45 rfl ?_
              refine iq_istore_n hS 47 J_MSquareRows_penalty_d46 (by decide) rfl ?_
              refine iq_iload hS 49 J_MSquareRows_penalty_d47 (lk_1i l34 (by decide)) rfl ?_
              obtain ⟨Q36, hQ36, h⟩ := bd1_ed h
              have J36 : ∀ (y48 : Int32) (L' : List (Nat × Value)), im_lk L' 0 = some (.ref 108) → im_lk L' 1 = some (.int y48) → im_lk L' 2 = some (.int (x28 + x35)) → im_lk L' 3 = some (.int x15) → im_lk L' 4 = some (.int x29) → Q36 y48 → ia (tb_G L xs) (dep + 2) J_MSquareRows_penalty (rpI M Q) (120, L', [], M) := by
                intro y48 L' l49 l50 l51 l52 l53 h
                replace h := hQ36 _ h
                refine iq_iincv hS 123 J_MSquareRows_penalty_d120 (c := 1) (by decide +kernel) l53 (by decide) rfl ?_
                refine iq_goto hS J_MSquareRows_penalty_d123 (t := 27) rfl ?_
                exact ih _ _ _ _ (lk_1r l49 (by decide)) (lk_1i l50 (by decide)) (lk_1i l51 (by decide)) (lk_1i l52 (by decide)) lk_1s (lq_l h)
              refine iq_if_le hS 52 J_MSquareRows_penalty_d49 (t := 120) rfl (fun q49 => ?_) rfl (fun q49 => ?_)
              · replace h := ed_pos q49 h
                exact J36 _ _ (lk_1r l30 (by decide)) (lk_1i l31 (by decide)) lk_1s (lk_1i l33 (by decide)) (lk_1i l34 (by decide)) (ed_some h)
              · replace h := ed_neg q49 h
                refine iq_iload_n hS 53 J_MSquareRows_penalty_d52 (lk_1i l33 (by decide)) rfl ?_
                refine iq_if_le hS 56 J_MSquareRows_penalty_d53 (t := 120) rfl (fun q53 => ?_) rfl (fun q53 => ?_)
                · replace h := ed_pos q53 h
                  exact J36 _ _ (lk_1r l30 (by decide)) (lk_1i l31 (by decide)) lk_1s (lk_1i l33 (by decide)) (lk_1i l34 (by decide)) (ed_some h)
                · replace h := ed_neg q53 h
                  refine iq_aload_n hS 57 J_MSquareRows_penalty_d56 (lk_1r l30 (by decide)) rfl ?_
                  refine iq_iload hS 59 J_MSquareRows_penalty_d57 (lk_1i l34 (by decide)) rfl ?_
                  refine iq_iload_n hS 60 J_MSquareRows_penalty_d59 (lk_1i l33 (by decide)) rfl ?_
                  refine iq_iconst hS 61 J_MSquareRows_penalty_d60 (v := 0) (by decide +kernel) rfl ?_
                  obtain ⟨Q37, hQ37, h⟩ := bd1_ed h
                  refine iq_cpI hS 64 J_MSquareRows_penalty_d61 rfl (pr_inst (vs := [_, _, _]) lc_16_206 lT_426 rfl rfl (by decide) (by decide) rfl (Nat.le_of_ble_eq_true rfl) (Nat.le_of_ble_eq_true rfl) (fun _ => Or.inl (pr_b (ka_108 hM) (by decide) rfl))) (f_MSquareRows_module_ok (dep := dep + 1) hM h) rfl ?_
                  intro x37 h
                  replace h := hQ37 _ h
                  refine iq_aload_n hS 65 J_MSquareRows_penalty_d64 (lk_1r l30 (by decide)) rfl ?_
                  refine iq_iload hS 67 J_MSquareRows_penalty_d65 (lk_1i l34 (by decide)) rfl ?_
                  refine iq_iconst hS 68 J_MSquareRows_penalty_d67 (v := 1) (by decide +kernel) rfl ?_
                  refine iq_isub hS 69 J_MSquareRows_penalty_d68 rfl ?_
                  refine iq_iload_n hS 70 J_MSquareRows_penalty_d69 (lk_1i l33 (by decide)) rfl ?_
                  refine iq_iconst hS 71 J_MSquareRows_penalty_d70 (v := 0) (by decide +kernel) rfl ?_
                  obtain ⟨Q38, hQ38, h⟩ := bd1_ed h
                  refine iq_cpI hS 74 J_MSquareRows_penalty_d71 rfl (pr_inst (vs := [_, _, _]) lc_16_206 lT_426 rfl rfl (by decide) (by decide) rfl (Nat.le_of_ble_eq_true rfl) (Nat.le_of_ble_eq_true rfl) (fun _ => Or.inl (pr_b (ka_108 hM) (by decide) rfl))) (f_MSquareRows_module_ok (dep := dep + 1) hM h) rfl ?_
                  intro x38 h
                  replace h := hQ38 _ h
                  refine iq_iadd hS 75 J_MSquareRows_penalty_d74 rfl ?_
                  refine iq_aload_n hS 76 J_MSquareRows_penalty_d75 (lk_1r l30 (by decide)) rfl ?_
                  refine iq_iload hS 78 J_MSquareRows_penalty_d76 (lk_1i l34 (by decide)) rfl ?_
                  refine iq_iload_n hS 79 J_MSquareRows_penalty_d78 (lk_1i l33 (by decide)) rfl ?_
                  refine iq_iconst hS 80 J_MSquareRows_penalty_d79 (v := 1) (by decide +kernel) rfl ?_
                  refine iq_isub hS 81 J_MSquareRows_penalty_d80 rfl ?_
                  refine iq_iconst hS 82 J_MSquareRows_penalty_d81 (v := 0) (by decide +kernel) rfl ?_
                  obtain ⟨Q39, hQ39, h⟩ := bd1_ed h
                  refine iq_cpI hS 85 J_MSquareRows_penalty_d82 rfl (pr_inst (vs := [_, _, _]) lc_16_206 lT_426 rfl rfl (by decide) (by decide) rfl (Nat.le_of_ble_eq_true rfl) (Nat.le_of_ble_eq_true rfl) (fun _ => Or.inl (pr_b (ka_108 hM) (by decide) rfl))) (f_MSquareRows_module_ok (dep := dep + 1) hM h) rfl ?_
                  intro x39 h
                  replace h := hQ39 _ h
                  refine iq_iadd hS 86 J_MSquareRows_penalty_d85 rfl ?_
                  refine iq_aload_n hS 87 J_MSquareRows_penalty_d86 (lk_1r l30 (by decide)) rfl ?_
                  refine iq_iload hS 89 J_MSquareRows_penalty_d87 (lk_1i l34 (by decide)) rfl ?_
                  refine iq_iconst hS 90 J_MSquareRows_penalty_d89 (v := 1) (by decide +kernel) rfl ?_
                  refine iq_isub hS 91 J_MSquareRows_penalty_d90 rfl ?_
                  refine iq_iload_n hS 92 J_MSquareRows_penalty_d91 (lk_1i l33 (by decide)) rfl ?_
                  refine iq_iconst hS 93 J_MSquareRows_penalty_d92 (v := 1) (by decide +kernel) rfl ?_
                  refine iq_isub hS 94 J_MSquareRows_penalty_d93 rfl ?_
                  refine iq_iconst hS 95 J_MSquareRows_penalty_d94 (v := 0) (by decide +kernel) rfl ?_
                  obtain ⟨Q40, hQ40, h⟩ := bd1_ed h
                  refine iq_cpI hS 98 J_MSquareRows_penalty_d95 rfl (pr_inst (vs := [_, _, _]) lc_16_206 lT_426 rfl rfl (by decide) (by decide) rfl (Nat.le_of_ble_eq_true rfl) (Nat.le_of_ble_eq_true rfl) (fun _ => Or.inl (pr_b (ka_108 hM) (by decide) rfl))) (f_MSquareRows_module_ok (dep := dep + 1) hM h) rfl ?_
                  intro x40 h
                  replace h := hQ40 _ h
                  refine iq_iadd hS 99 J_MSquareRows_penalty_d98 rfl ?_
                  refine iq_istore hS 101 J_MSquareRows_penalty_d99 (by decide) rfl ?_
                  refine iq_iload hS 103 J_MSquareRows_penalty_d101 lk_1s rfl ?_
                  have J41 : ∀ (z42 : Int32) (L' : List (Nat × Value)), z42 = ((if (((x37 + x38) + x39) + x40) = 0 then (x27 + 3) else (if ¬ (((x37 + x38) + x39) + x40) = 4 then x27 else (x27 + 3))) : Int32) → im_lk L' 0 = some (.ref 108) → im_lk L' 2 = some (.int (x28 + x35)) → im_lk L' 3 = some (.int x15) → im_lk L' 4 = some (.int x29) → ia (tb_G L xs) (dep + 2) J_MSquareRows_penalty (rpI M Q) (119, L', [.int z42], M) := by
                    intro z42 L' e43 l44 l45 l46 l47
                    subst e43
                    refine iq_istore_n hS 120 J_MSquareRows_penalty_d119 (by decide) rfl ?_
                    exact J36 _ _ (lk_1r l44 (by decide)) lk_1s (lk_1i l45 (by decide)) (lk_1i l46 (by decide)) (lk_1i l47 (by decide)) (ed_some h)
                  refine iq_if_eq hS 106 J_MSquareRows_penalty_d103 (t := 112) rfl (fun q103 => ?_) rfl (fun q103 => ?_)
                  · refine iq_iload_n hS 113 J_MSquareRows_penalty_d112 (lk_1i (lk_1i l31 (by decide)) (by decide)) rfl ?_
                    refine iq_iconst hS 114 J_MSquareRows_penalty_d113 (v := 3) (by decide +kernel) rfl ?_
                    refine iq_iadd hS 115 J_MSquareRows_penalty_d114 rfl ?_
                    refine iq_goto hS J_MSquareRows_penalty_d115 (t := 119) rfl ?_
                    exact J41 _ _ (by rw [if_pos q103]) (lk_1r (lk_1r l30 (by decide)) (by decide)) (lk_1i lk_1s (by decide)) (lk_1i (lk_1i l33 (by decide)) (by decide)) (lk_1i (lk_1i l34 (by decide)) (by decide))
                  · refine iq_iload hS 108 J_MSquareRows_penalty_d106 lk_1s rfl ?_
                    refine iq_iconst hS 109 J_MSquareRows_penalty_d108 (v := 4) (by decide +kernel) rfl ?_
                    refine iq_icmp_ne hS 112 J_MSquareRows_penalty_d109 (t := 118) rfl (fun q109 => ?_) rfl (fun q109 => ?_)
                    · refine iq_iload_n hS 119 J_MSquareRows_penalty_d118 (lk_1i (lk_1i l31 (by decide)) (by decide)) rfl ?_
                      exact J41 _ _ (by rw [if_neg q103, if_pos q109]) (lk_1r (lk_1r l30 (by decide)) (by decide)) (lk_1i lk_1s (by decide)) (lk_1i (lk_1i l33 (by decide)) (by decide)) (lk_1i (lk_1i l34 (by decide)) (by decide))
                    · refine iq_iload_n hS 113 J_MSquareRows_penalty_d112 (lk_1i (lk_1i l31 (by decide)) (by decide)) rfl ?_
                      refine iq_iconst hS 114 J_MSquareRows_penalty_d113 (v := 3) (by decide +kernel) rfl ?_
                      refine iq_iadd hS 115 J_MSquareRows_penalty_d114 rfl ?_
                      refine iq_goto hS J_MSquareRows_penalty_d115 (t := 119) rfl ?_
                      exact J41 _ _ (by rw [if_neg q103, if_neg q109]) (lk_1r (lk_1r l30 (by decide)) (by decide)) (lk_1i lk_1s (by decide)) (lk_1i (lk_1i l33 (by decide)) (by decide)) (lk_1i (lk_1i l34 (by decide)) (by decide))
        exact I20 n20 _ _ _ _ (lk_1r l16 (by decide)) (lk_1i l17 (by decide)) (lk_1i l18 (by decide)) (lk_1i l19 (by decide)) lk_1s hn20
  exact I3 n3 _ _ _ _ (lk_1r (lk_1r (lk_1r l0 (by decide)) (by decide)) (by decide)) (lk_1i (lk_1i lk_1s (by decide)) (by decide)) (lk_1i lk_1s (by decide)) lk_1s hn3
noncomputable def f_MSquareRows_make_L105 (v18 : Int32) (v19 : Int32) (v20 : Int32) (v21 : Int32) (x22 : Int32) (x23 : Int32) (x24 : Int32) (M25 : im_M) : Option ((Int32 × Int32 × Int32 × im_M) ⊕ (Int32 × Int32 × im_M)) := if 8 ≤ x24 then some (.inr (x22, x23, M25)) else bd3 (jn0 (fun (_ : Unit) => bd1 (f_MSquareRows_formNumber v18 x24 M25) fun (x36 : Int32) => bd1 (f_MSquareRows_layForm x36 M25) fun (M37 : im_M) => bd1 (f_MSquareRows_goThrough x24 0 v21 M37) fun (M38 : im_M) => bd1 (f_MSquareRows_penalty M38) fun (x39 : Int32) => jn0 (fun (_ : Unit) => some (x24, x39, M38)) fun k40 => if x23 < 0 then k40 () else if x23 ≤ x39 then some (x22, x23, M38) else k40 ()) fun k27 => if v19 < 0 then k27 () else if ¬ v19 = x24 then some (x22, x23, M25) else k27 ()) fun (y48 : Int32) (y49 : Int32) (M50 : im_M) => some (.inl (y48, y49, (x24 + 1), M50))
noncomputable def f_MSquareRows_make (p0 : Int32) (p1 : Int32) (p2 : Int32) (M : im_M) : Option (Int32 × im_M) := bd1 (jn0 (fun (_ : Unit) => some 1) fun k2 => if p0 < 0 then k2 () else if 3 < p0 then k2 () else if p1 < 0 then k2 () else if 40 < p1 then k2 () else if p2 < (-1) then k2 () else if p2 ≤ 7 then some 0 else k2 ()) fun (y7 : Int32) => if (im_i (im_setI M 108 0 y7) 108 0) ≤ 0 then bd2 (f_MSquareRows_versionFor p0 p1 (im_setI M 108 0 y7)) fun (x12 : Int32) (M12 : im_M) => if 0 ≤ x12 then bd1 (f_MSquareRows_layAll x12 p0 M12) fun (M13 : im_M) => bd1 (f_MSquareRows_check x12 p0 M13) fun (M14 : im_M) => bd1 (f_MSquareRows_frame x12 (im_setI M14 108 7 x12)) fun (M15 : im_M) => bd1 (f_MSquareRows_allCodewords x12 M15) fun (x16 : Int32) => bd3 (lp (uc4 (f_MSquareRows_make_L105 p0 p2 x12 x16)) (p2, (-1), 0, M15)) fun (y59 : Int32) (y60 : Int32) (M61 : im_M) => bd1 (f_MSquareRows_formNumber p0 y59 M61) fun (x62 : Int32) => bd1 (f_MSquareRows_layForm x62 M61) fun (M63 : im_M) => bd1 (f_MSquareRows_goThrough y59 0 x16 M63) fun (M64 : im_M) => gd (inb 0 6) <| gd (inb 1 6) <| gd (inb 2 6) <| gd (inb 3 6) <| gd (inb 4 6) <| gd (inb 5 6) <| some (x12, (im_setI (im_setI (im_setI (im_setI (im_setI (im_setI (im_setI M64 108 9 1) 114 (Int32.toNatClampNeg 0) x12) 114 (Int32.toNatClampNeg 1) p0) 114 (Int32.toNatClampNeg 2) y59) 114 (Int32.toNatClampNeg 3) y60) 114 (Int32.toNatClampNeg 4) (im_i (im_setI (im_setI (im_setI (im_setI (im_setI M64 108 9 1) 114 (Int32.toNatClampNeg 0) x12) 114 (Int32.toNatClampNeg 1) p0) 114 (Int32.toNatClampNeg 2) y59) 114 (Int32.toNatClampNeg 3) y60) 108 13)) 114 (Int32.toNatClampNeg 5) (im_i (im_setI (im_setI (im_setI (im_setI (im_setI (im_setI M64 108 9 1) 114 (Int32.toNatClampNeg 0) x12) 114 (Int32.toNatClampNeg 1) p0) 114 (Int32.toNatClampNeg 2) y59) 114 (Int32.toNatClampNeg 3) y60) 114 (Int32.toNatClampNeg 4) (im_i (im_setI (im_setI (im_setI (im_setI (im_setI M64 108 9 1) 114 (Int32.toNatClampNeg 0) x12) 114 (Int32.toNatClampNeg 1) p0) 114 (Int32.toNatClampNeg 2) y59) 114 (Int32.toNatClampNeg 3) y60) 108 13)) 108 16))) else some ((-1), M12) else some (0, (im_setI M 108 0 y7))
theorem J_MSquareRows_make_d0 : decode J_MSquareRows_make.2.1 0 = .ok (.aload_n 0, 1) := by decide +kernel
theorem J_MSquareRows_make_d1 : decode J_MSquareRows_make.2.1 1 = .ok (.iload_n 1, 1) := by decide +kernel
theorem J_MSquareRows_make_d2 : decode J_MSquareRows_make.2.1 2 = .ok (.ifCond .lt 29, 3) := by decide +kernel
theorem J_MSquareRows_make_d5 : decode J_MSquareRows_make.2.1 5 = .ok (.iload_n 1, 1) := by decide +kernel
theorem J_MSquareRows_make_d6 : decode J_MSquareRows_make.2.1 6 = .ok (.iconst 3, 1) := by decide +kernel
theorem J_MSquareRows_make_d7 : decode J_MSquareRows_make.2.1 7 = .ok (.if_icmp .gt 24, 3) := by decide +kernel
theorem J_MSquareRows_make_d10 : decode J_MSquareRows_make.2.1 10 = .ok (.iload_n 2, 1) := by decide +kernel
theorem J_MSquareRows_make_d11 : decode J_MSquareRows_make.2.1 11 = .ok (.ifCond .lt 20, 3) := by decide +kernel
theorem J_MSquareRows_make_d14 : decode J_MSquareRows_make.2.1 14 = .ok (.iload_n 2, 1) := by decide +kernel
theorem J_MSquareRows_make_d15 : decode J_MSquareRows_make.2.1 15 = .ok (.bipush 40, 2) := by decide +kernel
theorem J_MSquareRows_make_d17 : decode J_MSquareRows_make.2.1 17 = .ok (.if_icmp .gt 14, 3) := by decide +kernel
theorem J_MSquareRows_make_d20 : decode J_MSquareRows_make.2.1 20 = .ok (.iload_n 3, 1) := by decide +kernel
theorem J_MSquareRows_make_d21 : decode J_MSquareRows_make.2.1 21 = .ok (.iconst (-1), 1) := by decide +kernel
theorem J_MSquareRows_make_d22 : decode J_MSquareRows_make.2.1 22 = .ok (.if_icmp .lt 9, 3) := by decide +kernel
theorem J_MSquareRows_make_d25 : decode J_MSquareRows_make.2.1 25 = .ok (.iload_n 3, 1) := by decide +kernel
theorem J_MSquareRows_make_d26 : decode J_MSquareRows_make.2.1 26 = .ok (.bipush 7, 2) := by decide +kernel
theorem J_MSquareRows_make_d28 : decode J_MSquareRows_make.2.1 28 = .ok (.if_icmp .le 7, 3) := by decide +kernel
theorem J_MSquareRows_make_d31 : decode J_MSquareRows_make.2.1 31 = .ok (.iconst 1, 1) := by decide +kernel
theorem J_MSquareRows_make_d32 : decode J_MSquareRows_make.2.1 32 = .ok (.goto 4, 3) := by decide +kernel
theorem J_MSquareRows_make_d35 : decode J_MSquareRows_make.2.1 35 = .ok (.iconst 0, 1) := by decide +kernel
theorem J_MSquareRows_make_d36 : decode J_MSquareRows_make.2.1 36 = .ok (.putfield 73, 3) := by decide +kernel
theorem J_MSquareRows_make_d39 : decode J_MSquareRows_make.2.1 39 = .ok (.aload_n 0, 1) := by decide +kernel
theorem J_MSquareRows_make_d40 : decode J_MSquareRows_make.2.1 40 = .ok (.getfield 73, 3) := by decide +kernel
theorem J_MSquareRows_make_d43 : decode J_MSquareRows_make.2.1 43 = .ok (.ifCond .le 5, 3) := by decide +kernel
theorem J_MSquareRows_make_d46 : decode J_MSquareRows_make.2.1 46 = .ok (.iconst 0, 1) := by decide +kernel
theorem J_MSquareRows_make_d47 : decode J_MSquareRows_make.2.1 47 = .ok (.ireturn, 1) := by decide +kernel
theorem J_MSquareRows_make_d48 : decode J_MSquareRows_make.2.1 48 = .ok (.aload_n 0, 1) := by decide +kernel
theorem J_MSquareRows_make_d49 : decode J_MSquareRows_make.2.1 49 = .ok (.iload_n 1, 1) := by decide +kernel
theorem J_MSquareRows_make_d50 : decode J_MSquareRows_make.2.1 50 = .ok (.iload_n 2, 1) := by decide +kernel
theorem J_MSquareRows_make_d51 : decode J_MSquareRows_make.2.1 51 = .ok (.invokevirtual 220, 3) := by decide +kernel
theorem J_MSquareRows_make_d54 : decode J_MSquareRows_make.2.1 54 = .ok (.istore 4, 2) := by decide +kernel
theorem J_MSquareRows_make_d56 : decode J_MSquareRows_make.2.1 56 = .ok (.iload 4, 2) := by decide +kernel
theorem J_MSquareRows_make_d58 : decode J_MSquareRows_make.2.1 58 = .ok (.ifCond .ge 5, 3) := by decide +kernel
theorem J_MSquareRows_make_d61 : decode J_MSquareRows_make.2.1 61 = .ok (.iconst (-1), 1) := by decide +kernel
theorem J_MSquareRows_make_d62 : decode J_MSquareRows_make.2.1 62 = .ok (.ireturn, 1) := by decide +kernel
theorem J_MSquareRows_make_d63 : decode J_MSquareRows_make.2.1 63 = .ok (.aload_n 0, 1) := by decide +kernel
theorem J_MSquareRows_make_d64 : decode J_MSquareRows_make.2.1 64 = .ok (.iload 4, 2) := by decide +kernel
theorem J_MSquareRows_make_d66 : decode J_MSquareRows_make.2.1 66 = .ok (.iload_n 1, 1) := by decide +kernel
theorem J_MSquareRows_make_d67 : decode J_MSquareRows_make.2.1 67 = .ok (.invokevirtual 223, 3) := by decide +kernel
theorem J_MSquareRows_make_d70 : decode J_MSquareRows_make.2.1 70 = .ok (.aload_n 0, 1) := by decide +kernel
theorem J_MSquareRows_make_d71 : decode J_MSquareRows_make.2.1 71 = .ok (.iload 4, 2) := by decide +kernel
theorem J_MSquareRows_make_d73 : decode J_MSquareRows_make.2.1 73 = .ok (.iload_n 1, 1) := by decide +kernel
theorem J_MSquareRows_make_d74 : decode J_MSquareRows_make.2.1 74 = .ok (.invokevirtual 226, 3) := by decide +kernel
theorem J_MSquareRows_make_d77 : decode J_MSquareRows_make.2.1 77 = .ok (.aload_n 0, 1) := by decide +kernel
theorem J_MSquareRows_make_d78 : decode J_MSquareRows_make.2.1 78 = .ok (.iload 4, 2) := by decide +kernel
theorem J_MSquareRows_make_d80 : decode J_MSquareRows_make.2.1 80 = .ok (.putfield 229, 3) := by decide +kernel
theorem J_MSquareRows_make_d83 : decode J_MSquareRows_make.2.1 83 = .ok (.aload_n 0, 1) := by decide +kernel
theorem J_MSquareRows_make_d84 : decode J_MSquareRows_make.2.1 84 = .ok (.iload 4, 2) := by decide +kernel
theorem J_MSquareRows_make_d86 : decode J_MSquareRows_make.2.1 86 = .ok (.invokevirtual 232, 3) := by decide +kernel
theorem J_MSquareRows_make_d89 : decode J_MSquareRows_make.2.1 89 = .ok (.iload 4, 2) := by decide +kernel
theorem J_MSquareRows_make_d91 : decode J_MSquareRows_make.2.1 91 = .ok (.invokestatic 82, 3) := by decide +kernel
theorem J_MSquareRows_make_d94 : decode J_MSquareRows_make.2.1 94 = .ok (.istore 5, 2) := by decide +kernel
theorem J_MSquareRows_make_d96 : decode J_MSquareRows_make.2.1 96 = .ok (.iload_n 3, 1) := by decide +kernel
theorem J_MSquareRows_make_d97 : decode J_MSquareRows_make.2.1 97 = .ok (.istore 6, 2) := by decide +kernel
theorem J_MSquareRows_make_d99 : decode J_MSquareRows_make.2.1 99 = .ok (.iconst (-1), 1) := by decide +kernel
theorem J_MSquareRows_make_d100 : decode J_MSquareRows_make.2.1 100 = .ok (.istore 7, 2) := by decide +kernel
theorem J_MSquareRows_make_d102 : decode J_MSquareRows_make.2.1 102 = .ok (.iconst 0, 1) := by decide +kernel
theorem J_MSquareRows_make_d103 : decode J_MSquareRows_make.2.1 103 = .ok (.istore 8, 2) := by decide +kernel
theorem J_MSquareRows_make_d105 : decode J_MSquareRows_make.2.1 105 = .ok (.iload 8, 2) := by decide +kernel
theorem J_MSquareRows_make_d107 : decode J_MSquareRows_make.2.1 107 = .ok (.bipush 8, 2) := by decide +kernel
theorem J_MSquareRows_make_d109 : decode J_MSquareRows_make.2.1 109 = .ok (.if_icmp .ge 64, 3) := by decide +kernel
theorem J_MSquareRows_make_d112 : decode J_MSquareRows_make.2.1 112 = .ok (.iload_n 3, 1) := by decide +kernel
theorem J_MSquareRows_make_d113 : decode J_MSquareRows_make.2.1 113 = .ok (.ifCond .lt 9, 3) := by decide +kernel
theorem J_MSquareRows_make_d116 : decode J_MSquareRows_make.2.1 116 = .ok (.iload_n 3, 1) := by decide +kernel
theorem J_MSquareRows_make_d117 : decode J_MSquareRows_make.2.1 117 = .ok (.iload 8, 2) := by decide +kernel
theorem J_MSquareRows_make_d119 : decode J_MSquareRows_make.2.1 119 = .ok (.if_icmp .ne 48, 3) := by decide +kernel
theorem J_MSquareRows_make_d122 : decode J_MSquareRows_make.2.1 122 = .ok (.aload_n 0, 1) := by decide +kernel
theorem J_MSquareRows_make_d123 : decode J_MSquareRows_make.2.1 123 = .ok (.iload_n 1, 1) := by decide +kernel
theorem J_MSquareRows_make_d124 : decode J_MSquareRows_make.2.1 124 = .ok (.iload 8, 2) := by decide +kernel
theorem J_MSquareRows_make_d126 : decode J_MSquareRows_make.2.1 126 = .ok (.invokestatic 235, 3) := by decide +kernel
theorem J_MSquareRows_make_d129 : decode J_MSquareRows_make.2.1 129 = .ok (.invokevirtual 199, 3) := by decide +kernel
theorem J_MSquareRows_make_d132 : decode J_MSquareRows_make.2.1 132 = .ok (.aload_n 0, 1) := by decide +kernel
theorem J_MSquareRows_make_d133 : decode J_MSquareRows_make.2.1 133 = .ok (.iload 8, 2) := by decide +kernel
theorem J_MSquareRows_make_d135 : decode J_MSquareRows_make.2.1 135 = .ok (.iconst 0, 1) := by decide +kernel
theorem J_MSquareRows_make_d136 : decode J_MSquareRows_make.2.1 136 = .ok (.iload 5, 2) := by decide +kernel
theorem J_MSquareRows_make_d138 : decode J_MSquareRows_make.2.1 138 = .ok (.invokevirtual 238, 3) := by decide +kernel
theorem J_MSquareRows_make_d141 : decode J_MSquareRows_make.2.1 141 = .ok (.aload_n 0, 1) := by decide +kernel
theorem J_MSquareRows_make_d142 : decode J_MSquareRows_make.2.1 142 = .ok (.invokevirtual 242, 3) := by decide +kernel
theorem J_MSquareRows_make_d145 : decode J_MSquareRows_make.2.1 145 = .ok (.istore 9, 2) := by decide +kernel
theorem J_MSquareRows_make_d147 : decode J_MSquareRows_make.2.1 147 = .ok (.iload 7, 2) := by decide +kernel
theorem J_MSquareRows_make_d149 : decode J_MSquareRows_make.2.1 149 = .ok (.ifCond .lt 10, 3) := by decide +kernel
theorem J_MSquareRows_make_d152 : decode J_MSquareRows_make.2.1 152 = .ok (.iload 9, 2) := by decide +kernel
theorem J_MSquareRows_make_d154 : decode J_MSquareRows_make.2.1 154 = .ok (.iload 7, 2) := by decide +kernel
theorem J_MSquareRows_make_d156 : decode J_MSquareRows_make.2.1 156 = .ok (.if_icmp .ge 11, 3) := by decide +kernel
theorem J_MSquareRows_make_d159 : decode J_MSquareRows_make.2.1 159 = .ok (.iload 9, 2) := by decide +kernel
theorem J_MSquareRows_make_d161 : decode J_MSquareRows_make.2.1 161 = .ok (.istore 7, 2) := by decide +kernel
theorem J_MSquareRows_make_d163 : decode J_MSquareRows_make.2.1 163 = .ok (.iload 8, 2) := by decide +kernel
theorem J_MSquareRows_make_d165 : decode J_MSquareRows_make.2.1 165 = .ok (.istore 6, 2) := by decide +kernel
theorem J_MSquareRows_make_d167 : decode J_MSquareRows_make.2.1 167 = .ok (.iinc 8 1, 3) := by decide +kernel
theorem J_MSquareRows_make_d170 : decode J_MSquareRows_make.2.1 170 = .ok (.goto (-65), 3) := by decide +kernel
theorem J_MSquareRows_make_d173 : decode J_MSquareRows_make.2.1 173 = .ok (.aload_n 0, 1) := by decide +kernel
theorem J_MSquareRows_make_d174 : decode J_MSquareRows_make.2.1 174 = .ok (.iload_n 1, 1) := by decide +kernel
theorem J_MSquareRows_make_d175 : decode J_MSquareRows_make.2.1 175 = .ok (.iload 6, 2) := by decide +kernel
theorem J_MSquareRows_make_d177 : decode J_MSquareRows_make.2.1 177 = .ok (.invokestatic 235, 3) := by decide +kernel
theorem J_MSquareRows_make_d180 : decode J_MSquareRows_make.2.1 180 = .ok (.invokevirtual 199, 3) := by decide +kernel
theorem J_MSquareRows_make_d183 : decode J_MSquareRows_make.2.1 183 = .ok (.aload_n 0, 1) := by decide +kernel
theorem J_MSquareRows_make_d184 : decode J_MSquareRows_make.2.1 184 = .ok (.iload 6, 2) := by decide +kernel
theorem J_MSquareRows_make_d186 : decode J_MSquareRows_make.2.1 186 = .ok (.iconst 0, 1) := by decide +kernel
theorem J_MSquareRows_make_d187 : decode J_MSquareRows_make.2.1 187 = .ok (.iload 5, 2) := by decide +kernel
theorem J_MSquareRows_make_d189 : decode J_MSquareRows_make.2.1 189 = .ok (.invokevirtual 238, 3) := by decide +kernel
theorem J_MSquareRows_make_d192 : decode J_MSquareRows_make.2.1 192 = .ok (.aload_n 0, 1) := by decide +kernel
theorem J_MSquareRows_make_d193 : decode J_MSquareRows_make.2.1 193 = .ok (.iconst 1, 1) := by decide +kernel
theorem J_MSquareRows_make_d194 : decode J_MSquareRows_make.2.1 194 = .ok (.putfield 246, 3) := by decide +kernel
theorem J_MSquareRows_make_d197 : decode J_MSquareRows_make.2.1 197 = .ok (.aload_n 0, 1) := by decide +kernel
theorem J_MSquareRows_make_d198 : decode J_MSquareRows_make.2.1 198 = .ok (.getfield 25, 3) := by decide +kernel
theorem J_MSquareRows_make_d201 : decode J_MSquareRows_make.2.1 201 = .ok (.iconst 0, 1) := by decide +kernel
theorem J_MSquareRows_make_d202 : decode J_MSquareRows_make.2.1 202 = .ok (.iload 4, 2) := by decide +kernel
theorem J_MSquareRows_make_d204 : decode J_MSquareRows_make.2.1 204 = .ok (.iastore, 1) := by decide +kernel
theorem J_MSquareRows_make_d205 : decode J_MSquareRows_make.2.1 205 = .ok (.aload_n 0, 1) := by decide +kernel
theorem J_MSquareRows_make_d206 : decode J_MSquareRows_make.2.1 206 = .ok (.getfield 25, 3) := by decide +kernel
theorem J_MSquareRows_make_d209 : decode J_MSquareRows_make.2.1 209 = .ok (.iconst 1, 1) := by decide +kernel
theorem J_MSquareRows_make_d210 : decode J_MSquareRows_make.2.1 210 = .ok (.iload_n 1, 1) := by decide +kernel
theorem J_MSquareRows_make_d211 : decode J_MSquareRows_make.2.1 211 = .ok (.iastore, 1) := by decide +kernel
theorem J_MSquareRows_make_d212 : decode J_MSquareRows_make.2.1 212 = .ok (.aload_n 0, 1) := by decide +kernel
theorem J_MSquareRows_make_d213 : decode J_MSquareRows_make.2.1 213 = .ok (.getfield 25, 3) := by decide +kernel
theorem J_MSquareRows_make_d216 : decode J_MSquareRows_make.2.1 216 = .ok (.iconst 2, 1) := by decide +kernel
theorem J_MSquareRows_make_d217 : decode J_MSquareRows_make.2.1 217 = .ok (.iload 6, 2) := by decide +kernel
theorem J_MSquareRows_make_d219 : decode J_MSquareRows_make.2.1 219 = .ok (.iastore, 1) := by decide +kernel
theorem J_MSquareRows_make_d220 : decode J_MSquareRows_make.2.1 220 = .ok (.aload_n 0, 1) := by decide +kernel
theorem J_MSquareRows_make_d221 : decode J_MSquareRows_make.2.1 221 = .ok (.getfield 25, 3) := by decide +kernel
theorem J_MSquareRows_make_d224 : decode J_MSquareRows_make.2.1 224 = .ok (.iconst 3, 1) := by decide +kernel
theorem J_MSquareRows_make_d225 : decode J_MSquareRows_make.2.1 225 = .ok (.iload 7, 2) := by decide +kernel
theorem J_MSquareRows_make_d227 : decode J_MSquareRows_make.2.1 227 = .ok (.iastore, 1) := by decide +kernel
theorem J_MSquareRows_make_d228 : decode J_MSquareRows_make.2.1 228 = .ok (.aload_n 0, 1) := by decide +kernel
theorem J_MSquareRows_make_d229 : decode J_MSquareRows_make.2.1 229 = .ok (.getfield 25, 3) := by decide +kernel
theorem J_MSquareRows_make_d232 : decode J_MSquareRows_make.2.1 232 = .ok (.iconst 4, 1) := by decide +kernel
theorem J_MSquareRows_make_d233 : decode J_MSquareRows_make.2.1 233 = .ok (.aload_n 0, 1) := by decide +kernel
theorem J_MSquareRows_make_d234 : decode J_MSquareRows_make.2.1 234 = .ok (.getfield 127, 3) := by decide +kernel
theorem J_MSquareRows_make_d237 : decode J_MSquareRows_make.2.1 237 = .ok (.iastore, 1) := by decide +kernel
theorem J_MSquareRows_make_d238 : decode J_MSquareRows_make.2.1 238 = .ok (.aload_n 0, 1) := by decide +kernel
theorem J_MSquareRows_make_d239 : decode J_MSquareRows_make.2.1 239 = .ok (.getfield 25, 3) := by decide +kernel
theorem J_MSquareRows_make_d242 : decode J_MSquareRows_make.2.1 242 = .ok (.iconst 5, 1) := by decide +kernel
theorem J_MSquareRows_make_d243 : decode J_MSquareRows_make.2.1 243 = .ok (.aload_n 0, 1) := by decide +kernel
theorem J_MSquareRows_make_d244 : decode J_MSquareRows_make.2.1 244 = .ok (.getfield 121, 3) := by decide +kernel
theorem J_MSquareRows_make_d247 : decode J_MSquareRows_make.2.1 247 = .ok (.iastore, 1) := by decide +kernel
theorem J_MSquareRows_make_d248 : decode J_MSquareRows_make.2.1 248 = .ok (.iload 4, 2) := by decide +kernel
theorem J_MSquareRows_make_d250 : decode J_MSquareRows_make.2.1 250 = .ok (.ireturn, 1) := by decide +kernel
theorem f_MSquareRows_make_ok {L : Nat} {xs : Nat → Int32} {dep : Nat} {w : Bool} {p0 : Int32} {p1 : Int32} {p2 : Int32} {M : im_M} {Q : Int32 × im_M → Prop} (hM : lw_S w M) (h : ed (f_MSquareRows_make p0 p1 p2 M) Q) : ia (tb_G L xs) (dep + 8) J_MSquareRows_make (rwI w Q) (0, lv_args 0 [.ref 108, .int p0, .int p1, .int p2], [], M) := by
  have hS : im_St (tb_G L xs) (dep + 8) J_MSquareRows_make (ia (tb_G L xs) (dep + 8) J_MSquareRows_make (rwI w Q)) := ia_St
  unfold f_MSquareRows_make at h
  have l0 : im_lk (lv_args 0 [.ref 108, .int p0, .int p1, .int p2]) 0 = some (.ref 108) := rfl
  have l1 : im_lk (lv_args 0 [.ref 108, .int p0, .int p1, .int p2]) 1 = some (.int p0) := rfl
  have l2 : im_lk (lv_args 0 [.ref 108, .int p0, .int p1, .int p2]) 2 = some (.int p1) := rfl
  have l3 : im_lk (lv_args 0 [.ref 108, .int p0, .int p1, .int p2]) 3 = some (.int p2) := rfl
  refine iq_aload_n hS 1 J_MSquareRows_make_d0 l0 rfl ?_
  refine iq_iload_n hS 2 J_MSquareRows_make_d1 l1 rfl ?_
  obtain ⟨Q1, hQ1, h⟩ := bd1_ed h
  have J1 : ∀ (y7 : Int32) (L' : List (Nat × Value)), im_lk L' 0 = some (.ref 108) → im_lk L' 1 = some (.int p0) → im_lk L' 2 = some (.int p1) → im_lk L' 3 = some (.int p2) → Q1 y7 → ia (tb_G L xs) (dep + 8) J_MSquareRows_make (rwI w Q) (36, L', [.int y7, .ref 108], M) := by
    intro y7 L' l8 l9 l10 l11 h
    replace h := hQ1 _ h
    refine iq_putI hS 39 J_MSquareRows_make_d36 lf_16_73 (Or.inl rfl) rfl (ka_108 hM) rfl ?_
    refine iq_aload_n hS 40 J_MSquareRows_make_d39 l8 rfl ?_
    refine iq_getI hS 43 J_MSquareRows_make_d40 lf_16_73 (Or.inl rfl) (ka_108 hM) rfl ?_
    refine iq_if_le hS 46 J_MSquareRows_make_d43 (t := 48) rfl (fun q43 => ?_) rfl (fun q43 => ?_)
    · replace h := ed_pos q43 h
      refine iq_aload_n hS 49 J_MSquareRows_make_d48 l8 rfl ?_
      refine iq_iload_n hS 50 J_MSquareRows_make_d49 l9 rfl ?_
      refine iq_iload_n hS 51 J_MSquareRows_make_d50 l10 rfl ?_
      obtain ⟨Q12, hQ12, h⟩ := bd2_ed h
      refine iq_cwI hS 54 J_MSquareRows_make_d51 rfl (pr_inst (vs := [_, _]) lc_16_220 lT_383 rfl rfl (by decide) (by decide) rfl (Nat.le_of_ble_eq_true rfl) (Nat.le_of_ble_eq_true rfl) (fun _ => Or.inl (pr_b (ka_108 hM) (by decide) rfl))) (f_MSquareRows_versionFor_ok (dep := dep + 0) hM h) rfl ?_
      intro x12 M12 hM12 h
      replace h := hQ12 _ _ h
      refine iq_istore hS 56 J_MSquareRows_make_d54 (by decide) rfl ?_
      refine iq_iload hS 58 J_MSquareRows_make_d56 lk_1s rfl ?_
      refine iq_if_ge hS 61 J_MSquareRows_make_d58 (t := 63) rfl (fun q58 => ?_) rfl (fun q58 => ?_)
      · replace h := ed_pos q58 h
        refine iq_aload_n hS 64 J_MSquareRows_make_d63 (lk_1r l8 (by decide)) rfl ?_
        refine iq_iload hS 66 J_MSquareRows_make_d64 lk_1s rfl ?_
        refine iq_iload_n hS 67 J_MSquareRows_make_d66 (lk_1i l9 (by decide)) rfl ?_
        obtain ⟨Q13, hQ13, h⟩ := bd1_ed h
        refine iq_cwV hS 70 J_MSquareRows_make_d67 rfl (pr_inst (vs := [_, _]) lc_16_223 lT_399 rfl rfl (by decide) (by decide) rfl (Nat.le_of_ble_eq_true rfl) (Nat.le_of_ble_eq_true rfl) (fun _ => Or.inl (pr_b (ka_108 hM12) (by decide) rfl))) (f_MSquareRows_layAll_ok (dep := dep + 5) hM12 h) rfl ?_
        intro M13 hM13 h
        replace h := hQ13 _ h
        refine iq_aload_n hS 71 J_MSquareRows_make_d70 (lk_1r l8 (by decide)) rfl ?_
        refine iq_iload hS 73 J_MSquareRows_make_d71 lk_1s rfl ?_
        refine iq_iload_n hS 74 J_MSquareRows_make_d73 (lk_1i l9 (by decide)) rfl ?_
        obtain ⟨Q14, hQ14, h⟩ := bd1_ed h
        refine iq_cwV hS 77 J_MSquareRows_make_d74 rfl (pr_inst (vs := [_, _]) lc_16_226 lT_402 rfl rfl (by decide) (by decide) rfl (Nat.le_of_ble_eq_true rfl) (Nat.le_of_ble_eq_true rfl) (fun _ => Or.inl (pr_b (ka_108 hM13) (by decide) rfl))) (f_MSquareRows_check_ok (dep := dep + 3) hM13 h) rfl ?_
        intro M14 hM14 h
        replace h := hQ14 _ h
        refine iq_aload_n hS 78 J_MSquareRows_make_d77 (lk_1r l8 (by decide)) rfl ?_
        refine iq_iload hS 80 J_MSquareRows_make_d78 lk_1s rfl ?_
        refine iq_putI hS 83 J_MSquareRows_make_d80 lf_16_229 (Or.inl rfl) rfl (ka_108 hM14) rfl ?_
        refine iq_aload_n hS 84 J_MSquareRows_make_d83 (lk_1r l8 (by decide)) rfl ?_
        refine iq_iload hS 86 J_MSquareRows_make_d84 lk_1s rfl ?_
        obtain ⟨Q15, hQ15, h⟩ := bd1_ed h
        refine iq_cwV hS 89 J_MSquareRows_make_d86 rfl (pr_inst (vs := [_]) lc_16_232 lT_409 rfl rfl (by decide) (by decide) rfl (Nat.le_of_ble_eq_true rfl) (Nat.le_of_ble_eq_true rfl) (fun _ => Or.inl (pr_b (ka_108 hM14) (by decide) rfl))) (f_MSquareRows_frame_ok (dep := dep + 4) hM14 h) rfl ?_
        intro M15 hM15 h
        replace h := hQ15 _ h
        refine iq_iload hS 91 J_MSquareRows_make_d89 lk_1s rfl ?_
        obtain ⟨Q16, hQ16, h⟩ := bd1_ed h
        refine iq_cpI hS 94 J_MSquareRows_make_d91 rfl (pr_stat (vs := [_]) lc_16_82 lT_396 rfl rfl (by decide) rfl (Nat.le_of_ble_eq_true rfl) (Nat.le_of_ble_eq_true rfl)) (f_MSquareRows_allCodewords_ok (dep := dep + 7) hM15 h) rfl ?_
        intro x16 h
        replace h := hQ16 _ h
        refine iq_istore hS 96 J_MSquareRows_make_d94 (by decide) rfl ?_
        refine iq_iload_n hS 97 J_MSquareRows_make_d96 (lk_1i (lk_1i l11 (by decide)) (by decide)) rfl ?_
        refine iq_istore hS 99 J_MSquareRows_make_d97 (by decide) rfl ?_
        refine iq_iconst hS 100 J_MSquareRows_make_d99 (v := (-1)) (by decide +kernel) rfl ?_
        refine iq_istore hS 102 J_MSquareRows_make_d100 (by decide) rfl ?_
        refine iq_iconst hS 103 J_MSquareRows_make_d102 (v := 0) (by decide +kernel) rfl ?_
        refine iq_istore hS 105 J_MSquareRows_make_d103 (by decide) rfl ?_
        obtain ⟨Q17, hQ17, h⟩ := bd3_ed h
        have K17 : ∀ (y18 : Int32) (y19 : Int32) (M20 : im_M) (L' : List (Nat × Value)), lw_S w M20 → im_lk L' 0 = some (.ref 108) → im_lk L' 1 = some (.int p0) → im_lk L' 4 = some (.int x12) → im_lk L' 5 = some (.int x16) → im_lk L' 6 = some (.int y18) → im_lk L' 7 = some (.int y19) → Q17 (y18, y19, M20) → ia (tb_G L xs) (dep + 8) J_MSquareRows_make (rwI w Q) (173, L', [], M20) := by
          intro y18 y19 M20 L' hM20 l21 l22 l23 l24 l25 l26 h
          replace h := hQ17 _ _ _ h
          refine iq_aload_n hS 174 J_MSquareRows_make_d173 l21 rfl ?_
          refine iq_iload_n hS 175 J_MSquareRows_make_d174 l22 rfl ?_
          refine iq_iload hS 177 J_MSquareRows_make_d175 l25 rfl ?_
          obtain ⟨Q27, hQ27, h⟩ := bd1_ed h
          refine iq_cpI hS 180 J_MSquareRows_make_d177 rfl (pr_stat (vs := [_, _]) lc_16_235 lT_421 rfl rfl (by decide) rfl (Nat.le_of_ble_eq_true rfl) (Nat.le_of_ble_eq_true rfl)) (f_MSquareRows_formNumber_ok (dep := dep + 7) hM20 h) rfl ?_
          intro x27 h
          replace h := hQ27 _ h
          obtain ⟨Q28, hQ28, h⟩ := bd1_ed h
          refine iq_cwV hS 183 J_MSquareRows_make_d180 rfl (pr_inst (vs := [_]) lc_16_199 lT_416 rfl rfl (by decide) (by decide) rfl (Nat.le_of_ble_eq_true rfl) (Nat.le_of_ble_eq_true rfl) (fun _ => Or.inl (pr_b (ka_108 hM20) (by decide) rfl))) (f_MSquareRows_layForm_ok (dep := dep + 5) hM20 h) rfl ?_
          intro M28 hM28 h
          replace h := hQ28 _ h
          refine iq_aload_n hS 184 J_MSquareRows_make_d183 l21 rfl ?_
          refine iq_iload hS 186 J_MSquareRows_make_d184 l25 rfl ?_
          refine iq_iconst hS 187 J_MSquareRows_make_d186 (v := 0) (by decide +kernel) rfl ?_
          refine iq_iload hS 189 J_MSquareRows_make_d187 l24 rfl ?_
          obtain ⟨Q29, hQ29, h⟩ := bd1_ed h
          refine iq_cwV hS 192 J_MSquareRows_make_d189 rfl (pr_inst (vs := [_, _, _]) lc_16_238 lT_422 rfl rfl (by decide) (by decide) rfl (Nat.le_of_ble_eq_true rfl) (Nat.le_of_ble_eq_true rfl) (fun _ => Or.inl (pr_b (ka_108 hM28) (by decide) rfl))) (f_MSquareRows_goThrough_ok (dep := dep + 6) hM28 h) rfl ?_
          intro M29 hM29 h
          replace h := hQ29 _ h
          refine iq_aload_n hS 193 J_MSquareRows_make_d192 l21 rfl ?_
          refine iq_iconst hS 194 J_MSquareRows_make_d193 (v := 1) (by decide +kernel) rfl ?_
          refine iq_putZ hS 197 J_MSquareRows_make_d194 lf_16_246 (Or.inl rfl) rfl (ka_108 hM29) (Or.inr rfl) rfl ?_
          refine iq_aload_n hS 198 J_MSquareRows_make_d197 l21 rfl ?_
          refine iq_getR hS 201 J_MSquareRows_make_d198 lf_16_25 (Or.inr ⟨_, rfl⟩) (ka_108 hM29) (ra_108_10 hM29) rfl ?_
          refine iq_iconst hS 202 J_MSquareRows_make_d201 (v := 0) (by decide +kernel) rfl ?_
          refine iq_iload hS 204 J_MSquareRows_make_d202 l23 rfl ?_
          obtain ⟨g204, h⟩ := ed_gd h
          refine iq_iastore hS 205 J_MSquareRows_make_d204 ⟨(ka_114 hM29).1, (ka_114 hM29).2, g204.1, ix_lt (kl_114 hM29) g204.2⟩ rfl ?_
          refine iq_aload_n hS 206 J_MSquareRows_make_d205 l21 rfl ?_
          refine iq_getR hS 209 J_MSquareRows_make_d206 lf_16_25 (Or.inr ⟨_, rfl⟩) (ka_108 hM29) (ra_108_10 hM29) rfl ?_
          refine iq_iconst hS 210 J_MSquareRows_make_d209 (v := 1) (by decide +kernel) rfl ?_
          refine iq_iload_n hS 211 J_MSquareRows_make_d210 l22 rfl ?_
          obtain ⟨g211, h⟩ := ed_gd h
          refine iq_iastore hS 212 J_MSquareRows_make_d211 ⟨(ka_114 hM29).1, (ka_114 hM29).2, g211.1, ix_lt (kl_114 hM29) g211.2⟩ rfl ?_
          refine iq_aload_n hS 213 J_MSquareRows_make_d212 l21 rfl ?_
          refine iq_getR hS 216 J_MSquareRows_make_d213 lf_16_25 (Or.inr ⟨_, rfl⟩) (ka_108 hM29) (ra_108_10 hM29) rfl ?_
          refine iq_iconst hS 217 J_MSquareRows_make_d216 (v := 2) (by decide +kernel) rfl ?_
          refine iq_iload hS 219 J_MSquareRows_make_d217 l25 rfl ?_
          obtain ⟨g219, h⟩ := ed_gd h
          refine iq_iastore hS 220 J_MSquareRows_make_d219 ⟨(ka_114 hM29).1, (ka_114 hM29).2, g219.1, ix_lt (kl_114 hM29) g219.2⟩ rfl ?_
          refine iq_aload_n hS 221 J_MSquareRows_make_d220 l21 rfl ?_
          refine iq_getR hS 224 J_MSquareRows_make_d221 lf_16_25 (Or.inr ⟨_, rfl⟩) (ka_108 hM29) (ra_108_10 hM29) rfl ?_
          refine iq_iconst hS 225 J_MSquareRows_make_d224 (v := 3) (by decide +kernel) rfl ?_
          refine iq_iload hS 227 J_MSquareRows_make_d225 l26 rfl ?_
          obtain ⟨g227, h⟩ := ed_gd h
          refine iq_iastore hS 228 J_MSquareRows_make_d227 ⟨(ka_114 hM29).1, (ka_114 hM29).2, g227.1, ix_lt (kl_114 hM29) g227.2⟩ rfl ?_
          refine iq_aload_n hS 229 J_MSquareRows_make_d228 l21 rfl ?_
          refine iq_getR hS 232 J_MSquareRows_make_d229 lf_16_25 (Or.inr ⟨_, rfl⟩) (ka_108 hM29) (ra_108_10 hM29) rfl ?_
          refine iq_iconst hS 233 J_MSquareRows_make_d232 (v := 4) (by decide +kernel) rfl ?_
          refine iq_aload_n hS 234 J_MSquareRows_make_d233 l21 rfl ?_
          refine iq_getI hS 237 J_MSquareRows_make_d234 lf_16_127 (Or.inl rfl) (ka_108 hM29) rfl ?_
          obtain ⟨g237, h⟩ := ed_gd h
          refine iq_iastore hS 238 J_MSquareRows_make_d237 ⟨(ka_114 hM29).1, (ka_114 hM29).2, g237.1, ix_lt (kl_114 hM29) g237.2⟩ rfl ?_
          refine iq_aload_n hS 239 J_MSquareRows_make_d238 l21 rfl ?_
          refine iq_getR hS 242 J_MSquareRows_make_d239 lf_16_25 (Or.inr ⟨_, rfl⟩) (ka_108 hM29) (ra_108_10 hM29) rfl ?_
          refine iq_iconst hS 243 J_MSquareRows_make_d242 (v := 5) (by decide +kernel) rfl ?_
          refine iq_aload_n hS 244 J_MSquareRows_make_d243 l21 rfl ?_
          refine iq_getI hS 247 J_MSquareRows_make_d244 lf_16_121 (Or.inl rfl) (ka_108 hM29) rfl ?_
          obtain ⟨g247, h⟩ := ed_gd h
          refine iq_iastore hS 248 J_MSquareRows_make_d247 ⟨(ka_114 hM29).1, (ka_114 hM29).2, g247.1, ix_lt (kl_114 hM29) g247.2⟩ rfl ?_
          refine iq_iload hS 250 J_MSquareRows_make_d248 l23 rfl ?_
          exact iq_iret J_MSquareRows_make_d250 rfl rfl ⟨_, rfl, hM29, ed_some h⟩
        obtain ⟨r17, hr17, hq17⟩ := h
        obtain ⟨n17, hn17⟩ := lp_n hr17
        have I17 : ∀ (n : Nat) (x30 : Int32) (x31 : Int32) (x32 : Int32) (M33 : im_M) (L' : List (Nat × Value)), lw_S w M33 → im_lk L' 0 = some (.ref 108) → im_lk L' 1 = some (.int p0) → im_lk L' 3 = some (.int p2) → im_lk L' 4 = some (.int x12) → im_lk L' 5 = some (.int x16) → im_lk L' 6 = some (.int x30) → im_lk L' 7 = some (.int x31) → im_lk L' 8 = some (.int x32) → lpn (uc4 (f_MSquareRows_make_L105 p0 p2 x12 x16)) n (x30, x31, x32, M33) = some r17 → ia (tb_G L xs) (dep + 8) J_MSquareRows_make (rwI w Q) (105, L', [], M33) := by
          intro n
          induction n with
          | zero => intro x30 x31 x32 M33 L' hM33 l34 l35 l36 l37 l38 l39 l40 l41 hn; exact (lpn_0 hn).elim
          | succ n ih =>
            intro x30 x31 x32 M33 L' hM33 l34 l35 l36 l37 l38 l39 l40 l41 hn
            have h := lpn_ed4 hn
            unfold f_MSquareRows_make_L105 at h
            refine iq_iload hS 107 J_MSquareRows_make_d105 l41 rfl ?_
            refine iq_bipush hS 109 J_MSquareRows_make_d107 (v := 8) (by decide +kernel) rfl ?_
            refine iq_icmp_ge hS 112 J_MSquareRows_make_d109 (t := 173) rfl (fun q109 => ?_) rfl (fun q109 => ?_)
            · replace h := ed_pos q109 h
              exact K17 _ _ _ _ hM33 l34 l35 l37 l38 l39 l40 (lq_r h hq17)
            · replace h := ed_neg q109 h
              refine iq_iload_n hS 113 J_MSquareRows_make_d112 l36 rfl ?_
              obtain ⟨Q42, hQ42, h⟩ := bd3_ed h
              have J42 : ∀ (y64 : Int32) (y65 : Int32) (M66 : im_M) (L' : List (Nat × Value)), lw_S w M66 → im_lk L' 0 = some (.ref 108) → im_lk L' 1 = some (.int p0) → im_lk L' 3 = some (.int p2) → im_lk L' 4 = some (.int x12) → im_lk L' 5 = some (.int x16) → im_lk L' 6 = some (.int y64) → im_lk L' 7 = some (.int y65) → im_lk L' 8 = some (.int x32) → Q42 (y64, y65, M66) → ia (tb_G L xs) (dep + 8) J_MSquareRows_make (rwI w Q) (167, L', [], M66) := by
                intro y64 y65 M66 L' hM66 l67 l68 l69 l70 l71 l72 l73 l74 h
                replace h := hQ42 _ _ _ h
                refine iq_iincv hS 170 J_MSquareRows_make_d167 (c := 1) (by decide +kernel) l74 (by decide) rfl ?_
                refine iq_goto hS J_MSquareRows_make_d170 (t := 105) rfl ?_
                exact ih _ _ _ _ _ hM66 (lk_1r l67 (by decide)) (lk_1i l68 (by decide)) (lk_1i l69 (by decide)) (lk_1i l70 (by decide)) (lk_1i l71 (by decide)) (lk_1i l72 (by decide)) (lk_1i l73 (by decide)) lk_1s (lq_l h)
              obtain ⟨k43, Q43, hQ43, hk43, h⟩ := jn0_ed h
              have J43 : ∀  (L' : List (Nat × Value)), im_lk L' 0 = some (.ref 108) → im_lk L' 1 = some (.int p0) → im_lk L' 3 = some (.int p2) → im_lk L' 4 = some (.int x12) → im_lk L' 5 = some (.int x16) → im_lk L' 6 = some (.int x30) → im_lk L' 7 = some (.int x31) → im_lk L' 8 = some (.int x32) → Q43 () → ia (tb_G L xs) (dep + 8) J_MSquareRows_make (rwI w Q) (122, L', [], M33) := by
                intro  L' l44 l45 l46 l47 l48 l49 l50 l51 h
                replace h := hQ43  h
                refine iq_aload_n hS 123 J_MSquareRows_make_d122 l44 rfl ?_
                refine iq_iload_n hS 124 J_MSquareRows_make_d123 l45 rfl ?_
                refine iq_iload hS 126 J_MSquareRows_make_d124 l51 rfl ?_
                obtain ⟨Q52, hQ52, h⟩ := bd1_ed h
                refine iq_cpI hS 129 J_MSquareRows_make_d126 rfl (pr_stat (vs := [_, _]) lc_16_235 lT_421 rfl rfl (by decide) rfl (Nat.le_of_ble_eq_true rfl) (Nat.le_of_ble_eq_true rfl)) (f_MSquareRows_formNumber_ok (dep := dep + 7) hM33 h) rfl ?_
                intro x52 h
                replace h := hQ52 _ h
                obtain ⟨Q53, hQ53, h⟩ := bd1_ed h
                refine iq_cwV hS 132 J_MSquareRows_make_d129 rfl (pr_inst (vs := [_]) lc_16_199 lT_416 rfl rfl (by decide) (by decide) rfl (Nat.le_of_ble_eq_true rfl) (Nat.le_of_ble_eq_true rfl) (fun _ => Or.inl (pr_b (ka_108 hM33) (by decide) rfl))) (f_MSquareRows_layForm_ok (dep := dep + 5) hM33 h) rfl ?_
                intro M53 hM53 h
                replace h := hQ53 _ h
                refine iq_aload_n hS 133 J_MSquareRows_make_d132 l44 rfl ?_
                refine iq_iload hS 135 J_MSquareRows_make_d133 l51 rfl ?_
                refine iq_iconst hS 136 J_MSquareRows_make_d135 (v := 0) (by decide +kernel) rfl ?_
                refine iq_iload hS 138 J_MSquareRows_make_d136 l48 rfl ?_
                obtain ⟨Q54, hQ54, h⟩ := bd1_ed h
                refine iq_cwV hS 141 J_MSquareRows_make_d138 rfl (pr_inst (vs := [_, _, _]) lc_16_238 lT_422 rfl rfl (by decide) (by decide) rfl (Nat.le_of_ble_eq_true rfl) (Nat.le_of_ble_eq_true rfl) (fun _ => Or.inl (pr_b (ka_108 hM53) (by decide) rfl))) (f_MSquareRows_goThrough_ok (dep := dep + 6) hM53 h) rfl ?_
                intro M54 hM54 h
                replace h := hQ54 _ h
                refine iq_aload_n hS 142 J_MSquareRows_make_d141 l44 rfl ?_
                obtain ⟨Q55, hQ55, h⟩ := bd1_ed h
                refine iq_cpI hS 145 J_MSquareRows_make_d142 rfl (pr_inst (vs := []) lc_16_242 lT_424 rfl rfl (by decide) (by decide) rfl (Nat.le_of_ble_eq_true rfl) (Nat.le_of_ble_eq_true rfl) (fun _ => Or.inl (pr_b (ka_108 hM54) (by decide) rfl))) (f_MSquareRows_penalty_ok (dep := dep + 5) hM54 h) rfl ?_
                intro x55 h
                replace h := hQ55 _ h
                refine iq_istore hS 147 J_MSquareRows_make_d145 (by decide) rfl ?_
                refine iq_iload hS 149 J_MSquareRows_make_d147 (lk_1i l50 (by decide)) rfl ?_
                obtain ⟨k56, Q56, hQ56, hk56, h⟩ := jn0_ed h
                have J56 : ∀  (L' : List (Nat × Value)), im_lk L' 0 = some (.ref 108) → im_lk L' 1 = some (.int p0) → im_lk L' 3 = some (.int p2) → im_lk L' 4 = some (.int x12) → im_lk L' 5 = some (.int x16) → im_lk L' 8 = some (.int x32) → im_lk L' 9 = some (.int x55) → Q56 () → ia (tb_G L xs) (dep + 8) J_MSquareRows_make (rwI w Q) (159, L', [], M54) := by
                  intro  L' l57 l58 l59 l60 l61 l62 l63 h
                  replace h := hQ56  h
                  refine iq_iload hS 161 J_MSquareRows_make_d159 l63 rfl ?_
                  refine iq_istore hS 163 J_MSquareRows_make_d161 (by decide) rfl ?_
                  refine iq_iload hS 165 J_MSquareRows_make_d163 (lk_1i l62 (by decide)) rfl ?_
                  refine iq_istore hS 167 J_MSquareRows_make_d165 (by decide) rfl ?_
                  exact J42 _ _ _ _ hM54 (lk_1r (lk_1r l57 (by decide)) (by decide)) (lk_1i (lk_1i l58 (by decide)) (by decide)) (lk_1i (lk_1i l59 (by decide)) (by decide)) (lk_1i (lk_1i l60 (by decide)) (by decide)) (lk_1i (lk_1i l61 (by decide)) (by decide)) lk_1s (lk_1i lk_1s (by decide)) (lk_1i (lk_1i l62 (by decide)) (by decide)) (ed_some h)
                refine iq_if_lt hS 152 J_MSquareRows_make_d149 (t := 159) rfl (fun q149 => ?_) rfl (fun q149 => ?_)
                · replace h := ed_pos q149 h
                  exact J56  _ (lk_1r l44 (by decide)) (lk_1i l45 (by decide)) (lk_1i l46 (by decide)) (lk_1i l47 (by decide)) (lk_1i l48 (by decide)) (lk_1i l51 (by decide)) lk_1s (hk56  h)
                · replace h := ed_neg q149 h
                  refine iq_iload hS 154 J_MSquareRows_make_d152 lk_1s rfl ?_
                  refine iq_iload hS 156 J_MSquareRows_make_d154 (lk_1i l50 (by decide)) rfl ?_
                  refine iq_icmp_ge hS 159 J_MSquareRows_make_d156 (t := 167) rfl (fun q156 => ?_) rfl (fun q156 => ?_)
                  · replace h := ed_pos q156 h
                    exact J42 _ _ _ _ hM54 (lk_1r l44 (by decide)) (lk_1i l45 (by decide)) (lk_1i l46 (by decide)) (lk_1i l47 (by decide)) (lk_1i l48 (by decide)) (lk_1i l49 (by decide)) (lk_1i l50 (by decide)) (lk_1i l51 (by decide)) (ed_some h)
                  · replace h := ed_neg q156 h
                    exact J56  _ (lk_1r l44 (by decide)) (lk_1i l45 (by decide)) (lk_1i l46 (by decide)) (lk_1i l47 (by decide)) (lk_1i l48 (by decide)) (lk_1i l51 (by decide)) lk_1s (hk56  h)
              refine iq_if_lt hS 116 J_MSquareRows_make_d113 (t := 122) rfl (fun q113 => ?_) rfl (fun q113 => ?_)
              · replace h := ed_pos q113 h
                exact J43  _ l34 l35 l36 l37 l38 l39 l40 l41 (hk43  h)
              · replace h := ed_neg q113 h
                refine iq_iload_n hS 117 J_MSquareRows_make_d116 l36 rfl ?_
                refine iq_iload hS 119 J_MSquareRows_make_d117 l41 rfl ?_
                refine iq_icmp_ne hS 122 J_MSquareRows_make_d119 (t := 167) rfl (fun q119 => ?_) rfl (fun q119 => ?_)
                · replace h := ed_pos q119 h
                  exact J42 _ _ _ _ hM33 l34 l35 l36 l37 l38 l39 l40 l41 (ed_some h)
                · replace h := ed_neg q119 h
                  exact J43  _ l34 l35 l36 l37 l38 l39 l40 l41 (hk43  h)
        exact I17 n17 _ _ _ _ _ hM15 (lk_1r (lk_1r (lk_1r (lk_1r (lk_1r l8 (by decide)) (by decide)) (by decide)) (by decide)) (by decide)) (lk_1i (lk_1i (lk_1i (lk_1i (lk_1i l9 (by decide)) (by decide)) (by decide)) (by decide)) (by decide)) (lk_1i (lk_1i (lk_1i (lk_1i (lk_1i l11 (by decide)) (by decide)) (by decide)) (by decide)) (by decide)) (lk_1i (lk_1i (lk_1i (lk_1i lk_1s (by decide)) (by decide)) (by decide)) (by decide)) (lk_1i (lk_1i (lk_1i lk_1s (by decide)) (by decide)) (by decide)) (lk_1i (lk_1i lk_1s (by decide)) (by decide)) (lk_1i lk_1s (by decide)) lk_1s hn17
      · replace h := ed_neg q58 h
        refine iq_iconst hS 62 J_MSquareRows_make_d61 (v := (-1)) (by decide +kernel) rfl ?_
        exact iq_iret J_MSquareRows_make_d62 rfl rfl ⟨_, rfl, hM12, ed_some h⟩
    · replace h := ed_neg q43 h
      refine iq_iconst hS 47 J_MSquareRows_make_d46 (v := 0) (by decide +kernel) rfl ?_
      exact iq_iret J_MSquareRows_make_d47 rfl rfl ⟨_, rfl, hM, ed_some h⟩
  obtain ⟨k2, Q2, hQ2, hk2, h⟩ := jn0_ed h
  have J2 : ∀  (L' : List (Nat × Value)), im_lk L' 0 = some (.ref 108) → im_lk L' 1 = some (.int p0) → im_lk L' 2 = some (.int p1) → im_lk L' 3 = some (.int p2) → Q2 () → ia (tb_G L xs) (dep + 8) J_MSquareRows_make (rwI w Q) (31, L', [.ref 108], M) := by
    intro  L' l3 l4 l5 l6 h
    replace h := hQ2  h
    refine iq_iconst hS 32 J_MSquareRows_make_d31 (v := 1) (by decide +kernel) rfl ?_
    refine iq_goto hS J_MSquareRows_make_d32 (t := 36) rfl ?_
    exact J1 _ _ l3 l4 l5 l6 (ed_some h)
  refine iq_if_lt hS 5 J_MSquareRows_make_d2 (t := 31) rfl (fun q2 => ?_) rfl (fun q2 => ?_)
  · replace h := ed_pos q2 h
    exact J2  _ l0 l1 l2 l3 (hk2  h)
  · replace h := ed_neg q2 h
    refine iq_iload_n hS 6 J_MSquareRows_make_d5 l1 rfl ?_
    refine iq_iconst hS 7 J_MSquareRows_make_d6 (v := 3) (by decide +kernel) rfl ?_
    refine iq_icmp_gt hS 10 J_MSquareRows_make_d7 (t := 31) rfl (fun q7 => ?_) rfl (fun q7 => ?_)
    · replace h := ed_pos q7 h
      exact J2  _ l0 l1 l2 l3 (hk2  h)
    · replace h := ed_neg q7 h
      refine iq_iload_n hS 11 J_MSquareRows_make_d10 l2 rfl ?_
      refine iq_if_lt hS 14 J_MSquareRows_make_d11 (t := 31) rfl (fun q11 => ?_) rfl (fun q11 => ?_)
      · replace h := ed_pos q11 h
        exact J2  _ l0 l1 l2 l3 (hk2  h)
      · replace h := ed_neg q11 h
        refine iq_iload_n hS 15 J_MSquareRows_make_d14 l2 rfl ?_
        refine iq_bipush hS 17 J_MSquareRows_make_d15 (v := 40) (by decide +kernel) rfl ?_
        refine iq_icmp_gt hS 20 J_MSquareRows_make_d17 (t := 31) rfl (fun q17 => ?_) rfl (fun q17 => ?_)
        · replace h := ed_pos q17 h
          exact J2  _ l0 l1 l2 l3 (hk2  h)
        · replace h := ed_neg q17 h
          refine iq_iload_n hS 21 J_MSquareRows_make_d20 l3 rfl ?_
          refine iq_iconst hS 22 J_MSquareRows_make_d21 (v := (-1)) (by decide +kernel) rfl ?_
          refine iq_icmp_lt hS 25 J_MSquareRows_make_d22 (t := 31) rfl (fun q22 => ?_) rfl (fun q22 => ?_)
          · replace h := ed_pos q22 h
            exact J2  _ l0 l1 l2 l3 (hk2  h)
          · replace h := ed_neg q22 h
            refine iq_iload_n hS 26 J_MSquareRows_make_d25 l3 rfl ?_
            refine iq_bipush hS 28 J_MSquareRows_make_d26 (v := 7) (by decide +kernel) rfl ?_
            refine iq_icmp_le hS 31 J_MSquareRows_make_d28 (t := 35) rfl (fun q28 => ?_) rfl (fun q28 => ?_)
            · replace h := ed_pos q28 h
              refine iq_iconst hS 36 J_MSquareRows_make_d35 (v := 0) (by decide +kernel) rfl ?_
              exact J1 _ _ l0 l1 l2 l3 (ed_some h)
            · replace h := ed_neg q28 h
              exact J2  _ l0 l1 l2 l3 (hk2  h)
noncomputable def f_MSquareRows_row_L10 (v2 : Int32) (v3 : Int32) (M6 : im_M) (x4 : Int64) (x5 : Int32) : Option ((Int64 × Int32) ⊕ (Int64)) := if 64 ≤ x5 then some (.inr x4) else bd1 (jn0 (fun (_ : Unit) => some x4) fun k9 => if ((if (im_i M6 108 7) ≤ 0 then 0 else (if v3 < 0 then 0 else (if (im_i M6 108 8) ≤ v3 then 0 else (if (lg_cmp ((Int32.toInt64 v2) + (Int32.toInt64 x5)) 0) < 0 then 0 else (if 0 ≤ (lg_cmp ((Int32.toInt64 v2) + (Int32.toInt64 x5)) (Int32.toInt64 (im_i M6 108 8))) then 0 else 1))))) : Int32) = 0 then k9 () else bd1 (f_MSquareRows_moduleAt (Int64.toInt32 ((Int32.toInt64 v2) + (Int32.toInt64 x5))) v3 M6) fun (x10 : Int32) => gd (inb x10 31329) <| if ¬ (im_i M6 112 (Int32.toNatClampNeg x10)) = 1 then k9 () else some (x4 ||| ((1 : Int64) <<< (Int32.toInt64 x5 &&& 63)))) fun (y16 : Int64) => some (.inl (y16, (x5 + 1)))
noncomputable def f_MSquareRows_row (p0 : Int32) (p1 : Int32) (M : im_M) : Option (Int64 × im_M) := bd1 (lp (uc2 (f_MSquareRows_row_L10 p0 p1 (im_setI M 108 0 0))) (0, 0)) fun (y21 : Int64) => some (y21, (im_setI M 108 0 0))
theorem J_MSquareRows_row_d0 : decode J_MSquareRows_row.2.1 0 = .ok (.aload_n 0, 1) := by decide +kernel
theorem J_MSquareRows_row_d1 : decode J_MSquareRows_row.2.1 1 = .ok (.iconst 0, 1) := by decide +kernel
theorem J_MSquareRows_row_d2 : decode J_MSquareRows_row.2.1 2 = .ok (.putfield 73, 3) := by decide +kernel
theorem J_MSquareRows_row_d5 : decode J_MSquareRows_row.2.1 5 = .ok (.lconst 0, 1) := by decide +kernel
theorem J_MSquareRows_row_d6 : decode J_MSquareRows_row.2.1 6 = .ok (.lstore_n 3, 1) := by decide +kernel
theorem J_MSquareRows_row_d7 : decode J_MSquareRows_row.2.1 7 = .ok (.iconst 0, 1) := by decide +kernel
theorem J_MSquareRows_row_d8 : decode J_MSquareRows_row.2.1 8 = .ok (.istore 5, 2) := by decide +kernel
theorem J_MSquareRows_row_d10 : decode J_MSquareRows_row.2.1 10 = .ok (.iload 5, 2) := by decide +kernel
theorem J_MSquareRows_row_d12 : decode J_MSquareRows_row.2.1 12 = .ok (.bipush 64, 2) := by decide +kernel
theorem J_MSquareRows_row_d14 : decode J_MSquareRows_row.2.1 14 = .ok (.if_icmp .ge 94, 3) := by decide +kernel
theorem J_MSquareRows_row_d17 : decode J_MSquareRows_row.2.1 17 = .ok (.iload_n 1, 1) := by decide +kernel
theorem J_MSquareRows_row_d18 : decode J_MSquareRows_row.2.1 18 = .ok (.i2l, 1) := by decide +kernel
theorem J_MSquareRows_row_d19 : decode J_MSquareRows_row.2.1 19 = .ok (.iload 5, 2) := by decide +kernel
theorem J_MSquareRows_row_d21 : decode J_MSquareRows_row.2.1 21 = .ok (.i2l, 1) := by decide +kernel
theorem J_MSquareRows_row_d22 : decode J_MSquareRows_row.2.1 22 = .ok (.ladd, 1) := by decide +kernel
theorem J_MSquareRows_row_d23 : decode J_MSquareRows_row.2.1 23 = .ok (.lstore 6, 2) := by decide +kernel
theorem J_MSquareRows_row_d25 : decode J_MSquareRows_row.2.1 25 = .ok (.aload_n 0, 1) := by decide +kernel
theorem J_MSquareRows_row_d26 : decode J_MSquareRows_row.2.1 26 = .ok (.getfield 229, 3) := by decide +kernel
theorem J_MSquareRows_row_d29 : decode J_MSquareRows_row.2.1 29 = .ok (.ifCond .le 37, 3) := by decide +kernel
theorem J_MSquareRows_row_d32 : decode J_MSquareRows_row.2.1 32 = .ok (.iload_n 2, 1) := by decide +kernel
theorem J_MSquareRows_row_d33 : decode J_MSquareRows_row.2.1 33 = .ok (.ifCond .lt 33, 3) := by decide +kernel
theorem J_MSquareRows_row_d36 : decode J_MSquareRows_row.2.1 36 = .ok (.iload_n 2, 1) := by decide +kernel
theorem J_MSquareRows_row_d37 : decode J_MSquareRows_row.2.1 37 = .ok (.aload_n 0, 1) := by decide +kernel
theorem J_MSquareRows_row_d38 : decode J_MSquareRows_row.2.1 38 = .ok (.getfield 163, 3) := by decide +kernel
theorem J_MSquareRows_row_d41 : decode J_MSquareRows_row.2.1 41 = .ok (.if_icmp .ge 25, 3) := by decide +kernel
theorem J_MSquareRows_row_d44 : decode J_MSquareRows_row.2.1 44 = .ok (.lload 6, 2) := by decide +kernel
theorem J_MSquareRows_row_d46 : decode J_MSquareRows_row.2.1 46 = .ok (.lconst 0, 1) := by decide +kernel
theorem J_MSquareRows_row_d47 : decode J_MSquareRows_row.2.1 47 = .ok (.lcmp, 1) := by decide +kernel
theorem J_MSquareRows_row_d48 : decode J_MSquareRows_row.2.1 48 = .ok (.ifCond .lt 18, 3) := by decide +kernel
theorem J_MSquareRows_row_d51 : decode J_MSquareRows_row.2.1 51 = .ok (.lload 6, 2) := by decide +kernel
theorem J_MSquareRows_row_d53 : decode J_MSquareRows_row.2.1 53 = .ok (.aload_n 0, 1) := by decide +kernel
theorem J_MSquareRows_row_d54 : decode J_MSquareRows_row.2.1 54 = .ok (.getfield 163, 3) := by decide +kernel
theorem J_MSquareRows_row_d57 : decode J_MSquareRows_row.2.1 57 = .ok (.i2l, 1) := by decide +kernel
theorem J_MSquareRows_row_d58 : decode J_MSquareRows_row.2.1 58 = .ok (.lcmp, 1) := by decide +kernel
theorem J_MSquareRows_row_d59 : decode J_MSquareRows_row.2.1 59 = .ok (.ifCond .ge 7, 3) := by decide +kernel
theorem J_MSquareRows_row_d62 : decode J_MSquareRows_row.2.1 62 = .ok (.iconst 1, 1) := by decide +kernel
theorem J_MSquareRows_row_d63 : decode J_MSquareRows_row.2.1 63 = .ok (.goto 4, 3) := by decide +kernel
theorem J_MSquareRows_row_d66 : decode J_MSquareRows_row.2.1 66 = .ok (.iconst 0, 1) := by decide +kernel
theorem J_MSquareRows_row_d67 : decode J_MSquareRows_row.2.1 67 = .ok (.istore 8, 2) := by decide +kernel
theorem J_MSquareRows_row_d69 : decode J_MSquareRows_row.2.1 69 = .ok (.iload 8, 2) := by decide +kernel
theorem J_MSquareRows_row_d71 : decode J_MSquareRows_row.2.1 71 = .ok (.ifCond .eq 29, 3) := by decide +kernel
theorem J_MSquareRows_row_d74 : decode J_MSquareRows_row.2.1 74 = .ok (.aload_n 0, 1) := by decide +kernel
theorem J_MSquareRows_row_d75 : decode J_MSquareRows_row.2.1 75 = .ok (.getfield 19, 3) := by decide +kernel
theorem J_MSquareRows_row_d78 : decode J_MSquareRows_row.2.1 78 = .ok (.aload_n 0, 1) := by decide +kernel
theorem J_MSquareRows_row_d79 : decode J_MSquareRows_row.2.1 79 = .ok (.lload 6, 2) := by decide +kernel
theorem J_MSquareRows_row_d81 : decode J_MSquareRows_row.2.1 81 = .ok (.l2i, 1) := by decide +kernel
theorem J_MSquareRows_row_d82 : decode J_MSquareRows_row.2.1 82 = .ok (.iload_n 2, 1) := by decide +kernel
theorem J_MSquareRows_row_d83 : decode J_MSquareRows_row.2.1 83 = .ok (.invokevirtual 166, 3) := by decide +kernel
theorem J_MSquareRows_row_d86 : decode J_MSquareRows_row.2.1 86 = .ok (.iaload, 1) := by decide +kernel
theorem J_MSquareRows_row_d87 : decode J_MSquareRows_row.2.1 87 = .ok (.iconst 1, 1) := by decide +kernel
theorem J_MSquareRows_row_d88 : decode J_MSquareRows_row.2.1 88 = .ok (.if_icmp .ne 12, 3) := by decide +kernel
theorem J_MSquareRows_row_d91 : decode J_MSquareRows_row.2.1 91 = .ok (.lload_n 3, 1) := by decide +kernel
theorem J_MSquareRows_row_d92 : decode J_MSquareRows_row.2.1 92 = .ok (.lconst 1, 1) := by decide +kernel
theorem J_MSquareRows_row_d93 : decode J_MSquareRows_row.2.1 93 = .ok (.iload 5, 2) := by decide +kernel
theorem J_MSquareRows_row_d95 : decode J_MSquareRows_row.2.1 95 = .ok (.lshl, 1) := by decide +kernel
theorem J_MSquareRows_row_d96 : decode J_MSquareRows_row.2.1 96 = .ok (.lor, 1) := by decide +kernel
theorem J_MSquareRows_row_d97 : decode J_MSquareRows_row.2.1 97 = .ok (.goto 4, 3) := by decide +kernel
theorem J_MSquareRows_row_d100 : decode J_MSquareRows_row.2.1 100 = .ok (.lload_n 3, 1) := by decide +kernel
theorem J_MSquareRows_row_d101 : decode J_MSquareRows_row.2.1 101 = .ok (.lstore_n 3, 1) := by decide +kernel
theorem J_MSquareRows_row_d102 : decode J_MSquareRows_row.2.1 102 = .ok (.iinc 5 1, 3) := by decide +kernel
theorem J_MSquareRows_row_d105 : decode J_MSquareRows_row.2.1 105 = .ok (.goto (-95), 3) := by decide +kernel
theorem J_MSquareRows_row_d108 : decode J_MSquareRows_row.2.1 108 = .ok (.lload_n 3, 1) := by decide +kernel
theorem J_MSquareRows_row_d109 : decode J_MSquareRows_row.2.1 109 = .ok (.lreturn, 1) := by decide +kernel
theorem f_MSquareRows_row_ok {L : Nat} {xs : Nat → Int32} {dep : Nat} {w : Bool} {p0 : Int32} {p1 : Int32} {M : im_M} {Q : Int64 × im_M → Prop} (hM : lw_S w M) (h : ed (f_MSquareRows_row p0 p1 M) Q) : ia (tb_G L xs) (dep + 1) J_MSquareRows_row (rwL w Q) (0, lv_args 0 [.ref 108, .int p0, .int p1], [], M) := by
  have hS : im_St (tb_G L xs) (dep + 1) J_MSquareRows_row (ia (tb_G L xs) (dep + 1) J_MSquareRows_row (rwL w Q)) := ia_St
  unfold f_MSquareRows_row at h
  have l0 : im_lk (lv_args 0 [.ref 108, .int p0, .int p1]) 0 = some (.ref 108) := rfl
  have l1 : im_lk (lv_args 0 [.ref 108, .int p0, .int p1]) 1 = some (.int p0) := rfl
  have l2 : im_lk (lv_args 0 [.ref 108, .int p0, .int p1]) 2 = some (.int p1) := rfl
  refine iq_aload_n hS 1 J_MSquareRows_row_d0 l0 rfl ?_
  refine iq_iconst hS 2 J_MSquareRows_row_d1 (v := 0) (by decide +kernel) rfl ?_
  refine iq_putI hS 5 J_MSquareRows_row_d2 lf_16_73 (Or.inl rfl) rfl (ka_108 hM) rfl ?_
  refine iq_lconst hS 6 J_MSquareRows_row_d5 (v := 0) (by decide +kernel) rfl ?_
  refine iq_lstore_n hS 7 J_MSquareRows_row_d6 (by decide) rfl ?_
  refine iq_iconst hS 8 J_MSquareRows_row_d7 (v := 0) (by decide +kernel) rfl ?_
  refine iq_istore hS 10 J_MSquareRows_row_d8 (by decide) rfl ?_
  obtain ⟨Q1, hQ1, h⟩ := bd1_ed h
  have K1 : ∀ (y2 : Int64) (L' : List (Nat × Value)), im_lk L' 3 = some (.long y2) → Q1 y2 → ia (tb_G L xs) (dep + 1) J_MSquareRows_row (rwL w Q) (108, L', [], (im_setI M 108 0 0)) := by
    intro y2 L' l3 h
    replace h := hQ1 _ h
    refine iq_lload_n hS 109 J_MSquareRows_row_d108 l3 rfl ?_
    exact iq_lret J_MSquareRows_row_d109 rfl ⟨_, rfl, hM, ed_some h⟩
  obtain ⟨r1, hr1, hq1⟩ := h
  obtain ⟨n1, hn1⟩ := lp_n hr1
  have I1 : ∀ (n : Nat) (x4 : Int64) (x5 : Int32) (L' : List (Nat × Value)), im_lk L' 0 = some (.ref 108) → im_lk L' 1 = some (.int p0) → im_lk L' 2 = some (.int p1) → im_lk L' 3 = some (.long x4) → im_lk L' 5 = some (.int x5) → lpn (uc2 (f_MSquareRows_row_L10 p0 p1 (im_setI M 108 0 0))) n (x4, x5) = some r1 → ia (tb_G L xs) (dep + 1) J_MSquareRows_row (rwL w Q) (10, L', [], (im_setI M 108 0 0)) := by
    intro n
    induction n with
    | zero => intro x4 x5 L' l6 l7 l8 l9 l10 hn; exact (lpn_0 hn).elim
    | succ n ih =>
      intro x4 x5 L' l6 l7 l8 l9 l10 hn
      have h := lpn_ed2 hn
      unfold f_MSquareRows_row_L10 at h
      refine iq_iload hS 12 J_MSquareRows_row_d10 l10 rfl ?_
      refine iq_bipush hS 14 J_MSquareRows_row_d12 (v := 64) (by decide +kernel) rfl ?_
      refine iq_icmp_ge hS 17 J_MSquareRows_row_d14 (t := 108) rfl (fun q14 => ?_) rfl (fun q14 => ?_)
      · replace h := ed_pos q14 h
        exact K1 _ _ l9 (lq_r h hq1)
      · replace h := ed_neg q14 h
        refine iq_iload_n hS 18 J_MSquareRows_row_d17 l7 rfl ?_
        refine iq_i2l hS 19 J_MSquareRows_row_d18 rfl ?_
        refine iq_iload hS 21 J_MSquareRows_row_d19 l10 rfl ?_
        refine iq_i2l hS 22 J_MSquareRows_row_d21 rfl ?_
        refine iq_ladd hS 23 J_MSquareRows_row_d22 rfl ?_
        refine iq_lstore hS 25 J_MSquareRows_row_d23 (by decide) rfl ?_
        refine iq_aload_n hS 26 J_MSquareRows_row_d25 (lk_2r l6 (by decide) (by decide)) rfl ?_
        refine iq_getI hS 29 J_MSquareRows_row_d26 lf_16_229 (Or.inl rfl) (ka_108 hM) rfl ?_
        have J11 : ∀ (z12 : Int32) (L' : List (Nat × Value)), z12 = ((if (im_i (im_setI M 108 0 0) 108 7) ≤ 0 then 0 else (if p1 < 0 then 0 else (if (im_i (im_setI M 108 0 0) 108 8) ≤ p1 then 0 else (if (lg_cmp ((Int32.toInt64 p0) + (Int32.toInt64 x5)) 0) < 0 then 0 else (if 0 ≤ (lg_cmp ((Int32.toInt64 p0) + (Int32.toInt64 x5)) (Int32.toInt64 (im_i (im_setI M 108 0 0) 108 8))) then 0 else 1))))) : Int32) → im_lk L' 0 = some (.ref 108) → im_lk L' 1 = some (.int p0) → im_lk L' 2 = some (.int p1) → im_lk L' 3 = some (.long x4) → im_lk L' 5 = some (.int x5) → im_lk L' 6 = some (.long ((Int32.toInt64 p0) + (Int32.toInt64 x5))) → ia (tb_G L xs) (dep + 1) J_MSquareRows_row (rwL w Q) (67, L', [.int z12], (im_setI M 108 0 0)) := by
          intro z12 L' e13 l14 l15 l16 l17 l18 l19
          subst e13
          refine iq_istore hS 69 J_MSquareRows_row_d67 (by decide) rfl ?_
          refine iq_iload hS 71 J_MSquareRows_row_d69 lk_1s rfl ?_
          obtain ⟨Q20, hQ20, h⟩ := bd1_ed h
          have J20 : ∀ (y28 : Int64) (L' : List (Nat × Value)), im_lk L' 0 = some (.ref 108) → im_lk L' 1 = some (.int p0) → im_lk L' 2 = some (.int p1) → im_lk L' 5 = some (.int x5) → Q20 y28 → ia (tb_G L xs) (dep + 1) J_MSquareRows_row (rwL w Q) (101, L', [.long y28], (im_setI M 108 0 0)) := by
            intro y28 L' l29 l30 l31 l32 h
            replace h := hQ20 _ h
            refine iq_lstore_n hS 102 J_MSquareRows_row_d101 (by decide) rfl ?_
            refine iq_iincv hS 105 J_MSquareRows_row_d102 (c := 1) (by decide +kernel) (lk_2i l32 (by decide) (by decide)) (by decide) rfl ?_
            refine iq_goto hS J_MSquareRows_row_d105 (t := 10) rfl ?_
            exact ih _ _ _ (lk_1r (lk_2r l29 (by decide) (by decide)) (by decide)) (lk_1i (lk_2i l30 (by decide) (by decide)) (by decide)) (lk_1i (lk_2i l31 (by decide) (by decide)) (by decide)) (lk_1l lk_2s (by decide) (by decide)) lk_1s (lq_l h)
          obtain ⟨k21, Q21, hQ21, hk21, h⟩ := jn0_ed h
          have J21 : ∀  (L' : List (Nat × Value)), im_lk L' 0 = some (.ref 108) → im_lk L' 1 = some (.int p0) → im_lk L' 2 = some (.int p1) → im_lk L' 3 = some (.long x4) → im_lk L' 5 = some (.int x5) → Q21 () → ia (tb_G L xs) (dep + 1) J_MSquareRows_row (rwL w Q) (100, L', [], (im_setI M 108 0 0)) := by
            intro  L' l23 l24 l25 l26 l27 h
            replace h := hQ21  h
            refine iq_lload_n hS 101 J_MSquareRows_row_d100 l26 rfl ?_
            exact J20 _ _ l23 l24 l25 l27 (ed_some h)
          refine iq_if_eq hS 74 J_MSquareRows_row_d71 (t := 100) rfl (fun q71 => ?_) rfl (fun q71 => ?_)
          · replace h := ed_pos q71 h
            exact J21  _ (lk_1r l14 (by decide)) (lk_1i l15 (by decide)) (lk_1i l16 (by decide)) (lk_1l l17 (by decide) (by decide)) (lk_1i l18 (by decide)) (hk21  h)
          · replace h := ed_neg q71 h
            refine iq_aload_n hS 75 J_MSquareRows_row_d74 (lk_1r l14 (by decide)) rfl ?_
            refine iq_getR hS 78 J_MSquareRows_row_d75 lf_16_19 (Or.inr ⟨_, rfl⟩) (ka_108 hM) (ra_108_5 hM) rfl ?_
            refine iq_aload_n hS 79 J_MSquareRows_row_d78 (lk_1r l14 (by decide)) rfl ?_
            refine iq_lload hS 81 J_MSquareRows_row_d79 (lk_1l l19 (by decide) (by decide)) rfl ?_
            refine iq_l2i hS 82 J_MSquareRows_row_d81 rfl ?_
            refine iq_iload_n hS 83 J_MSquareRows_row_d82 (lk_1i l16 (by decide)) rfl ?_
            obtain ⟨Q22, hQ22, h⟩ := bd1_ed h
            refine iq_cpI hS 86 J_MSquareRows_row_d83 rfl (pr_inst (vs := [_, _]) lc_16_166 lT_412 rfl rfl (by decide) (by decide) rfl (Nat.le_of_ble_eq_true rfl) (Nat.le_of_ble_eq_true rfl) (fun _ => Or.inl (pr_b (ka_108 hM) (by decide) rfl))) (f_MSquareRows_moduleAt_ok (dep := dep + 0) hM h) rfl ?_
            intro x22 h
            replace h := hQ22 _ h
            obtain ⟨g86, h⟩ := ed_gd h
            refine iq_iaload hS 87 J_MSquareRows_row_d86 ⟨(ka_112 hM).1, (ka_112 hM).2, g86.1, ix_lt (kl_112 hM) g86.2⟩ rfl ?_
            refine iq_iconst hS 88 J_MSquareRows_row_d87 (v := 1) (by decide +kernel) rfl ?_
            refine iq_icmp_ne hS 91 J_MSquareRows_row_d88 (t := 100) rfl (fun q88 => ?_) rfl (fun q88 => ?_)
            · replace h := ed_pos q88 h
              exact J21  _ (lk_1r l14 (by decide)) (lk_1i l15 (by decide)) (lk_1i l16 (by decide)) (lk_1l l17 (by decide) (by decide)) (lk_1i l18 (by decide)) (hk21  h)
            · replace h := ed_neg q88 h
              refine iq_lload_n hS 92 J_MSquareRows_row_d91 (lk_1l l17 (by decide) (by decide)) rfl ?_
              refine iq_lconst hS 93 J_MSquareRows_row_d92 (v := 1) (by decide +kernel) rfl ?_
              refine iq_iload hS 95 J_MSquareRows_row_d93 (lk_1i l18 (by decide)) rfl ?_
              refine iq_lshl hS 96 J_MSquareRows_row_d95 rfl ?_
              refine iq_lor hS 97 J_MSquareRows_row_d96 rfl ?_
              refine iq_goto hS J_MSquareRows_row_d97 (t := 101) rfl ?_
              exact J20 _ _ (lk_1r l14 (by decide)) (lk_1i l15 (by decide)) (lk_1i l16 (by decide)) (lk_1i l18 (by decide)) (ed_some h)
        refine iq_if_le hS 32 J_MSquareRows_row_d29 (t := 66) rfl (fun q29 => ?_) rfl (fun q29 => ?_)
        · refine iq_iconst hS 67 J_MSquareRows_row_d66 (v := 0) (by decide +kernel) rfl ?_
          exact J11 _ _ (by rw [if_pos q29]) (lk_2r l6 (by decide) (by decide)) (lk_2i l7 (by decide) (by decide)) (lk_2i l8 (by decide) (by decide)) (lk_2l l9 (by decide) (by decide) (by decide)) (lk_2i l10 (by decide) (by decide)) lk_2s
        · refine iq_iload_n hS 33 J_MSquareRows_row_d32 (lk_2i l8 (by decide) (by decide)) rfl ?_
          refine iq_if_lt hS 36 J_MSquareRows_row_d33 (t := 66) rfl (fun q33 => ?_) rfl (fun q33 => ?_)
          · refine iq_iconst hS 67 J_MSquareRows_row_d66 (v := 0) (by decide +kernel) rfl ?_
            exact J11 _ _ (by rw [if_neg q29, if_pos q33]) (lk_2r l6 (by decide) (by decide)) (lk_2i l7 (by decide) (by decide)) (lk_2i l8 (by decide) (by decide)) (lk_2l l9 (by decide) (by decide) (by decide)) (lk_2i l10 (by decide) (by decide)) lk_2s
          · refine iq_iload_n hS 37 J_MSquareRows_row_d36 (lk_2i l8 (by decide) (by decide)) rfl ?_
            refine iq_aload_n hS 38 J_MSquareRows_row_d37 (lk_2r l6 (by decide) (by decide)) rfl ?_
            refine iq_getI hS 41 J_MSquareRows_row_d38 lf_16_163 (Or.inl rfl) (ka_108 hM) rfl ?_
            refine iq_icmp_ge hS 44 J_MSquareRows_row_d41 (t := 66) rfl (fun q41 => ?_) rfl (fun q41 => ?_)
            · refine iq_iconst hS 67 J_MSquareRows_row_d66 (v := 0) (by decide +kernel) rfl ?_
              exact J11 _ _ (by rw [if_neg q29, if_neg q33, if_pos q41]) (lk_2r l6 (by decide) (by decide)) (lk_2i l7 (by decide) (by decide)) (lk_2i l8 (by decide) (by decide)) (lk_2l l9 (by decide) (by decide) (by decide)) (lk_2i l10 (by decide) (by decide)) lk_2s
            · refine iq_lload hS 46 J_MSquareRows_row_d44 lk_2s rfl ?_
              refine iq_lconst hS 47 J_MSquareRows_row_d46 (v := 0) (by decide +kernel) rfl ?_
              refine iq_lcmp hS 48 J_MSquareRows_row_d47 rfl ?_
              refine iq_if_lt hS 51 J_MSquareRows_row_d48 (t := 66) rfl (fun q48 => ?_) rfl (fun q48 => ?_)
              · refine iq_iconst hS 67 J_MSquareRows_row_d66 (v := 0) (by decide +kernel) rfl ?_
                exact J11 _ _ (by rw [if_neg q29, if_neg q33, if_neg q41, if_pos q48]) (lk_2r l6 (by decide) (by decide)) (lk_2i l7 (by decide) (by decide)) (lk_2i l8 (by decide) (by decide)) (lk_2l l9 (by decide) (by decide) (by decide)) (lk_2i l10 (by decide) (by decide)) lk_2s
              · refine iq_lload hS 53 J_MSquareRows_row_d51 lk_2s rfl ?_
                refine iq_aload_n hS 54 J_MSquareRows_row_d53 (lk_2r l6 (by decide) (by decide)) rfl ?_
                refine iq_getI hS 57 J_MSquareRows_row_d54 lf_16_163 (Or.inl rfl) (ka_108 hM) rfl ?_
                refine iq_i2l hS 58 J_MSquareRows_row_d57 rfl ?_
                refine iq_lcmp hS 59 J_MSquareRows_row_d58 rfl ?_
                refine iq_if_ge hS 62 J_MSquareRows_row_d59 (t := 66) rfl (fun q59 => ?_) rfl (fun q59 => ?_)
                · refine iq_iconst hS 67 J_MSquareRows_row_d66 (v := 0) (by decide +kernel) rfl ?_
                  exact J11 _ _ (by rw [if_neg q29, if_neg q33, if_neg q41, if_neg q48, if_pos q59]) (lk_2r l6 (by decide) (by decide)) (lk_2i l7 (by decide) (by decide)) (lk_2i l8 (by decide) (by decide)) (lk_2l l9 (by decide) (by decide) (by decide)) (lk_2i l10 (by decide) (by decide)) lk_2s
                · refine iq_iconst hS 63 J_MSquareRows_row_d62 (v := 1) (by decide +kernel) rfl ?_
                  refine iq_goto hS J_MSquareRows_row_d63 (t := 67) rfl ?_
                  exact J11 _ _ (by rw [if_neg q29, if_neg q33, if_neg q41, if_neg q48, if_neg q59]) (lk_2r l6 (by decide) (by decide)) (lk_2i l7 (by decide) (by decide)) (lk_2i l8 (by decide) (by decide)) (lk_2l l9 (by decide) (by decide) (by decide)) (lk_2i l10 (by decide) (by decide)) lk_2s
  exact I1 n1 _ _ _ (lk_1r (lk_2r l0 (by decide) (by decide)) (by decide)) (lk_1i (lk_2i l1 (by decide) (by decide)) (by decide)) (lk_1i (lk_2i l2 (by decide) (by decide)) (by decide)) (lk_1l lk_2s (by decide) (by decide)) lk_1s hn1
noncomputable def f_M_draftSymbol_L22 (v4 : Int32) (v5 : Int32) (x6 : Int32) (M7 : im_M) : Option ((Int32 × im_M) ⊕ (im_M)) := if v5 ≤ x6 then some (.inr M7) else bd2 (f_M_byteOf v4 x6 M7) fun (x8 : Int32) (M8 : im_M) => bd2 (f_MSquareRows_put 1 (Int32.toInt64 x8) M8) fun (x9 : Int32) (M9 : im_M) => some (.inl ((x6 + 1), M9))
noncomputable def f_M_draftSymbol_L92 (v15 : Int32) (x16 : Int32) (x17 : Int32) (M18 : im_M) : Option ((Int32 × Int32 × im_M) ⊕ (Int32 × im_M)) := if (v15 * v15) ≤ x17 then some (.inr (x16, M18)) else gd (¬ v15 = (0 : Int32)) <| gd (¬ v15 = (0 : Int32)) <| bd2 (f_MSquareRows_row (x17 - x17 / v15 * v15) (x17 / v15) M18) fun (x19 : Int64) (M19 : im_M) => bd2 (if ¬ (x17 - x17 / 8 * 8) = 7 then some ((((2 : Int32) * x16) + (Int64.toInt32 (x19 &&& 1))), M19) else bd1 (f_M_draft (((2 : Int32) * x16) + (Int64.toInt32 (x19 &&& 1))) M19) fun (M21 : im_M) => some (0, M21)) fun (y22 : Int32) (M23 : im_M) => some (.inl (y22, (x17 + 1), M23))
noncomputable def f_M_draftSymbol (p0 : Int32) (M : im_M) : Option (Int32 × im_M) := bd2 (f_MSquareRows_wipe M) fun (x1 : Int32) (M1 : im_M) => bd2 (f_MScriptRows_order p0 8 M1) fun (x2 : Int32) (M2 : im_M) => bd1 (lp (uc2 (f_M_draftSymbol_L22 p0 x2)) (0, M2)) fun (M10 : im_M) => bd2 (f_MScriptRows_order p0 6 M10) fun (x11 : Int32) (M11 : im_M) => bd2 (f_MScriptRows_order p0 7 M11) fun (x12 : Int32) (M12 : im_M) => bd2 (f_MSquareRows_make x11 0 x12 M12) fun (x13 : Int32) (M13 : im_M) => bd2 (lp (uc3 (f_M_draftSymbol_L92 ((17 : Int32) + ((4 : Int32) * x13)))) (0, 0, M13)) fun (y28 : Int32) (M29 : im_M) => bd1 (f_M_draft (y28 <<< (((8 : Int32) - ((((17 : Int32) + ((4 : Int32) * x13)) * ((17 : Int32) + ((4 : Int32) * x13))) - (((17 : Int32) + ((4 : Int32) * x13)) * ((17 : Int32) + ((4 : Int32) * x13))) / 8 * 8)) &&& 31)) M29) fun (M30 : im_M) => some (((17 : Int32) + ((4 : Int32) * x13)), M30)
theorem J_M_draftSymbol_d0 : decode J_M_draftSymbol.2.1 0 = .ok (.aload_n 0, 1) := by decide +kernel
theorem J_M_draftSymbol_d1 : decode J_M_draftSymbol.2.1 1 = .ok (.getfield 37, 3) := by decide +kernel
theorem J_M_draftSymbol_d4 : decode J_M_draftSymbol.2.1 4 = .ok (.invokevirtual 135, 3) := by decide +kernel
theorem J_M_draftSymbol_d7 : decode J_M_draftSymbol.2.1 7 = .ok (.istore_n 2, 1) := by decide +kernel
theorem J_M_draftSymbol_d8 : decode J_M_draftSymbol.2.1 8 = .ok (.aload_n 0, 1) := by decide +kernel
theorem J_M_draftSymbol_d9 : decode J_M_draftSymbol.2.1 9 = .ok (.getfield 16, 3) := by decide +kernel
theorem J_M_draftSymbol_d12 : decode J_M_draftSymbol.2.1 12 = .ok (.iload_n 1, 1) := by decide +kernel
theorem J_M_draftSymbol_d13 : decode J_M_draftSymbol.2.1 13 = .ok (.bipush 8, 2) := by decide +kernel
theorem J_M_draftSymbol_d15 : decode J_M_draftSymbol.2.1 15 = .ok (.invokevirtual 97, 3) := by decide +kernel
theorem J_M_draftSymbol_d18 : decode J_M_draftSymbol.2.1 18 = .ok (.istore_n 3, 1) := by decide +kernel
theorem J_M_draftSymbol_d19 : decode J_M_draftSymbol.2.1 19 = .ok (.iconst 0, 1) := by decide +kernel
theorem J_M_draftSymbol_d20 : decode J_M_draftSymbol.2.1 20 = .ok (.istore 4, 2) := by decide +kernel
theorem J_M_draftSymbol_d22 : decode J_M_draftSymbol.2.1 22 = .ok (.iload 4, 2) := by decide +kernel
theorem J_M_draftSymbol_d24 : decode J_M_draftSymbol.2.1 24 = .ok (.iload_n 3, 1) := by decide +kernel
theorem J_M_draftSymbol_d25 : decode J_M_draftSymbol.2.1 25 = .ok (.if_icmp .ge 26, 3) := by decide +kernel
theorem J_M_draftSymbol_d28 : decode J_M_draftSymbol.2.1 28 = .ok (.aload_n 0, 1) := by decide +kernel
theorem J_M_draftSymbol_d29 : decode J_M_draftSymbol.2.1 29 = .ok (.getfield 37, 3) := by decide +kernel
theorem J_M_draftSymbol_d32 : decode J_M_draftSymbol.2.1 32 = .ok (.iconst 1, 1) := by decide +kernel
theorem J_M_draftSymbol_d33 : decode J_M_draftSymbol.2.1 33 = .ok (.aload_n 0, 1) := by decide +kernel
theorem J_M_draftSymbol_d34 : decode J_M_draftSymbol.2.1 34 = .ok (.iload_n 1, 1) := by decide +kernel
theorem J_M_draftSymbol_d35 : decode J_M_draftSymbol.2.1 35 = .ok (.iload 4, 2) := by decide +kernel
theorem J_M_draftSymbol_d37 : decode J_M_draftSymbol.2.1 37 = .ok (.invokevirtual 105, 3) := by decide +kernel
theorem J_M_draftSymbol_d40 : decode J_M_draftSymbol.2.1 40 = .ok (.i2l, 1) := by decide +kernel
theorem J_M_draftSymbol_d41 : decode J_M_draftSymbol.2.1 41 = .ok (.invokevirtual 136, 3) := by decide +kernel
theorem J_M_draftSymbol_d44 : decode J_M_draftSymbol.2.1 44 = .ok (.istore_n 2, 1) := by decide +kernel
theorem J_M_draftSymbol_d45 : decode J_M_draftSymbol.2.1 45 = .ok (.iinc 4 1, 3) := by decide +kernel
theorem J_M_draftSymbol_d48 : decode J_M_draftSymbol.2.1 48 = .ok (.goto (-26), 3) := by decide +kernel
theorem J_M_draftSymbol_d51 : decode J_M_draftSymbol.2.1 51 = .ok (.bipush 17, 2) := by decide +kernel
theorem J_M_draftSymbol_d53 : decode J_M_draftSymbol.2.1 53 = .ok (.iconst 4, 1) := by decide +kernel
theorem J_M_draftSymbol_d54 : decode J_M_draftSymbol.2.1 54 = .ok (.aload_n 0, 1) := by decide +kernel
theorem J_M_draftSymbol_d55 : decode J_M_draftSymbol.2.1 55 = .ok (.getfield 37, 3) := by decide +kernel
theorem J_M_draftSymbol_d58 : decode J_M_draftSymbol.2.1 58 = .ok (.aload_n 0, 1) := by decide +kernel
theorem J_M_draftSymbol_d59 : decode J_M_draftSymbol.2.1 59 = .ok (.getfield 16, 3) := by decide +kernel
theorem J_M_draftSymbol_d62 : decode J_M_draftSymbol.2.1 62 = .ok (.iload_n 1, 1) := by decide +kernel
theorem J_M_draftSymbol_d63 : decode J_M_draftSymbol.2.1 63 = .ok (.bipush 6, 2) := by decide +kernel
theorem J_M_draftSymbol_d65 : decode J_M_draftSymbol.2.1 65 = .ok (.invokevirtual 97, 3) := by decide +kernel
theorem J_M_draftSymbol_d68 : decode J_M_draftSymbol.2.1 68 = .ok (.iconst 0, 1) := by decide +kernel
theorem J_M_draftSymbol_d69 : decode J_M_draftSymbol.2.1 69 = .ok (.aload_n 0, 1) := by decide +kernel
theorem J_M_draftSymbol_d70 : decode J_M_draftSymbol.2.1 70 = .ok (.getfield 16, 3) := by decide +kernel
theorem J_M_draftSymbol_d73 : decode J_M_draftSymbol.2.1 73 = .ok (.iload_n 1, 1) := by decide +kernel
theorem J_M_draftSymbol_d74 : decode J_M_draftSymbol.2.1 74 = .ok (.bipush 7, 2) := by decide +kernel
theorem J_M_draftSymbol_d76 : decode J_M_draftSymbol.2.1 76 = .ok (.invokevirtual 97, 3) := by decide +kernel
theorem J_M_draftSymbol_d79 : decode J_M_draftSymbol.2.1 79 = .ok (.invokevirtual 139, 3) := by decide +kernel
theorem J_M_draftSymbol_d82 : decode J_M_draftSymbol.2.1 82 = .ok (.imul, 1) := by decide +kernel
theorem J_M_draftSymbol_d83 : decode J_M_draftSymbol.2.1 83 = .ok (.iadd, 1) := by decide +kernel
theorem J_M_draftSymbol_d84 : decode J_M_draftSymbol.2.1 84 = .ok (.istore 4, 2) := by decide +kernel
theorem J_M_draftSymbol_d86 : decode J_M_draftSymbol.2.1 86 = .ok (.iconst 0, 1) := by decide +kernel
theorem J_M_draftSymbol_d87 : decode J_M_draftSymbol.2.1 87 = .ok (.istore 5, 2) := by decide +kernel
theorem J_M_draftSymbol_d89 : decode J_M_draftSymbol.2.1 89 = .ok (.iconst 0, 1) := by decide +kernel
theorem J_M_draftSymbol_d90 : decode J_M_draftSymbol.2.1 90 = .ok (.istore 6, 2) := by decide +kernel
theorem J_M_draftSymbol_d92 : decode J_M_draftSymbol.2.1 92 = .ok (.iload 6, 2) := by decide +kernel
theorem J_M_draftSymbol_d94 : decode J_M_draftSymbol.2.1 94 = .ok (.iload 4, 2) := by decide +kernel
theorem J_M_draftSymbol_d96 : decode J_M_draftSymbol.2.1 96 = .ok (.iload 4, 2) := by decide +kernel
theorem J_M_draftSymbol_d98 : decode J_M_draftSymbol.2.1 98 = .ok (.imul, 1) := by decide +kernel
theorem J_M_draftSymbol_d99 : decode J_M_draftSymbol.2.1 99 = .ok (.if_icmp .ge 55, 3) := by decide +kernel
theorem J_M_draftSymbol_d102 : decode J_M_draftSymbol.2.1 102 = .ok (.iconst 2, 1) := by decide +kernel
theorem J_M_draftSymbol_d103 : decode J_M_draftSymbol.2.1 103 = .ok (.iload 5, 2) := by decide +kernel
theorem J_M_draftSymbol_d105 : decode J_M_draftSymbol.2.1 105 = .ok (.imul, 1) := by decide +kernel
theorem J_M_draftSymbol_d106 : decode J_M_draftSymbol.2.1 106 = .ok (.aload_n 0, 1) := by decide +kernel
theorem J_M_draftSymbol_d107 : decode J_M_draftSymbol.2.1 107 = .ok (.getfield 37, 3) := by decide +kernel
theorem J_M_draftSymbol_d110 : decode J_M_draftSymbol.2.1 110 = .ok (.iload 6, 2) := by decide +kernel
theorem J_M_draftSymbol_d112 : decode J_M_draftSymbol.2.1 112 = .ok (.iload 4, 2) := by decide +kernel
theorem J_M_draftSymbol_d114 : decode J_M_draftSymbol.2.1 114 = .ok (.irem, 1) := by decide +kernel
theorem J_M_draftSymbol_d115 : decode J_M_draftSymbol.2.1 115 = .ok (.iload 6, 2) := by decide +kernel
theorem J_M_draftSymbol_d117 : decode J_M_draftSymbol.2.1 117 = .ok (.iload 4, 2) := by decide +kernel
theorem J_M_draftSymbol_d119 : decode J_M_draftSymbol.2.1 119 = .ok (.idiv, 1) := by decide +kernel
theorem J_M_draftSymbol_d120 : decode J_M_draftSymbol.2.1 120 = .ok (.invokevirtual 143, 3) := by decide +kernel
theorem J_M_draftSymbol_d123 : decode J_M_draftSymbol.2.1 123 = .ok (.lconst 1, 1) := by decide +kernel
theorem J_M_draftSymbol_d124 : decode J_M_draftSymbol.2.1 124 = .ok (.land, 1) := by decide +kernel
theorem J_M_draftSymbol_d125 : decode J_M_draftSymbol.2.1 125 = .ok (.l2i, 1) := by decide +kernel
theorem J_M_draftSymbol_d126 : decode J_M_draftSymbol.2.1 126 = .ok (.iadd, 1) := by decide +kernel
theorem J_M_draftSymbol_d127 : decode J_M_draftSymbol.2.1 127 = .ok (.istore 5, 2) := by decide +kernel
theorem J_M_draftSymbol_d129 : decode J_M_draftSymbol.2.1 129 = .ok (.iload 6, 2) := by decide +kernel
theorem J_M_draftSymbol_d131 : decode J_M_draftSymbol.2.1 131 = .ok (.bipush 8, 2) := by decide +kernel
theorem J_M_draftSymbol_d133 : decode J_M_draftSymbol.2.1 133 = .ok (.irem, 1) := by decide +kernel
theorem J_M_draftSymbol_d134 : decode J_M_draftSymbol.2.1 134 = .ok (.bipush 7, 2) := by decide +kernel
theorem J_M_draftSymbol_d136 : decode J_M_draftSymbol.2.1 136 = .ok (.if_icmp .ne 12, 3) := by decide +kernel
theorem J_M_draftSymbol_d139 : decode J_M_draftSymbol.2.1 139 = .ok (.aload_n 0, 1) := by decide +kernel
theorem J_M_draftSymbol_d140 : decode J_M_draftSymbol.2.1 140 = .ok (.iload 5, 2) := by decide +kernel
theorem J_M_draftSymbol_d142 : decode J_M_draftSymbol.2.1 142 = .ok (.invokevirtual 108, 3) := by decide +kernel
theorem J_M_draftSymbol_d145 : decode J_M_draftSymbol.2.1 145 = .ok (.iconst 0, 1) := by decide +kernel
theorem J_M_draftSymbol_d146 : decode J_M_draftSymbol.2.1 146 = .ok (.istore 5, 2) := by decide +kernel
theorem J_M_draftSymbol_d148 : decode J_M_draftSymbol.2.1 148 = .ok (.iinc 6 1, 3) := by decide +kernel
theorem J_M_draftSymbol_d151 : decode J_M_draftSymbol.2.1 151 = .ok (.goto (-59), 3) := by decide +kernel
theorem J_M_draftSymbol_d154 : decode J_M_draftSymbol.2.1 154 = .ok (.aload_n 0, 1) := by decide +kernel
theorem J_M_draftSymbol_d155 : decode J_M_draftSymbol.2.1 155 = .ok (.iload 5, 2) := by decide +kernel
theorem J_M_draftSymbol_d157 : decode J_M_draftSymbol.2.1 157 = .ok (.bipush 8, 2) := by decide +kernel
theorem J_M_draftSymbol_d159 : decode J_M_draftSymbol.2.1 159 = .ok (.iload 4, 2) := by decide +kernel
theorem J_M_draftSymbol_d161 : decode J_M_draftSymbol.2.1 161 = .ok (.iload 4, 2) := by decide +kernel
theorem J_M_draftSymbol_d163 : decode J_M_draftSymbol.2.1 163 = .ok (.imul, 1) := by decide +kernel
theorem J_M_draftSymbol_d164 : decode J_M_draftSymbol.2.1 164 = .ok (.bipush 8, 2) := by decide +kernel
theorem J_M_draftSymbol_d166 : decode J_M_draftSymbol.2.1 166 = .ok (.irem, 1) := by decide +kernel
theorem J_M_draftSymbol_d167 : decode J_M_draftSymbol.2.1 167 = .ok (.isub, 1) := by decide +kernel
theorem J_M_draftSymbol_d168 : decode J_M_draftSymbol.2.1 168 = .ok (.ishl, 1) := by decide +kernel
theorem J_M_draftSymbol_d169 : decode J_M_draftSymbol.2.1 169 = .ok (.invokevirtual 108, 3) := by decide +kernel
theorem J_M_draftSymbol_d172 : decode J_M_draftSymbol.2.1 172 = .ok (.iload 4, 2) := by decide +kernel
theorem J_M_draftSymbol_d174 : decode J_M_draftSymbol.2.1 174 = .ok (.ireturn, 1) := by decide +kernel
theorem f_M_draftSymbol_ok {L : Nat} {xs : Nat → Int32} {dep : Nat} {w : Bool} {p0 : Int32} {M : im_M} {Q : Int32 × im_M → Prop} (hM : lw_S w M) (h : ed (f_M_draftSymbol p0 M) Q) : ia (tb_G L xs) (dep + 9) J_M_draftSymbol (rwI w Q) (0, lv_args 0 [.ref 69, .int p0], [], M) := by
  have hS : im_St (tb_G L xs) (dep + 9) J_M_draftSymbol (ia (tb_G L xs) (dep + 9) J_M_draftSymbol (rwI w Q)) := ia_St
  unfold f_M_draftSymbol at h
  have l0 : im_lk (lv_args 0 [.ref 69, .int p0]) 0 = some (.ref 69) := rfl
  have l1 : im_lk (lv_args 0 [.ref 69, .int p0]) 1 = some (.int p0) := rfl
  refine iq_aload_n hS 1 J_M_draftSymbol_d0 l0 rfl ?_
  refine iq_getR hS 4 J_M_draftSymbol_d1 lf_17_37 (Or.inl ⟨_, rfl⟩) (ka_69 hM) (ra_69_6 hM) rfl ?_
  obtain ⟨Q1, hQ1, h⟩ := bd2_ed h
  refine iq_cwI hS 7 J_M_draftSymbol_d4 rfl (pr_inst (vs := []) lc_17_135 lT_380 rfl rfl (by decide) (by decide) rfl (Nat.le_of_ble_eq_true rfl) (Nat.le_of_ble_eq_true rfl) (fun _ => Or.inl (pr_b (ka_108 hM) (by decide) rfl))) (f_MSquareRows_wipe_ok (dep := dep + 8) hM h) rfl ?_
  intro x1 M1 hM1 h
  replace h := hQ1 _ _ h
  refine iq_istore_n hS 8 J_M_draftSymbol_d7 (by decide) rfl ?_
  refine iq_aload_n hS 9 J_M_draftSymbol_d8 (lk_1r l0 (by decide)) rfl ?_
  refine iq_getR hS 12 J_M_draftSymbol_d9 lf_17_16 (Or.inl ⟨_, rfl⟩) (ka_69 hM1) (ra_69_3 hM1) rfl ?_
  refine iq_iload_n hS 13 J_M_draftSymbol_d12 (lk_1i l1 (by decide)) rfl ?_
  refine iq_bipush hS 15 J_M_draftSymbol_d13 (v := 8) (by decide +kernel) rfl ?_
  obtain ⟨Q2, hQ2, h⟩ := bd2_ed h
  refine iq_cwI hS 18 J_M_draftSymbol_d15 rfl (pr_inst (vs := [_, _]) lc_17_97 lT_321 rfl rfl (by decide) (by decide) rfl (Nat.le_of_ble_eq_true rfl) (Nat.le_of_ble_eq_true rfl) (fun _ => Or.inl (pr_b (ka_71 hM1) (by decide) rfl))) (f_MScriptRows_order_ok (dep := dep + 8) hM1 h) rfl ?_
  intro x2 M2 hM2 h
  replace h := hQ2 _ _ h
  refine iq_istore_n hS 19 J_M_draftSymbol_d18 (by decide) rfl ?_
  refine iq_iconst hS 20 J_M_draftSymbol_d19 (v := 0) (by decide +kernel) rfl ?_
  refine iq_istore hS 22 J_M_draftSymbol_d20 (by decide) rfl ?_
  obtain ⟨Q3, hQ3, h⟩ := bd1_ed h
  have K3 : ∀ (M4 : im_M) (L' : List (Nat × Value)), lw_S w M4 → im_lk L' 0 = some (.ref 69) → im_lk L' 1 = some (.int p0) → Q3 M4 → ia (tb_G L xs) (dep + 9) J_M_draftSymbol (rwI w Q) (51, L', [], M4) := by
    intro M4 L' hM4 l5 l6 h
    replace h := hQ3 _ h
    refine iq_bipush hS 53 J_M_draftSymbol_d51 (v := 17) (by decide +kernel) rfl ?_
    refine iq_iconst hS 54 J_M_draftSymbol_d53 (v := 4) (by decide +kernel) rfl ?_
    refine iq_aload_n hS 55 J_M_draftSymbol_d54 l5 rfl ?_
    refine iq_getR hS 58 J_M_draftSymbol_d55 lf_17_37 (Or.inl ⟨_, rfl⟩) (ka_69 hM4) (ra_69_6 hM4) rfl ?_
    refine iq_aload_n hS 59 J_M_draftSymbol_d58 l5 rfl ?_
    refine iq_getR hS 62 J_M_draftSymbol_d59 lf_17_16 (Or.inl ⟨_, rfl⟩) (ka_69 hM4) (ra_69_3 hM4) rfl ?_
    refine iq_iload_n hS 63 J_M_draftSymbol_d62 l6 rfl ?_
    refine iq_bipush hS 65 J_M_draftSymbol_d63 (v := 6) (by decide +kernel) rfl ?_
    obtain ⟨Q7, hQ7, h⟩ := bd2_ed h
    refine iq_cwI hS 68 J_M_draftSymbol_d65 rfl (pr_inst (vs := [_, _]) lc_17_97 lT_321 rfl rfl (by decide) (by decide) rfl (Nat.le_of_ble_eq_true rfl) (Nat.le_of_ble_eq_true rfl) (fun _ => Or.inl (pr_b (ka_71 hM4) (by decide) rfl))) (f_MScriptRows_order_ok (dep := dep + 8) hM4 h) rfl ?_
    intro x7 M7 hM7 h
    replace h := hQ7 _ _ h
    refine iq_iconst hS 69 J_M_draftSymbol_d68 (v := 0) (by decide +kernel) rfl ?_
    refine iq_aload_n hS 70 J_M_draftSymbol_d69 l5 rfl ?_
    refine iq_getR hS 73 J_M_draftSymbol_d70 lf_17_16 (Or.inl ⟨_, rfl⟩) (ka_69 hM7) (ra_69_3 hM7) rfl ?_
    refine iq_iload_n hS 74 J_M_draftSymbol_d73 l6 rfl ?_
    refine iq_bipush hS 76 J_M_draftSymbol_d74 (v := 7) (by decide +kernel) rfl ?_
    obtain ⟨Q8, hQ8, h⟩ := bd2_ed h
    refine iq_cwI hS 79 J_M_draftSymbol_d76 rfl (pr_inst (vs := [_, _]) lc_17_97 lT_321 rfl rfl (by decide) (by decide) rfl (Nat.le_of_ble_eq_true rfl) (Nat.le_of_ble_eq_true rfl) (fun _ => Or.inl (pr_b (ka_71 hM7) (by decide) rfl))) (f_MScriptRows_order_ok (dep := dep + 8) hM7 h) rfl ?_
    intro x8 M8 hM8 h
    replace h := hQ8 _ _ h
    obtain ⟨Q9, hQ9, h⟩ := bd2_ed h
    refine iq_cwI hS 82 J_M_draftSymbol_d79 rfl (pr_inst (vs := [_, _, _]) lc_17_139 lT_382 rfl rfl (by decide) (by decide) rfl (Nat.le_of_ble_eq_true rfl) (Nat.le_of_ble_eq_true rfl) (fun _ => Or.inl (pr_b (ka_108 hM8) (by decide) rfl))) (f_MSquareRows_make_ok (dep := dep + 0) hM8 h) rfl ?_
    intro x9 M9 hM9 h
    replace h := hQ9 _ _ h
    refine iq_imul hS 83 J_M_draftSymbol_d82 rfl ?_
    refine iq_iadd hS 84 J_M_draftSymbol_d83 rfl ?_
    refine iq_istore hS 86 J_M_draftSymbol_d84 (by decide) rfl ?_
    refine iq_iconst hS 87 J_M_draftSymbol_d86 (v := 0) (by decide +kernel) rfl ?_
    refine iq_istore hS 89 J_M_draftSymbol_d87 (by decide) rfl ?_
    refine iq_iconst hS 90 J_M_draftSymbol_d89 (v := 0) (by decide +kernel) rfl ?_
    refine iq_istore hS 92 J_M_draftSymbol_d90 (by decide) rfl ?_
    obtain ⟨Q10, hQ10, h⟩ := bd2_ed h
    have K10 : ∀ (y11 : Int32) (M12 : im_M) (L' : List (Nat × Value)), lw_S w M12 → im_lk L' 0 = some (.ref 69) → im_lk L' 4 = some (.int ((17 : Int32) + ((4 : Int32) * x9))) → im_lk L' 5 = some (.int y11) → Q10 (y11, M12) → ia (tb_G L xs) (dep + 9) J_M_draftSymbol (rwI w Q) (154, L', [], M12) := by
      intro y11 M12 L' hM12 l13 l14 l15 h
      replace h := hQ10 _ _ h
      refine iq_aload_n hS 155 J_M_draftSymbol_d154 l13 rfl ?_
      refine iq_iload hS 157 J_M_draftSymbol_d155 l15 rfl ?_
      refine iq_bipush hS 159 J_M_draftSymbol_d157 (v := 8) (by decide +kernel) rfl ?_
      refine iq_iload hS 161 J_M_draftSymbol_d159 l14 rfl ?_
      refine iq_iload hS 163 J_M_draftSymbol_d161 l14 rfl ?_
      refine iq_imul hS 164 J_M_draftSymbol_d163 rfl ?_
      refine iq_bipush hS 166 J_M_draftSymbol_d164 (v := 8) (by decide +kernel) rfl ?_
      refine iq_irem hS 167 J_M_draftSymbol_d166 (by decide) rfl ?_
      refine iq_isub hS 168 J_M_draftSymbol_d167 rfl ?_
      refine iq_ishl hS 169 J_M_draftSymbol_d168 rfl ?_
      obtain ⟨Q16, hQ16, h⟩ := bd1_ed h
      refine iq_cwV hS 172 J_M_draftSymbol_d169 rfl (pr_inst (vs := [_]) lc_17_108 lT_331 rfl rfl (by decide) (by decide) rfl (Nat.le_of_ble_eq_true rfl) (Nat.le_of_ble_eq_true rfl) (fun _ => Or.inl (pr_b (ka_69 hM12) (by decide) rfl))) (f_M_draft_ok (dep := dep + 7) hM12 h) rfl ?_
      intro M16 hM16 h
      replace h := hQ16 _ h
      refine iq_iload hS 174 J_M_draftSymbol_d172 l14 rfl ?_
      exact iq_iret J_M_draftSymbol_d174 rfl rfl ⟨_, rfl, hM16, ed_some h⟩
    obtain ⟨r10, hr10, hq10⟩ := h
    obtain ⟨n10, hn10⟩ := lp_n hr10
    have I10 : ∀ (n : Nat) (x17 : Int32) (x18 : Int32) (M19 : im_M) (L' : List (Nat × Value)), lw_S w M19 → im_lk L' 0 = some (.ref 69) → im_lk L' 4 = some (.int ((17 : Int32) + ((4 : Int32) * x9))) → im_lk L' 5 = some (.int x17) → im_lk L' 6 = some (.int x18) → lpn (uc3 (f_M_draftSymbol_L92 ((17 : Int32) + ((4 : Int32) * x9)))) n (x17, x18, M19) = some r10 → ia (tb_G L xs) (dep + 9) J_M_draftSymbol (rwI w Q) (92, L', [], M19) := by
      intro n
      induction n with
      | zero => intro x17 x18 M19 L' hM19 l20 l21 l22 l23 hn; exact (lpn_0 hn).elim
      | succ n ih =>
        intro x17 x18 M19 L' hM19 l20 l21 l22 l23 hn
        have h := lpn_ed3 hn
        unfold f_M_draftSymbol_L92 at h
        refine iq_iload hS 94 J_M_draftSymbol_d92 l23 rfl ?_
        refine iq_iload hS 96 J_M_draftSymbol_d94 l21 rfl ?_
        refine iq_iload hS 98 J_M_draftSymbol_d96 l21 rfl ?_
        refine iq_imul hS 99 J_M_draftSymbol_d98 rfl ?_
        refine iq_icmp_ge hS 102 J_M_draftSymbol_d99 (t := 154) rfl (fun q99 => ?_) rfl (fun q99 => ?_)
        · replace h := ed_pos q99 h
          exact K10 _ _ _ hM19 l20 l21 l22 (lq_r h hq10)
        · replace h := ed_neg q99 h
          refine iq_iconst hS 103 J_M_draftSymbol_d102 (v := 2) (by decide +kernel) rfl ?_
          refine iq_iload hS 105 J_M_draftSymbol_d103 l22 rfl ?_
          refine iq_imul hS 106 J_M_draftSymbol_d105 rfl ?_
          refine iq_aload_n hS 107 J_M_draftSymbol_d106 l20 rfl ?_
          refine iq_getR hS 110 J_M_draftSymbol_d107 lf_17_37 (Or.inl ⟨_, rfl⟩) (ka_69 hM19) (ra_69_6 hM19) rfl ?_
          refine iq_iload hS 112 J_M_draftSymbol_d110 l23 rfl ?_
          refine iq_iload hS 114 J_M_draftSymbol_d112 l21 rfl ?_
          obtain ⟨g114, h⟩ := ed_gd h
          refine iq_irem hS 115 J_M_draftSymbol_d114 g114 rfl ?_
          refine iq_iload hS 117 J_M_draftSymbol_d115 l23 rfl ?_
          refine iq_iload hS 119 J_M_draftSymbol_d117 l21 rfl ?_
          obtain ⟨g119, h⟩ := ed_gd h
          refine iq_idiv hS 120 J_M_draftSymbol_d119 g119 rfl ?_
          obtain ⟨Q24, hQ24, h⟩ := bd2_ed h
          refine iq_cwL hS 123 J_M_draftSymbol_d120 rfl (pr_inst (vs := [_, _]) lc_17_143 lT_427 rfl rfl (by decide) (by decide) rfl (Nat.le_of_ble_eq_true rfl) (Nat.le_of_ble_eq_true rfl) (fun _ => Or.inl (pr_b (ka_108 hM19) (by decide) rfl))) (f_MSquareRows_row_ok (dep := dep + 7) hM19 h) rfl ?_
          intro x24 M24 hM24 h
          replace h := hQ24 _ _ h
          refine iq_lconst hS 124 J_M_draftSymbol_d123 (v := 1) (by decide +kernel) rfl ?_
          refine iq_land hS 125 J_M_draftSymbol_d124 rfl ?_
          refine iq_l2i hS 126 J_M_draftSymbol_d125 rfl ?_
          refine iq_iadd hS 127 J_M_draftSymbol_d126 rfl ?_
          refine iq_istore hS 129 J_M_draftSymbol_d127 (by decide) rfl ?_
          refine iq_iload hS 131 J_M_draftSymbol_d129 (lk_1i l23 (by decide)) rfl ?_
          refine iq_bipush hS 133 J_M_draftSymbol_d131 (v := 8) (by decide +kernel) rfl ?_
          refine iq_irem hS 134 J_M_draftSymbol_d133 (by decide) rfl ?_
          refine iq_bipush hS 136 J_M_draftSymbol_d134 (v := 7) (by decide +kernel) rfl ?_
          obtain ⟨Q25, hQ25, h⟩ := bd2_ed h
          have J25 : ∀ (y27 : Int32) (M28 : im_M) (L' : List (Nat × Value)), lw_S w M28 → im_lk L' 0 = some (.ref 69) → im_lk L' 4 = some (.int ((17 : Int32) + ((4 : Int32) * x9))) → im_lk L' 5 = some (.int y27) → im_lk L' 6 = some (.int x18) → Q25 (y27, M28) → ia (tb_G L xs) (dep + 9) J_M_draftSymbol (rwI w Q) (148, L', [], M28) := by
            intro y27 M28 L' hM28 l29 l30 l31 l32 h
            replace h := hQ25 _ _ h
            refine iq_iincv hS 151 J_M_draftSymbol_d148 (c := 1) (by decide +kernel) l32 (by decide) rfl ?_
            refine iq_goto hS J_M_draftSymbol_d151 (t := 92) rfl ?_
            exact ih _ _ _ _ hM28 (lk_1r l29 (by decide)) (lk_1i l30 (by decide)) (lk_1i l31 (by decide)) lk_1s (lq_l h)
          refine iq_icmp_ne hS 139 J_M_draftSymbol_d136 (t := 148) rfl (fun q136 => ?_) rfl (fun q136 => ?_)
          · replace h := ed_pos q136 h
            exact J25 _ _ _ hM24 (lk_1r l20 (by decide)) (lk_1i l21 (by decide)) lk_1s (lk_1i l23 (by decide)) (ed_some h)
          · replace h := ed_neg q136 h
            refine iq_aload_n hS 140 J_M_draftSymbol_d139 (lk_1r l20 (by decide)) rfl ?_
            refine iq_iload hS 142 J_M_draftSymbol_d140 lk_1s rfl ?_
            obtain ⟨Q26, hQ26, h⟩ := bd1_ed h
            refine iq_cwV hS 145 J_M_draftSymbol_d142 rfl (pr_inst (vs := [_]) lc_17_108 lT_331 rfl rfl (by decide) (by decide) rfl (Nat.le_of_ble_eq_true rfl) (Nat.le_of_ble_eq_true rfl) (fun _ => Or.inl (pr_b (ka_69 hM24) (by decide) rfl))) (f_M_draft_ok (dep := dep + 7) hM24 h) rfl ?_
            intro M26 hM26 h
            replace h := hQ26 _ h
            refine iq_iconst hS 146 J_M_draftSymbol_d145 (v := 0) (by decide +kernel) rfl ?_
            refine iq_istore hS 148 J_M_draftSymbol_d146 (by decide) rfl ?_
            exact J25 _ _ _ hM26 (lk_1r (lk_1r l20 (by decide)) (by decide)) (lk_1i (lk_1i l21 (by decide)) (by decide)) lk_1s (lk_1i (lk_1i l23 (by decide)) (by decide)) (ed_some h)
    exact I10 n10 _ _ _ _ hM9 (lk_1r (lk_1r (lk_1r l5 (by decide)) (by decide)) (by decide)) (lk_1i (lk_1i lk_1s (by decide)) (by decide)) (lk_1i lk_1s (by decide)) lk_1s hn10
  obtain ⟨r3, hr3, hq3⟩ := h
  obtain ⟨n3, hn3⟩ := lp_n hr3
  have I3 : ∀ (n : Nat) (x33 : Int32) (M34 : im_M) (L' : List (Nat × Value)), lw_S w M34 → im_lk L' 0 = some (.ref 69) → im_lk L' 1 = some (.int p0) → im_lk L' 3 = some (.int x2) → im_lk L' 4 = some (.int x33) → lpn (uc2 (f_M_draftSymbol_L22 p0 x2)) n (x33, M34) = some r3 → ia (tb_G L xs) (dep + 9) J_M_draftSymbol (rwI w Q) (22, L', [], M34) := by
    intro n
    induction n with
    | zero => intro x33 M34 L' hM34 l35 l36 l37 l38 hn; exact (lpn_0 hn).elim
    | succ n ih =>
      intro x33 M34 L' hM34 l35 l36 l37 l38 hn
      have h := lpn_ed2 hn
      unfold f_M_draftSymbol_L22 at h
      refine iq_iload hS 24 J_M_draftSymbol_d22 l38 rfl ?_
      refine iq_iload_n hS 25 J_M_draftSymbol_d24 l37 rfl ?_
      refine iq_icmp_ge hS 28 J_M_draftSymbol_d25 (t := 51) rfl (fun q25 => ?_) rfl (fun q25 => ?_)
      · replace h := ed_pos q25 h
        exact K3 _ _ hM34 l35 l36 (lq_r h hq3)
      · replace h := ed_neg q25 h
        refine iq_aload_n hS 29 J_M_draftSymbol_d28 l35 rfl ?_
        refine iq_getR hS 32 J_M_draftSymbol_d29 lf_17_37 (Or.inl ⟨_, rfl⟩) (ka_69 hM34) (ra_69_6 hM34) rfl ?_
        refine iq_iconst hS 33 J_M_draftSymbol_d32 (v := 1) (by decide +kernel) rfl ?_
        refine iq_aload_n hS 34 J_M_draftSymbol_d33 l35 rfl ?_
        refine iq_iload_n hS 35 J_M_draftSymbol_d34 l36 rfl ?_
        refine iq_iload hS 37 J_M_draftSymbol_d35 l38 rfl ?_
        obtain ⟨Q39, hQ39, h⟩ := bd2_ed h
        refine iq_cwI hS 40 J_M_draftSymbol_d37 rfl (pr_inst (vs := [_, _]) lc_17_105 lT_330 rfl rfl (by decide) (by decide) rfl (Nat.le_of_ble_eq_true rfl) (Nat.le_of_ble_eq_true rfl) (fun _ => Or.inl (pr_b (ka_69 hM34) (by decide) rfl))) (f_M_byteOf_ok (dep := dep + 7) hM34 h) rfl ?_
        intro x39 M39 hM39 h
        replace h := hQ39 _ _ h
        refine iq_i2l hS 41 J_M_draftSymbol_d40 rfl ?_
        obtain ⟨Q40, hQ40, h⟩ := bd2_ed h
        refine iq_cwI hS 44 J_M_draftSymbol_d41 rfl (pr_inst (vs := [_, _]) lc_17_136 lT_381 rfl rfl (by decide) (by decide) rfl (Nat.le_of_ble_eq_true rfl) (Nat.le_of_ble_eq_true rfl) (fun _ => Or.inl (pr_b (ka_108 hM39) (by decide) rfl))) (f_MSquareRows_put_ok (dep := dep + 8) hM39 h) rfl ?_
        intro x40 M40 hM40 h
        replace h := hQ40 _ _ h
        refine iq_istore_n hS 45 J_M_draftSymbol_d44 (by decide) rfl ?_
        refine iq_iincv hS 48 J_M_draftSymbol_d45 (c := 1) (by decide +kernel) (lk_1i l38 (by decide)) (by decide) rfl ?_
        refine iq_goto hS J_M_draftSymbol_d48 (t := 22) rfl ?_
        exact ih _ _ _ hM40 (lk_1r (lk_1r l35 (by decide)) (by decide)) (lk_1i (lk_1i l36 (by decide)) (by decide)) (lk_1i (lk_1i l37 (by decide)) (by decide)) lk_1s (lq_l h)
  exact I3 n3 _ _ _ hM2 (lk_1r (lk_1r (lk_1r l0 (by decide)) (by decide)) (by decide)) (lk_1i (lk_1i (lk_1i l1 (by decide)) (by decide)) (by decide)) (lk_1i lk_1s (by decide)) lk_1s hn3
noncomputable def f_MDotRows_square (p0 : Int32) (p1 : Int32) (p2 : Int32) (p3 : Int32) (p4 : Int32) (M : im_M) : Option (Int32 × im_M) := bd1 (f_MDotRows_noPlace p0 p1 M) fun (x1 : Int32) => bd1 (jn0 (fun (_ : Unit) => some 1) fun k3 => if ¬ x1 = 0 then k3 () else bd1 (f_MDotRows_isNot p2 1 177 M) fun (x4 : Int32) => if ¬ x4 = 0 then k3 () else bd1 (f_MDotRows_isNot p3 1 50 M) fun (x5 : Int32) => if ¬ x5 = 0 then k3 () else bd1 (f_MDotRows_isNot p4 0 3 M) fun (x6 : Int32) => if x6 = 0 then if (p2 * p2) ≤ ((8 : Int32) * (im_i M 89 7)) then some 0 else some 2 else k3 ()) fun (y13 : Int32) => if (im_i (im_setI M 89 0 y13) 89 0) ≤ 0 then bd1 (f_MDotRows_at p0 p1 p2 p3 0 (im_setI M 89 0 y13)) fun (M20 : im_M) => bd2 (f_MDotRows_draw 5 (im_setI M20 89 15 p4)) fun (x21 : Int32) (M21 : im_M) => some (x21, M21) else some (0, (im_setI M 89 0 y13))
theorem J_MDotRows_square_d0 : decode J_MDotRows_square.2.1 0 = .ok (.aload_n 0, 1) := by decide +kernel
theorem J_MDotRows_square_d1 : decode J_MDotRows_square.2.1 1 = .ok (.iload_n 1, 1) := by decide +kernel
theorem J_MDotRows_square_d2 : decode J_MDotRows_square.2.1 2 = .ok (.iload_n 2, 1) := by decide +kernel
theorem J_MDotRows_square_d3 : decode J_MDotRows_square.2.1 3 = .ok (.invokestatic 124, 3) := by decide +kernel
theorem J_MDotRows_square_d6 : decode J_MDotRows_square.2.1 6 = .ok (.ifCond .ne 35, 3) := by decide +kernel
theorem J_MDotRows_square_d9 : decode J_MDotRows_square.2.1 9 = .ok (.iload_n 3, 1) := by decide +kernel
theorem J_MDotRows_square_d10 : decode J_MDotRows_square.2.1 10 = .ok (.iconst 1, 1) := by decide +kernel
theorem J_MDotRows_square_d11 : decode J_MDotRows_square.2.1 11 = .ok (.sipush 177, 3) := by decide +kernel
theorem J_MDotRows_square_d14 : decode J_MDotRows_square.2.1 14 = .ok (.invokestatic 121, 3) := by decide +kernel
theorem J_MDotRows_square_d17 : decode J_MDotRows_square.2.1 17 = .ok (.ifCond .ne 24, 3) := by decide +kernel
theorem J_MDotRows_square_d20 : decode J_MDotRows_square.2.1 20 = .ok (.iload 4, 2) := by decide +kernel
theorem J_MDotRows_square_d22 : decode J_MDotRows_square.2.1 22 = .ok (.iconst 1, 1) := by decide +kernel
theorem J_MDotRows_square_d23 : decode J_MDotRows_square.2.1 23 = .ok (.bipush 50, 2) := by decide +kernel
theorem J_MDotRows_square_d25 : decode J_MDotRows_square.2.1 25 = .ok (.invokestatic 121, 3) := by decide +kernel
theorem J_MDotRows_square_d28 : decode J_MDotRows_square.2.1 28 = .ok (.ifCond .ne 13, 3) := by decide +kernel
theorem J_MDotRows_square_d31 : decode J_MDotRows_square.2.1 31 = .ok (.iload 5, 2) := by decide +kernel
theorem J_MDotRows_square_d33 : decode J_MDotRows_square.2.1 33 = .ok (.iconst 0, 1) := by decide +kernel
theorem J_MDotRows_square_d34 : decode J_MDotRows_square.2.1 34 = .ok (.iconst 3, 1) := by decide +kernel
theorem J_MDotRows_square_d35 : decode J_MDotRows_square.2.1 35 = .ok (.invokestatic 121, 3) := by decide +kernel
theorem J_MDotRows_square_d38 : decode J_MDotRows_square.2.1 38 = .ok (.ifCond .eq 7, 3) := by decide +kernel
theorem J_MDotRows_square_d41 : decode J_MDotRows_square.2.1 41 = .ok (.iconst 1, 1) := by decide +kernel
theorem J_MDotRows_square_d42 : decode J_MDotRows_square.2.1 42 = .ok (.goto 21, 3) := by decide +kernel
theorem J_MDotRows_square_d45 : decode J_MDotRows_square.2.1 45 = .ok (.bipush 8, 2) := by decide +kernel
theorem J_MDotRows_square_d47 : decode J_MDotRows_square.2.1 47 = .ok (.aload_n 0, 1) := by decide +kernel
theorem J_MDotRows_square_d48 : decode J_MDotRows_square.2.1 48 = .ok (.getfield 47, 3) := by decide +kernel
theorem J_MDotRows_square_d51 : decode J_MDotRows_square.2.1 51 = .ok (.imul, 1) := by decide +kernel
theorem J_MDotRows_square_d52 : decode J_MDotRows_square.2.1 52 = .ok (.iload_n 3, 1) := by decide +kernel
theorem J_MDotRows_square_d53 : decode J_MDotRows_square.2.1 53 = .ok (.iload_n 3, 1) := by decide +kernel
theorem J_MDotRows_square_d54 : decode J_MDotRows_square.2.1 54 = .ok (.imul, 1) := by decide +kernel
theorem J_MDotRows_square_d55 : decode J_MDotRows_square.2.1 55 = .ok (.if_icmp .ge 7, 3) := by decide +kernel
theorem J_MDotRows_square_d58 : decode J_MDotRows_square.2.1 58 = .ok (.iconst 2, 1) := by decide +kernel
theorem J_MDotRows_square_d59 : decode J_MDotRows_square.2.1 59 = .ok (.goto 4, 3) := by decide +kernel
theorem J_MDotRows_square_d62 : decode J_MDotRows_square.2.1 62 = .ok (.iconst 0, 1) := by decide +kernel
theorem J_MDotRows_square_d63 : decode J_MDotRows_square.2.1 63 = .ok (.putfield 37, 3) := by decide +kernel
theorem J_MDotRows_square_d66 : decode J_MDotRows_square.2.1 66 = .ok (.aload_n 0, 1) := by decide +kernel
theorem J_MDotRows_square_d67 : decode J_MDotRows_square.2.1 67 = .ok (.getfield 37, 3) := by decide +kernel
theorem J_MDotRows_square_d70 : decode J_MDotRows_square.2.1 70 = .ok (.ifCond .le 5, 3) := by decide +kernel
theorem J_MDotRows_square_d73 : decode J_MDotRows_square.2.1 73 = .ok (.iconst 0, 1) := by decide +kernel
theorem J_MDotRows_square_d74 : decode J_MDotRows_square.2.1 74 = .ok (.ireturn, 1) := by decide +kernel
theorem J_MDotRows_square_d75 : decode J_MDotRows_square.2.1 75 = .ok (.aload_n 0, 1) := by decide +kernel
theorem J_MDotRows_square_d76 : decode J_MDotRows_square.2.1 76 = .ok (.iload_n 1, 1) := by decide +kernel
theorem J_MDotRows_square_d77 : decode J_MDotRows_square.2.1 77 = .ok (.iload_n 2, 1) := by decide +kernel
theorem J_MDotRows_square_d78 : decode J_MDotRows_square.2.1 78 = .ok (.iload_n 3, 1) := by decide +kernel
theorem J_MDotRows_square_d79 : decode J_MDotRows_square.2.1 79 = .ok (.iload 4, 2) := by decide +kernel
theorem J_MDotRows_square_d81 : decode J_MDotRows_square.2.1 81 = .ok (.iconst 0, 1) := by decide +kernel
theorem J_MDotRows_square_d82 : decode J_MDotRows_square.2.1 82 = .ok (.invokevirtual 130, 3) := by decide +kernel
theorem J_MDotRows_square_d85 : decode J_MDotRows_square.2.1 85 = .ok (.aload_n 0, 1) := by decide +kernel
theorem J_MDotRows_square_d86 : decode J_MDotRows_square.2.1 86 = .ok (.iload 5, 2) := by decide +kernel
theorem J_MDotRows_square_d88 : decode J_MDotRows_square.2.1 88 = .ok (.putfield 75, 3) := by decide +kernel
theorem J_MDotRows_square_d91 : decode J_MDotRows_square.2.1 91 = .ok (.aload_n 0, 1) := by decide +kernel
theorem J_MDotRows_square_d92 : decode J_MDotRows_square.2.1 92 = .ok (.iconst 5, 1) := by decide +kernel
theorem J_MDotRows_square_d93 : decode J_MDotRows_square.2.1 93 = .ok (.invokevirtual 134, 3) := by decide +kernel
theorem J_MDotRows_square_d96 : decode J_MDotRows_square.2.1 96 = .ok (.ireturn, 1) := by decide +kernel
theorem f_MDotRows_square_ok {L : Nat} {xs : Nat → Int32} {dep : Nat} {w : Bool} {p0 : Int32} {p1 : Int32} {p2 : Int32} {p3 : Int32} {p4 : Int32} {M : im_M} {Q : Int32 × im_M → Prop} (hM : lw_S w M) (h : ed (f_MDotRows_square p0 p1 p2 p3 p4 M) Q) : ia (tb_G L xs) (dep + 4) J_MDotRows_square (rwI w Q) (0, lv_args 0 [.ref 89, .int p0, .int p1, .int p2, .int p3, .int p4], [], M) := by
  have hS : im_St (tb_G L xs) (dep + 4) J_MDotRows_square (ia (tb_G L xs) (dep + 4) J_MDotRows_square (rwI w Q)) := ia_St
  unfold f_MDotRows_square at h
  have l0 : im_lk (lv_args 0 [.ref 89, .int p0, .int p1, .int p2, .int p3, .int p4]) 0 = some (.ref 89) := rfl
  have l1 : im_lk (lv_args 0 [.ref 89, .int p0, .int p1, .int p2, .int p3, .int p4]) 1 = some (.int p0) := rfl
  have l2 : im_lk (lv_args 0 [.ref 89, .int p0, .int p1, .int p2, .int p3, .int p4]) 2 = some (.int p1) := rfl
  have l3 : im_lk (lv_args 0 [.ref 89, .int p0, .int p1, .int p2, .int p3, .int p4]) 3 = some (.int p2) := rfl
  have l4 : im_lk (lv_args 0 [.ref 89, .int p0, .int p1, .int p2, .int p3, .int p4]) 4 = some (.int p3) := rfl
  have l5 : im_lk (lv_args 0 [.ref 89, .int p0, .int p1, .int p2, .int p3, .int p4]) 5 = some (.int p4) := rfl
  refine iq_aload_n hS 1 J_MDotRows_square_d0 l0 rfl ?_
  refine iq_iload_n hS 2 J_MDotRows_square_d1 l1 rfl ?_
  refine iq_iload_n hS 3 J_MDotRows_square_d2 l2 rfl ?_
  obtain ⟨Q1, hQ1, h⟩ := bd1_ed h
  refine iq_cpI hS 6 J_MDotRows_square_d3 rfl (pr_stat (vs := [_, _]) lc_12_124 lT_334 rfl rfl (by decide) rfl (Nat.le_of_ble_eq_true rfl) (Nat.le_of_ble_eq_true rfl)) (f_MDotRows_noPlace_ok (dep := dep + 3) hM h) rfl ?_
  intro x1 h
  replace h := hQ1 _ h
  obtain ⟨Q2, hQ2, h⟩ := bd1_ed h
  have J2 : ∀ (y13 : Int32) (L' : List (Nat × Value)), im_lk L' 0 = some (.ref 89) → im_lk L' 1 = some (.int p0) → im_lk L' 2 = some (.int p1) → im_lk L' 3 = some (.int p2) → im_lk L' 4 = some (.int p3) → im_lk L' 5 = some (.int p4) → Q2 y13 → ia (tb_G L xs) (dep + 4) J_MDotRows_square (rwI w Q) (63, L', [.int y13, .ref 89], M) := by
    intro y13 L' l14 l15 l16 l17 l18 l19 h
    replace h := hQ2 _ h
    refine iq_putI hS 66 J_MDotRows_square_d63 lf_12_37 (Or.inl rfl) rfl (ka_89 hM) rfl ?_
    refine iq_aload_n hS 67 J_MDotRows_square_d66 l14 rfl ?_
    refine iq_getI hS 70 J_MDotRows_square_d67 lf_12_37 (Or.inl rfl) (ka_89 hM) rfl ?_
    refine iq_if_le hS 73 J_MDotRows_square_d70 (t := 75) rfl (fun q70 => ?_) rfl (fun q70 => ?_)
    · replace h := ed_pos q70 h
      refine iq_aload_n hS 76 J_MDotRows_square_d75 l14 rfl ?_
      refine iq_iload_n hS 77 J_MDotRows_square_d76 l15 rfl ?_
      refine iq_iload_n hS 78 J_MDotRows_square_d77 l16 rfl ?_
      refine iq_iload_n hS 79 J_MDotRows_square_d78 l17 rfl ?_
      refine iq_iload hS 81 J_MDotRows_square_d79 l18 rfl ?_
      refine iq_iconst hS 82 J_MDotRows_square_d81 (v := 0) (by decide +kernel) rfl ?_
      obtain ⟨Q20, hQ20, h⟩ := bd1_ed h
      refine iq_cwV hS 85 J_MDotRows_square_d82 rfl (pr_inst (vs := [_, _, _, _, _]) lc_12_130 lT_335 rfl rfl (by decide) (by decide) rfl (Nat.le_of_ble_eq_true rfl) (Nat.le_of_ble_eq_true rfl) (fun _ => Or.inl (pr_b (ka_89 hM) (by decide) rfl))) (f_MDotRows_at_ok (dep := dep + 3) hM h) rfl ?_
      intro M20 hM20 h
      replace h := hQ20 _ h
      refine iq_aload_n hS 86 J_MDotRows_square_d85 l14 rfl ?_
      refine iq_iload hS 88 J_MDotRows_square_d86 l19 rfl ?_
      refine iq_putI hS 91 J_MDotRows_square_d88 lf_12_75 (Or.inl rfl) rfl (ka_89 hM20) rfl ?_
      refine iq_aload_n hS 92 J_MDotRows_square_d91 l14 rfl ?_
      refine iq_iconst hS 93 J_MDotRows_square_d92 (v := 5) (by decide +kernel) rfl ?_
      obtain ⟨Q21, hQ21, h⟩ := bd2_ed h
      refine iq_cwI hS 96 J_MDotRows_square_d93 rfl (pr_inst (vs := [_]) lc_12_134 lT_336 rfl rfl (by decide) (by decide) rfl (Nat.le_of_ble_eq_true rfl) (Nat.le_of_ble_eq_true rfl) (fun _ => Or.inl (pr_b (ka_89 hM20) (by decide) rfl))) (f_MDotRows_draw_ok (dep := dep + 0) hM20 h) rfl ?_
      intro x21 M21 hM21 h
      replace h := hQ21 _ _ h
      exact iq_iret J_MDotRows_square_d96 rfl rfl ⟨_, rfl, hM21, ed_some h⟩
    · replace h := ed_neg q70 h
      refine iq_iconst hS 74 J_MDotRows_square_d73 (v := 0) (by decide +kernel) rfl ?_
      exact iq_iret J_MDotRows_square_d74 rfl rfl ⟨_, rfl, hM, ed_some h⟩
  obtain ⟨k3, Q3, hQ3, hk3, h⟩ := jn0_ed h
  have J3 : ∀  (L' : List (Nat × Value)), im_lk L' 0 = some (.ref 89) → im_lk L' 1 = some (.int p0) → im_lk L' 2 = some (.int p1) → im_lk L' 3 = some (.int p2) → im_lk L' 4 = some (.int p3) → im_lk L' 5 = some (.int p4) → Q3 () → ia (tb_G L xs) (dep + 4) J_MDotRows_square (rwI w Q) (41, L', [.ref 89], M) := by
    intro  L' l7 l8 l9 l10 l11 l12 h
    replace h := hQ3  h
    refine iq_iconst hS 42 J_MDotRows_square_d41 (v := 1) (by decide +kernel) rfl ?_
    refine iq_goto hS J_MDotRows_square_d42 (t := 63) rfl ?_
    exact J2 _ _ l7 l8 l9 l10 l11 l12 (ed_some h)
  refine iq_if_ne hS 9 J_MDotRows_square_d6 (t := 41) rfl (fun q6 => ?_) rfl (fun q6 => ?_)
  · replace h := ed_pos q6 h
    exact J3  _ l0 l1 l2 l3 l4 l5 (hk3  h)
  · replace h := ed_neg q6 h
    refine iq_iload_n hS 10 J_MDotRows_square_d9 l3 rfl ?_
    refine iq_iconst hS 11 J_MDotRows_square_d10 (v := 1) (by decide +kernel) rfl ?_
    refine iq_sipush hS 14 J_MDotRows_square_d11 (v := 177) (by decide +kernel) rfl ?_
    obtain ⟨Q4, hQ4, h⟩ := bd1_ed h
    refine iq_cpI hS 17 J_MDotRows_square_d14 rfl (pr_stat (vs := [_, _, _]) lc_12_121 lT_267 rfl rfl (by decide) rfl (Nat.le_of_ble_eq_true rfl) (Nat.le_of_ble_eq_true rfl)) (f_MDotRows_isNot_ok (dep := dep + 3) hM h) rfl ?_
    intro x4 h
    replace h := hQ4 _ h
    refine iq_if_ne hS 20 J_MDotRows_square_d17 (t := 41) rfl (fun q17 => ?_) rfl (fun q17 => ?_)
    · replace h := ed_pos q17 h
      exact J3  _ l0 l1 l2 l3 l4 l5 (hk3  h)
    · replace h := ed_neg q17 h
      refine iq_iload hS 22 J_MDotRows_square_d20 l4 rfl ?_
      refine iq_iconst hS 23 J_MDotRows_square_d22 (v := 1) (by decide +kernel) rfl ?_
      refine iq_bipush hS 25 J_MDotRows_square_d23 (v := 50) (by decide +kernel) rfl ?_
      obtain ⟨Q5, hQ5, h⟩ := bd1_ed h
      refine iq_cpI hS 28 J_MDotRows_square_d25 rfl (pr_stat (vs := [_, _, _]) lc_12_121 lT_267 rfl rfl (by decide) rfl (Nat.le_of_ble_eq_true rfl) (Nat.le_of_ble_eq_true rfl)) (f_MDotRows_isNot_ok (dep := dep + 3) hM h) rfl ?_
      intro x5 h
      replace h := hQ5 _ h
      refine iq_if_ne hS 31 J_MDotRows_square_d28 (t := 41) rfl (fun q28 => ?_) rfl (fun q28 => ?_)
      · replace h := ed_pos q28 h
        exact J3  _ l0 l1 l2 l3 l4 l5 (hk3  h)
      · replace h := ed_neg q28 h
        refine iq_iload hS 33 J_MDotRows_square_d31 l5 rfl ?_
        refine iq_iconst hS 34 J_MDotRows_square_d33 (v := 0) (by decide +kernel) rfl ?_
        refine iq_iconst hS 35 J_MDotRows_square_d34 (v := 3) (by decide +kernel) rfl ?_
        obtain ⟨Q6, hQ6, h⟩ := bd1_ed h
        refine iq_cpI hS 38 J_MDotRows_square_d35 rfl (pr_stat (vs := [_, _, _]) lc_12_121 lT_267 rfl rfl (by decide) rfl (Nat.le_of_ble_eq_true rfl) (Nat.le_of_ble_eq_true rfl)) (f_MDotRows_isNot_ok (dep := dep + 3) hM h) rfl ?_
        intro x6 h
        replace h := hQ6 _ h
        refine iq_if_eq hS 41 J_MDotRows_square_d38 (t := 45) rfl (fun q38 => ?_) rfl (fun q38 => ?_)
        · replace h := ed_pos q38 h
          refine iq_bipush hS 47 J_MDotRows_square_d45 (v := 8) (by decide +kernel) rfl ?_
          refine iq_aload_n hS 48 J_MDotRows_square_d47 l0 rfl ?_
          refine iq_getI hS 51 J_MDotRows_square_d48 lf_12_47 (Or.inl rfl) (ka_89 hM) rfl ?_
          refine iq_imul hS 52 J_MDotRows_square_d51 rfl ?_
          refine iq_iload_n hS 53 J_MDotRows_square_d52 l3 rfl ?_
          refine iq_iload_n hS 54 J_MDotRows_square_d53 l3 rfl ?_
          refine iq_imul hS 55 J_MDotRows_square_d54 rfl ?_
          refine iq_icmp_ge hS 58 J_MDotRows_square_d55 (t := 62) rfl (fun q55 => ?_) rfl (fun q55 => ?_)
          · replace h := ed_pos q55 h
            refine iq_iconst hS 63 J_MDotRows_square_d62 (v := 0) (by decide +kernel) rfl ?_
            exact J2 _ _ l0 l1 l2 l3 l4 l5 (ed_some h)
          · replace h := ed_neg q55 h
            refine iq_iconst hS 59 J_MDotRows_square_d58 (v := 2) (by decide +kernel) rfl ?_
            refine iq_goto hS J_MDotRows_square_d59 (t := 63) rfl ?_
            exact J2 _ _ l0 l1 l2 l3 l4 l5 (ed_some h)
        · replace h := ed_neg q38 h
          exact J3  _ l0 l1 l2 l3 l4 l5 (hk3  h)
noncomputable def f_MDotRows_noRing (p0 : Int32) (p1 : Int32) (p2 : Int32) (M : im_M) : Option (Int32) := bd1 (f_MDotRows_isNot p0 1 2048 M) fun (x1 : Int32) => jn0 (fun (_ : Unit) => some 1) fun k2 => if ¬ x1 = 0 then k2 () else bd1 (f_MDotRows_isNot p1 1 2048 M) fun (x3 : Int32) => if ¬ x3 = 0 then k2 () else bd1 (f_MDotRows_isNot p2 1 200 M) fun (x4 : Int32) => if x4 = 0 then some 0 else k2 ()
theorem J_MDotRows_noRing_d0 : decode J_MDotRows_noRing.2.1 0 = .ok (.iload_n 0, 1) := by decide +kernel
theorem J_MDotRows_noRing_d1 : decode J_MDotRows_noRing.2.1 1 = .ok (.iconst 1, 1) := by decide +kernel
theorem J_MDotRows_noRing_d2 : decode J_MDotRows_noRing.2.1 2 = .ok (.sipush 2048, 3) := by decide +kernel
theorem J_MDotRows_noRing_d5 : decode J_MDotRows_noRing.2.1 5 = .ok (.invokestatic 121, 3) := by decide +kernel
theorem J_MDotRows_noRing_d8 : decode J_MDotRows_noRing.2.1 8 = .ok (.ifCond .ne 25, 3) := by decide +kernel
theorem J_MDotRows_noRing_d11 : decode J_MDotRows_noRing.2.1 11 = .ok (.iload_n 1, 1) := by decide +kernel
theorem J_MDotRows_noRing_d12 : decode J_MDotRows_noRing.2.1 12 = .ok (.iconst 1, 1) := by decide +kernel
theorem J_MDotRows_noRing_d13 : decode J_MDotRows_noRing.2.1 13 = .ok (.sipush 2048, 3) := by decide +kernel
theorem J_MDotRows_noRing_d16 : decode J_MDotRows_noRing.2.1 16 = .ok (.invokestatic 121, 3) := by decide +kernel
theorem J_MDotRows_noRing_d19 : decode J_MDotRows_noRing.2.1 19 = .ok (.ifCond .ne 14, 3) := by decide +kernel
theorem J_MDotRows_noRing_d22 : decode J_MDotRows_noRing.2.1 22 = .ok (.iload_n 2, 1) := by decide +kernel
theorem J_MDotRows_noRing_d23 : decode J_MDotRows_noRing.2.1 23 = .ok (.iconst 1, 1) := by decide +kernel
theorem J_MDotRows_noRing_d24 : decode J_MDotRows_noRing.2.1 24 = .ok (.sipush 200, 3) := by decide +kernel
theorem J_MDotRows_noRing_d27 : decode J_MDotRows_noRing.2.1 27 = .ok (.invokestatic 121, 3) := by decide +kernel
theorem J_MDotRows_noRing_d30 : decode J_MDotRows_noRing.2.1 30 = .ok (.ifCond .eq 7, 3) := by decide +kernel
theorem J_MDotRows_noRing_d33 : decode J_MDotRows_noRing.2.1 33 = .ok (.iconst 1, 1) := by decide +kernel
theorem J_MDotRows_noRing_d34 : decode J_MDotRows_noRing.2.1 34 = .ok (.goto 4, 3) := by decide +kernel
theorem J_MDotRows_noRing_d37 : decode J_MDotRows_noRing.2.1 37 = .ok (.iconst 0, 1) := by decide +kernel
theorem J_MDotRows_noRing_d38 : decode J_MDotRows_noRing.2.1 38 = .ok (.ireturn, 1) := by decide +kernel
theorem f_MDotRows_noRing_ok {L : Nat} {xs : Nat → Int32} {dep : Nat} {w : Bool} {p0 : Int32} {p1 : Int32} {p2 : Int32} {M : im_M} {Q : Int32 → Prop} (hM : lw_S w M) (h : ed (f_MDotRows_noRing p0 p1 p2 M) Q) : ia (tb_G L xs) (dep + 1) J_MDotRows_noRing (rpI M Q) (0, lv_args 0 [.int p0, .int p1, .int p2], [], M) := by
  have hS : im_St (tb_G L xs) (dep + 1) J_MDotRows_noRing (ia (tb_G L xs) (dep + 1) J_MDotRows_noRing (rpI M Q)) := ia_St
  unfold f_MDotRows_noRing at h
  have l0 : im_lk (lv_args 0 [.int p0, .int p1, .int p2]) 0 = some (.int p0) := rfl
  have l1 : im_lk (lv_args 0 [.int p0, .int p1, .int p2]) 1 = some (.int p1) := rfl
  have l2 : im_lk (lv_args 0 [.int p0, .int p1, .int p2]) 2 = some (.int p2) := rfl
  refine iq_iload_n hS 1 J_MDotRows_noRing_d0 l0 rfl ?_
  refine iq_iconst hS 2 J_MDotRows_noRing_d1 (v := 1) (by decide +kernel) rfl ?_
  refine iq_sipush hS 5 J_MDotRows_noRing_d2 (v := 2048) (by decide +kernel) rfl ?_
  obtain ⟨Q1, hQ1, h⟩ := bd1_ed h
  refine iq_cpI hS 8 J_MDotRows_noRing_d5 rfl (pr_stat (vs := [_, _, _]) lc_12_121 lT_267 rfl rfl (by decide) rfl (Nat.le_of_ble_eq_true rfl) (Nat.le_of_ble_eq_true rfl)) (f_MDotRows_isNot_ok (dep := dep + 0) hM h) rfl ?_
  intro x1 h
  replace h := hQ1 _ h
  obtain ⟨k2, Q2, hQ2, hk2, h⟩ := jn0_ed h
  have J2 : ∀  (L' : List (Nat × Value)), Q2 () → ia (tb_G L xs) (dep + 1) J_MDotRows_noRing (rpI M Q) (33, L', [], M) := by
    intro  L'  h
    replace h := hQ2  h
    refine iq_iconst hS 34 J_MDotRows_noRing_d33 (v := 1) (by decide +kernel) rfl ?_
    refine iq_goto hS J_MDotRows_noRing_d34 (t := 38) rfl ?_
    exact iq_iret J_MDotRows_noRing_d38 rfl rfl ⟨_, rfl, rfl, ed_some h⟩
  refine iq_if_ne hS 11 J_MDotRows_noRing_d8 (t := 33) rfl (fun q8 => ?_) rfl (fun q8 => ?_)
  · replace h := ed_pos q8 h
    exact J2  _  (hk2  h)
  · replace h := ed_neg q8 h
    refine iq_iload_n hS 12 J_MDotRows_noRing_d11 l1 rfl ?_
    refine iq_iconst hS 13 J_MDotRows_noRing_d12 (v := 1) (by decide +kernel) rfl ?_
    refine iq_sipush hS 16 J_MDotRows_noRing_d13 (v := 2048) (by decide +kernel) rfl ?_
    obtain ⟨Q3, hQ3, h⟩ := bd1_ed h
    refine iq_cpI hS 19 J_MDotRows_noRing_d16 rfl (pr_stat (vs := [_, _, _]) lc_12_121 lT_267 rfl rfl (by decide) rfl (Nat.le_of_ble_eq_true rfl) (Nat.le_of_ble_eq_true rfl)) (f_MDotRows_isNot_ok (dep := dep + 0) hM h) rfl ?_
    intro x3 h
    replace h := hQ3 _ h
    refine iq_if_ne hS 22 J_MDotRows_noRing_d19 (t := 33) rfl (fun q19 => ?_) rfl (fun q19 => ?_)
    · replace h := ed_pos q19 h
      exact J2  _  (hk2  h)
    · replace h := ed_neg q19 h
      refine iq_iload_n hS 23 J_MDotRows_noRing_d22 l2 rfl ?_
      refine iq_iconst hS 24 J_MDotRows_noRing_d23 (v := 1) (by decide +kernel) rfl ?_
      refine iq_sipush hS 27 J_MDotRows_noRing_d24 (v := 200) (by decide +kernel) rfl ?_
      obtain ⟨Q4, hQ4, h⟩ := bd1_ed h
      refine iq_cpI hS 30 J_MDotRows_noRing_d27 rfl (pr_stat (vs := [_, _, _]) lc_12_121 lT_267 rfl rfl (by decide) rfl (Nat.le_of_ble_eq_true rfl) (Nat.le_of_ble_eq_true rfl)) (f_MDotRows_isNot_ok (dep := dep + 0) hM h) rfl ?_
      intro x4 h
      replace h := hQ4 _ h
      refine iq_if_eq hS 33 J_MDotRows_noRing_d30 (t := 37) rfl (fun q30 => ?_) rfl (fun q30 => ?_)
      · replace h := ed_pos q30 h
        refine iq_iconst hS 38 J_MDotRows_noRing_d37 (v := 0) (by decide +kernel) rfl ?_
        exact iq_iret J_MDotRows_noRing_d38 rfl rfl ⟨_, rfl, rfl, ed_some h⟩
      · replace h := ed_neg q30 h
        exact J2  _  (hk2  h)
noncomputable def f_MDotRows_frame (p0 : Int32) (p1 : Int32) (p2 : Int32) (p3 : Int32) (p4 : Int32) (M : im_M) : Option (Int32 × im_M) := bd1 (f_MDotRows_noPlace p0 p1 M) fun (x1 : Int32) => bd1 (jn0 (fun (_ : Unit) => some 1) fun k3 => if ¬ x1 = 0 then k3 () else bd1 (f_MDotRows_noRing p2 p3 p4 M) fun (x4 : Int32) => if x4 = 0 then some 0 else k3 ()) fun (y11 : Int32) => if (im_i (im_setI M 89 0 y11) 89 0) ≤ 0 then bd1 (f_MDotRows_at p0 p1 p2 p3 p4 (im_setI M 89 0 y11)) fun (M18 : im_M) => bd2 (f_MDotRows_draw 0 M18) fun (x19 : Int32) (M19 : im_M) => some (x19, M19) else some (0, (im_setI M 89 0 y11))
theorem J_MDotRows_frame_d0 : decode J_MDotRows_frame.2.1 0 = .ok (.aload_n 0, 1) := by decide +kernel
theorem J_MDotRows_frame_d1 : decode J_MDotRows_frame.2.1 1 = .ok (.iload_n 1, 1) := by decide +kernel
theorem J_MDotRows_frame_d2 : decode J_MDotRows_frame.2.1 2 = .ok (.iload_n 2, 1) := by decide +kernel
theorem J_MDotRows_frame_d3 : decode J_MDotRows_frame.2.1 3 = .ok (.invokestatic 124, 3) := by decide +kernel
theorem J_MDotRows_frame_d6 : decode J_MDotRows_frame.2.1 6 = .ok (.ifCond .ne 14, 3) := by decide +kernel
theorem J_MDotRows_frame_d9 : decode J_MDotRows_frame.2.1 9 = .ok (.iload_n 3, 1) := by decide +kernel
theorem J_MDotRows_frame_d10 : decode J_MDotRows_frame.2.1 10 = .ok (.iload 4, 2) := by decide +kernel
theorem J_MDotRows_frame_d12 : decode J_MDotRows_frame.2.1 12 = .ok (.iload 5, 2) := by decide +kernel
theorem J_MDotRows_frame_d14 : decode J_MDotRows_frame.2.1 14 = .ok (.invokestatic 127, 3) := by decide +kernel
theorem J_MDotRows_frame_d17 : decode J_MDotRows_frame.2.1 17 = .ok (.ifCond .eq 7, 3) := by decide +kernel
theorem J_MDotRows_frame_d20 : decode J_MDotRows_frame.2.1 20 = .ok (.iconst 1, 1) := by decide +kernel
theorem J_MDotRows_frame_d21 : decode J_MDotRows_frame.2.1 21 = .ok (.goto 4, 3) := by decide +kernel
theorem J_MDotRows_frame_d24 : decode J_MDotRows_frame.2.1 24 = .ok (.iconst 0, 1) := by decide +kernel
theorem J_MDotRows_frame_d25 : decode J_MDotRows_frame.2.1 25 = .ok (.putfield 37, 3) := by decide +kernel
theorem J_MDotRows_frame_d28 : decode J_MDotRows_frame.2.1 28 = .ok (.aload_n 0, 1) := by decide +kernel
theorem J_MDotRows_frame_d29 : decode J_MDotRows_frame.2.1 29 = .ok (.getfield 37, 3) := by decide +kernel
theorem J_MDotRows_frame_d32 : decode J_MDotRows_frame.2.1 32 = .ok (.ifCond .le 5, 3) := by decide +kernel
theorem J_MDotRows_frame_d35 : decode J_MDotRows_frame.2.1 35 = .ok (.iconst 0, 1) := by decide +kernel
theorem J_MDotRows_frame_d36 : decode J_MDotRows_frame.2.1 36 = .ok (.ireturn, 1) := by decide +kernel
theorem J_MDotRows_frame_d37 : decode J_MDotRows_frame.2.1 37 = .ok (.aload_n 0, 1) := by decide +kernel
theorem J_MDotRows_frame_d38 : decode J_MDotRows_frame.2.1 38 = .ok (.iload_n 1, 1) := by decide +kernel
theorem J_MDotRows_frame_d39 : decode J_MDotRows_frame.2.1 39 = .ok (.iload_n 2, 1) := by decide +kernel
theorem J_MDotRows_frame_d40 : decode J_MDotRows_frame.2.1 40 = .ok (.iload_n 3, 1) := by decide +kernel
theorem J_MDotRows_frame_d41 : decode J_MDotRows_frame.2.1 41 = .ok (.iload 4, 2) := by decide +kernel
theorem J_MDotRows_frame_d43 : decode J_MDotRows_frame.2.1 43 = .ok (.iload 5, 2) := by decide +kernel
theorem J_MDotRows_frame_d45 : decode J_MDotRows_frame.2.1 45 = .ok (.invokevirtual 130, 3) := by decide +kernel
theorem J_MDotRows_frame_d48 : decode J_MDotRows_frame.2.1 48 = .ok (.aload_n 0, 1) := by decide +kernel
theorem J_MDotRows_frame_d49 : decode J_MDotRows_frame.2.1 49 = .ok (.iconst 0, 1) := by decide +kernel
theorem J_MDotRows_frame_d50 : decode J_MDotRows_frame.2.1 50 = .ok (.invokevirtual 134, 3) := by decide +kernel
theorem J_MDotRows_frame_d53 : decode J_MDotRows_frame.2.1 53 = .ok (.ireturn, 1) := by decide +kernel
theorem f_MDotRows_frame_ok {L : Nat} {xs : Nat → Int32} {dep : Nat} {w : Bool} {p0 : Int32} {p1 : Int32} {p2 : Int32} {p3 : Int32} {p4 : Int32} {M : im_M} {Q : Int32 × im_M → Prop} (hM : lw_S w M) (h : ed (f_MDotRows_frame p0 p1 p2 p3 p4 M) Q) : ia (tb_G L xs) (dep + 4) J_MDotRows_frame (rwI w Q) (0, lv_args 0 [.ref 89, .int p0, .int p1, .int p2, .int p3, .int p4], [], M) := by
  have hS : im_St (tb_G L xs) (dep + 4) J_MDotRows_frame (ia (tb_G L xs) (dep + 4) J_MDotRows_frame (rwI w Q)) := ia_St
  unfold f_MDotRows_frame at h
  have l0 : im_lk (lv_args 0 [.ref 89, .int p0, .int p1, .int p2, .int p3, .int p4]) 0 = some (.ref 89) := rfl
  have l1 : im_lk (lv_args 0 [.ref 89, .int p0, .int p1, .int p2, .int p3, .int p4]) 1 = some (.int p0) := rfl
  have l2 : im_lk (lv_args 0 [.ref 89, .int p0, .int p1, .int p2, .int p3, .int p4]) 2 = some (.int p1) := rfl
  have l3 : im_lk (lv_args 0 [.ref 89, .int p0, .int p1, .int p2, .int p3, .int p4]) 3 = some (.int p2) := rfl
  have l4 : im_lk (lv_args 0 [.ref 89, .int p0, .int p1, .int p2, .int p3, .int p4]) 4 = some (.int p3) := rfl
  have l5 : im_lk (lv_args 0 [.ref 89, .int p0, .int p1, .int p2, .int p3, .int p4]) 5 = some (.int p4) := rfl
  refine iq_aload_n hS 1 J_MDotRows_frame_d0 l0 rfl ?_
  refine iq_iload_n hS 2 J_MDotRows_frame_d1 l1 rfl ?_
  refine iq_iload_n hS 3 J_MDotRows_frame_d2 l2 rfl ?_
  obtain ⟨Q1, hQ1, h⟩ := bd1_ed h
  refine iq_cpI hS 6 J_MDotRows_frame_d3 rfl (pr_stat (vs := [_, _]) lc_12_124 lT_334 rfl rfl (by decide) rfl (Nat.le_of_ble_eq_true rfl) (Nat.le_of_ble_eq_true rfl)) (f_MDotRows_noPlace_ok (dep := dep + 3) hM h) rfl ?_
  intro x1 h
  replace h := hQ1 _ h
  obtain ⟨Q2, hQ2, h⟩ := bd1_ed h
  have J2 : ∀ (y11 : Int32) (L' : List (Nat × Value)), im_lk L' 0 = some (.ref 89) → im_lk L' 1 = some (.int p0) → im_lk L' 2 = some (.int p1) → im_lk L' 3 = some (.int p2) → im_lk L' 4 = some (.int p3) → im_lk L' 5 = some (.int p4) → Q2 y11 → ia (tb_G L xs) (dep + 4) J_MDotRows_frame (rwI w Q) (25, L', [.int y11, .ref 89], M) := by
    intro y11 L' l12 l13 l14 l15 l16 l17 h
    replace h := hQ2 _ h
    refine iq_putI hS 28 J_MDotRows_frame_d25 lf_12_37 (Or.inl rfl) rfl (ka_89 hM) rfl ?_
    refine iq_aload_n hS 29 J_MDotRows_frame_d28 l12 rfl ?_
    refine iq_getI hS 32 J_MDotRows_frame_d29 lf_12_37 (Or.inl rfl) (ka_89 hM) rfl ?_
    refine iq_if_le hS 35 J_MDotRows_frame_d32 (t := 37) rfl (fun q32 => ?_) rfl (fun q32 => ?_)
    · replace h := ed_pos q32 h
      refine iq_aload_n hS 38 J_MDotRows_frame_d37 l12 rfl ?_
      refine iq_iload_n hS 39 J_MDotRows_frame_d38 l13 rfl ?_
      refine iq_iload_n hS 40 J_MDotRows_frame_d39 l14 rfl ?_
      refine iq_iload_n hS 41 J_MDotRows_frame_d40 l15 rfl ?_
      refine iq_iload hS 43 J_MDotRows_frame_d41 l16 rfl ?_
      refine iq_iload hS 45 J_MDotRows_frame_d43 l17 rfl ?_
      obtain ⟨Q18, hQ18, h⟩ := bd1_ed h
      refine iq_cwV hS 48 J_MDotRows_frame_d45 rfl (pr_inst (vs := [_, _, _, _, _]) lc_12_130 lT_335 rfl rfl (by decide) (by decide) rfl (Nat.le_of_ble_eq_true rfl) (Nat.le_of_ble_eq_true rfl) (fun _ => Or.inl (pr_b (ka_89 hM) (by decide) rfl))) (f_MDotRows_at_ok (dep := dep + 3) hM h) rfl ?_
      intro M18 hM18 h
      replace h := hQ18 _ h
      refine iq_aload_n hS 49 J_MDotRows_frame_d48 l12 rfl ?_
      refine iq_iconst hS 50 J_MDotRows_frame_d49 (v := 0) (by decide +kernel) rfl ?_
      obtain ⟨Q19, hQ19, h⟩ := bd2_ed h
      refine iq_cwI hS 53 J_MDotRows_frame_d50 rfl (pr_inst (vs := [_]) lc_12_134 lT_336 rfl rfl (by decide) (by decide) rfl (Nat.le_of_ble_eq_true rfl) (Nat.le_of_ble_eq_true rfl) (fun _ => Or.inl (pr_b (ka_89 hM18) (by decide) rfl))) (f_MDotRows_draw_ok (dep := dep + 0) hM18 h) rfl ?_
      intro x19 M19 hM19 h
      replace h := hQ19 _ _ h
      exact iq_iret J_MDotRows_frame_d53 rfl rfl ⟨_, rfl, hM19, ed_some h⟩
    · replace h := ed_neg q32 h
      refine iq_iconst hS 36 J_MDotRows_frame_d35 (v := 0) (by decide +kernel) rfl ?_
      exact iq_iret J_MDotRows_frame_d36 rfl rfl ⟨_, rfl, hM, ed_some h⟩
  obtain ⟨k3, Q3, hQ3, hk3, h⟩ := jn0_ed h
  have J3 : ∀  (L' : List (Nat × Value)), im_lk L' 0 = some (.ref 89) → im_lk L' 1 = some (.int p0) → im_lk L' 2 = some (.int p1) → im_lk L' 3 = some (.int p2) → im_lk L' 4 = some (.int p3) → im_lk L' 5 = some (.int p4) → Q3 () → ia (tb_G L xs) (dep + 4) J_MDotRows_frame (rwI w Q) (20, L', [.ref 89], M) := by
    intro  L' l5 l6 l7 l8 l9 l10 h
    replace h := hQ3  h
    refine iq_iconst hS 21 J_MDotRows_frame_d20 (v := 1) (by decide +kernel) rfl ?_
    refine iq_goto hS J_MDotRows_frame_d21 (t := 25) rfl ?_
    exact J2 _ _ l5 l6 l7 l8 l9 l10 (ed_some h)
  refine iq_if_ne hS 9 J_MDotRows_frame_d6 (t := 20) rfl (fun q6 => ?_) rfl (fun q6 => ?_)
  · replace h := ed_pos q6 h
    exact J3  _ l0 l1 l2 l3 l4 l5 (hk3  h)
  · replace h := ed_neg q6 h
    refine iq_iload_n hS 10 J_MDotRows_frame_d9 l3 rfl ?_
    refine iq_iload hS 12 J_MDotRows_frame_d10 l4 rfl ?_
    refine iq_iload hS 14 J_MDotRows_frame_d12 l5 rfl ?_
    obtain ⟨Q4, hQ4, h⟩ := bd1_ed h
    refine iq_cpI hS 17 J_MDotRows_frame_d14 rfl (pr_stat (vs := [_, _, _]) lc_12_127 lT_430 rfl rfl (by decide) rfl (Nat.le_of_ble_eq_true rfl) (Nat.le_of_ble_eq_true rfl)) (f_MDotRows_noRing_ok (dep := dep + 2) hM h) rfl ?_
    intro x4 h
    replace h := hQ4 _ h
    refine iq_if_eq hS 20 J_MDotRows_frame_d17 (t := 24) rfl (fun q17 => ?_) rfl (fun q17 => ?_)
    · replace h := ed_pos q17 h
      refine iq_iconst hS 25 J_MDotRows_frame_d24 (v := 0) (by decide +kernel) rfl ?_
      exact J2 _ _ l0 l1 l2 l3 l4 l5 (ed_some h)
    · replace h := ed_neg q17 h
      exact J3  _ l0 l1 l2 l3 l4 l5 (hk3  h)
noncomputable def f_MDotRows_ellipse (p0 : Int32) (p1 : Int32) (p2 : Int32) (p3 : Int32) (p4 : Int32) (M : im_M) : Option (Int32 × im_M) := bd1 (f_MDotRows_noPlace p0 p1 M) fun (x1 : Int32) => bd1 (jn0 (fun (_ : Unit) => some 1) fun k3 => if ¬ x1 = 0 then k3 () else bd1 (f_MDotRows_noRing p2 p3 p4 M) fun (x4 : Int32) => if x4 = 0 then some 0 else k3 ()) fun (y11 : Int32) => if (im_i (im_setI M 89 0 y11) 89 0) ≤ 0 then bd1 (f_MDotRows_at p0 p1 p2 p3 p4 (im_setI M 89 0 y11)) fun (M18 : im_M) => bd2 (f_MDotRows_draw 2 M18) fun (x19 : Int32) (M19 : im_M) => some (x19, M19) else some (0, (im_setI M 89 0 y11))
theorem J_MDotRows_ellipse_d0 : decode J_MDotRows_ellipse.2.1 0 = .ok (.aload_n 0, 1) := by decide +kernel
theorem J_MDotRows_ellipse_d1 : decode J_MDotRows_ellipse.2.1 1 = .ok (.iload_n 1, 1) := by decide +kernel
theorem J_MDotRows_ellipse_d2 : decode J_MDotRows_ellipse.2.1 2 = .ok (.iload_n 2, 1) := by decide +kernel
theorem J_MDotRows_ellipse_d3 : decode J_MDotRows_ellipse.2.1 3 = .ok (.invokestatic 124, 3) := by decide +kernel
theorem J_MDotRows_ellipse_d6 : decode J_MDotRows_ellipse.2.1 6 = .ok (.ifCond .ne 14, 3) := by decide +kernel
theorem J_MDotRows_ellipse_d9 : decode J_MDotRows_ellipse.2.1 9 = .ok (.iload_n 3, 1) := by decide +kernel
theorem J_MDotRows_ellipse_d10 : decode J_MDotRows_ellipse.2.1 10 = .ok (.iload 4, 2) := by decide +kernel
theorem J_MDotRows_ellipse_d12 : decode J_MDotRows_ellipse.2.1 12 = .ok (.iload 5, 2) := by decide +kernel
theorem J_MDotRows_ellipse_d14 : decode J_MDotRows_ellipse.2.1 14 = .ok (.invokestatic 127, 3) := by decide +kernel
theorem J_MDotRows_ellipse_d17 : decode J_MDotRows_ellipse.2.1 17 = .ok (.ifCond .eq 7, 3) := by decide +kernel
theorem J_MDotRows_ellipse_d20 : decode J_MDotRows_ellipse.2.1 20 = .ok (.iconst 1, 1) := by decide +kernel
theorem J_MDotRows_ellipse_d21 : decode J_MDotRows_ellipse.2.1 21 = .ok (.goto 4, 3) := by decide +kernel
theorem J_MDotRows_ellipse_d24 : decode J_MDotRows_ellipse.2.1 24 = .ok (.iconst 0, 1) := by decide +kernel
theorem J_MDotRows_ellipse_d25 : decode J_MDotRows_ellipse.2.1 25 = .ok (.putfield 37, 3) := by decide +kernel
theorem J_MDotRows_ellipse_d28 : decode J_MDotRows_ellipse.2.1 28 = .ok (.aload_n 0, 1) := by decide +kernel
theorem J_MDotRows_ellipse_d29 : decode J_MDotRows_ellipse.2.1 29 = .ok (.getfield 37, 3) := by decide +kernel
theorem J_MDotRows_ellipse_d32 : decode J_MDotRows_ellipse.2.1 32 = .ok (.ifCond .le 5, 3) := by decide +kernel
theorem J_MDotRows_ellipse_d35 : decode J_MDotRows_ellipse.2.1 35 = .ok (.iconst 0, 1) := by decide +kernel
theorem J_MDotRows_ellipse_d36 : decode J_MDotRows_ellipse.2.1 36 = .ok (.ireturn, 1) := by decide +kernel
theorem J_MDotRows_ellipse_d37 : decode J_MDotRows_ellipse.2.1 37 = .ok (.aload_n 0, 1) := by decide +kernel
theorem J_MDotRows_ellipse_d38 : decode J_MDotRows_ellipse.2.1 38 = .ok (.iload_n 1, 1) := by decide +kernel
theorem J_MDotRows_ellipse_d39 : decode J_MDotRows_ellipse.2.1 39 = .ok (.iload_n 2, 1) := by decide +kernel
theorem J_MDotRows_ellipse_d40 : decode J_MDotRows_ellipse.2.1 40 = .ok (.iload_n 3, 1) := by decide +kernel
theorem J_MDotRows_ellipse_d41 : decode J_MDotRows_ellipse.2.1 41 = .ok (.iload 4, 2) := by decide +kernel
theorem J_MDotRows_ellipse_d43 : decode J_MDotRows_ellipse.2.1 43 = .ok (.iload 5, 2) := by decide +kernel
theorem J_MDotRows_ellipse_d45 : decode J_MDotRows_ellipse.2.1 45 = .ok (.invokevirtual 130, 3) := by decide +kernel
theorem J_MDotRows_ellipse_d48 : decode J_MDotRows_ellipse.2.1 48 = .ok (.aload_n 0, 1) := by decide +kernel
theorem J_MDotRows_ellipse_d49 : decode J_MDotRows_ellipse.2.1 49 = .ok (.iconst 2, 1) := by decide +kernel
theorem J_MDotRows_ellipse_d50 : decode J_MDotRows_ellipse.2.1 50 = .ok (.invokevirtual 134, 3) := by decide +kernel
theorem J_MDotRows_ellipse_d53 : decode J_MDotRows_ellipse.2.1 53 = .ok (.ireturn, 1) := by decide +kernel
theorem f_MDotRows_ellipse_ok {L : Nat} {xs : Nat → Int32} {dep : Nat} {w : Bool} {p0 : Int32} {p1 : Int32} {p2 : Int32} {p3 : Int32} {p4 : Int32} {M : im_M} {Q : Int32 × im_M → Prop} (hM : lw_S w M) (h : ed (f_MDotRows_ellipse p0 p1 p2 p3 p4 M) Q) : ia (tb_G L xs) (dep + 4) J_MDotRows_ellipse (rwI w Q) (0, lv_args 0 [.ref 89, .int p0, .int p1, .int p2, .int p3, .int p4], [], M) := by
  have hS : im_St (tb_G L xs) (dep + 4) J_MDotRows_ellipse (ia (tb_G L xs) (dep + 4) J_MDotRows_ellipse (rwI w Q)) := ia_St
  unfold f_MDotRows_ellipse at h
  have l0 : im_lk (lv_args 0 [.ref 89, .int p0, .int p1, .int p2, .int p3, .int p4]) 0 = some (.ref 89) := rfl
  have l1 : im_lk (lv_args 0 [.ref 89, .int p0, .int p1, .int p2, .int p3, .int p4]) 1 = some (.int p0) := rfl
  have l2 : im_lk (lv_args 0 [.ref 89, .int p0, .int p1, .int p2, .int p3, .int p4]) 2 = some (.int p1) := rfl
  have l3 : im_lk (lv_args 0 [.ref 89, .int p0, .int p1, .int p2, .int p3, .int p4]) 3 = some (.int p2) := rfl
  have l4 : im_lk (lv_args 0 [.ref 89, .int p0, .int p1, .int p2, .int p3, .int p4]) 4 = some (.int p3) := rfl
  have l5 : im_lk (lv_args 0 [.ref 89, .int p0, .int p1, .int p2, .int p3, .int p4]) 5 = some (.int p4) := rfl
  refine iq_aload_n hS 1 J_MDotRows_ellipse_d0 l0 rfl ?_
  refine iq_iload_n hS 2 J_MDotRows_ellipse_d1 l1 rfl ?_
  refine iq_iload_n hS 3 J_MDotRows_ellipse_d2 l2 rfl ?_
  obtain ⟨Q1, hQ1, h⟩ := bd1_ed h
  refine iq_cpI hS 6 J_MDotRows_ellipse_d3 rfl (pr_stat (vs := [_, _]) lc_12_124 lT_334 rfl rfl (by decide) rfl (Nat.le_of_ble_eq_true rfl) (Nat.le_of_ble_eq_true rfl)) (f_MDotRows_noPlace_ok (dep := dep + 3) hM h) rfl ?_
  intro x1 h
  replace h := hQ1 _ h
  obtain ⟨Q2, hQ2, h⟩ := bd1_ed h
  have J2 : ∀ (y11 : Int32) (L' : List (Nat × Value)), im_lk L' 0 = some (.ref 89) → im_lk L' 1 = some (.int p0) → im_lk L' 2 = some (.int p1) → im_lk L' 3 = some (.int p2) → im_lk L' 4 = some (.int p3) → im_lk L' 5 = some (.int p4) → Q2 y11 → ia (tb_G L xs) (dep + 4) J_MDotRows_ellipse (rwI w Q) (25, L', [.int y11, .ref 89], M) := by
    intro y11 L' l12 l13 l14 l15 l16 l17 h
    replace h := hQ2 _ h
    refine iq_putI hS 28 J_MDotRows_ellipse_d25 lf_12_37 (Or.inl rfl) rfl (ka_89 hM) rfl ?_
    refine iq_aload_n hS 29 J_MDotRows_ellipse_d28 l12 rfl ?_
    refine iq_getI hS 32 J_MDotRows_ellipse_d29 lf_12_37 (Or.inl rfl) (ka_89 hM) rfl ?_
    refine iq_if_le hS 35 J_MDotRows_ellipse_d32 (t := 37) rfl (fun q32 => ?_) rfl (fun q32 => ?_)
    · replace h := ed_pos q32 h
      refine iq_aload_n hS 38 J_MDotRows_ellipse_d37 l12 rfl ?_
      refine iq_iload_n hS 39 J_MDotRows_ellipse_d38 l13 rfl ?_
      refine iq_iload_n hS 40 J_MDotRows_ellipse_d39 l14 rfl ?_
      refine iq_iload_n hS 41 J_MDotRows_ellipse_d40 l15 rfl ?_
      refine iq_iload hS 43 J_MDotRows_ellipse_d41 l16 rfl ?_
      refine iq_iload hS 45 J_MDotRows_ellipse_d43 l17 rfl ?_
      obtain ⟨Q18, hQ18, h⟩ := bd1_ed h
      refine iq_cwV hS 48 J_MDotRows_ellipse_d45 rfl (pr_inst (vs := [_, _, _, _, _]) lc_12_130 lT_335 rfl rfl (by decide) (by decide) rfl (Nat.le_of_ble_eq_true rfl) (Nat.le_of_ble_eq_true rfl) (fun _ => Or.inl (pr_b (ka_89 hM) (by decide) rfl))) (f_MDotRows_at_ok (dep := dep + 3) hM h) rfl ?_
      intro M18 hM18 h
      replace h := hQ18 _ h
      refine iq_aload_n hS 49 J_MDotRows_ellipse_d48 l12 rfl ?_
      refine iq_iconst hS 50 J_MDotRows_ellipse_d49 (v := 2) (by decide +kernel) rfl ?_
      obtain ⟨Q19, hQ19, h⟩ := bd2_ed h
      refine iq_cwI hS 53 J_MDotRows_ellipse_d50 rfl (pr_inst (vs := [_]) lc_12_134 lT_336 rfl rfl (by decide) (by decide) rfl (Nat.le_of_ble_eq_true rfl) (Nat.le_of_ble_eq_true rfl) (fun _ => Or.inl (pr_b (ka_89 hM18) (by decide) rfl))) (f_MDotRows_draw_ok (dep := dep + 0) hM18 h) rfl ?_
      intro x19 M19 hM19 h
      replace h := hQ19 _ _ h
      exact iq_iret J_MDotRows_ellipse_d53 rfl rfl ⟨_, rfl, hM19, ed_some h⟩
    · replace h := ed_neg q32 h
      refine iq_iconst hS 36 J_MDotRows_ellipse_d35 (v := 0) (by decide +kernel) rfl ?_
      exact iq_iret J_MDotRows_ellipse_d36 rfl rfl ⟨_, rfl, hM, ed_some h⟩
  obtain ⟨k3, Q3, hQ3, hk3, h⟩ := jn0_ed h
  have J3 : ∀  (L' : List (Nat × Value)), im_lk L' 0 = some (.ref 89) → im_lk L' 1 = some (.int p0) → im_lk L' 2 = some (.int p1) → im_lk L' 3 = some (.int p2) → im_lk L' 4 = some (.int p3) → im_lk L' 5 = some (.int p4) → Q3 () → ia (tb_G L xs) (dep + 4) J_MDotRows_ellipse (rwI w Q) (20, L', [.ref 89], M) := by
    intro  L' l5 l6 l7 l8 l9 l10 h
    replace h := hQ3  h
    refine iq_iconst hS 21 J_MDotRows_ellipse_d20 (v := 1) (by decide +kernel) rfl ?_
    refine iq_goto hS J_MDotRows_ellipse_d21 (t := 25) rfl ?_
    exact J2 _ _ l5 l6 l7 l8 l9 l10 (ed_some h)
  refine iq_if_ne hS 9 J_MDotRows_ellipse_d6 (t := 20) rfl (fun q6 => ?_) rfl (fun q6 => ?_)
  · replace h := ed_pos q6 h
    exact J3  _ l0 l1 l2 l3 l4 l5 (hk3  h)
  · replace h := ed_neg q6 h
    refine iq_iload_n hS 10 J_MDotRows_ellipse_d9 l3 rfl ?_
    refine iq_iload hS 12 J_MDotRows_ellipse_d10 l4 rfl ?_
    refine iq_iload hS 14 J_MDotRows_ellipse_d12 l5 rfl ?_
    obtain ⟨Q4, hQ4, h⟩ := bd1_ed h
    refine iq_cpI hS 17 J_MDotRows_ellipse_d14 rfl (pr_stat (vs := [_, _, _]) lc_12_127 lT_430 rfl rfl (by decide) rfl (Nat.le_of_ble_eq_true rfl) (Nat.le_of_ble_eq_true rfl)) (f_MDotRows_noRing_ok (dep := dep + 2) hM h) rfl ?_
    intro x4 h
    replace h := hQ4 _ h
    refine iq_if_eq hS 20 J_MDotRows_ellipse_d17 (t := 24) rfl (fun q17 => ?_) rfl (fun q17 => ?_)
    · replace h := ed_pos q17 h
      refine iq_iconst hS 25 J_MDotRows_ellipse_d24 (v := 0) (by decide +kernel) rfl ?_
      exact J2 _ _ l0 l1 l2 l3 l4 l5 (ed_some h)
    · replace h := ed_neg q17 h
      exact J3  _ l0 l1 l2 l3 l4 l5 (hk3  h)
noncomputable def f_MDotRows_line (p0 : Int32) (p1 : Int32) (p2 : Int32) (p3 : Int32) (p4 : Int32) (M : im_M) : Option (Int32 × im_M) := bd1 (f_MDotRows_noPlace p0 p1 M) fun (x1 : Int32) => bd1 (jn0 (fun (_ : Unit) => some 1) fun k3 => if ¬ x1 = 0 then k3 () else bd1 (f_MDotRows_noPlace p2 p3 M) fun (x4 : Int32) => if ¬ x4 = 0 then k3 () else bd1 (f_MDotRows_isNot p4 1 200 M) fun (x5 : Int32) => if x5 = 0 then some 0 else k3 ()) fun (y12 : Int32) => if (im_i (im_setI M 89 0 y12) 89 0) ≤ 0 then bd1 (f_MDotRows_at p0 p1 p2 p3 p4 (im_setI M 89 0 y12)) fun (M19 : im_M) => bd2 (f_MDotRows_draw 1 M19) fun (x20 : Int32) (M20 : im_M) => some (x20, M20) else some (0, (im_setI M 89 0 y12))
theorem J_MDotRows_line_d0 : decode J_MDotRows_line.2.1 0 = .ok (.aload_n 0, 1) := by decide +kernel
theorem J_MDotRows_line_d1 : decode J_MDotRows_line.2.1 1 = .ok (.iload_n 1, 1) := by decide +kernel
theorem J_MDotRows_line_d2 : decode J_MDotRows_line.2.1 2 = .ok (.iload_n 2, 1) := by decide +kernel
theorem J_MDotRows_line_d3 : decode J_MDotRows_line.2.1 3 = .ok (.invokestatic 124, 3) := by decide +kernel
theorem J_MDotRows_line_d6 : decode J_MDotRows_line.2.1 6 = .ok (.ifCond .ne 24, 3) := by decide +kernel
theorem J_MDotRows_line_d9 : decode J_MDotRows_line.2.1 9 = .ok (.iload_n 3, 1) := by decide +kernel
theorem J_MDotRows_line_d10 : decode J_MDotRows_line.2.1 10 = .ok (.iload 4, 2) := by decide +kernel
theorem J_MDotRows_line_d12 : decode J_MDotRows_line.2.1 12 = .ok (.invokestatic 124, 3) := by decide +kernel
theorem J_MDotRows_line_d15 : decode J_MDotRows_line.2.1 15 = .ok (.ifCond .ne 15, 3) := by decide +kernel
theorem J_MDotRows_line_d18 : decode J_MDotRows_line.2.1 18 = .ok (.iload 5, 2) := by decide +kernel
theorem J_MDotRows_line_d20 : decode J_MDotRows_line.2.1 20 = .ok (.iconst 1, 1) := by decide +kernel
theorem J_MDotRows_line_d21 : decode J_MDotRows_line.2.1 21 = .ok (.sipush 200, 3) := by decide +kernel
theorem J_MDotRows_line_d24 : decode J_MDotRows_line.2.1 24 = .ok (.invokestatic 121, 3) := by decide +kernel
theorem J_MDotRows_line_d27 : decode J_MDotRows_line.2.1 27 = .ok (.ifCond .eq 7, 3) := by decide +kernel
theorem J_MDotRows_line_d30 : decode J_MDotRows_line.2.1 30 = .ok (.iconst 1, 1) := by decide +kernel
theorem J_MDotRows_line_d31 : decode J_MDotRows_line.2.1 31 = .ok (.goto 4, 3) := by decide +kernel
theorem J_MDotRows_line_d34 : decode J_MDotRows_line.2.1 34 = .ok (.iconst 0, 1) := by decide +kernel
theorem J_MDotRows_line_d35 : decode J_MDotRows_line.2.1 35 = .ok (.putfield 37, 3) := by decide +kernel
theorem J_MDotRows_line_d38 : decode J_MDotRows_line.2.1 38 = .ok (.aload_n 0, 1) := by decide +kernel
theorem J_MDotRows_line_d39 : decode J_MDotRows_line.2.1 39 = .ok (.getfield 37, 3) := by decide +kernel
theorem J_MDotRows_line_d42 : decode J_MDotRows_line.2.1 42 = .ok (.ifCond .le 5, 3) := by decide +kernel
theorem J_MDotRows_line_d45 : decode J_MDotRows_line.2.1 45 = .ok (.iconst 0, 1) := by decide +kernel
theorem J_MDotRows_line_d46 : decode J_MDotRows_line.2.1 46 = .ok (.ireturn, 1) := by decide +kernel
theorem J_MDotRows_line_d47 : decode J_MDotRows_line.2.1 47 = .ok (.aload_n 0, 1) := by decide +kernel
theorem J_MDotRows_line_d48 : decode J_MDotRows_line.2.1 48 = .ok (.iload_n 1, 1) := by decide +kernel
theorem J_MDotRows_line_d49 : decode J_MDotRows_line.2.1 49 = .ok (.iload_n 2, 1) := by decide +kernel
theorem J_MDotRows_line_d50 : decode J_MDotRows_line.2.1 50 = .ok (.iload_n 3, 1) := by decide +kernel
theorem J_MDotRows_line_d51 : decode J_MDotRows_line.2.1 51 = .ok (.iload 4, 2) := by decide +kernel
theorem J_MDotRows_line_d53 : decode J_MDotRows_line.2.1 53 = .ok (.iload 5, 2) := by decide +kernel
theorem J_MDotRows_line_d55 : decode J_MDotRows_line.2.1 55 = .ok (.invokevirtual 130, 3) := by decide +kernel
theorem J_MDotRows_line_d58 : decode J_MDotRows_line.2.1 58 = .ok (.aload_n 0, 1) := by decide +kernel
theorem J_MDotRows_line_d59 : decode J_MDotRows_line.2.1 59 = .ok (.iconst 1, 1) := by decide +kernel
theorem J_MDotRows_line_d60 : decode J_MDotRows_line.2.1 60 = .ok (.invokevirtual 134, 3) := by decide +kernel
theorem J_MDotRows_line_d63 : decode J_MDotRows_line.2.1 63 = .ok (.ireturn, 1) := by decide +kernel
theorem f_MDotRows_line_ok {L : Nat} {xs : Nat → Int32} {dep : Nat} {w : Bool} {p0 : Int32} {p1 : Int32} {p2 : Int32} {p3 : Int32} {p4 : Int32} {M : im_M} {Q : Int32 × im_M → Prop} (hM : lw_S w M) (h : ed (f_MDotRows_line p0 p1 p2 p3 p4 M) Q) : ia (tb_G L xs) (dep + 4) J_MDotRows_line (rwI w Q) (0, lv_args 0 [.ref 89, .int p0, .int p1, .int p2, .int p3, .int p4], [], M) := by
  have hS : im_St (tb_G L xs) (dep + 4) J_MDotRows_line (ia (tb_G L xs) (dep + 4) J_MDotRows_line (rwI w Q)) := ia_St
  unfold f_MDotRows_line at h
  have l0 : im_lk (lv_args 0 [.ref 89, .int p0, .int p1, .int p2, .int p3, .int p4]) 0 = some (.ref 89) := rfl
  have l1 : im_lk (lv_args 0 [.ref 89, .int p0, .int p1, .int p2, .int p3, .int p4]) 1 = some (.int p0) := rfl
  have l2 : im_lk (lv_args 0 [.ref 89, .int p0, .int p1, .int p2, .int p3, .int p4]) 2 = some (.int p1) := rfl
  have l3 : im_lk (lv_args 0 [.ref 89, .int p0, .int p1, .int p2, .int p3, .int p4]) 3 = some (.int p2) := rfl
  have l4 : im_lk (lv_args 0 [.ref 89, .int p0, .int p1, .int p2, .int p3, .int p4]) 4 = some (.int p3) := rfl
  have l5 : im_lk (lv_args 0 [.ref 89, .int p0, .int p1, .int p2, .int p3, .int p4]) 5 = some (.int p4) := rfl
  refine iq_aload_n hS 1 J_MDotRows_line_d0 l0 rfl ?_
  refine iq_iload_n hS 2 J_MDotRows_line_d1 l1 rfl ?_
  refine iq_iload_n hS 3 J_MDotRows_line_d2 l2 rfl ?_
  obtain ⟨Q1, hQ1, h⟩ := bd1_ed h
  refine iq_cpI hS 6 J_MDotRows_line_d3 rfl (pr_stat (vs := [_, _]) lc_12_124 lT_334 rfl rfl (by decide) rfl (Nat.le_of_ble_eq_true rfl) (Nat.le_of_ble_eq_true rfl)) (f_MDotRows_noPlace_ok (dep := dep + 3) hM h) rfl ?_
  intro x1 h
  replace h := hQ1 _ h
  obtain ⟨Q2, hQ2, h⟩ := bd1_ed h
  have J2 : ∀ (y12 : Int32) (L' : List (Nat × Value)), im_lk L' 0 = some (.ref 89) → im_lk L' 1 = some (.int p0) → im_lk L' 2 = some (.int p1) → im_lk L' 3 = some (.int p2) → im_lk L' 4 = some (.int p3) → im_lk L' 5 = some (.int p4) → Q2 y12 → ia (tb_G L xs) (dep + 4) J_MDotRows_line (rwI w Q) (35, L', [.int y12, .ref 89], M) := by
    intro y12 L' l13 l14 l15 l16 l17 l18 h
    replace h := hQ2 _ h
    refine iq_putI hS 38 J_MDotRows_line_d35 lf_12_37 (Or.inl rfl) rfl (ka_89 hM) rfl ?_
    refine iq_aload_n hS 39 J_MDotRows_line_d38 l13 rfl ?_
    refine iq_getI hS 42 J_MDotRows_line_d39 lf_12_37 (Or.inl rfl) (ka_89 hM) rfl ?_
    refine iq_if_le hS 45 J_MDotRows_line_d42 (t := 47) rfl (fun q42 => ?_) rfl (fun q42 => ?_)
    · replace h := ed_pos q42 h
      refine iq_aload_n hS 48 J_MDotRows_line_d47 l13 rfl ?_
      refine iq_iload_n hS 49 J_MDotRows_line_d48 l14 rfl ?_
      refine iq_iload_n hS 50 J_MDotRows_line_d49 l15 rfl ?_
      refine iq_iload_n hS 51 J_MDotRows_line_d50 l16 rfl ?_
      refine iq_iload hS 53 J_MDotRows_line_d51 l17 rfl ?_
      refine iq_iload hS 55 J_MDotRows_line_d53 l18 rfl ?_
      obtain ⟨Q19, hQ19, h⟩ := bd1_ed h
      refine iq_cwV hS 58 J_MDotRows_line_d55 rfl (pr_inst (vs := [_, _, _, _, _]) lc_12_130 lT_335 rfl rfl (by decide) (by decide) rfl (Nat.le_of_ble_eq_true rfl) (Nat.le_of_ble_eq_true rfl) (fun _ => Or.inl (pr_b (ka_89 hM) (by decide) rfl))) (f_MDotRows_at_ok (dep := dep + 3) hM h) rfl ?_
      intro M19 hM19 h
      replace h := hQ19 _ h
      refine iq_aload_n hS 59 J_MDotRows_line_d58 l13 rfl ?_
      refine iq_iconst hS 60 J_MDotRows_line_d59 (v := 1) (by decide +kernel) rfl ?_
      obtain ⟨Q20, hQ20, h⟩ := bd2_ed h
      refine iq_cwI hS 63 J_MDotRows_line_d60 rfl (pr_inst (vs := [_]) lc_12_134 lT_336 rfl rfl (by decide) (by decide) rfl (Nat.le_of_ble_eq_true rfl) (Nat.le_of_ble_eq_true rfl) (fun _ => Or.inl (pr_b (ka_89 hM19) (by decide) rfl))) (f_MDotRows_draw_ok (dep := dep + 0) hM19 h) rfl ?_
      intro x20 M20 hM20 h
      replace h := hQ20 _ _ h
      exact iq_iret J_MDotRows_line_d63 rfl rfl ⟨_, rfl, hM20, ed_some h⟩
    · replace h := ed_neg q42 h
      refine iq_iconst hS 46 J_MDotRows_line_d45 (v := 0) (by decide +kernel) rfl ?_
      exact iq_iret J_MDotRows_line_d46 rfl rfl ⟨_, rfl, hM, ed_some h⟩
  obtain ⟨k3, Q3, hQ3, hk3, h⟩ := jn0_ed h
  have J3 : ∀  (L' : List (Nat × Value)), im_lk L' 0 = some (.ref 89) → im_lk L' 1 = some (.int p0) → im_lk L' 2 = some (.int p1) → im_lk L' 3 = some (.int p2) → im_lk L' 4 = some (.int p3) → im_lk L' 5 = some (.int p4) → Q3 () → ia (tb_G L xs) (dep + 4) J_MDotRows_line (rwI w Q) (30, L', [.ref 89], M) := by
    intro  L' l6 l7 l8 l9 l10 l11 h
    replace h := hQ3  h
    refine iq_iconst hS 31 J_MDotRows_line_d30 (v := 1) (by decide +kernel) rfl ?_
    refine iq_goto hS J_MDotRows_line_d31 (t := 35) rfl ?_
    exact J2 _ _ l6 l7 l8 l9 l10 l11 (ed_some h)
  refine iq_if_ne hS 9 J_MDotRows_line_d6 (t := 30) rfl (fun q6 => ?_) rfl (fun q6 => ?_)
  · replace h := ed_pos q6 h
    exact J3  _ l0 l1 l2 l3 l4 l5 (hk3  h)
  · replace h := ed_neg q6 h
    refine iq_iload_n hS 10 J_MDotRows_line_d9 l3 rfl ?_
    refine iq_iload hS 12 J_MDotRows_line_d10 l4 rfl ?_
    obtain ⟨Q4, hQ4, h⟩ := bd1_ed h
    refine iq_cpI hS 15 J_MDotRows_line_d12 rfl (pr_stat (vs := [_, _]) lc_12_124 lT_334 rfl rfl (by decide) rfl (Nat.le_of_ble_eq_true rfl) (Nat.le_of_ble_eq_true rfl)) (f_MDotRows_noPlace_ok (dep := dep + 3) hM h) rfl ?_
    intro x4 h
    replace h := hQ4 _ h
    refine iq_if_ne hS 18 J_MDotRows_line_d15 (t := 30) rfl (fun q15 => ?_) rfl (fun q15 => ?_)
    · replace h := ed_pos q15 h
      exact J3  _ l0 l1 l2 l3 l4 l5 (hk3  h)
    · replace h := ed_neg q15 h
      refine iq_iload hS 20 J_MDotRows_line_d18 l5 rfl ?_
      refine iq_iconst hS 21 J_MDotRows_line_d20 (v := 1) (by decide +kernel) rfl ?_
      refine iq_sipush hS 24 J_MDotRows_line_d21 (v := 200) (by decide +kernel) rfl ?_
      obtain ⟨Q5, hQ5, h⟩ := bd1_ed h
      refine iq_cpI hS 27 J_MDotRows_line_d24 rfl (pr_stat (vs := [_, _, _]) lc_12_121 lT_267 rfl rfl (by decide) rfl (Nat.le_of_ble_eq_true rfl) (Nat.le_of_ble_eq_true rfl)) (f_MDotRows_isNot_ok (dep := dep + 3) hM h) rfl ?_
      intro x5 h
      replace h := hQ5 _ h
      refine iq_if_eq hS 30 J_MDotRows_line_d27 (t := 34) rfl (fun q27 => ?_) rfl (fun q27 => ?_)
      · replace h := ed_pos q27 h
        refine iq_iconst hS 35 J_MDotRows_line_d34 (v := 0) (by decide +kernel) rfl ?_
        exact J2 _ _ l0 l1 l2 l3 l4 l5 (ed_some h)
      · replace h := ed_neg q27 h
        exact J3  _ l0 l1 l2 l3 l4 l5 (hk3  h)
noncomputable def f_MDotRows_picture (p0 : Int32) (p1 : Int32) (p2 : Int32) (M : im_M) : Option (Int32 × im_M) := bd1 (f_MDotRows_noPlace p0 p1 M) fun (x1 : Int32) => bd1 (jn0 (fun (_ : Unit) => some 1) fun k3 => if ¬ x1 = 0 then k3 () else bd1 (f_MDotRows_isNot p2 1 2048 M) fun (x4 : Int32) => if x4 = 0 then gd (¬ ((p2 + 7) / 8) = (0 : Int32)) <| if ((im_i M 89 7) - (im_i M 89 7) / ((p2 + 7) / 8) * ((p2 + 7) / 8)) = 0 then some 0 else some 2 else k3 ()) fun (y9 : Int32) => if (im_i (im_setI M 89 0 y9) 89 0) ≤ 0 then bd1 (f_MDotRows_at p0 p1 p2 0 0 (im_setI M 89 0 y9)) fun (M14 : im_M) => bd2 (f_MDotRows_draw 6 M14) fun (x15 : Int32) (M15 : im_M) => some (x15, M15) else some (0, (im_setI M 89 0 y9))
theorem J_MDotRows_picture_d0 : decode J_MDotRows_picture.2.1 0 = .ok (.aload_n 0, 1) := by decide +kernel
theorem J_MDotRows_picture_d1 : decode J_MDotRows_picture.2.1 1 = .ok (.iload_n 1, 1) := by decide +kernel
theorem J_MDotRows_picture_d2 : decode J_MDotRows_picture.2.1 2 = .ok (.iload_n 2, 1) := by decide +kernel
theorem J_MDotRows_picture_d3 : decode J_MDotRows_picture.2.1 3 = .ok (.invokestatic 124, 3) := by decide +kernel
theorem J_MDotRows_picture_d6 : decode J_MDotRows_picture.2.1 6 = .ok (.ifCond .ne 14, 3) := by decide +kernel
theorem J_MDotRows_picture_d9 : decode J_MDotRows_picture.2.1 9 = .ok (.iload_n 3, 1) := by decide +kernel
theorem J_MDotRows_picture_d10 : decode J_MDotRows_picture.2.1 10 = .ok (.iconst 1, 1) := by decide +kernel
theorem J_MDotRows_picture_d11 : decode J_MDotRows_picture.2.1 11 = .ok (.sipush 2048, 3) := by decide +kernel
theorem J_MDotRows_picture_d14 : decode J_MDotRows_picture.2.1 14 = .ok (.invokestatic 121, 3) := by decide +kernel
theorem J_MDotRows_picture_d17 : decode J_MDotRows_picture.2.1 17 = .ok (.ifCond .eq 7, 3) := by decide +kernel
theorem J_MDotRows_picture_d20 : decode J_MDotRows_picture.2.1 20 = .ok (.iconst 1, 1) := by decide +kernel
theorem J_MDotRows_picture_d21 : decode J_MDotRows_picture.2.1 21 = .ok (.goto 23, 3) := by decide +kernel
theorem J_MDotRows_picture_d24 : decode J_MDotRows_picture.2.1 24 = .ok (.aload_n 0, 1) := by decide +kernel
theorem J_MDotRows_picture_d25 : decode J_MDotRows_picture.2.1 25 = .ok (.getfield 47, 3) := by decide +kernel
theorem J_MDotRows_picture_d28 : decode J_MDotRows_picture.2.1 28 = .ok (.iload_n 3, 1) := by decide +kernel
theorem J_MDotRows_picture_d29 : decode J_MDotRows_picture.2.1 29 = .ok (.bipush 7, 2) := by decide +kernel
theorem J_MDotRows_picture_d31 : decode J_MDotRows_picture.2.1 31 = .ok (.iadd, 1) := by decide +kernel
theorem J_MDotRows_picture_d32 : decode J_MDotRows_picture.2.1 32 = .ok (.bipush 8, 2) := by decide +kernel
theorem J_MDotRows_picture_d34 : decode J_MDotRows_picture.2.1 34 = .ok (.idiv, 1) := by decide +kernel
theorem J_MDotRows_picture_d35 : decode J_MDotRows_picture.2.1 35 = .ok (.irem, 1) := by decide +kernel
theorem J_MDotRows_picture_d36 : decode J_MDotRows_picture.2.1 36 = .ok (.ifCond .eq 7, 3) := by decide +kernel
theorem J_MDotRows_picture_d39 : decode J_MDotRows_picture.2.1 39 = .ok (.iconst 2, 1) := by decide +kernel
theorem J_MDotRows_picture_d40 : decode J_MDotRows_picture.2.1 40 = .ok (.goto 4, 3) := by decide +kernel
theorem J_MDotRows_picture_d43 : decode J_MDotRows_picture.2.1 43 = .ok (.iconst 0, 1) := by decide +kernel
theorem J_MDotRows_picture_d44 : decode J_MDotRows_picture.2.1 44 = .ok (.putfield 37, 3) := by decide +kernel
theorem J_MDotRows_picture_d47 : decode J_MDotRows_picture.2.1 47 = .ok (.aload_n 0, 1) := by decide +kernel
theorem J_MDotRows_picture_d48 : decode J_MDotRows_picture.2.1 48 = .ok (.getfield 37, 3) := by decide +kernel
theorem J_MDotRows_picture_d51 : decode J_MDotRows_picture.2.1 51 = .ok (.ifCond .le 5, 3) := by decide +kernel
theorem J_MDotRows_picture_d54 : decode J_MDotRows_picture.2.1 54 = .ok (.iconst 0, 1) := by decide +kernel
theorem J_MDotRows_picture_d55 : decode J_MDotRows_picture.2.1 55 = .ok (.ireturn, 1) := by decide +kernel
theorem J_MDotRows_picture_d56 : decode J_MDotRows_picture.2.1 56 = .ok (.aload_n 0, 1) := by decide +kernel
theorem J_MDotRows_picture_d57 : decode J_MDotRows_picture.2.1 57 = .ok (.iload_n 1, 1) := by decide +kernel
theorem J_MDotRows_picture_d58 : decode J_MDotRows_picture.2.1 58 = .ok (.iload_n 2, 1) := by decide +kernel
theorem J_MDotRows_picture_d59 : decode J_MDotRows_picture.2.1 59 = .ok (.iload_n 3, 1) := by decide +kernel
theorem J_MDotRows_picture_d60 : decode J_MDotRows_picture.2.1 60 = .ok (.iconst 0, 1) := by decide +kernel
theorem J_MDotRows_picture_d61 : decode J_MDotRows_picture.2.1 61 = .ok (.iconst 0, 1) := by decide +kernel
theorem J_MDotRows_picture_d62 : decode J_MDotRows_picture.2.1 62 = .ok (.invokevirtual 130, 3) := by decide +kernel
theorem J_MDotRows_picture_d65 : decode J_MDotRows_picture.2.1 65 = .ok (.aload_n 0, 1) := by decide +kernel
theorem J_MDotRows_picture_d66 : decode J_MDotRows_picture.2.1 66 = .ok (.bipush 6, 2) := by decide +kernel
theorem J_MDotRows_picture_d68 : decode J_MDotRows_picture.2.1 68 = .ok (.invokevirtual 134, 3) := by decide +kernel
theorem J_MDotRows_picture_d71 : decode J_MDotRows_picture.2.1 71 = .ok (.ireturn, 1) := by decide +kernel
theorem f_MDotRows_picture_ok {L : Nat} {xs : Nat → Int32} {dep : Nat} {w : Bool} {p0 : Int32} {p1 : Int32} {p2 : Int32} {M : im_M} {Q : Int32 × im_M → Prop} (hM : lw_S w M) (h : ed (f_MDotRows_picture p0 p1 p2 M) Q) : ia (tb_G L xs) (dep + 4) J_MDotRows_picture (rwI w Q) (0, lv_args 0 [.ref 89, .int p0, .int p1, .int p2], [], M) := by
  have hS : im_St (tb_G L xs) (dep + 4) J_MDotRows_picture (ia (tb_G L xs) (dep + 4) J_MDotRows_picture (rwI w Q)) := ia_St
  unfold f_MDotRows_picture at h
  have l0 : im_lk (lv_args 0 [.ref 89, .int p0, .int p1, .int p2]) 0 = some (.ref 89) := rfl
  have l1 : im_lk (lv_args 0 [.ref 89, .int p0, .int p1, .int p2]) 1 = some (.int p0) := rfl
  have l2 : im_lk (lv_args 0 [.ref 89, .int p0, .int p1, .int p2]) 2 = some (.int p1) := rfl
  have l3 : im_lk (lv_args 0 [.ref 89, .int p0, .int p1, .int p2]) 3 = some (.int p2) := rfl
  refine iq_aload_n hS 1 J_MDotRows_picture_d0 l0 rfl ?_
  refine iq_iload_n hS 2 J_MDotRows_picture_d1 l1 rfl ?_
  refine iq_iload_n hS 3 J_MDotRows_picture_d2 l2 rfl ?_
  obtain ⟨Q1, hQ1, h⟩ := bd1_ed h
  refine iq_cpI hS 6 J_MDotRows_picture_d3 rfl (pr_stat (vs := [_, _]) lc_12_124 lT_334 rfl rfl (by decide) rfl (Nat.le_of_ble_eq_true rfl) (Nat.le_of_ble_eq_true rfl)) (f_MDotRows_noPlace_ok (dep := dep + 3) hM h) rfl ?_
  intro x1 h
  replace h := hQ1 _ h
  obtain ⟨Q2, hQ2, h⟩ := bd1_ed h
  have J2 : ∀ (y9 : Int32) (L' : List (Nat × Value)), im_lk L' 0 = some (.ref 89) → im_lk L' 1 = some (.int p0) → im_lk L' 2 = some (.int p1) → im_lk L' 3 = some (.int p2) → Q2 y9 → ia (tb_G L xs) (dep + 4) J_MDotRows_picture (rwI w Q) (44, L', [.int y9, .ref 89], M) := by
    intro y9 L' l10 l11 l12 l13 h
    replace h := hQ2 _ h
    refine iq_putI hS 47 J_MDotRows_picture_d44 lf_12_37 (Or.inl rfl) rfl (ka_89 hM) rfl ?_
    refine iq_aload_n hS 48 J_MDotRows_picture_d47 l10 rfl ?_
    refine iq_getI hS 51 J_MDotRows_picture_d48 lf_12_37 (Or.inl rfl) (ka_89 hM) rfl ?_
    refine iq_if_le hS 54 J_MDotRows_picture_d51 (t := 56) rfl (fun q51 => ?_) rfl (fun q51 => ?_)
    · replace h := ed_pos q51 h
      refine iq_aload_n hS 57 J_MDotRows_picture_d56 l10 rfl ?_
      refine iq_iload_n hS 58 J_MDotRows_picture_d57 l11 rfl ?_
      refine iq_iload_n hS 59 J_MDotRows_picture_d58 l12 rfl ?_
      refine iq_iload_n hS 60 J_MDotRows_picture_d59 l13 rfl ?_
      refine iq_iconst hS 61 J_MDotRows_picture_d60 (v := 0) (by decide +kernel) rfl ?_
      refine iq_iconst hS 62 J_MDotRows_picture_d61 (v := 0) (by decide +kernel) rfl ?_
      obtain ⟨Q14, hQ14, h⟩ := bd1_ed h
      refine iq_cwV hS 65 J_MDotRows_picture_d62 rfl (pr_inst (vs := [_, _, _, _, _]) lc_12_130 lT_335 rfl rfl (by decide) (by decide) rfl (Nat.le_of_ble_eq_true rfl) (Nat.le_of_ble_eq_true rfl) (fun _ => Or.inl (pr_b (ka_89 hM) (by decide) rfl))) (f_MDotRows_at_ok (dep := dep + 3) hM h) rfl ?_
      intro M14 hM14 h
      replace h := hQ14 _ h
      refine iq_aload_n hS 66 J_MDotRows_picture_d65 l10 rfl ?_
      refine iq_bipush hS 68 J_MDotRows_picture_d66 (v := 6) (by decide +kernel) rfl ?_
      obtain ⟨Q15, hQ15, h⟩ := bd2_ed h
      refine iq_cwI hS 71 J_MDotRows_picture_d68 rfl (pr_inst (vs := [_]) lc_12_134 lT_336 rfl rfl (by decide) (by decide) rfl (Nat.le_of_ble_eq_true rfl) (Nat.le_of_ble_eq_true rfl) (fun _ => Or.inl (pr_b (ka_89 hM14) (by decide) rfl))) (f_MDotRows_draw_ok (dep := dep + 0) hM14 h) rfl ?_
      intro x15 M15 hM15 h
      replace h := hQ15 _ _ h
      exact iq_iret J_MDotRows_picture_d71 rfl rfl ⟨_, rfl, hM15, ed_some h⟩
    · replace h := ed_neg q51 h
      refine iq_iconst hS 55 J_MDotRows_picture_d54 (v := 0) (by decide +kernel) rfl ?_
      exact iq_iret J_MDotRows_picture_d55 rfl rfl ⟨_, rfl, hM, ed_some h⟩
  obtain ⟨k3, Q3, hQ3, hk3, h⟩ := jn0_ed h
  have J3 : ∀  (L' : List (Nat × Value)), im_lk L' 0 = some (.ref 89) → im_lk L' 1 = some (.int p0) → im_lk L' 2 = some (.int p1) → im_lk L' 3 = some (.int p2) → Q3 () → ia (tb_G L xs) (dep + 4) J_MDotRows_picture (rwI w Q) (20, L', [.ref 89], M) := by
    intro  L' l5 l6 l7 l8 h
    replace h := hQ3  h
    refine iq_iconst hS 21 J_MDotRows_picture_d20 (v := 1) (by decide +kernel) rfl ?_
    refine iq_goto hS J_MDotRows_picture_d21 (t := 44) rfl ?_
    exact J2 _ _ l5 l6 l7 l8 (ed_some h)
  refine iq_if_ne hS 9 J_MDotRows_picture_d6 (t := 20) rfl (fun q6 => ?_) rfl (fun q6 => ?_)
  · replace h := ed_pos q6 h
    exact J3  _ l0 l1 l2 l3 (hk3  h)
  · replace h := ed_neg q6 h
    refine iq_iload_n hS 10 J_MDotRows_picture_d9 l3 rfl ?_
    refine iq_iconst hS 11 J_MDotRows_picture_d10 (v := 1) (by decide +kernel) rfl ?_
    refine iq_sipush hS 14 J_MDotRows_picture_d11 (v := 2048) (by decide +kernel) rfl ?_
    obtain ⟨Q4, hQ4, h⟩ := bd1_ed h
    refine iq_cpI hS 17 J_MDotRows_picture_d14 rfl (pr_stat (vs := [_, _, _]) lc_12_121 lT_267 rfl rfl (by decide) rfl (Nat.le_of_ble_eq_true rfl) (Nat.le_of_ble_eq_true rfl)) (f_MDotRows_isNot_ok (dep := dep + 3) hM h) rfl ?_
    intro x4 h
    replace h := hQ4 _ h
    refine iq_if_eq hS 20 J_MDotRows_picture_d17 (t := 24) rfl (fun q17 => ?_) rfl (fun q17 => ?_)
    · replace h := ed_pos q17 h
      refine iq_aload_n hS 25 J_MDotRows_picture_d24 l0 rfl ?_
      refine iq_getI hS 28 J_MDotRows_picture_d25 lf_12_47 (Or.inl rfl) (ka_89 hM) rfl ?_
      refine iq_iload_n hS 29 J_MDotRows_picture_d28 l3 rfl ?_
      refine iq_bipush hS 31 J_MDotRows_picture_d29 (v := 7) (by decide +kernel) rfl ?_
      refine iq_iadd hS 32 J_MDotRows_picture_d31 rfl ?_
      refine iq_bipush hS 34 J_MDotRows_picture_d32 (v := 8) (by decide +kernel) rfl ?_
      refine iq_idiv hS 35 J_MDotRows_picture_d34 (by decide) rfl ?_
      obtain ⟨g35, h⟩ := ed_gd h
      refine iq_irem hS 36 J_MDotRows_picture_d35 g35 rfl ?_
      refine iq_if_eq hS 39 J_MDotRows_picture_d36 (t := 43) rfl (fun q36 => ?_) rfl (fun q36 => ?_)
      · replace h := ed_pos q36 h
        refine iq_iconst hS 44 J_MDotRows_picture_d43 (v := 0) (by decide +kernel) rfl ?_
        exact J2 _ _ l0 l1 l2 l3 (ed_some h)
      · replace h := ed_neg q36 h
        refine iq_iconst hS 40 J_MDotRows_picture_d39 (v := 2) (by decide +kernel) rfl ?_
        refine iq_goto hS J_MDotRows_picture_d40 (t := 44) rfl ?_
        exact J2 _ _ l0 l1 l2 l3 (ed_some h)
    · replace h := ed_neg q17 h
      exact J3  _ l0 l1 l2 l3 (hk3  h)
