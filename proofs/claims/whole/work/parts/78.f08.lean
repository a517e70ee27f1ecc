/-! METHODS AS FUNCTIONS -/
noncomputable def f_HPen_indent_L13 (v2 : Int32) (v3 : Int32) (v4 : Int32) (v5 : Int64) (M9 : im_M) (x6 : Int32) (x7 : Int32) (x8 : Int32) : Option ((Int32 × Int32 × Int32) ⊕ (Int32)) := if 12 ≤ x8 then some (.inr x6) else if x7 ≤ x6 then some (.inr x6) else some (.inl (((if 0 < (lg_cmp (((((((2 : Int64) * (Int32.toInt64 ((x6 + x7) / 2))) - (Int32.toInt64 (v2 - 1))) * (Int32.toInt64 v4)) * (((2 : Int64) * (Int32.toInt64 ((x6 + x7) / 2))) - (Int32.toInt64 (v2 - 1)))) * (Int32.toInt64 v4)) + (((v5 * (Int32.toInt64 v3)) * v5) * (Int32.toInt64 v3))) ((((Int32.toInt64 v3) * (Int32.toInt64 v4)) * (Int32.toInt64 v3)) * (Int32.toInt64 v4))) then (((x6 + x7) / 2) + 1) else x6) : Int32), ((if 0 < (lg_cmp (((((((2 : Int64) * (Int32.toInt64 ((x6 + x7) / 2))) - (Int32.toInt64 (v2 - 1))) * (Int32.toInt64 v4)) * (((2 : Int64) * (Int32.toInt64 ((x6 + x7) / 2))) - (Int32.toInt64 (v2 - 1)))) * (Int32.toInt64 v4)) + (((v5 * (Int32.toInt64 v3)) * v5) * (Int32.toInt64 v3))) ((((Int32.toInt64 v3) * (Int32.toInt64 v4)) * (Int32.toInt64 v3)) * (Int32.toInt64 v4))) then x7 else ((x6 + x7) / 2)) : Int32), (x8 + 1)))
noncomputable def f_HPen_indent (p0 : Int32) (p1 : Int32) (p2 : Int32) (p3 : Int64) (M : im_M) : Option (Int32) := bd1 (lp (uc3 (f_HPen_indent_L13 p0 p1 p2 p3 M)) (0, ((p0 + 1) / 2), 0)) fun (y11 : Int32) => if ¬ y11 = ((p0 + 1) / 2) then some y11 else some (-1)
theorem J_HPen_indent_d0 : decode J_HPen_indent.2.1 0 = .ok (.iconst 0, 1) := by decide +kernel
theorem J_HPen_indent_d1 : decode J_HPen_indent.2.1 1 = .ok (.istore 5, 2) := by decide +kernel
theorem J_HPen_indent_d3 : decode J_HPen_indent.2.1 3 = .ok (.iload_n 0, 1) := by decide +kernel
theorem J_HPen_indent_d4 : decode J_HPen_indent.2.1 4 = .ok (.iconst 1, 1) := by decide +kernel
theorem J_HPen_indent_d5 : decode J_HPen_indent.2.1 5 = .ok (.iadd, 1) := by decide +kernel
theorem J_HPen_indent_d6 : decode J_HPen_indent.2.1 6 = .ok (.iconst 2, 1) := by decide +kernel
theorem J_HPen_indent_d7 : decode J_HPen_indent.2.1 7 = .ok (.idiv, 1) := by decide +kernel
theorem J_HPen_indent_d8 : decode J_HPen_indent.2.1 8 = .ok (.istore 6, 2) := by decide +kernel
theorem J_HPen_indent_d10 : decode J_HPen_indent.2.1 10 = .ok (.iconst 0, 1) := by decide +kernel
theorem J_HPen_indent_d11 : decode J_HPen_indent.2.1 11 = .ok (.istore 7, 2) := by decide +kernel
theorem J_HPen_indent_d13 : decode J_HPen_indent.2.1 13 = .ok (.iload 7, 2) := by decide +kernel
theorem J_HPen_indent_d15 : decode J_HPen_indent.2.1 15 = .ok (.bipush 12, 2) := by decide +kernel
theorem J_HPen_indent_d17 : decode J_HPen_indent.2.1 17 = .ok (.if_icmp .ge 88, 3) := by decide +kernel
theorem J_HPen_indent_d20 : decode J_HPen_indent.2.1 20 = .ok (.iload 5, 2) := by decide +kernel
theorem J_HPen_indent_d22 : decode J_HPen_indent.2.1 22 = .ok (.iload 6, 2) := by decide +kernel
theorem J_HPen_indent_d24 : decode J_HPen_indent.2.1 24 = .ok (.if_icmp .ge 81, 3) := by decide +kernel
theorem J_HPen_indent_d27 : decode J_HPen_indent.2.1 27 = .ok (.iload 5, 2) := by decide +kernel
theorem J_HPen_indent_d29 : decode J_HPen_indent.2.1 29 = .ok (.iload 6, 2) := by decide +kernel
theorem J_HPen_indent_d31 : decode J_HPen_indent.2.1 31 = .ok (.iadd, 1) := by decide +kernel
theorem J_HPen_indent_d32 : decode J_HPen_indent.2.1 32 = .ok (.iconst 2, 1) := by decide +kernel
theorem J_HPen_indent_d33 : decode J_HPen_indent.2.1 33 = .ok (.idiv, 1) := by decide +kernel
theorem J_HPen_indent_d34 : decode J_HPen_indent.2.1 34 = .ok (.istore 8, 2) := by decide +kernel
theorem J_HPen_indent_d36 : decode J_HPen_indent.2.1 36 = .ok (.ldc2_w 137, 3) := by decide +kernel
theorem J_HPen_indent_d39 : decode J_HPen_indent.2.1 39 = .ok (.iload 8, 2) := by decide +kernel
theorem J_HPen_indent_d41 : decode J_HPen_indent.2.1 41 = .ok (.i2l, 1) := by decide +kernel
theorem J_HPen_indent_d42 : decode J_HPen_indent.2.1 42 = .ok (.lmul, 1) := by decide +kernel
theorem J_HPen_indent_d43 : decode J_HPen_indent.2.1 43 = .ok (.iload_n 0, 1) := by decide +kernel
theorem J_HPen_indent_d44 : decode J_HPen_indent.2.1 44 = .ok (.iconst 1, 1) := by decide +kernel
theorem J_HPen_indent_d45 : decode J_HPen_indent.2.1 45 = .ok (.isub, 1) := by decide +kernel
theorem J_HPen_indent_d46 : decode J_HPen_indent.2.1 46 = .ok (.i2l, 1) := by decide +kernel
theorem J_HPen_indent_d47 : decode J_HPen_indent.2.1 47 = .ok (.lsub, 1) := by decide +kernel
theorem J_HPen_indent_d48 : decode J_HPen_indent.2.1 48 = .ok (.lstore 9, 2) := by decide +kernel
theorem J_HPen_indent_d50 : decode J_HPen_indent.2.1 50 = .ok (.lload 9, 2) := by decide +kernel
theorem J_HPen_indent_d52 : decode J_HPen_indent.2.1 52 = .ok (.iload_n 2, 1) := by decide +kernel
theorem J_HPen_indent_d53 : decode J_HPen_indent.2.1 53 = .ok (.i2l, 1) := by decide +kernel
theorem J_HPen_indent_d54 : decode J_HPen_indent.2.1 54 = .ok (.lmul, 1) := by decide +kernel
theorem J_HPen_indent_d55 : decode J_HPen_indent.2.1 55 = .ok (.lload 9, 2) := by decide +kernel
theorem J_HPen_indent_d57 : decode J_HPen_indent.2.1 57 = .ok (.lmul, 1) := by decide +kernel
theorem J_HPen_indent_d58 : decode J_HPen_indent.2.1 58 = .ok (.iload_n 2, 1) := by decide +kernel
theorem J_HPen_indent_d59 : decode J_HPen_indent.2.1 59 = .ok (.i2l, 1) := by decide +kernel
theorem J_HPen_indent_d60 : decode J_HPen_indent.2.1 60 = .ok (.lmul, 1) := by decide +kernel
theorem J_HPen_indent_d61 : decode J_HPen_indent.2.1 61 = .ok (.lload_n 3, 1) := by decide +kernel
theorem J_HPen_indent_d62 : decode J_HPen_indent.2.1 62 = .ok (.iload_n 1, 1) := by decide +kernel
theorem J_HPen_indent_d63 : decode J_HPen_indent.2.1 63 = .ok (.i2l, 1) := by decide +kernel
theorem J_HPen_indent_d64 : decode J_HPen_indent.2.1 64 = .ok (.lmul, 1) := by decide +kernel
theorem J_HPen_indent_d65 : decode J_HPen_indent.2.1 65 = .ok (.lload_n 3, 1) := by decide +kernel
theorem J_HPen_indent_d66 : decode J_HPen_indent.2.1 66 = .ok (.lmul, 1) := by decide +kernel
theorem J_HPen_indent_d67 : decode J_HPen_indent.2.1 67 = .ok (.iload_n 1, 1) := by decide +kernel
theorem J_HPen_indent_d68 : decode J_HPen_indent.2.1 68 = .ok (.i2l, 1) := by decide +kernel
theorem J_HPen_indent_d69 : decode J_HPen_indent.2.1 69 = .ok (.lmul, 1) := by decide +kernel
theorem J_HPen_indent_d70 : decode J_HPen_indent.2.1 70 = .ok (.ladd, 1) := by decide +kernel
theorem J_HPen_indent_d71 : decode J_HPen_indent.2.1 71 = .ok (.iload_n 1, 1) := by decide +kernel
theorem J_HPen_indent_d72 : decode J_HPen_indent.2.1 72 = .ok (.i2l, 1) := by decide +kernel
theorem J_HPen_indent_d73 : decode J_HPen_indent.2.1 73 = .ok (.iload_n 2, 1) := by decide +kernel
theorem J_HPen_indent_d74 : decode J_HPen_indent.2.1 74 = .ok (.i2l, 1) := by decide +kernel
theorem J_HPen_indent_d75 : decode J_HPen_indent.2.1 75 = .ok (.lmul, 1) := by decide +kernel
theorem J_HPen_indent_d76 : decode J_HPen_indent.2.1 76 = .ok (.iload_n 1, 1) := by decide +kernel
theorem J_HPen_indent_d77 : decode J_HPen_indent.2.1 77 = .ok (.i2l, 1) := by decide +kernel
theorem J_HPen_indent_d78 : decode J_HPen_indent.2.1 78 = .ok (.lmul, 1) := by decide +kernel
theorem J_HPen_indent_d79 : decode J_HPen_indent.2.1 79 = .ok (.iload_n 2, 1) := by decide +kernel
theorem J_HPen_indent_d80 : decode J_HPen_indent.2.1 80 = .ok (.i2l, 1) := by decide +kernel
theorem J_HPen_indent_d81 : decode J_HPen_indent.2.1 81 = .ok (.lmul, 1) := by decide +kernel
theorem J_HPen_indent_d82 : decode J_HPen_indent.2.1 82 = .ok (.lcmp, 1) := by decide +kernel
theorem J_HPen_indent_d83 : decode J_HPen_indent.2.1 83 = .ok (.ifCond .gt 10, 3) := by decide +kernel
theorem J_HPen_indent_d86 : decode J_HPen_indent.2.1 86 = .ok (.iload 8, 2) := by decide +kernel
theorem J_HPen_indent_d88 : decode J_HPen_indent.2.1 88 = .ok (.istore 6, 2) := by decide +kernel
theorem J_HPen_indent_d90 : decode J_HPen_indent.2.1 90 = .ok (.goto 9, 3) := by decide +kernel
theorem J_HPen_indent_d93 : decode J_HPen_indent.2.1 93 = .ok (.iload 8, 2) := by decide +kernel
theorem J_HPen_indent_d95 : decode J_HPen_indent.2.1 95 = .ok (.iconst 1, 1) := by decide +kernel
theorem J_HPen_indent_d96 : decode J_HPen_indent.2.1 96 = .ok (.iadd, 1) := by decide +kernel
theorem J_HPen_indent_d97 : decode J_HPen_indent.2.1 97 = .ok (.istore 5, 2) := by decide +kernel
theorem J_HPen_indent_d99 : decode J_HPen_indent.2.1 99 = .ok (.iinc 7 1, 3) := by decide +kernel
theorem J_HPen_indent_d102 : decode J_HPen_indent.2.1 102 = .ok (.goto (-89), 3) := by decide +kernel
theorem J_HPen_indent_d105 : decode J_HPen_indent.2.1 105 = .ok (.iload 5, 2) := by decide +kernel
theorem J_HPen_indent_d107 : decode J_HPen_indent.2.1 107 = .ok (.iload_n 0, 1) := by decide +kernel
theorem J_HPen_indent_d108 : decode J_HPen_indent.2.1 108 = .ok (.iconst 1, 1) := by decide +kernel
theorem J_HPen_indent_d109 : decode J_HPen_indent.2.1 109 = .ok (.iadd, 1) := by decide +kernel
theorem J_HPen_indent_d110 : decode J_HPen_indent.2.1 110 = .ok (.iconst 2, 1) := by decide +kernel
theorem J_HPen_indent_d111 : decode J_HPen_indent.2.1 111 = .ok (.idiv, 1) := by decide +kernel
theorem J_HPen_indent_d112 : decode J_HPen_indent.2.1 112 = .ok (.if_icmp .ne 7, 3) := by decide +kernel
theorem J_HPen_indent_d115 : decode J_HPen_indent.2.1 115 = .ok (.iconst (-1), 1) := by decide +kernel
theorem J_HPen_indent_d116 : decode J_HPen_indent.2.1 116 = .ok (.goto 5, 3) := by decide +kernel
theorem J_HPen_indent_d119 : decode J_HPen_indent.2.1 119 = .ok (.iload 5, 2) := by decide +kernel
theorem J_HPen_indent_d121 : decode J_HPen_indent.2.1 121 = .ok (.ireturn, 1) := by decide +kernel
theorem f_HPen_indent_ok {L : Nat} {xs : Nat → Int32} {dep : Nat} {w : Bool} {p0 : Int32} {p1 : Int32} {p2 : Int32} {p3 : Int64} {M : im_M} {Q : Int32 → Prop} (hM : lw_S w M) (h : ed (f_HPen_indent p0 p1 p2 p3 M) Q) : ia (tb_G L xs) dep J_HPen_indent (rpI M Q) (0, lv_args 0 [.int p0, .int p1, .int p2, .long p3], [], M) := by
  have hS : im_St (tb_G L xs) dep J_HPen_indent (ia (tb_G L xs) dep J_HPen_indent (rpI M Q)) := ia_St
  unfold f_HPen_indent at h
  have l0 : im_lk (lv_args 0 [.int p0, .int p1, .int p2, .long p3]) 0 = some (.int p0) := rfl
  have l1 : im_lk (lv_args 0 [.int p0, .int p1, .int p2, .long p3]) 1 = some (.int p1) := rfl
  have l2 : im_lk (lv_args 0 [.int p0, .int p1, .int p2, .long p3]) 2 = some (.int p2) := rfl
  have l3 : im_lk (lv_args 0 [.int p0, .int p1, .int p2, .long p3]) 3 = some (.long p3) := rfl
  refine iq_iconst hS 1 J_HPen_indent_d0 (v := 0) (by decide +kernel) rfl ?_
  refine iq_istore hS 3 J_HPen_indent_d1 (by decide) rfl ?_
  refine iq_iload_n hS 4 J_HPen_indent_d3 (lk_1i l0 (by decide)) rfl ?_
  refine iq_iconst hS 5 J_HPen_indent_d4 (v := 1) (by decide +kernel) rfl ?_
  refine iq_iadd hS 6 J_HPen_indent_d5 rfl ?_
  refine iq_iconst hS 7 J_HPen_indent_d6 (v := 2) (by decide +kernel) rfl ?_
  refine iq_idiv hS 8 J_HPen_indent_d7 (by decide) rfl ?_
  refine iq_istore hS 10 J_HPen_indent_d8 (by decide) rfl ?_
  refine iq_iconst hS 11 J_HPen_indent_d10 (v := 0) (by decide +kernel) rfl ?_
  refine iq_istore hS 13 J_HPen_indent_d11 (by decide) rfl ?_
  obtain ⟨Q1, hQ1, h⟩ := bd1_ed h
  have K1 : ∀ (y2 : Int32) (L' : List (Nat × Value)), im_lk L' 0 = some (.int p0) → im_lk L' 5 = some (.int y2) → Q1 y2 → ia (tb_G L xs) dep J_HPen_indent (rpI M Q) (105, L', [], M) := by
    intro y2 L' l3 l4 h
    replace h := hQ1 _ h
    refine iq_iload hS 107 J_HPen_indent_d105 l4 rfl ?_
    refine iq_iload_n hS 108 J_HPen_indent_d107 l3 rfl ?_
    refine iq_iconst hS 109 J_HPen_indent_d108 (v := 1) (by decide +kernel) rfl ?_
    refine iq_iadd hS 110 J_HPen_indent_d109 rfl ?_
    refine iq_iconst hS 111 J_HPen_indent_d110 (v := 2) (by decide +kernel) rfl ?_
    refine iq_idiv hS 112 J_HPen_indent_d111 (by decide) rfl ?_
    refine iq_icmp_ne hS 115 J_HPen_indent_d112 (t := 119) rfl (fun q112 => ?_) rfl (fun q112 => ?_)
    · replace h := ed_pos q112 h
      refine iq_iload hS 121 J_HPen_indent_d119 l4 rfl ?_
      exact iq_iret J_HPen_indent_d121 rfl rfl ⟨_, rfl, rfl, ed_some h⟩
    · replace h := ed_neg q112 h
      refine iq_iconst hS 116 J_HPen_indent_d115 (v := (-1)) (by decide +kernel) rfl ?_
      refine iq_goto hS J_HPen_indent_d116 (t := 121) rfl ?_
      exact iq_iret J_HPen_indent_d121 rfl rfl ⟨_, rfl, rfl, ed_some h⟩
  obtain ⟨r1, hr1, hq1⟩ := h
  obtain ⟨n1, hn1⟩ := lp_n hr1
  have I1 : ∀ (n : Nat) (x5 : Int32) (x6 : Int32) (x7 : Int32) (L' : List (Nat × Value)), im_lk L' 0 = some (.int p0) → im_lk L' 1 = some (.int p1) → im_lk L' 2 = some (.int p2) → im_lk L' 3 = some (.long p3) → im_lk L' 5 = some (.int x5) → im_lk L' 6 = some (.int x6) → im_lk L' 7 = some (.int x7) → lpn (uc3 (f_HPen_indent_L13 p0 p1 p2 p3 M)) n (x5, x6, x7) = some r1 → ia (tb_G L xs) dep J_HPen_indent (rpI M Q) (13, L', [], M) := by
    intro n
    induction n with
    | zero => intro x5 x6 x7 L' l8 l9 l10 l11 l12 l13 l14 hn; exact (lpn_0 hn).elim
    | succ n ih =>
      intro x5 x6 x7 L' l8 l9 l10 l11 l12 l13 l14 hn
      have h := lpn_ed3 hn
      unfold f_HPen_indent_L13 at h
      refine iq_iload hS 15 J_HPen_indent_d13 l14 rfl ?_
      refine iq_bipush hS 17 J_HPen_indent_d15 (v := 12) (by decide +kernel) rfl ?_
      refine iq_icmp_ge hS 20 J_HPen_indent_d17 (t := 105) rfl (fun q17 => ?_) rfl (fun q17 => ?_)
      · replace h := ed_pos q17 h
        exact K1 _ _ l8 l12 (lq_r h hq1)
      · replace h := ed_neg q17 h
        refine iq_iload hS 22 J_HPen_indent_d20 l12 rfl ?_
        refine iq_iload hS 24 J_HPen_indent_d22 l13 rfl ?_
        refine iq_icmp_ge hS 27 J_HPen_indent_d24 (t := 105) rfl (fun q24 => ?_) rfl (fun q24 => ?_)
        · replace h := ed_pos q24 h
          exact K1 _ _ l8 l12 (lq_r h hq1)
        · replace h := ed_neg q24 h
          refine iq_iload hS 29 J_HPen_indent_d27 l12 rfl ?_
          refine iq_iload hS 31 J_HPen_indent_d29 l13 rfl ?_
          refine iq_iadd hS 32 J_HPen_indent_d31 rfl ?_
          refine iq_iconst hS 33 J_HPen_indent_d32 (v := 2) (by decide +kernel) rfl ?_
          refine iq_idiv hS 34 J_HPen_indent_d33 (by decide) rfl ?_
          refine iq_istore hS 36 J_HPen_indent_d34 (by decide) rfl ?_
          refine iq_ldc2_w hS 39 J_HPen_indent_d36 lk_6_137 rfl ?_
          refine iq_iload hS 41 J_HPen_indent_d39 lk_1s rfl ?_
          refine iq_i2l hS 42 J_HPen_indent_d41 rfl ?_
          refine iq_lmul hS 43 J_HPen_indent_d42 rfl ?_
          refine iq_iload_n hS 44 J_HPen_indent_d43 (lk_1i l8 (by decide)) rfl ?_
          refine iq_iconst hS 45 J_HPen_indent_d44 (v := 1) (by decide +kernel) rfl ?_
          refine iq_isub hS 46 J_HPen_indent_d45 rfl ?_
          refine iq_i2l hS 47 J_HPen_indent_d46 rfl ?_
          refine iq_lsub hS 48 J_HPen_indent_d47 rfl ?_
          refine iq_lstore hS 50 J_HPen_indent_d48 (by decide) rfl ?_
          refine iq_lload hS 52 J_HPen_indent_d50 lk_2s rfl ?_
          refine iq_iload_n hS 53 J_HPen_indent_d52 (lk_2i (lk_1i l10 (by decide)) (by decide) (by decide)) rfl ?_
          refine iq_i2l hS 54 J_HPen_indent_d53 rfl ?_
          refine iq_lmul hS 55 J_HPen_indent_d54 rfl ?_
          refine iq_lload hS 57 J_HPen_indent_d55 lk_2s rfl ?_
          refine iq_lmul hS 58 J_HPen_indent_d57 rfl ?_
          refine iq_iload_n hS 59 J_HPen_indent_d58 (lk_2i (lk_1i l10 (by decide)) (by decide) (by decide)) rfl ?_
          refine iq_i2l hS 60 J_HPen_indent_d59 rfl ?_
          refine iq_lmul hS 61 J_HPen_indent_d60 rfl ?_
          refine iq_lload_n hS 62 J_HPen_indent_d61 (lk_2l (lk_1l l11 (by decide) (by decide)) (by decide) (by decide) (by decide)) rfl ?_
          refine iq_iload_n hS 63 J_HPen_indent_d62 (lk_2i (lk_1i l9 (by decide)) (by decide) (by decide)) rfl ?_
          refine iq_i2l hS 64 J_HPen_indent_d63 rfl ?_
          refine iq_lmul hS 65 J_HPen_indent_d64 rfl ?_
          refine iq_lload_n hS 66 J_HPen_indent_d65 (lk_2l (lk_1l l11 (by decide) (by decide)) (by decide) (by decide) (by decide)) rfl ?_
          refine iq_lmul hS 67 J_HPen_indent_d66 rfl ?_
          refine iq_iload_n hS 68 J_HPen_indent_d67 (lk_2i (lk_1i l9 (by decide)) (by decide) (by decide)) rfl ?_
          refine iq_i2l hS 69 J_HPen_indent_d68 rfl ?_
          refine iq_lmul hS 70 J_HPen_indent_d69 rfl ?_
          refine iq_ladd hS 71 J_HPen_indent_d70 rfl ?_
          refine iq_iload_n hS 72 J_HPen_indent_d71 (lk_2i (lk_1i l9 (by decide)) (by decide) (by decide)) rfl ?_
          refine iq_i2l hS 73 J_HPen_indent_d72 rfl ?_
          refine iq_iload_n hS 74 J_HPen_indent_d73 (lk_2i (lk_1i l10 (by decide)) (by decide) (by decide)) rfl ?_
          refine iq_i2l hS 75 J_HPen_indent_d74 rfl ?_
          refine iq_lmul hS 76 J_HPen_indent_d75 rfl ?_
          refine iq_iload_n hS 77 J_HPen_indent_d76 (lk_2i (lk_1i l9 (by decide)) (by decide) (by decide)) rfl ?_
          refine iq_i2l hS 78 J_HPen_indent_d77 rfl ?_
          refine iq_lmul hS 79 J_HPen_indent_d78 rfl ?_
          refine iq_iload_n hS 80 J_HPen_indent_d79 (lk_2i (lk_1i l10 (by decide)) (by decide) (by decide)) rfl ?_
          refine iq_i2l hS 81 J_HPen_indent_d80 rfl ?_
          refine iq_lmul hS 82 J_HPen_indent_d81 rfl ?_
          refine iq_lcmp hS 83 J_HPen_indent_d82 rfl ?_
          have J15 : ∀ (z16 : Int32) (z17 : Int32) (L' : List (Nat × Value)), z16 = ((if 0 < (lg_cmp (((((((2 : Int64) * (Int32.toInt64 ((x5 + x6) / 2))) - (Int32.toInt64 (p0 - 1))) * (Int32.toInt64 p2)) * (((2 : Int64) * (Int32.toInt64 ((x5 + x6) / 2))) - (Int32.toInt64 (p0 - 1)))) * (Int32.toInt64 p2)) + (((p3 * (Int32.toInt64 p1)) * p3) * (Int32.toInt64 p1))) ((((Int32.toInt64 p1) * (Int32.toInt64 p2)) * (Int32.toInt64 p1)) * (Int32.toInt64 p2))) then (((x5 + x6) / 2) + 1) else x5) : Int32) → z17 = ((if 0 < (lg_cmp (((((((2 : Int64) * (Int32.toInt64 ((x5 + x6) / 2))) - (Int32.toInt64 (p0 - 1))) * (Int32.toInt64 p2)) * (((2 : Int64) * (Int32.toInt64 ((x5 + x6) / 2))) - (Int32.toInt64 (p0 - 1)))) * (Int32.toInt64 p2)) + (((p3 * (Int32.toInt64 p1)) * p3) * (Int32.toInt64 p1))) ((((Int32.toInt64 p1) * (Int32.toInt64 p2)) * (Int32.toInt64 p1)) * (Int32.toInt64 p2))) then x6 else ((x5 + x6) / 2)) : Int32) → im_lk L' 0 = some (.int p0) → im_lk L' 1 = some (.int p1) → im_lk L' 2 = some (.int p2) → im_lk L' 3 = some (.long p3) → im_lk L' 5 = some (.int z16) → im_lk L' 6 = some (.int z17) → im_lk L' 7 = some (.int x7) → ia (tb_G L xs) dep J_HPen_indent (rpI M Q) (99, L', [], M) := by
            intro z16 z17 L' e18 e19 l20 l21 l22 l23 l24 l25 l26
            subst e18
            subst e19
            refine iq_iincv hS 102 J_HPen_indent_d99 (c := 1) (by decide +kernel) l26 (by decide) rfl ?_
            refine iq_goto hS J_HPen_indent_d102 (t := 13) rfl ?_
            exact ih _ _ _ _ (lk_1i l20 (by decide)) (lk_1i l21 (by decide)) (lk_1i l22 (by decide)) (lk_1l l23 (by decide) (by decide)) (lk_1i l24 (by decide)) (lk_1i l25 (by decide)) lk_1s (lq_l h)
          refine iq_if_gt hS 86 J_HPen_indent_d83 (t := 93) rfl (fun q83 => ?_) rfl (fun q83 => ?_)
          · refine iq_iload hS 95 J_HPen_indent_d93 (lk_2i lk_1s (by decide) (by decide)) rfl ?_
            refine iq_iconst hS 96 J_HPen_indent_d95 (v := 1) (by decide +kernel) rfl ?_
            refine iq_iadd hS 97 J_HPen_indent_d96 rfl ?_
            refine iq_istore hS 99 J_HPen_indent_d97 (by decide) rfl ?_
            exact J15 _ _ _ (by rw [if_pos q83]) (by rw [if_pos q83]) (lk_1i (lk_2i (lk_1i l8 (by decide)) (by decide) (by decide)) (by decide)) (lk_1i (lk_2i (lk_1i l9 (by decide)) (by decide) (by decide)) (by decide)) (lk_1i (lk_2i (lk_1i l10 (by decide)) (by decide) (by decide)) (by decide)) (lk_1l (lk_2l (lk_1l l11 (by decide) (by decide)) (by decide) (by decide) (by decide)) (by decide) (by decide)) lk_1s (lk_1i (lk_2i (lk_1i l13 (by decide)) (by decide) (by decide)) (by decide)) (lk_1i (lk_2i (lk_1i l14 (by decide)) (by decide) (by decide)) (by decide))
          · refine iq_iload hS 88 J_HPen_indent_d86 (lk_2i lk_1s (by decide) (by decide)) rfl ?_
            refine iq_istore hS 90 J_HPen_indent_d88 (by decide) rfl ?_
            refine iq_goto hS J_HPen_indent_d90 (t := 99) rfl ?_
            exact J15 _ _ _ (by rw [if_neg q83]) (by rw [if_neg q83]) (lk_1i (lk_2i (lk_1i l8 (by decide)) (by decide) (by decide)) (by decide)) (lk_1i (lk_2i (lk_1i l9 (by decide)) (by decide) (by decide)) (by decide)) (lk_1i (lk_2i (lk_1i l10 (by decide)) (by decide) (by decide)) (by decide)) (lk_1l (lk_2l (lk_1l l11 (by decide) (by decide)) (by decide) (by decide) (by decide)) (by decide) (by decide)) (lk_1i (lk_2i (lk_1i l12 (by decide)) (by decide) (by decide)) (by decide)) lk_1s (lk_1i (lk_2i (lk_1i l14 (by decide)) (by decide) (by decide)) (by decide))
  exact I1 n1 _ _ _ _ (lk_1i (lk_1i (lk_1i l0 (by decide)) (by decide)) (by decide)) (lk_1i (lk_1i (lk_1i l1 (by decide)) (by decide)) (by decide)) (lk_1i (lk_1i (lk_1i l2 (by decide)) (by decide)) (by decide)) (lk_1l (lk_1l (lk_1l l3 (by decide) (by decide)) (by decide) (by decide)) (by decide) (by decide)) (lk_1i (lk_1i lk_1s (by decide)) (by decide)) (lk_1i lk_1s (by decide)) lk_1s hn1
noncomputable def f_HPen_drawEllipse_L24 (w : Bool) (v3 : Int32) (v4 : Int32) (v5 : Int32) (v6 : Int32) (x7 : Int32) (M8 : im_M) : Option ((Int32 × im_M) ⊕ (im_M)) := if v4 ≤ x7 then some (.inr M8) else bd1 (if ((im_i M8 56 6) + x7) < 0 then some M8 else if (im_i M8 28 1) ≤ ((im_i M8 56 6) + x7) then some M8 else bd1 (f_HPen_indent v3 v3 v4 (((2 : Int64) * (Int32.toInt64 x7)) - (Int32.toInt64 (v4 - 1))) M8) fun (x10 : Int32) => bd1 (if v6 = 0 then some (-1) else bd1 (f_HPen_indent v3 (v3 - ((2 : Int32) * v5)) (v4 - ((2 : Int32) * v5)) (((2 : Int64) * (Int32.toInt64 x7)) - (Int32.toInt64 (v4 - 1))) M8) fun (x12 : Int32) => some x12) fun (y13 : Int32) => jn1 (fun (M24 : im_M) => if x10 = (-1) then some M24 else bd1 (f_HSheet_box w ((im_i M24 56 5) + x10) ((im_i M8 56 6) + x7) (((im_i M24 56 5) + y13) - 1) ((im_i M8 56 6) + x7) M24) fun (M34 : im_M) => bd1 (f_HSheet_box w (((im_i M34 56 5) + v3) - y13) ((im_i M8 56 6) + x7) ((((im_i M34 56 5) + v3) - 1) - x10) ((im_i M8 56 6) + x7) M34) fun (M35 : im_M) => some M35) fun k22 => if ¬ y13 = (-1) then k22 M8 else if x10 = (-1) then k22 M8 else bd1 (f_HSheet_box w ((im_i M8 56 5) + x10) ((im_i M8 56 6) + x7) ((((im_i M8 56 5) + v3) - 1) - x10) ((im_i M8 56 6) + x7) M8) fun (M23 : im_M) => some M23) fun (M36 : im_M) => some (.inl ((x7 + 1), M36))
noncomputable def f_HPen_drawEllipse (w : Bool) (p0 : Int32) (p1 : Int32) (p2 : Int32) (M : im_M) : Option (im_M) := bd1 (lp (uc2 (f_HPen_drawEllipse_L24 w p0 p1 p2 ((if p0 ≤ ((2 : Int32) * p2) then 0 else (if p1 ≤ ((2 : Int32) * p2) then 0 else 1)) : Int32))) (0, M)) fun (M43 : im_M) => some M43
theorem J_HPen_drawEllipse_d0 : decode J_HPen_drawEllipse.2.1 0 = .ok (.iload_n 1, 1) := by decide +kernel
theorem J_HPen_drawEllipse_d1 : decode J_HPen_drawEllipse.2.1 1 = .ok (.iconst 2, 1) := by decide +kernel
theorem J_HPen_drawEllipse_d2 : decode J_HPen_drawEllipse.2.1 2 = .ok (.iload_n 3, 1) := by decide +kernel
theorem J_HPen_drawEllipse_d3 : decode J_HPen_drawEllipse.2.1 3 = .ok (.imul, 1) := by decide +kernel
theorem J_HPen_drawEllipse_d4 : decode J_HPen_drawEllipse.2.1 4 = .ok (.if_icmp .le 14, 3) := by decide +kernel
theorem J_HPen_drawEllipse_d7 : decode J_HPen_drawEllipse.2.1 7 = .ok (.iload_n 2, 1) := by decide +kernel
theorem J_HPen_drawEllipse_d8 : decode J_HPen_drawEllipse.2.1 8 = .ok (.iconst 2, 1) := by decide +kernel
theorem J_HPen_drawEllipse_d9 : decode J_HPen_drawEllipse.2.1 9 = .ok (.iload_n 3, 1) := by decide +kernel
theorem J_HPen_drawEllipse_d10 : decode J_HPen_drawEllipse.2.1 10 = .ok (.imul, 1) := by decide +kernel
theorem J_HPen_drawEllipse_d11 : decode J_HPen_drawEllipse.2.1 11 = .ok (.if_icmp .le 7, 3) := by decide +kernel
theorem J_HPen_drawEllipse_d14 : decode J_HPen_drawEllipse.2.1 14 = .ok (.iconst 1, 1) := by decide +kernel
theorem J_HPen_drawEllipse_d15 : decode J_HPen_drawEllipse.2.1 15 = .ok (.goto 4, 3) := by decide +kernel
theorem J_HPen_drawEllipse_d18 : decode J_HPen_drawEllipse.2.1 18 = .ok (.iconst 0, 1) := by decide +kernel
theorem J_HPen_drawEllipse_d19 : decode J_HPen_drawEllipse.2.1 19 = .ok (.istore 4, 2) := by decide +kernel
theorem J_HPen_drawEllipse_d21 : decode J_HPen_drawEllipse.2.1 21 = .ok (.iconst 0, 1) := by decide +kernel
theorem J_HPen_drawEllipse_d22 : decode J_HPen_drawEllipse.2.1 22 = .ok (.istore 5, 2) := by decide +kernel
theorem J_HPen_drawEllipse_d24 : decode J_HPen_drawEllipse.2.1 24 = .ok (.iload 5, 2) := by decide +kernel
theorem J_HPen_drawEllipse_d26 : decode J_HPen_drawEllipse.2.1 26 = .ok (.iload_n 2, 1) := by decide +kernel
theorem J_HPen_drawEllipse_d27 : decode J_HPen_drawEllipse.2.1 27 = .ok (.if_icmp .ge 194, 3) := by decide +kernel
theorem J_HPen_drawEllipse_d30 : decode J_HPen_drawEllipse.2.1 30 = .ok (.aload_n 0, 1) := by decide +kernel
theorem J_HPen_drawEllipse_d31 : decode J_HPen_drawEllipse.2.1 31 = .ok (.getfield 47, 3) := by decide +kernel
theorem J_HPen_drawEllipse_d34 : decode J_HPen_drawEllipse.2.1 34 = .ok (.iload 5, 2) := by decide +kernel
theorem J_HPen_drawEllipse_d36 : decode J_HPen_drawEllipse.2.1 36 = .ok (.iadd, 1) := by decide +kernel
theorem J_HPen_drawEllipse_d37 : decode J_HPen_drawEllipse.2.1 37 = .ok (.istore 6, 2) := by decide +kernel
theorem J_HPen_drawEllipse_d39 : decode J_HPen_drawEllipse.2.1 39 = .ok (.iload 6, 2) := by decide +kernel
theorem J_HPen_drawEllipse_d41 : decode J_HPen_drawEllipse.2.1 41 = .ok (.ifCond .lt 174, 3) := by decide +kernel
theorem J_HPen_drawEllipse_d44 : decode J_HPen_drawEllipse.2.1 44 = .ok (.iload 6, 2) := by decide +kernel
theorem J_HPen_drawEllipse_d46 : decode J_HPen_drawEllipse.2.1 46 = .ok (.aload_n 0, 1) := by decide +kernel
theorem J_HPen_drawEllipse_d47 : decode J_HPen_drawEllipse.2.1 47 = .ok (.getfield 19, 3) := by decide +kernel
theorem J_HPen_drawEllipse_d50 : decode J_HPen_drawEllipse.2.1 50 = .ok (.getfield 134, 3) := by decide +kernel
theorem J_HPen_drawEllipse_d53 : decode J_HPen_drawEllipse.2.1 53 = .ok (.if_icmp .ge 162, 3) := by decide +kernel
theorem J_HPen_drawEllipse_d56 : decode J_HPen_drawEllipse.2.1 56 = .ok (.ldc2_w 137, 3) := by decide +kernel
theorem J_HPen_drawEllipse_d59 : decode J_HPen_drawEllipse.2.1 59 = .ok (.iload 5, 2) := by decide +kernel
theorem J_HPen_drawEllipse_d61 : decode J_HPen_drawEllipse.2.1 61 = .ok (.i2l, 1) := by decide +kernel
theorem J_HPen_drawEllipse_d62 : decode J_HPen_drawEllipse.2.1 62 = .ok (.lmul, 1) := by decide +kernel
theorem J_HPen_drawEllipse_d63 : decode J_HPen_drawEllipse.2.1 63 = .ok (.iload_n 2, 1) := by decide +kernel
theorem J_HPen_drawEllipse_d64 : decode J_HPen_drawEllipse.2.1 64 = .ok (.iconst 1, 1) := by decide +kernel
theorem J_HPen_drawEllipse_d65 : decode J_HPen_drawEllipse.2.1 65 = .ok (.isub, 1) := by decide +kernel
theorem J_HPen_drawEllipse_d66 : decode J_HPen_drawEllipse.2.1 66 = .ok (.i2l, 1) := by decide +kernel
theorem J_HPen_drawEllipse_d67 : decode J_HPen_drawEllipse.2.1 67 = .ok (.lsub, 1) := by decide +kernel
theorem J_HPen_drawEllipse_d68 : decode J_HPen_drawEllipse.2.1 68 = .ok (.lstore 7, 2) := by decide +kernel
theorem J_HPen_drawEllipse_d70 : decode J_HPen_drawEllipse.2.1 70 = .ok (.iload_n 1, 1) := by decide +kernel
theorem J_HPen_drawEllipse_d71 : decode J_HPen_drawEllipse.2.1 71 = .ok (.iload_n 1, 1) := by decide +kernel
theorem J_HPen_drawEllipse_d72 : decode J_HPen_drawEllipse.2.1 72 = .ok (.iload_n 2, 1) := by decide +kernel
theorem J_HPen_drawEllipse_d73 : decode J_HPen_drawEllipse.2.1 73 = .ok (.lload 7, 2) := by decide +kernel
theorem J_HPen_drawEllipse_d75 : decode J_HPen_drawEllipse.2.1 75 = .ok (.invokestatic 139, 3) := by decide +kernel
theorem J_HPen_drawEllipse_d78 : decode J_HPen_drawEllipse.2.1 78 = .ok (.istore 9, 2) := by decide +kernel
theorem J_HPen_drawEllipse_d80 : decode J_HPen_drawEllipse.2.1 80 = .ok (.iload 4, 2) := by decide +kernel
theorem J_HPen_drawEllipse_d82 : decode J_HPen_drawEllipse.2.1 82 = .ok (.ifCond .eq 22, 3) := by decide +kernel
theorem J_HPen_drawEllipse_d85 : decode J_HPen_drawEllipse.2.1 85 = .ok (.iload_n 1, 1) := by decide +kernel
theorem J_HPen_drawEllipse_d86 : decode J_HPen_drawEllipse.2.1 86 = .ok (.iload_n 1, 1) := by decide +kernel
theorem J_HPen_drawEllipse_d87 : decode J_HPen_drawEllipse.2.1 87 = .ok (.iconst 2, 1) := by decide +kernel
theorem J_HPen_drawEllipse_d88 : decode J_HPen_drawEllipse.2.1 88 = .ok (.iload_n 3, 1) := by decide +kernel
theorem J_HPen_drawEllipse_d89 : decode J_HPen_drawEllipse.2.1 89 = .ok (.imul, 1) := by decide +kernel
theorem J_HPen_drawEllipse_d90 : decode J_HPen_drawEllipse.2.1 90 = .ok (.isub, 1) := by decide +kernel
theorem J_HPen_drawEllipse_d91 : decode J_HPen_drawEllipse.2.1 91 = .ok (.iload_n 2, 1) := by decide +kernel
theorem J_HPen_drawEllipse_d92 : decode J_HPen_drawEllipse.2.1 92 = .ok (.iconst 2, 1) := by decide +kernel
theorem J_HPen_drawEllipse_d93 : decode J_HPen_drawEllipse.2.1 93 = .ok (.iload_n 3, 1) := by decide +kernel
theorem J_HPen_drawEllipse_d94 : decode J_HPen_drawEllipse.2.1 94 = .ok (.imul, 1) := by decide +kernel
theorem J_HPen_drawEllipse_d95 : decode J_HPen_drawEllipse.2.1 95 = .ok (.isub, 1) := by decide +kernel
theorem J_HPen_drawEllipse_d96 : decode J_HPen_drawEllipse.2.1 96 = .ok (.lload 7, 2) := by decide +kernel
theorem J_HPen_drawEllipse_d98 : decode J_HPen_drawEllipse.2.1 98 = .ok (.invokestatic 139, 3) := by decide +kernel
theorem J_HPen_drawEllipse_d101 : decode J_HPen_drawEllipse.2.1 101 = .ok (.goto 4, 3) := by decide +kernel
theorem J_HPen_drawEllipse_d104 : decode J_HPen_drawEllipse.2.1 104 = .ok (.iconst (-1), 1) := by decide +kernel
theorem J_HPen_drawEllipse_d105 : decode J_HPen_drawEllipse.2.1 105 = .ok (.istore 10, 2) := by decide +kernel
theorem J_HPen_drawEllipse_d107 : decode J_HPen_drawEllipse.2.1 107 = .ok (.iload 10, 2) := by decide +kernel
theorem J_HPen_drawEllipse_d109 : decode J_HPen_drawEllipse.2.1 109 = .ok (.iconst (-1), 1) := by decide +kernel
theorem J_HPen_drawEllipse_d110 : decode J_HPen_drawEllipse.2.1 110 = .ok (.if_icmp .ne 41, 3) := by decide +kernel
theorem J_HPen_drawEllipse_d113 : decode J_HPen_drawEllipse.2.1 113 = .ok (.iload 9, 2) := by decide +kernel
theorem J_HPen_drawEllipse_d115 : decode J_HPen_drawEllipse.2.1 115 = .ok (.iconst (-1), 1) := by decide +kernel
theorem J_HPen_drawEllipse_d116 : decode J_HPen_drawEllipse.2.1 116 = .ok (.if_icmp .eq 35, 3) := by decide +kernel
theorem J_HPen_drawEllipse_d119 : decode J_HPen_drawEllipse.2.1 119 = .ok (.aload_n 0, 1) := by decide +kernel
theorem J_HPen_drawEllipse_d120 : decode J_HPen_drawEllipse.2.1 120 = .ok (.getfield 19, 3) := by decide +kernel
theorem J_HPen_drawEllipse_d123 : decode J_HPen_drawEllipse.2.1 123 = .ok (.aload_n 0, 1) := by decide +kernel
theorem J_HPen_drawEllipse_d124 : decode J_HPen_drawEllipse.2.1 124 = .ok (.getfield 43, 3) := by decide +kernel
theorem J_HPen_drawEllipse_d127 : decode J_HPen_drawEllipse.2.1 127 = .ok (.iload 9, 2) := by decide +kernel
theorem J_HPen_drawEllipse_d129 : decode J_HPen_drawEllipse.2.1 129 = .ok (.iadd, 1) := by decide +kernel
theorem J_HPen_drawEllipse_d130 : decode J_HPen_drawEllipse.2.1 130 = .ok (.iload 6, 2) := by decide +kernel
theorem J_HPen_drawEllipse_d132 : decode J_HPen_drawEllipse.2.1 132 = .ok (.aload_n 0, 1) := by decide +kernel
theorem J_HPen_drawEllipse_d133 : decode J_HPen_drawEllipse.2.1 133 = .ok (.getfield 43, 3) := by decide +kernel
theorem J_HPen_drawEllipse_d136 : decode J_HPen_drawEllipse.2.1 136 = .ok (.iload_n 1, 1) := by decide +kernel
theorem J_HPen_drawEllipse_d137 : decode J_HPen_drawEllipse.2.1 137 = .ok (.iadd, 1) := by decide +kernel
theorem J_HPen_drawEllipse_d138 : decode J_HPen_drawEllipse.2.1 138 = .ok (.iconst 1, 1) := by decide +kernel
theorem J_HPen_drawEllipse_d139 : decode J_HPen_drawEllipse.2.1 139 = .ok (.isub, 1) := by decide +kernel
theorem J_HPen_drawEllipse_d140 : decode J_HPen_drawEllipse.2.1 140 = .ok (.iload 9, 2) := by decide +kernel
theorem J_HPen_drawEllipse_d142 : decode J_HPen_drawEllipse.2.1 142 = .ok (.isub, 1) := by decide +kernel
theorem J_HPen_drawEllipse_d143 : decode J_HPen_drawEllipse.2.1 143 = .ok (.iload 6, 2) := by decide +kernel
theorem J_HPen_drawEllipse_d145 : decode J_HPen_drawEllipse.2.1 145 = .ok (.invokevirtual 107, 3) := by decide +kernel
theorem J_HPen_drawEllipse_d148 : decode J_HPen_drawEllipse.2.1 148 = .ok (.goto 67, 3) := by decide +kernel
theorem J_HPen_drawEllipse_d151 : decode J_HPen_drawEllipse.2.1 151 = .ok (.iload 9, 2) := by decide +kernel
theorem J_HPen_drawEllipse_d153 : decode J_HPen_drawEllipse.2.1 153 = .ok (.iconst (-1), 1) := by decide +kernel
theorem J_HPen_drawEllipse_d154 : decode J_HPen_drawEllipse.2.1 154 = .ok (.if_icmp .eq 61, 3) := by decide +kernel
theorem J_HPen_drawEllipse_d157 : decode J_HPen_drawEllipse.2.1 157 = .ok (.aload_n 0, 1) := by decide +kernel
theorem J_HPen_drawEllipse_d158 : decode J_HPen_drawEllipse.2.1 158 = .ok (.getfield 19, 3) := by decide +kernel
theorem J_HPen_drawEllipse_d161 : decode J_HPen_drawEllipse.2.1 161 = .ok (.aload_n 0, 1) := by decide +kernel
theorem J_HPen_drawEllipse_d162 : decode J_HPen_drawEllipse.2.1 162 = .ok (.getfield 43, 3) := by decide +kernel
theorem J_HPen_drawEllipse_d165 : decode J_HPen_drawEllipse.2.1 165 = .ok (.iload 9, 2) := by decide +kernel
theorem J_HPen_drawEllipse_d167 : decode J_HPen_drawEllipse.2.1 167 = .ok (.iadd, 1) := by decide +kernel
theorem J_HPen_drawEllipse_d168 : decode J_HPen_drawEllipse.2.1 168 = .ok (.iload 6, 2) := by decide +kernel
theorem J_HPen_drawEllipse_d170 : decode J_HPen_drawEllipse.2.1 170 = .ok (.aload_n 0, 1) := by decide +kernel
theorem J_HPen_drawEllipse_d171 : decode J_HPen_drawEllipse.2.1 171 = .ok (.getfield 43, 3) := by decide +kernel
theorem J_HPen_drawEllipse_d174 : decode J_HPen_drawEllipse.2.1 174 = .ok (.iload 10, 2) := by decide +kernel
theorem J_HPen_drawEllipse_d176 : decode J_HPen_drawEllipse.2.1 176 = .ok (.iadd, 1) := by decide +kernel
theorem J_HPen_drawEllipse_d177 : decode J_HPen_drawEllipse.2.1 177 = .ok (.iconst 1, 1) := by decide +kernel
theorem J_HPen_drawEllipse_d178 : decode J_HPen_drawEllipse.2.1 178 = .ok (.isub, 1) := by decide +kernel
theorem J_HPen_drawEllipse_d179 : decode J_HPen_drawEllipse.2.1 179 = .ok (.iload 6, 2) := by decide +kernel
theorem J_HPen_drawEllipse_d181 : decode J_HPen_drawEllipse.2.1 181 = .ok (.invokevirtual 107, 3) := by decide +kernel
theorem J_HPen_drawEllipse_d184 : decode J_HPen_drawEllipse.2.1 184 = .ok (.aload_n 0, 1) := by decide +kernel
theorem J_HPen_drawEllipse_d185 : decode J_HPen_drawEllipse.2.1 185 = .ok (.getfield 19, 3) := by decide +kernel
theorem J_HPen_drawEllipse_d188 : decode J_HPen_drawEllipse.2.1 188 = .ok (.aload_n 0, 1) := by decide +kernel
theorem J_HPen_drawEllipse_d189 : decode J_HPen_drawEllipse.2.1 189 = .ok (.getfield 43, 3) := by decide +kernel
theorem J_HPen_drawEllipse_d192 : decode J_HPen_drawEllipse.2.1 192 = .ok (.iload_n 1, 1) := by decide +kernel
theorem J_HPen_drawEllipse_d193 : decode J_HPen_drawEllipse.2.1 193 = .ok (.iadd, 1) := by decide +kernel
theorem J_HPen_drawEllipse_d194 : decode J_HPen_drawEllipse.2.1 194 = .ok (.iload 10, 2) := by decide +kernel
theorem J_HPen_drawEllipse_d196 : decode J_HPen_drawEllipse.2.1 196 = .ok (.isub, 1) := by decide +kernel
theorem J_HPen_drawEllipse_d197 : decode J_HPen_drawEllipse.2.1 197 = .ok (.iload 6, 2) := by decide +kernel
theorem J_HPen_drawEllipse_d199 : decode J_HPen_drawEllipse.2.1 199 = .ok (.aload_n 0, 1) := by decide +kernel
theorem J_HPen_drawEllipse_d200 : decode J_HPen_drawEllipse.2.1 200 = .ok (.getfield 43, 3) := by decide +kernel
theorem J_HPen_drawEllipse_d203 : decode J_HPen_drawEllipse.2.1 203 = .ok (.iload_n 1, 1) := by decide +kernel
theorem J_HPen_drawEllipse_d204 : decode J_HPen_drawEllipse.2.1 204 = .ok (.iadd, 1) := by decide +kernel
theorem J_HPen_drawEllipse_d205 : decode J_HPen_drawEllipse.2.1 205 = .ok (.iconst 1, 1) := by decide +kernel
theorem J_HPen_drawEllipse_d206 : decode J_HPen_drawEllipse.2.1 206 = .ok (.isub, 1) := by decide +kernel
theorem J_HPen_drawEllipse_d207 : decode J_HPen_drawEllipse.2.1 207 = .ok (.iload 9, 2) := by decide +kernel
theorem J_HPen_drawEllipse_d209 : decode J_HPen_drawEllipse.2.1 209 = .ok (.isub, 1) := by decide +kernel
theorem J_HPen_drawEllipse_d210 : decode J_HPen_drawEllipse.2.1 210 = .ok (.iload 6, 2) := by decide +kernel
theorem J_HPen_drawEllipse_d212 : decode J_HPen_drawEllipse.2.1 212 = .ok (.invokevirtual 107, 3) := by decide +kernel
theorem J_HPen_drawEllipse_d215 : decode J_HPen_drawEllipse.2.1 215 = .ok (.iinc 5 1, 3) := by decide +kernel
theorem J_HPen_drawEllipse_d218 : decode J_HPen_drawEllipse.2.1 218 = .ok (.goto (-194), 3) := by decide +kernel
theorem J_HPen_drawEllipse_d221 : decode J_HPen_drawEllipse.2.1 221 = .ok (.return_, 1) := by decide +kernel
theorem f_HPen_drawEllipse_ok {L : Nat} {xs : Nat → Int32} {dep : Nat} {w : Bool} {p0 : Int32} {p1 : Int32} {p2 : Int32} {M : im_M} {Q : im_M → Prop} (hM : lw_S w M) (h : ed (f_HPen_drawEllipse w p0 p1 p2 M) Q) : ia (tb_G L xs) (dep + 2) J_HPen_drawEllipse (rwV w Q) (0, lv_args 0 [.ref 56, .int p0, .int p1, .int p2], [], M) := by
  have hS : im_St (tb_G L xs) (dep + 2) J_HPen_drawEllipse (ia (tb_G L xs) (dep + 2) J_HPen_drawEllipse (rwV w Q)) := ia_St
  unfold f_HPen_drawEllipse at h
  have l0 : im_lk (lv_args 0 [.ref 56, .int p0, .int p1, .int p2]) 0 = some (.ref 56) := rfl
  have l1 : im_lk (lv_args 0 [.ref 56, .int p0, .int p1, .int p2]) 1 = some (.int p0) := rfl
  have l2 : im_lk (lv_args 0 [.ref 56, .int p0, .int p1, .int p2]) 2 = some (.int p1) := rfl
  have l3 : im_lk (lv_args 0 [.ref 56, .int p0, .int p1, .int p2]) 3 = some (.int p2) := rfl
  refine iq_iload_n hS 1 J_HPen_drawEllipse_d0 l1 rfl ?_
  refine iq_iconst hS 2 J_HPen_drawEllipse_d1 (v := 2) (by decide +kernel) rfl ?_
  refine iq_iload_n hS 3 J_HPen_drawEllipse_d2 l3 rfl ?_
  refine iq_imul hS 4 J_HPen_drawEllipse_d3 rfl ?_
  have J1 : ∀ (z2 : Int32) (L' : List (Nat × Value)), z2 = ((if p0 ≤ ((2 : Int32) * p2) then 0 else (if p1 ≤ ((2 : Int32) * p2) then 0 else 1)) : Int32) → im_lk L' 0 = some (.ref 56) → im_lk L' 1 = some (.int p0) → im_lk L' 2 = some (.int p1) → im_lk L' 3 = some (.int p2) → ia (tb_G L xs) (dep + 2) J_HPen_drawEllipse (rwV w Q) (19, L', [.int z2], M) := by
    intro z2 L' e3 l4 l5 l6 l7
    subst e3
    refine iq_istore hS 21 J_HPen_drawEllipse_d19 (by decide) rfl ?_
    refine iq_iconst hS 22 J_HPen_drawEllipse_d21 (v := 0) (by decide +kernel) rfl ?_
    refine iq_istore hS 24 J_HPen_drawEllipse_d22 (by decide) rfl ?_
    obtain ⟨Q8, hQ8, h⟩ := bd1_ed h
    have K8 : ∀ (M9 : im_M) (L' : List (Nat × Value)), lw_S w M9 → Q8 M9 → ia (tb_G L xs) (dep + 2) J_HPen_drawEllipse (rwV w Q) (221, L', [], M9) := by
      intro M9 L' hM9  h
      replace h := hQ8 _ h
      exact iq_ret J_HPen_drawEllipse_d221 rfl ⟨rfl, hM9, ed_some h⟩
    obtain ⟨r8, hr8, hq8⟩ := h
    obtain ⟨n8, hn8⟩ := lp_n hr8
    have I8 : ∀ (n : Nat) (x10 : Int32) (M11 : im_M) (L' : List (Nat × Value)), lw_S w M11 → im_lk L' 0 = some (.ref 56) → im_lk L' 1 = some (.int p0) → im_lk L' 2 = some (.int p1) → im_lk L' 3 = some (.int p2) → im_lk L' 4 = some (.int ((if p0 ≤ ((2 : Int32) * p2) then 0 else (if p1 ≤ ((2 : Int32) * p2) then 0 else 1)) : Int32)) → im_lk L' 5 = some (.int x10) → lpn (uc2 (f_HPen_drawEllipse_L24 w p0 p1 p2 ((if p0 ≤ ((2 : Int32) * p2) then 0 else (if p1 ≤ ((2 : Int32) * p2) then 0 else 1)) : Int32))) n (x10, M11) = some r8 → ia (tb_G L xs) (dep + 2) J_HPen_drawEllipse (rwV w Q) (24, L', [], M11) := by
      intro n
      induction n with
      | zero => intro x10 M11 L' hM11 l12 l13 l14 l15 l16 l17 hn; exact (lpn_0 hn).elim
      | succ n ih =>
        intro x10 M11 L' hM11 l12 l13 l14 l15 l16 l17 hn
        have h := lpn_ed2 hn
        unfold f_HPen_drawEllipse_L24 at h
        refine iq_iload hS 26 J_HPen_drawEllipse_d24 l17 rfl ?_
        refine iq_iload_n hS 27 J_HPen_drawEllipse_d26 l14 rfl ?_
        refine iq_icmp_ge hS 30 J_HPen_drawEllipse_d27 (t := 221) rfl (fun q27 => ?_) rfl (fun q27 => ?_)
        · replace h := ed_pos q27 h
          exact K8 _ _ hM11  (lq_r h hq8)
        · replace h := ed_neg q27 h
          refine iq_aload_n hS 31 J_HPen_drawEllipse_d30 l12 rfl ?_
          refine iq_getI hS 34 J_HPen_drawEllipse_d31 lf_6_47 (Or.inl rfl) (ka_56 hM11) rfl ?_
          refine iq_iload hS 36 J_HPen_drawEllipse_d34 l17 rfl ?_
          refine iq_iadd hS 37 J_HPen_drawEllipse_d36 rfl ?_
          refine iq_istore hS 39 J_HPen_drawEllipse_d37 (by decide) rfl ?_
          refine iq_iload hS 41 J_HPen_drawEllipse_d39 lk_1s rfl ?_
          obtain ⟨Q18, hQ18, h⟩ := bd1_ed h
          have J18 : ∀ (M45 : im_M) (L' : List (Nat × Value)), lw_S w M45 → im_lk L' 0 = some (.ref 56) → im_lk L' 1 = some (.int p0) → im_lk L' 2 = some (.int p1) → im_lk L' 3 = some (.int p2) → im_lk L' 4 = some (.int ((if p0 ≤ ((2 : Int32) * p2) then 0 else (if p1 ≤ ((2 : Int32) * p2) then 0 else 1)) : Int32)) → im_lk L' 5 = some (.int x10) → Q18 M45 → ia (tb_G L xs) (dep + 2) J_HPen_drawEllipse (rwV w Q) (215, L', [], M45) := by
            intro M45 L' hM45 l46 l47 l48 l49 l50 l51 h
            replace h := hQ18 _ h
            refine iq_iincv hS 218 J_HPen_drawEllipse_d215 (c := 1) (by decide +kernel) l51 (by decide) rfl ?_
            refine iq_goto hS J_HPen_drawEllipse_d218 (t := 24) rfl ?_
            exact ih _ _ _ hM45 (lk_1r l46 (by decide)) (lk_1i l47 (by decide)) (lk_1i l48 (by decide)) (lk_1i l49 (by decide)) (lk_1i l50 (by decide)) lk_1s (lq_l h)
          refine iq_if_lt hS 44 J_HPen_drawEllipse_d41 (t := 215) rfl (fun q41 => ?_) rfl (fun q41 => ?_)
          · replace h := ed_pos q41 h
            exact J18 _ _ hM11 (lk_1r l12 (by decide)) (lk_1i l13 (by decide)) (lk_1i l14 (by decide)) (lk_1i l15 (by decide)) (lk_1i l16 (by decide)) (lk_1i l17 (by decide)) (ed_some h)
          · replace h := ed_neg q41 h
            refine iq_iload hS 46 J_HPen_drawEllipse_d44 lk_1s rfl ?_
            refine iq_aload_n hS 47 J_HPen_drawEllipse_d46 (lk_1r l12 (by decide)) rfl ?_
            refine iq_getR hS 50 J_HPen_drawEllipse_d47 lf_6_19 (Or.inl ⟨_, rfl⟩) (ka_56 hM11) (ra_56_0 hM11) rfl ?_
            refine iq_getI hS 53 J_HPen_drawEllipse_d50 lf_6_134 (Or.inl rfl) (ka_28 hM11) rfl ?_
            refine iq_icmp_ge hS 56 J_HPen_drawEllipse_d53 (t := 215) rfl (fun q53 => ?_) rfl (fun q53 => ?_)
            · replace h := ed_pos q53 h
              exact J18 _ _ hM11 (lk_1r l12 (by decide)) (lk_1i l13 (by decide)) (lk_1i l14 (by decide)) (lk_1i l15 (by decide)) (lk_1i l16 (by decide)) (lk_1i l17 (by decide)) (ed_some h)
            · replace h := ed_neg q53 h
              refine iq_ldc2_w hS 59 J_HPen_drawEllipse_d56 lk_6_137 rfl ?_
              refine iq_iload hS 61 J_HPen_drawEllipse_d59 (lk_1i l17 (by decide)) rfl ?_
              refine iq_i2l hS 62 J_HPen_drawEllipse_d61 rfl ?_
              refine iq_lmul hS 63 J_HPen_drawEllipse_d62 rfl ?_
              refine iq_iload_n hS 64 J_HPen_drawEllipse_d63 (lk_1i l14 (by decide)) rfl ?_
              refine iq_iconst hS 65 J_HPen_drawEllipse_d64 (v := 1) (by decide +kernel) rfl ?_
              refine iq_isub hS 66 J_HPen_drawEllipse_d65 rfl ?_
              refine iq_i2l hS 67 J_HPen_drawEllipse_d66 rfl ?_
              refine iq_lsub hS 68 J_HPen_drawEllipse_d67 rfl ?_
              refine iq_lstore hS 70 J_HPen_drawEllipse_d68 (by decide) rfl ?_
              refine iq_iload_n hS 71 J_HPen_drawEllipse_d70 (lk_2i (lk_1i l13 (by decide)) (by decide) (by decide)) rfl ?_
              refine iq_iload_n hS 72 J_HPen_drawEllipse_d71 (lk_2i (lk_1i l13 (by decide)) (by decide) (by decide)) rfl ?_
              refine iq_iload_n hS 73 J_HPen_drawEllipse_d72 (lk_2i (lk_1i l14 (by decide)) (by decide) (by decide)) rfl ?_
              refine iq_lload hS 75 J_HPen_drawEllipse_d73 lk_2s rfl ?_
              obtain ⟨Q19, hQ19, h⟩ := bd1_ed h
              refine iq_cpI hS 78 J_HPen_drawEllipse_d75 rfl (pr_stat (vs := [_, _, _, _]) lc_6_139 lT_182 rfl rfl (by decide) rfl (Nat.le_of_ble_eq_true rfl) (Nat.le_of_ble_eq_true rfl)) (f_HPen_indent_ok (dep := dep + 1) hM11 h) rfl ?_
              intro x19 h
              replace h := hQ19 _ h
              refine iq_istore hS 80 J_HPen_drawEllipse_d78 (by decide) rfl ?_
              refine iq_iload hS 82 J_HPen_drawEllipse_d80 (lk_1i (lk_2i (lk_1i l16 (by decide)) (by decide) (by decide)) (by decide)) rfl ?_
              obtain ⟨Q20, hQ20, h⟩ := bd1_ed h
              have J20 : ∀ (y22 : Int32) (L' : List (Nat × Value)), im_lk L' 0 = some (.ref 56) → im_lk L' 1 = some (.int p0) → im_lk L' 2 = some (.int p1) → im_lk L' 3 = some (.int p2) → im_lk L' 4 = some (.int ((if p0 ≤ ((2 : Int32) * p2) then 0 else (if p1 ≤ ((2 : Int32) * p2) then 0 else 1)) : Int32)) → im_lk L' 5 = some (.int x10) → im_lk L' 6 = some (.int ((im_i M11 56 6) + x10)) → im_lk L' 9 = some (.int x19) → Q20 y22 → ia (tb_G L xs) (dep + 2) J_HPen_drawEllipse (rwV w Q) (105, L', [.int y22], M11) := by
                intro y22 L' l23 l24 l25 l26 l27 l28 l29 l30 h
                replace h := hQ20 _ h
                refine iq_istore hS 107 J_HPen_drawEllipse_d105 (by decide) rfl ?_
                refine iq_iload hS 109 J_HPen_drawEllipse_d107 lk_1s rfl ?_
                refine iq_iconst hS 110 J_HPen_drawEllipse_d109 (v := (-1)) (by decide +kernel) rfl ?_
                obtain ⟨k31, Q31, hQ31, hk31, h⟩ := jn1_ed h
                have J31 : ∀ (M33 : im_M) (L' : List (Nat × Value)), lw_S w M33 → im_lk L' 0 = some (.ref 56) → im_lk L' 1 = some (.int p0) → im_lk L' 2 = some (.int p1) → im_lk L' 3 = some (.int p2) → im_lk L' 4 = some (.int ((if p0 ≤ ((2 : Int32) * p2) then 0 else (if p1 ≤ ((2 : Int32) * p2) then 0 else 1)) : Int32)) → im_lk L' 5 = some (.int x10) → im_lk L' 6 = some (.int ((im_i M11 56 6) + x10)) → im_lk L' 9 = some (.int x19) → im_lk L' 10 = some (.int y22) → Q31 M33 → ia (tb_G L xs) (dep + 2) J_HPen_drawEllipse (rwV w Q) (151, L', [], M33) := by
                  intro M33 L' hM33 l34 l35 l36 l37 l38 l39 l40 l41 l42 h
                  replace h := hQ31 _ h
                  refine iq_iload hS 153 J_HPen_drawEllipse_d151 l41 rfl ?_
                  refine iq_iconst hS 154 J_HPen_drawEllipse_d153 (v := (-1)) (by decide +kernel) rfl ?_
                  refine iq_icmp_eq hS 157 J_HPen_drawEllipse_d154 (t := 215) rfl (fun q154 => ?_) rfl (fun q154 => ?_)
                  · replace h := ed_pos q154 h
                    exact J18 _ _ hM33 l34 l35 l36 l37 l38 l39 (ed_some h)
                  · replace h := ed_neg q154 h
                    refine iq_aload_n hS 158 J_HPen_drawEllipse_d157 l34 rfl ?_
                    refine iq_getR hS 161 J_HPen_drawEllipse_d158 lf_6_19 (Or.inl ⟨_, rfl⟩) (ka_56 hM33) (ra_56_0 hM33) rfl ?_
                    refine iq_aload_n hS 162 J_HPen_drawEllipse_d161 l34 rfl ?_
                    refine iq_getI hS 165 J_HPen_drawEllipse_d162 lf_6_43 (Or.inl rfl) (ka_56 hM33) rfl ?_
                    refine iq_iload hS 167 J_HPen_drawEllipse_d165 l41 rfl ?_
                    refine iq_iadd hS 168 J_HPen_drawEllipse_d167 rfl ?_
                    refine iq_iload hS 170 J_HPen_drawEllipse_d168 l40 rfl ?_
                    refine iq_aload_n hS 171 J_HPen_drawEllipse_d170 l34 rfl ?_
                    refine iq_getI hS 174 J_HPen_drawEllipse_d171 lf_6_43 (Or.inl rfl) (ka_56 hM33) rfl ?_
                    refine iq_iload hS 176 J_HPen_drawEllipse_d174 l42 rfl ?_
                    refine iq_iadd hS 177 J_HPen_drawEllipse_d176 rfl ?_
                    refine iq_iconst hS 178 J_HPen_drawEllipse_d177 (v := 1) (by decide +kernel) rfl ?_
                    refine iq_isub hS 179 J_HPen_drawEllipse_d178 rfl ?_
                    refine iq_iload hS 181 J_HPen_drawEllipse_d179 l40 rfl ?_
                    obtain ⟨Q43, hQ43, h⟩ := bd1_ed h
                    refine iq_cwV hS 184 J_HPen_drawEllipse_d181 rfl (pr_inst (vs := [_, _, _, _]) lc_6_107 lT_113 rfl rfl (by decide) (by decide) rfl (Nat.le_of_ble_eq_true rfl) (Nat.le_of_ble_eq_true rfl) (fun _ => Or.inl (pr_b (ka_28 hM33) (by decide) rfl))) (f_HSheet_box_ok (dep := dep + 0) hM33 h) rfl ?_
                    intro M43 hM43 h
                    replace h := hQ43 _ h
                    refine iq_aload_n hS 185 J_HPen_drawEllipse_d184 l34 rfl ?_
                    refine iq_getR hS 188 J_HPen_drawEllipse_d185 lf_6_19 (Or.inl ⟨_, rfl⟩) (ka_56 hM43) (ra_56_0 hM43) rfl ?_
                    refine iq_aload_n hS 189 J_HPen_drawEllipse_d188 l34 rfl ?_
                    refine iq_getI hS 192 J_HPen_drawEllipse_d189 lf_6_43 (Or.inl rfl) (ka_56 hM43) rfl ?_
                    refine iq_iload_n hS 193 J_HPen_drawEllipse_d192 l35 rfl ?_
                    refine iq_iadd hS 194 J_HPen_drawEllipse_d193 rfl ?_
                    refine iq_iload hS 196 J_HPen_drawEllipse_d194 l42 rfl ?_
                    refine iq_isub hS 197 J_HPen_drawEllipse_d196 rfl ?_
                    refine iq_iload hS 199 J_HPen_drawEllipse_d197 l40 rfl ?_
                    refine iq_aload_n hS 200 J_HPen_drawEllipse_d199 l34 rfl ?_
                    refine iq_getI hS 203 J_HPen_drawEllipse_d200 lf_6_43 (Or.inl rfl) (ka_56 hM43) rfl ?_
                    refine iq_iload_n hS 204 J_HPen_drawEllipse_d203 l35 rfl ?_
                    refine iq_iadd hS 205 J_HPen_drawEllipse_d204 rfl ?_
                    refine iq_iconst hS 206 J_HPen_drawEllipse_d205 (v := 1) (by decide +kernel) rfl ?_
                    refine iq_isub hS 207 J_HPen_drawEllipse_d206 rfl ?_
                    refine iq_iload hS 209 J_HPen_drawEllipse_d207 l41 rfl ?_
                    refine iq_isub hS 210 J_HPen_drawEllipse_d209 rfl ?_
                    refine iq_iload hS 212 J_HPen_drawEllipse_d210 l40 rfl ?_
                    obtain ⟨Q44, hQ44, h⟩ := bd1_ed h
                    refine iq_cwV hS 215 J_HPen_drawEllipse_d212 rfl (pr_inst (vs := [_, _, _, _]) lc_6_107 lT_113 rfl rfl (by decide) (by decide) rfl (Nat.le_of_ble_eq_true rfl) (Nat.le_of_ble_eq_true rfl) (fun _ => Or.inl (pr_b (ka_28 hM43) (by decide) rfl))) (f_HSheet_box_ok (dep := dep + 0) hM43 h) rfl ?_
                    intro M44 hM44 h
                    replace h := hQ44 _ h
                    exact J18 _ _ hM44 l34 l35 l36 l37 l38 l39 (ed_some h)
                refine iq_icmp_ne hS 113 J_HPen_drawEllipse_d110 (t := 151) rfl (fun q110 => ?_) rfl (fun q110 => ?_)
                · replace h := ed_pos q110 h
                  exact J31 _ _ hM11 (lk_1r l23 (by decide)) (lk_1i l24 (by decide)) (lk_1i l25 (by decide)) (lk_1i l26 (by decide)) (lk_1i l27 (by decide)) (lk_1i l28 (by decide)) (lk_1i l29 (by decide)) (lk_1i l30 (by decide)) lk_1s (hk31 _ h)
                · replace h := ed_neg q110 h
                  refine iq_iload hS 115 J_HPen_drawEllipse_d113 (lk_1i l30 (by decide)) rfl ?_
                  refine iq_iconst hS 116 J_HPen_drawEllipse_d115 (v := (-1)) (by decide +kernel) rfl ?_
                  refine iq_icmp_eq hS 119 J_HPen_drawEllipse_d116 (t := 151) rfl (fun q116 => ?_) rfl (fun q116 => ?_)
                  · replace h := ed_pos q116 h
                    exact J31 _ _ hM11 (lk_1r l23 (by decide)) (lk_1i l24 (by decide)) (lk_1i l25 (by decide)) (lk_1i l26 (by decide)) (lk_1i l27 (by decide)) (lk_1i l28 (by decide)) (lk_1i l29 (by decide)) (lk_1i l30 (by decide)) lk_1s (hk31 _ h)
                  · replace h := ed_neg q116 h
                    refine iq_aload_n hS 120 J_HPen_drawEllipse_d119 (lk_1r l23 (by decide)) rfl ?_
                    refine iq_getR hS 123 J_HPen_drawEllipse_d120 lf_6_19 (Or.inl ⟨_, rfl⟩) (ka_56 hM11) (ra_56_0 hM11) rfl ?_
                    refine iq_aload_n hS 124 J_HPen_drawEllipse_d123 (lk_1r l23 (by decide)) rfl ?_
                    refine iq_getI hS 127 J_HPen_drawEllipse_d124 lf_6_43 (Or.inl rfl) (ka_56 hM11) rfl ?_
                    refine iq_iload hS 129 J_HPen_drawEllipse_d127 (lk_1i l30 (by decide)) rfl ?_
                    refine iq_iadd hS 130 J_HPen_drawEllipse_d129 rfl ?_
                    refine iq_iload hS 132 J_HPen_drawEllipse_d130 (lk_1i l29 (by decide)) rfl ?_
                    refine iq_aload_n hS 133 J_HPen_drawEllipse_d132 (lk_1r l23 (by decide)) rfl ?_
                    refine iq_getI hS 136 J_HPen_drawEllipse_d133 lf_6_43 (Or.inl rfl) (ka_56 hM11) rfl ?_
                    refine iq_iload_n hS 137 J_HPen_drawEllipse_d136 (lk_1i l24 (by decide)) rfl ?_
                    refine iq_iadd hS 138 J_HPen_drawEllipse_d137 rfl ?_
                    refine iq_iconst hS 139 J_HPen_drawEllipse_d138 (v := 1) (by decide +kernel) rfl ?_
                    refine iq_isub hS 140 J_HPen_drawEllipse_d139 rfl ?_
                    refine iq_iload hS 142 J_HPen_drawEllipse_d140 (lk_1i l30 (by decide)) rfl ?_
                    refine iq_isub hS 143 J_HPen_drawEllipse_d142 rfl ?_
                    refine iq_iload hS 145 J_HPen_drawEllipse_d143 (lk_1i l29 (by decide)) rfl ?_
                    obtain ⟨Q32, hQ32, h⟩ := bd1_ed h
                    refine iq_cwV hS 148 J_HPen_drawEllipse_d145 rfl (pr_inst (vs := [_, _, _, _]) lc_6_107 lT_113 rfl rfl (by decide) (by decide) rfl (Nat.le_of_ble_eq_true rfl) (Nat.le_of_ble_eq_true rfl) (fun _ => Or.inl (pr_b (ka_28 hM11) (by decide) rfl))) (f_HSheet_box_ok (dep := dep + 0) hM11 h) rfl ?_
                    intro M32 hM32 h
                    replace h := hQ32 _ h
                    refine iq_goto hS J_HPen_drawEllipse_d148 (t := 215) rfl ?_
                    exact J18 _ _ hM32 (lk_1r l23 (by decide)) (lk_1i l24 (by decide)) (lk_1i l25 (by decide)) (lk_1i l26 (by decide)) (lk_1i l27 (by decide)) (lk_1i l28 (by decide)) (ed_some h)
              refine iq_if_eq hS 85 J_HPen_drawEllipse_d82 (t := 104) rfl (fun q82 => ?_) rfl (fun q82 => ?_)
              · replace h := ed_pos q82 h
                refine iq_iconst hS 105 J_HPen_drawEllipse_d104 (v := (-1)) (by decide +kernel) rfl ?_
                exact J20 _ _ (lk_1r (lk_2r (lk_1r l12 (by decide)) (by decide) (by decide)) (by decide)) (lk_1i (lk_2i (lk_1i l13 (by decide)) (by decide) (by decide)) (by decide)) (lk_1i (lk_2i (lk_1i l14 (by decide)) (by decide) (by decide)) (by decide)) (lk_1i (lk_2i (lk_1i l15 (by decide)) (by decide) (by decide)) (by decide)) (lk_1i (lk_2i (lk_1i l16 (by decide)) (by decide) (by decide)) (by decide)) (lk_1i (lk_2i (lk_1i l17 (by decide)) (by decide) (by decide)) (by decide)) (lk_1i (lk_2i lk_1s (by decide) (by decide)) (by decide)) lk_1s (ed_some h)
              · replace h := ed_neg q82 h
                refine iq_iload_n hS 86 J_HPen_drawEllipse_d85 (lk_1i (lk_2i (lk_1i l13 (by decide)) (by decide) (by decide)) (by decide)) rfl ?_
                refine iq_iload_n hS 87 J_HPen_drawEllipse_d86 (lk_1i (lk_2i (lk_1i l13 (by decide)) (by decide) (by decide)) (by decide)) rfl ?_
                refine iq_iconst hS 88 J_HPen_drawEllipse_d87 (v := 2) (by decide +kernel) rfl ?_
                refine iq_iload_n hS 89 J_HPen_drawEllipse_d88 (lk_1i (lk_2i (lk_1i l15 (by decide)) (by decide) (by decide)) (by decide)) rfl ?_
                refine iq_imul hS 90 J_HPen_drawEllipse_d89 rfl ?_
                refine iq_isub hS 91 J_HPen_drawEllipse_d90 rfl ?_
                refine iq_iload_n hS 92 J_HPen_drawEllipse_d91 (lk_1i (lk_2i (lk_1i l14 (by decide)) (by decide) (by decide)) (by decide)) rfl ?_
                refine iq_iconst hS 93 J_HPen_drawEllipse_d92 (v := 2) (by decide +kernel) rfl ?_
                refine iq_iload_n hS 94 J_HPen_drawEllipse_d93 (lk_1i (lk_2i (lk_1i l15 (by decide)) (by decide) (by decide)) (by decide)) rfl ?_
                refine iq_imul hS 95 J_HPen_drawEllipse_d94 rfl ?_
                refine iq_isub hS 96 J_HPen_drawEllipse_d95 rfl ?_
                refine iq_lload hS 98 J_HPen_drawEllipse_d96 (lk_1l lk_2s (by decide) (by decide)) rfl ?_
                obtain ⟨Q21, hQ21, h⟩ := bd1_ed h
                refine iq_cpI hS 101 J_HPen_drawEllipse_d98 rfl (pr_stat (vs := [_, _, _, _]) lc_6_139 lT_182 rfl rfl (by decide) rfl (Nat.le_of_ble_eq_true rfl) (Nat.le_of_ble_eq_true rfl)) (f_HPen_indent_ok (dep := dep + 1) hM11 h) rfl ?_
                intro x21 h
                replace h := hQ21 _ h
                refine iq_goto hS J_HPen_drawEllipse_d101 (t := 105) rfl ?_
                exact J20 _ _ (lk_1r (lk_2r (lk_1r l12 (by decide)) (by decide) (by decide)) (by decide)) (lk_1i (lk_2i (lk_1i l13 (by decide)) (by decide) (by decide)) (by decide)) (lk_1i (lk_2i (lk_1i l14 (by decide)) (by decide) (by decide)) (by decide)) (lk_1i (lk_2i (lk_1i l15 (by decide)) (by decide) (by decide)) (by decide)) (lk_1i (lk_2i (lk_1i l16 (by decide)) (by decide) (by decide)) (by decide)) (lk_1i (lk_2i (lk_1i l17 (by decide)) (by decide) (by decide)) (by decide)) (lk_1i (lk_2i lk_1s (by decide) (by decide)) (by decide)) lk_1s (ed_some h)
    exact I8 n8 _ _ _ hM (lk_1r (lk_1r l4 (by decide)) (by decide)) (lk_1i (lk_1i l5 (by decide)) (by decide)) (lk_1i (lk_1i l6 (by decide)) (by decide)) (lk_1i (lk_1i l7 (by decide)) (by decide)) (lk_1i lk_1s (by decide)) lk_1s hn8
  refine iq_icmp_le hS 7 J_HPen_drawEllipse_d4 (t := 18) rfl (fun q4 => ?_) rfl (fun q4 => ?_)
  · refine iq_iconst hS 19 J_HPen_drawEllipse_d18 (v := 0) (by decide +kernel) rfl ?_
    exact J1 _ _ (by rw [if_pos q4]) l0 l1 l2 l3
  · refine iq_iload_n hS 8 J_HPen_drawEllipse_d7 l2 rfl ?_
    refine iq_iconst hS 9 J_HPen_drawEllipse_d8 (v := 2) (by decide +kernel) rfl ?_
    refine iq_iload_n hS 10 J_HPen_drawEllipse_d9 l3 rfl ?_
    refine iq_imul hS 11 J_HPen_drawEllipse_d10 rfl ?_
    refine iq_icmp_le hS 14 J_HPen_drawEllipse_d11 (t := 18) rfl (fun q11 => ?_) rfl (fun q11 => ?_)
    · refine iq_iconst hS 19 J_HPen_drawEllipse_d18 (v := 0) (by decide +kernel) rfl ?_
      exact J1 _ _ (by rw [if_neg q4, if_pos q11]) l0 l1 l2 l3
    · refine iq_iconst hS 15 J_HPen_drawEllipse_d14 (v := 1) (by decide +kernel) rfl ?_
      refine iq_goto hS J_HPen_drawEllipse_d15 (t := 19) rfl ?_
      exact J1 _ _ (by rw [if_neg q4, if_neg q11]) l0 l1 l2 l3
noncomputable def f_Math_floorDiv (p0 : Int32) (p1 : Int32) (M : im_M) : Option (Int32) := gd (¬ p1 = (0 : Int32)) <| if 0 ≤ (p0 ^^^ p1) then some (p0 / p1) else if ((p0 / p1) * p1) = p0 then some (p0 / p1) else some ((p0 / p1) - 1)
theorem J_Math_floorDiv_d0 : decode J_Math_floorDiv.2.1 0 = .ok (.iload_n 0, 1) := by decide +kernel
theorem J_Math_floorDiv_d1 : decode J_Math_floorDiv.2.1 1 = .ok (.iload_n 1, 1) := by decide +kernel
theorem J_Math_floorDiv_d2 : decode J_Math_floorDiv.2.1 2 = .ok (.idiv, 1) := by decide +kernel
theorem J_Math_floorDiv_d3 : decode J_Math_floorDiv.2.1 3 = .ok (.istore_n 2, 1) := by decide +kernel
theorem J_Math_floorDiv_d4 : decode J_Math_floorDiv.2.1 4 = .ok (.iload_n 0, 1) := by decide +kernel
theorem J_Math_floorDiv_d5 : decode J_Math_floorDiv.2.1 5 = .ok (.iload_n 1, 1) := by decide +kernel
theorem J_Math_floorDiv_d6 : decode J_Math_floorDiv.2.1 6 = .ok (.ixor, 1) := by decide +kernel
theorem J_Math_floorDiv_d7 : decode J_Math_floorDiv.2.1 7 = .ok (.ifCond .ge 14, 3) := by decide +kernel
theorem J_Math_floorDiv_d10 : decode J_Math_floorDiv.2.1 10 = .ok (.iload_n 2, 1) := by decide +kernel
theorem J_Math_floorDiv_d11 : decode J_Math_floorDiv.2.1 11 = .ok (.iload_n 1, 1) := by decide +kernel
theorem J_Math_floorDiv_d12 : decode J_Math_floorDiv.2.1 12 = .ok (.imul, 1) := by decide +kernel
theorem J_Math_floorDiv_d13 : decode J_Math_floorDiv.2.1 13 = .ok (.iload_n 0, 1) := by decide +kernel
theorem J_Math_floorDiv_d14 : decode J_Math_floorDiv.2.1 14 = .ok (.if_icmp .eq 7, 3) := by decide +kernel
theorem J_Math_floorDiv_d17 : decode J_Math_floorDiv.2.1 17 = .ok (.iload_n 2, 1) := by decide +kernel
theorem J_Math_floorDiv_d18 : decode J_Math_floorDiv.2.1 18 = .ok (.iconst 1, 1) := by decide +kernel
theorem J_Math_floorDiv_d19 : decode J_Math_floorDiv.2.1 19 = .ok (.isub, 1) := by decide +kernel
theorem J_Math_floorDiv_d20 : decode J_Math_floorDiv.2.1 20 = .ok (.ireturn, 1) := by decide +kernel
theorem J_Math_floorDiv_d21 : decode J_Math_floorDiv.2.1 21 = .ok (.iload_n 2, 1) := by decide +kernel
theorem J_Math_floorDiv_d22 : decode J_Math_floorDiv.2.1 22 = .ok (.ireturn, 1) := by decide +kernel
theorem f_Math_floorDiv_ok {L : Nat} {xs : Nat → Int32} {dep : Nat} {w : Bool} {p0 : Int32} {p1 : Int32} {M : im_M} {Q : Int32 → Prop} (hM : lw_S w M) (h : ed (f_Math_floorDiv p0 p1 M) Q) : ia (tb_G L xs) dep J_Math_floorDiv (rpI M Q) (0, lv_args 0 [.int p0, .int p1], [], M) := by
  have hS : im_St (tb_G L xs) dep J_Math_floorDiv (ia (tb_G L xs) dep J_Math_floorDiv (rpI M Q)) := ia_St
  unfold f_Math_floorDiv at h
  have l0 : im_lk (lv_args 0 [.int p0, .int p1]) 0 = some (.int p0) := rfl
  have l1 : im_lk (lv_args 0 [.int p0, .int p1]) 1 = some (.int p1) := rfl
  refine iq_iload_n hS 1 J_Math_floorDiv_d0 l0 rfl ?_
  refine iq_iload_n hS 2 J_Math_floorDiv_d1 l1 rfl ?_
  obtain ⟨g2, h⟩ := ed_gd h
  refine iq_idiv hS 3 J_Math_floorDiv_d2 g2 rfl ?_
  refine iq_istore_n hS 4 J_Math_floorDiv_d3 (by decide) rfl ?_
  refine iq_iload_n hS 5 J_Math_floorDiv_d4 (lk_1i l0 (by decide)) rfl ?_
  refine iq_iload_n hS 6 J_Math_floorDiv_d5 (lk_1i l1 (by decide)) rfl ?_
  refine iq_ixor hS 7 J_Math_floorDiv_d6 rfl ?_
  refine iq_if_ge hS 10 J_Math_floorDiv_d7 (t := 21) rfl (fun q7 => ?_) rfl (fun q7 => ?_)
  · replace h := ed_pos q7 h
    refine iq_iload_n hS 22 J_Math_floorDiv_d21 lk_1s rfl ?_
    exact iq_iret J_Math_floorDiv_d22 rfl rfl ⟨_, rfl, rfl, ed_some h⟩
  · replace h := ed_neg q7 h
    refine iq_iload_n hS 11 J_Math_floorDiv_d10 lk_1s rfl ?_
    refine iq_iload_n hS 12 J_Math_floorDiv_d11 (lk_1i l1 (by decide)) rfl ?_
    refine iq_imul hS 13 J_Math_floorDiv_d12 rfl ?_
    refine iq_iload_n hS 14 J_Math_floorDiv_d13 (lk_1i l0 (by decide)) rfl ?_
    refine iq_icmp_eq hS 17 J_Math_floorDiv_d14 (t := 21) rfl (fun q14 => ?_) rfl (fun q14 => ?_)
    · replace h := ed_pos q14 h
      refine iq_iload_n hS 22 J_Math_floorDiv_d21 lk_1s rfl ?_
      exact iq_iret J_Math_floorDiv_d22 rfl rfl ⟨_, rfl, rfl, ed_some h⟩
    · replace h := ed_neg q14 h
      refine iq_iload_n hS 18 J_Math_floorDiv_d17 lk_1s rfl ?_
      refine iq_iconst hS 19 J_Math_floorDiv_d18 (v := 1) (by decide +kernel) rfl ?_
      refine iq_isub hS 20 J_Math_floorDiv_d19 rfl ?_
      exact iq_iret J_Math_floorDiv_d20 rfl rfl ⟨_, rfl, rfl, ed_some h⟩
noncomputable def f_HPen_isNear (p0 : Int64) (p1 : Int64) (p2 : Int64) (p3 : Int64) (p4 : Int64) (M : im_M) : Option (Int32) := if 0 < (lg_cmp ((p0 * p2) + (p1 * p3)) 0) then if (lg_cmp ((p0 * p2) + (p1 * p3)) ((p2 * p2) + (p3 * p3))) < 0 then if 0 < (lg_cmp (((4 : Int64) * ((p0 * p3) - (p1 * p2))) * ((p0 * p3) - (p1 * p2))) ((p4 * p4) * ((p2 * p2) + (p3 * p3)))) then some 0 else some 1 else if 0 < (lg_cmp ((4 : Int64) * (((p0 - p2) * (p0 - p2)) + ((p1 - p3) * (p1 - p3)))) (p4 * p4)) then some 0 else some 1 else if 0 < (lg_cmp ((4 : Int64) * ((p0 * p0) + (p1 * p1))) (p4 * p4)) then some 0 else some 1
theorem J_HPen_isNear_d0 : decode J_HPen_isNear.2.1 0 = .ok (.lload_n 0, 1) := by decide +kernel
theorem J_HPen_isNear_d1 : decode J_HPen_isNear.2.1 1 = .ok (.lload 4, 2) := by decide +kernel
theorem J_HPen_isNear_d3 : decode J_HPen_isNear.2.1 3 = .ok (.lmul, 1) := by decide +kernel
theorem J_HPen_isNear_d4 : decode J_HPen_isNear.2.1 4 = .ok (.lload_n 2, 1) := by decide +kernel
theorem J_HPen_isNear_d5 : decode J_HPen_isNear.2.1 5 = .ok (.lload 6, 2) := by decide +kernel
theorem J_HPen_isNear_d7 : decode J_HPen_isNear.2.1 7 = .ok (.lmul, 1) := by decide +kernel
theorem J_HPen_isNear_d8 : decode J_HPen_isNear.2.1 8 = .ok (.ladd, 1) := by decide +kernel
theorem J_HPen_isNear_d9 : decode J_HPen_isNear.2.1 9 = .ok (.lstore 10, 2) := by decide +kernel
theorem J_HPen_isNear_d11 : decode J_HPen_isNear.2.1 11 = .ok (.lload 4, 2) := by decide +kernel
theorem J_HPen_isNear_d13 : decode J_HPen_isNear.2.1 13 = .ok (.lload 4, 2) := by decide +kernel
theorem J_HPen_isNear_d15 : decode J_HPen_isNear.2.1 15 = .ok (.lmul, 1) := by decide +kernel
theorem J_HPen_isNear_d16 : decode J_HPen_isNear.2.1 16 = .ok (.lload 6, 2) := by decide +kernel
theorem J_HPen_isNear_d18 : decode J_HPen_isNear.2.1 18 = .ok (.lload 6, 2) := by decide +kernel
theorem J_HPen_isNear_d20 : decode J_HPen_isNear.2.1 20 = .ok (.lmul, 1) := by decide +kernel
theorem J_HPen_isNear_d21 : decode J_HPen_isNear.2.1 21 = .ok (.ladd, 1) := by decide +kernel
theorem J_HPen_isNear_d22 : decode J_HPen_isNear.2.1 22 = .ok (.lstore 12, 2) := by decide +kernel
theorem J_HPen_isNear_d24 : decode J_HPen_isNear.2.1 24 = .ok (.lload 10, 2) := by decide +kernel
theorem J_HPen_isNear_d26 : decode J_HPen_isNear.2.1 26 = .ok (.lconst 0, 1) := by decide +kernel
theorem J_HPen_isNear_d27 : decode J_HPen_isNear.2.1 27 = .ok (.lcmp, 1) := by decide +kernel
theorem J_HPen_isNear_d28 : decode J_HPen_isNear.2.1 28 = .ok (.ifCond .gt 29, 3) := by decide +kernel
theorem J_HPen_isNear_d31 : decode J_HPen_isNear.2.1 31 = .ok (.ldc2_w 166, 3) := by decide +kernel
theorem J_HPen_isNear_d34 : decode J_HPen_isNear.2.1 34 = .ok (.lload_n 0, 1) := by decide +kernel
theorem J_HPen_isNear_d35 : decode J_HPen_isNear.2.1 35 = .ok (.lload_n 0, 1) := by decide +kernel
theorem J_HPen_isNear_d36 : decode J_HPen_isNear.2.1 36 = .ok (.lmul, 1) := by decide +kernel
theorem J_HPen_isNear_d37 : decode J_HPen_isNear.2.1 37 = .ok (.lload_n 2, 1) := by decide +kernel
theorem J_HPen_isNear_d38 : decode J_HPen_isNear.2.1 38 = .ok (.lload_n 2, 1) := by decide +kernel
theorem J_HPen_isNear_d39 : decode J_HPen_isNear.2.1 39 = .ok (.lmul, 1) := by decide +kernel
theorem J_HPen_isNear_d40 : decode J_HPen_isNear.2.1 40 = .ok (.ladd, 1) := by decide +kernel
theorem J_HPen_isNear_d41 : decode J_HPen_isNear.2.1 41 = .ok (.lmul, 1) := by decide +kernel
theorem J_HPen_isNear_d42 : decode J_HPen_isNear.2.1 42 = .ok (.lload 8, 2) := by decide +kernel
theorem J_HPen_isNear_d44 : decode J_HPen_isNear.2.1 44 = .ok (.lload 8, 2) := by decide +kernel
theorem J_HPen_isNear_d46 : decode J_HPen_isNear.2.1 46 = .ok (.lmul, 1) := by decide +kernel
theorem J_HPen_isNear_d47 : decode J_HPen_isNear.2.1 47 = .ok (.lcmp, 1) := by decide +kernel
theorem J_HPen_isNear_d48 : decode J_HPen_isNear.2.1 48 = .ok (.ifCond .gt 7, 3) := by decide +kernel
theorem J_HPen_isNear_d51 : decode J_HPen_isNear.2.1 51 = .ok (.iconst 1, 1) := by decide +kernel
theorem J_HPen_isNear_d52 : decode J_HPen_isNear.2.1 52 = .ok (.goto 4, 3) := by decide +kernel
theorem J_HPen_isNear_d55 : decode J_HPen_isNear.2.1 55 = .ok (.iconst 0, 1) := by decide +kernel
theorem J_HPen_isNear_d56 : decode J_HPen_isNear.2.1 56 = .ok (.ireturn, 1) := by decide +kernel
theorem J_HPen_isNear_d57 : decode J_HPen_isNear.2.1 57 = .ok (.lload 10, 2) := by decide +kernel
theorem J_HPen_isNear_d59 : decode J_HPen_isNear.2.1 59 = .ok (.lload 12, 2) := by decide +kernel
theorem J_HPen_isNear_d61 : decode J_HPen_isNear.2.1 61 = .ok (.lcmp, 1) := by decide +kernel
theorem J_HPen_isNear_d62 : decode J_HPen_isNear.2.1 62 = .ok (.ifCond .lt 41, 3) := by decide +kernel
theorem J_HPen_isNear_d65 : decode J_HPen_isNear.2.1 65 = .ok (.ldc2_w 166, 3) := by decide +kernel
theorem J_HPen_isNear_d68 : decode J_HPen_isNear.2.1 68 = .ok (.lload_n 0, 1) := by decide +kernel
theorem J_HPen_isNear_d69 : decode J_HPen_isNear.2.1 69 = .ok (.lload 4, 2) := by decide +kernel
theorem J_HPen_isNear_d71 : decode J_HPen_isNear.2.1 71 = .ok (.lsub, 1) := by decide +kernel
theorem J_HPen_isNear_d72 : decode J_HPen_isNear.2.1 72 = .ok (.lload_n 0, 1) := by decide +kernel
theorem J_HPen_isNear_d73 : decode J_HPen_isNear.2.1 73 = .ok (.lload 4, 2) := by decide +kernel
theorem J_HPen_isNear_d75 : decode J_HPen_isNear.2.1 75 = .ok (.lsub, 1) := by decide +kernel
theorem J_HPen_isNear_d76 : decode J_HPen_isNear.2.1 76 = .ok (.lmul, 1) := by decide +kernel
theorem J_HPen_isNear_d77 : decode J_HPen_isNear.2.1 77 = .ok (.lload_n 2, 1) := by decide +kernel
theorem J_HPen_isNear_d78 : decode J_HPen_isNear.2.1 78 = .ok (.lload 6, 2) := by decide +kernel
theorem J_HPen_isNear_d80 : decode J_HPen_isNear.2.1 80 = .ok (.lsub, 1) := by decide +kernel
theorem J_HPen_isNear_d81 : decode J_HPen_isNear.2.1 81 = .ok (.lload_n 2, 1) := by decide +kernel
theorem J_HPen_isNear_d82 : decode J_HPen_isNear.2.1 82 = .ok (.lload 6, 2) := by decide +kernel
theorem J_HPen_isNear_d84 : decode J_HPen_isNear.2.1 84 = .ok (.lsub, 1) := by decide +kernel
theorem J_HPen_isNear_d85 : decode J_HPen_isNear.2.1 85 = .ok (.lmul, 1) := by decide +kernel
theorem J_HPen_isNear_d86 : decode J_HPen_isNear.2.1 86 = .ok (.ladd, 1) := by decide +kernel
theorem J_HPen_isNear_d87 : decode J_HPen_isNear.2.1 87 = .ok (.lmul, 1) := by decide +kernel
theorem J_HPen_isNear_d88 : decode J_HPen_isNear.2.1 88 = .ok (.lload 8, 2) := by decide +kernel
theorem J_HPen_isNear_d90 : decode J_HPen_isNear.2.1 90 = .ok (.lload 8, 2) := by decide +kernel
theorem J_HPen_isNear_d92 : decode J_HPen_isNear.2.1 92 = .ok (.lmul, 1) := by decide +kernel
theorem J_HPen_isNear_d93 : decode J_HPen_isNear.2.1 93 = .ok (.lcmp, 1) := by decide +kernel
theorem J_HPen_isNear_d94 : decode J_HPen_isNear.2.1 94 = .ok (.ifCond .gt 7, 3) := by decide +kernel
theorem J_HPen_isNear_d97 : decode J_HPen_isNear.2.1 97 = .ok (.iconst 1, 1) := by decide +kernel
theorem J_HPen_isNear_d98 : decode J_HPen_isNear.2.1 98 = .ok (.goto 4, 3) := by decide +kernel
theorem J_HPen_isNear_d101 : decode J_HPen_isNear.2.1 101 = .ok (.iconst 0, 1) := by decide +kernel
theorem J_HPen_isNear_d102 : decode J_HPen_isNear.2.1 102 = .ok (.ireturn, 1) := by decide +kernel
theorem J_HPen_isNear_d103 : decode J_HPen_isNear.2.1 103 = .ok (.lload_n 0, 1) := by decide +kernel
theorem J_HPen_isNear_d104 : decode J_HPen_isNear.2.1 104 = .ok (.lload 6, 2) := by decide +kernel
theorem J_HPen_isNear_d106 : decode J_HPen_isNear.2.1 106 = .ok (.lmul, 1) := by decide +kernel
theorem J_HPen_isNear_d107 : decode J_HPen_isNear.2.1 107 = .ok (.lload_n 2, 1) := by decide +kernel
theorem J_HPen_isNear_d108 : decode J_HPen_isNear.2.1 108 = .ok (.lload 4, 2) := by decide +kernel
theorem J_HPen_isNear_d110 : decode J_HPen_isNear.2.1 110 = .ok (.lmul, 1) := by decide +kernel
theorem J_HPen_isNear_d111 : decode J_HPen_isNear.2.1 111 = .ok (.lsub, 1) := by decide +kernel
theorem J_HPen_isNear_d112 : decode J_HPen_isNear.2.1 112 = .ok (.lstore 14, 2) := by decide +kernel
theorem J_HPen_isNear_d114 : decode J_HPen_isNear.2.1 114 = .ok (.ldc2_w 166, 3) := by decide +kernel
theorem J_HPen_isNear_d117 : decode J_HPen_isNear.2.1 117 = .ok (.lload 14, 2) := by decide +kernel
theorem J_HPen_isNear_d119 : decode J_HPen_isNear.2.1 119 = .ok (.lmul, 1) := by decide +kernel
theorem J_HPen_isNear_d120 : decode J_HPen_isNear.2.1 120 = .ok (.lload 14, 2) := by decide +kernel
theorem J_HPen_isNear_d122 : decode J_HPen_isNear.2.1 122 = .ok (.lmul, 1) := by decide +kernel
theorem J_HPen_isNear_d123 : decode J_HPen_isNear.2.1 123 = .ok (.lload 8, 2) := by decide +kernel
theorem J_HPen_isNear_d125 : decode J_HPen_isNear.2.1 125 = .ok (.lload 8, 2) := by decide +kernel
theorem J_HPen_isNear_d127 : decode J_HPen_isNear.2.1 127 = .ok (.lmul, 1) := by decide +kernel
theorem J_HPen_isNear_d128 : decode J_HPen_isNear.2.1 128 = .ok (.lload 12, 2) := by decide +kernel
theorem J_HPen_isNear_d130 : decode J_HPen_isNear.2.1 130 = .ok (.lmul, 1) := by decide +kernel
theorem J_HPen_isNear_d131 : decode J_HPen_isNear.2.1 131 = .ok (.lcmp, 1) := by decide +kernel
theorem J_HPen_isNear_d132 : decode J_HPen_isNear.2.1 132 = .ok (.ifCond .gt 7, 3) := by decide +kernel
theorem J_HPen_isNear_d135 : decode J_HPen_isNear.2.1 135 = .ok (.iconst 1, 1) := by decide +kernel
theorem J_HPen_isNear_d136 : decode J_HPen_isNear.2.1 136 = .ok (.goto 4, 3) := by decide +kernel
theorem J_HPen_isNear_d139 : decode J_HPen_isNear.2.1 139 = .ok (.iconst 0, 1) := by decide +kernel
theorem J_HPen_isNear_d140 : decode J_HPen_isNear.2.1 140 = .ok (.ireturn, 1) := by decide +kernel
theorem f_HPen_isNear_ok {L : Nat} {xs : Nat → Int32} {dep : Nat} {w : Bool} {p0 : Int64} {p1 : Int64} {p2 : Int64} {p3 : Int64} {p4 : Int64} {M : im_M} {Q : Int32 → Prop} (hM : lw_S w M) (h : ed (f_HPen_isNear p0 p1 p2 p3 p4 M) Q) : ia (tb_G L xs) dep J_HPen_isNear (rpI M Q) (0, lv_args 0 [.long p0, .long p1, .long p2, .long p3, .long p4], [], M) := by
  have hS : im_St (tb_G L xs) dep J_HPen_isNear (ia (tb_G L xs) dep J_HPen_isNear (rpI M Q)) := ia_St
  unfold f_HPen_isNear at h
  have l0 : im_lk (lv_args 0 [.long p0, .long p1, .long p2, .long p3, .long p4]) 0 = some (.long p0) := rfl
  have l2 : im_lk (lv_args 0 [.long p0, .long p1, .long p2, .long p3, .long p4]) 2 = some (.long p1) := rfl
  have l4 : im_lk (lv_args 0 [.long p0, .long p1, .long p2, .long p3, .long p4]) 4 = some (.long p2) := rfl
  have l6 : im_lk (lv_args 0 [.long p0, .long p1, .long p2, .long p3, .long p4]) 6 = some (.long p3) := rfl
  have l8 : im_lk (lv_args 0 [.long p0, .long p1, .long p2, .long p3, .long p4]) 8 = some (.long p4) := rfl
  refine iq_lload_n hS 1 J_HPen_isNear_d0 l0 rfl ?_
  refine iq_lload hS 3 J_HPen_isNear_d1 l4 rfl ?_
  refine iq_lmul hS 4 J_HPen_isNear_d3 rfl ?_
  refine iq_lload_n hS 5 J_HPen_isNear_d4 l2 rfl ?_
  refine iq_lload hS 7 J_HPen_isNear_d5 l6 rfl ?_
  refine iq_lmul hS 8 J_HPen_isNear_d7 rfl ?_
  refine iq_ladd hS 9 J_HPen_isNear_d8 rfl ?_
  refine iq_lstore hS 11 J_HPen_isNear_d9 (by decide) rfl ?_
  refine iq_lload hS 13 J_HPen_isNear_d11 (lk_2l l4 (by decide) (by decide) (by decide)) rfl ?_
  refine iq_lload hS 15 J_HPen_isNear_d13 (lk_2l l4 (by decide) (by decide) (by decide)) rfl ?_
  refine iq_lmul hS 16 J_HPen_isNear_d15 rfl ?_
  refine iq_lload hS 18 J_HPen_isNear_d16 (lk_2l l6 (by decide) (by decide) (by decide)) rfl ?_
  refine iq_lload hS 20 J_HPen_isNear_d18 (lk_2l l6 (by decide) (by decide) (by decide)) rfl ?_
  refine iq_lmul hS 21 J_HPen_isNear_d20 rfl ?_
  refine iq_ladd hS 22 J_HPen_isNear_d21 rfl ?_
  refine iq_lstore hS 24 J_HPen_isNear_d22 (by decide) rfl ?_
  refine iq_lload hS 26 J_HPen_isNear_d24 (lk_2l lk_2s (by decide) (by decide) (by decide)) rfl ?_
  refine iq_lconst hS 27 J_HPen_isNear_d26 (v := 0) (by decide +kernel) rfl ?_
  refine iq_lcmp hS 28 J_HPen_isNear_d27 rfl ?_
  refine iq_if_gt hS 31 J_HPen_isNear_d28 (t := 57) rfl (fun q28 => ?_) rfl (fun q28 => ?_)
  · replace h := ed_pos q28 h
    refine iq_lload hS 59 J_HPen_isNear_d57 (lk_2l lk_2s (by decide) (by decide) (by decide)) rfl ?_
    refine iq_lload hS 61 J_HPen_isNear_d59 lk_2s rfl ?_
    refine iq_lcmp hS 62 J_HPen_isNear_d61 rfl ?_
    refine iq_if_lt hS 65 J_HPen_isNear_d62 (t := 103) rfl (fun q62 => ?_) rfl (fun q62 => ?_)
    · replace h := ed_pos q62 h
      refine iq_lload_n hS 104 J_HPen_isNear_d103 (lk_2l (lk_2l l0 (by decide) (by decide) (by decide)) (by decide) (by decide) (by decide)) rfl ?_
      refine iq_lload hS 106 J_HPen_isNear_d104 (lk_2l (lk_2l l6 (by decide) (by decide) (by decide)) (by decide) (by decide) (by decide)) rfl ?_
      refine iq_lmul hS 107 J_HPen_isNear_d106 rfl ?_
      refine iq_lload_n hS 108 J_HPen_isNear_d107 (lk_2l (lk_2l l2 (by decide) (by decide) (by decide)) (by decide) (by decide) (by decide)) rfl ?_
      refine iq_lload hS 110 J_HPen_isNear_d108 (lk_2l (lk_2l l4 (by decide) (by decide) (by decide)) (by decide) (by decide) (by decide)) rfl ?_
      refine iq_lmul hS 111 J_HPen_isNear_d110 rfl ?_
      refine iq_lsub hS 112 J_HPen_isNear_d111 rfl ?_
      refine iq_lstore hS 114 J_HPen_isNear_d112 (by decide) rfl ?_
      refine iq_ldc2_w hS 117 J_HPen_isNear_d114 lk_6_166 rfl ?_
      refine iq_lload hS 119 J_HPen_isNear_d117 lk_2s rfl ?_
      refine iq_lmul hS 120 J_HPen_isNear_d119 rfl ?_
      refine iq_lload hS 122 J_HPen_isNear_d120 lk_2s rfl ?_
      refine iq_lmul hS 123 J_HPen_isNear_d122 rfl ?_
      refine iq_lload hS 125 J_HPen_isNear_d123 (lk_2l (lk_2l (lk_2l l8 (by decide) (by decide) (by decide)) (by decide) (by decide) (by decide)) (by decide) (by decide) (by decide)) rfl ?_
      refine iq_lload hS 127 J_HPen_isNear_d125 (lk_2l (lk_2l (lk_2l l8 (by decide) (by decide) (by decide)) (by decide) (by decide) (by decide)) (by decide) (by decide) (by decide)) rfl ?_
      refine iq_lmul hS 128 J_HPen_isNear_d127 rfl ?_
      refine iq_lload hS 130 J_HPen_isNear_d128 (lk_2l lk_2s (by decide) (by decide) (by decide)) rfl ?_
      refine iq_lmul hS 131 J_HPen_isNear_d130 rfl ?_
      refine iq_lcmp hS 132 J_HPen_isNear_d131 rfl ?_
      refine iq_if_gt hS 135 J_HPen_isNear_d132 (t := 139) rfl (fun q132 => ?_) rfl (fun q132 => ?_)
      · replace h := ed_pos q132 h
        refine iq_iconst hS 140 J_HPen_isNear_d139 (v := 0) (by decide +kernel) rfl ?_
        exact iq_iret J_HPen_isNear_d140 rfl rfl ⟨_, rfl, rfl, ed_some h⟩
      · replace h := ed_neg q132 h
        refine iq_iconst hS 136 J_HPen_isNear_d135 (v := 1) (by decide +kernel) rfl ?_
        refine iq_goto hS J_HPen_isNear_d136 (t := 140) rfl ?_
        exact iq_iret J_HPen_isNear_d140 rfl rfl ⟨_, rfl, rfl, ed_some h⟩
    · replace h := ed_neg q62 h
      refine iq_ldc2_w hS 68 J_HPen_isNear_d65 lk_6_166 rfl ?_
      refine iq_lload_n hS 69 J_HPen_isNear_d68 (lk_2l (lk_2l l0 (by decide) (by decide) (by decide)) (by decide) (by decide) (by decide)) rfl ?_
      refine iq_lload hS 71 J_HPen_isNear_d69 (lk_2l (lk_2l l4 (by decide) (by decide) (by decide)) (by decide) (by decide) (by decide)) rfl ?_
      refine iq_lsub hS 72 J_HPen_isNear_d71 rfl ?_
      refine iq_lload_n hS 73 J_HPen_isNear_d72 (lk_2l (lk_2l l0 (by decide) (by decide) (by decide)) (by decide) (by decide) (by decide)) rfl ?_
      refine iq_lload hS 75 J_HPen_isNear_d73 (lk_2l (lk_2l l4 (by decide) (by decide) (by decide)) (by decide) (by decide) (by decide)) rfl ?_
      refine iq_lsub hS 76 J_HPen_isNear_d75 rfl ?_
      refine iq_lmul hS 77 J_HPen_isNear_d76 rfl ?_
      refine iq_lload_n hS 78 J_HPen_isNear_d77 (lk_2l (lk_2l l2 (by decide) (by decide) (by decide)) (by decide) (by decide) (by decide)) rfl ?_
      refine iq_lload hS 80 J_HPen_isNear_d78 (lk_2l (lk_2l l6 (by decide) (by decide) (by decide)) (by decide) (by decide) (by decide)) rfl ?_
      refine iq_lsub hS 81 J_HPen_isNear_d80 rfl ?_
      refine iq_lload_n hS 82 J_HPen_isNear_d81 (lk_2l (lk_2l l2 (by decide) (by decide) (by decide)) (by decide) (by decide) (by decide)) rfl ?_
      refine iq_lload hS 84 J_HPen_isNear_d82 (lk_2l (lk_2l l6 (by decide) (by decide) (by decide)) (by decide) (by decide) (by decide)) rfl ?_
      refine iq_lsub hS 85 J_HPen_isNear_d84 rfl ?_
      refine iq_lmul hS 86 J_HPen_isNear_d85 rfl ?_
      refine iq_ladd hS 87 J_HPen_isNear_d86 rfl ?_
      refine iq_lmul hS 88 J_HPen_isNear_d87 rfl ?_
      refine iq_lload hS 90 J_HPen_isNear_d88 (lk_2l (lk_2l l8 (by decide) (by decide) (by decide)) (by decide) (by decide) (by decide)) rfl ?_
      refine iq_lload hS 92 J_HPen_isNear_d90 (lk_2l (lk_2l l8 (by decide) (by decide) (by decide)) (by decide) (by decide) (by decide)) rfl ?_
      refine iq_lmul hS 93 J_HPen_isNear_d92 rfl ?_
      refine iq_lcmp hS 94 J_HPen_isNear_d93 rfl ?_
      refine iq_if_gt hS 97 J_HPen_isNear_d94 (t := 101) rfl (fun q94 => ?_) rfl (fun q94 => ?_)
      · replace h := ed_pos q94 h
        refine iq_iconst hS 102 J_HPen_isNear_d101 (v := 0) (by decide +kernel) rfl ?_
        exact iq_iret J_HPen_isNear_d102 rfl rfl ⟨_, rfl, rfl, ed_some h⟩
      · replace h := ed_neg q94 h
        refine iq_iconst hS 98 J_HPen_isNear_d97 (v := 1) (by decide +kernel) rfl ?_
        refine iq_goto hS J_HPen_isNear_d98 (t := 102) rfl ?_
        exact iq_iret J_HPen_isNear_d102 rfl rfl ⟨_, rfl, rfl, ed_some h⟩
  · replace h := ed_neg q28 h
    refine iq_ldc2_w hS 34 J_HPen_isNear_d31 lk_6_166 rfl ?_
    refine iq_lload_n hS 35 J_HPen_isNear_d34 (lk_2l (lk_2l l0 (by decide) (by decide) (by decide)) (by decide) (by decide) (by decide)) rfl ?_
    refine iq_lload_n hS 36 J_HPen_isNear_d35 (lk_2l (lk_2l l0 (by decide) (by decide) (by decide)) (by decide) (by decide) (by decide)) rfl ?_
    refine iq_lmul hS 37 J_HPen_isNear_d36 rfl ?_
    refine iq_lload_n hS 38 J_HPen_isNear_d37 (lk_2l (lk_2l l2 (by decide) (by decide) (by decide)) (by decide) (by decide) (by decide)) rfl ?_
    refine iq_lload_n hS 39 J_HPen_isNear_d38 (lk_2l (lk_2l l2 (by decide) (by decide) (by decide)) (by decide) (by decide) (by decide)) rfl ?_
    refine iq_lmul hS 40 J_HPen_isNear_d39 rfl ?_
    refine iq_ladd hS 41 J_HPen_isNear_d40 rfl ?_
    refine iq_lmul hS 42 J_HPen_isNear_d41 rfl ?_
    refine iq_lload hS 44 J_HPen_isNear_d42 (lk_2l (lk_2l l8 (by decide) (by decide) (by decide)) (by decide) (by decide) (by decide)) rfl ?_
    refine iq_lload hS 46 J_HPen_isNear_d44 (lk_2l (lk_2l l8 (by decide) (by decide) (by decide)) (by decide) (by decide) (by decide)) rfl ?_
    refine iq_lmul hS 47 J_HPen_isNear_d46 rfl ?_
    refine iq_lcmp hS 48 J_HPen_isNear_d47 rfl ?_
    refine iq_if_gt hS 51 J_HPen_isNear_d48 (t := 55) rfl (fun q48 => ?_) rfl (fun q48 => ?_)
    · replace h := ed_pos q48 h
      refine iq_iconst hS 56 J_HPen_isNear_d55 (v := 0) (by decide +kernel) rfl ?_
      exact iq_iret J_HPen_isNear_d56 rfl rfl ⟨_, rfl, rfl, ed_some h⟩
    · replace h := ed_neg q48 h
      refine iq_iconst hS 52 J_HPen_isNear_d51 (v := 1) (by decide +kernel) rfl ?_
      refine iq_goto hS J_HPen_isNear_d52 (t := 56) rfl ?_
      exact iq_iret J_HPen_isNear_d56 rfl rfl ⟨_, rfl, rfl, ed_some h⟩
noncomputable def f_HPen_lastNear_L9 (v2 : Int32) (v3 : Int32) (v4 : Int32) (v5 : Int32) (M9 : im_M) (x6 : Int32) (x7 : Int32) (x8 : Int32) : Option ((Int32 × Int32 × Int32) ⊕ (Int32)) := if 16 ≤ x8 then some (.inr x6) else bd1 (f_Math_abs (x7 - x6) M9) fun (x10 : Int32) => if x10 ≤ 1 then some (.inr x6) else bd1 (f_HPen_isNear (Int32.toInt64 ((x6 + x7) / 2)) (Int32.toInt64 v2) (Int32.toInt64 v3) (Int32.toInt64 v4) (Int32.toInt64 v5) M9) fun (x11 : Int32) => some (.inl (((if x11 = 0 then x6 else ((x6 + x7) / 2)) : Int32), ((if x11 = 0 then ((x6 + x7) / 2) else x7) : Int32), (x8 + 1)))
noncomputable def f_HPen_lastNear (p0 : Int32) (p1 : Int32) (p2 : Int32) (p3 : Int32) (p4 : Int32) (p5 : Int32) (M : im_M) : Option (Int32) := bd1 (lp (uc3 (f_HPen_lastNear_L9 p2 p3 p4 p5 M)) (p0, p1, 0)) fun (y13 : Int32) => some y13
theorem J_HPen_lastNear_d0 : decode J_HPen_lastNear.2.1 0 = .ok (.iload_n 0, 1) := by decide +kernel
theorem J_HPen_lastNear_d1 : decode J_HPen_lastNear.2.1 1 = .ok (.istore 6, 2) := by decide +kernel
theorem J_HPen_lastNear_d3 : decode J_HPen_lastNear.2.1 3 = .ok (.iload_n 1, 1) := by decide +kernel
theorem J_HPen_lastNear_d4 : decode J_HPen_lastNear.2.1 4 = .ok (.istore 7, 2) := by decide +kernel
theorem J_HPen_lastNear_d6 : decode J_HPen_lastNear.2.1 6 = .ok (.iconst 0, 1) := by decide +kernel
theorem J_HPen_lastNear_d7 : decode J_HPen_lastNear.2.1 7 = .ok (.istore 8, 2) := by decide +kernel
theorem J_HPen_lastNear_d9 : decode J_HPen_lastNear.2.1 9 = .ok (.iload 8, 2) := by decide +kernel
theorem J_HPen_lastNear_d11 : decode J_HPen_lastNear.2.1 11 = .ok (.bipush 16, 2) := by decide +kernel
theorem J_HPen_lastNear_d13 : decode J_HPen_lastNear.2.1 13 = .ok (.if_icmp .ge 60, 3) := by decide +kernel
theorem J_HPen_lastNear_d16 : decode J_HPen_lastNear.2.1 16 = .ok (.iload 7, 2) := by decide +kernel
theorem J_HPen_lastNear_d18 : decode J_HPen_lastNear.2.1 18 = .ok (.iload 6, 2) := by decide +kernel
theorem J_HPen_lastNear_d20 : decode J_HPen_lastNear.2.1 20 = .ok (.isub, 1) := by decide +kernel
theorem J_HPen_lastNear_d21 : decode J_HPen_lastNear.2.1 21 = .ok (.invokestatic 162, 3) := by decide +kernel
theorem J_HPen_lastNear_d24 : decode J_HPen_lastNear.2.1 24 = .ok (.iconst 1, 1) := by decide +kernel
theorem J_HPen_lastNear_d25 : decode J_HPen_lastNear.2.1 25 = .ok (.if_icmp .le 48, 3) := by decide +kernel
theorem J_HPen_lastNear_d28 : decode J_HPen_lastNear.2.1 28 = .ok (.iload 6, 2) := by decide +kernel
theorem J_HPen_lastNear_d30 : decode J_HPen_lastNear.2.1 30 = .ok (.iload 7, 2) := by decide +kernel
theorem J_HPen_lastNear_d32 : decode J_HPen_lastNear.2.1 32 = .ok (.iadd, 1) := by decide +kernel
theorem J_HPen_lastNear_d33 : decode J_HPen_lastNear.2.1 33 = .ok (.iconst 2, 1) := by decide +kernel
theorem J_HPen_lastNear_d34 : decode J_HPen_lastNear.2.1 34 = .ok (.idiv, 1) := by decide +kernel
theorem J_HPen_lastNear_d35 : decode J_HPen_lastNear.2.1 35 = .ok (.istore 9, 2) := by decide +kernel
theorem J_HPen_lastNear_d37 : decode J_HPen_lastNear.2.1 37 = .ok (.iload 9, 2) := by decide +kernel
theorem J_HPen_lastNear_d39 : decode J_HPen_lastNear.2.1 39 = .ok (.i2l, 1) := by decide +kernel
theorem J_HPen_lastNear_d40 : decode J_HPen_lastNear.2.1 40 = .ok (.iload_n 2, 1) := by decide +kernel
theorem J_HPen_lastNear_d41 : decode J_HPen_lastNear.2.1 41 = .ok (.i2l, 1) := by decide +kernel
theorem J_HPen_lastNear_d42 : decode J_HPen_lastNear.2.1 42 = .ok (.iload_n 3, 1) := by decide +kernel
theorem J_HPen_lastNear_d43 : decode J_HPen_lastNear.2.1 43 = .ok (.i2l, 1) := by decide +kernel
theorem J_HPen_lastNear_d44 : decode J_HPen_lastNear.2.1 44 = .ok (.iload 4, 2) := by decide +kernel
theorem J_HPen_lastNear_d46 : decode J_HPen_lastNear.2.1 46 = .ok (.i2l, 1) := by decide +kernel
theorem J_HPen_lastNear_d47 : decode J_HPen_lastNear.2.1 47 = .ok (.iload 5, 2) := by decide +kernel
theorem J_HPen_lastNear_d49 : decode J_HPen_lastNear.2.1 49 = .ok (.i2l, 1) := by decide +kernel
theorem J_HPen_lastNear_d50 : decode J_HPen_lastNear.2.1 50 = .ok (.invokestatic 154, 3) := by decide +kernel
theorem J_HPen_lastNear_d53 : decode J_HPen_lastNear.2.1 53 = .ok (.ifCond .eq 10, 3) := by decide +kernel
theorem J_HPen_lastNear_d56 : decode J_HPen_lastNear.2.1 56 = .ok (.iload 9, 2) := by decide +kernel
theorem J_HPen_lastNear_d58 : decode J_HPen_lastNear.2.1 58 = .ok (.istore 6, 2) := by decide +kernel
theorem J_HPen_lastNear_d60 : decode J_HPen_lastNear.2.1 60 = .ok (.goto 7, 3) := by decide +kernel
theorem J_HPen_lastNear_d63 : decode J_HPen_lastNear.2.1 63 = .ok (.iload 9, 2) := by decide +kernel
theorem J_HPen_lastNear_d65 : decode J_HPen_lastNear.2.1 65 = .ok (.istore 7, 2) := by decide +kernel
theorem J_HPen_lastNear_d67 : decode J_HPen_lastNear.2.1 67 = .ok (.iinc 8 1, 3) := by decide +kernel
theorem J_HPen_lastNear_d70 : decode J_HPen_lastNear.2.1 70 = .ok (.goto (-61), 3) := by decide +kernel
theorem J_HPen_lastNear_d73 : decode J_HPen_lastNear.2.1 73 = .ok (.iload 6, 2) := by decide +kernel
theorem J_HPen_lastNear_d75 : decode J_HPen_lastNear.2.1 75 = .ok (.ireturn, 1) := by decide +kernel
theorem f_HPen_lastNear_ok {L : Nat} {xs : Nat → Int32} {dep : Nat} {w : Bool} {p0 : Int32} {p1 : Int32} {p2 : Int32} {p3 : Int32} {p4 : Int32} {p5 : Int32} {M : im_M} {Q : Int32 → Prop} (hM : lw_S w M) (h : ed (f_HPen_lastNear p0 p1 p2 p3 p4 p5 M) Q) : ia (tb_G L xs) (dep + 1) J_HPen_lastNear (rpI M Q) (0, lv_args 0 [.int p0, .int p1, .int p2, .int p3, .int p4, .int p5], [], M) := by
  have hS : im_St (tb_G L xs) (dep + 1) J_HPen_lastNear (ia (tb_G L xs) (dep + 1) J_HPen_lastNear (rpI M Q)) := ia_St
  unfold f_HPen_lastNear at h
  have l0 : im_lk (lv_args 0 [.int p0, .int p1, .int p2, .int p3, .int p4, .int p5]) 0 = some (.int p0) := rfl
  have l1 : im_lk (lv_args 0 [.int p0, .int p1, .int p2, .int p3, .int p4, .int p5]) 1 = some (.int p1) := rfl
  have l2 : im_lk (lv_args 0 [.int p0, .int p1, .int p2, .int p3, .int p4, .int p5]) 2 = some (.int p2) := rfl
  have l3 : im_lk (lv_args 0 [.int p0, .int p1, .int p2, .int p3, .int p4, .int p5]) 3 = some (.int p3) := rfl
  have l4 : im_lk (lv_args 0 [.int p0, .int p1, .int p2, .int p3, .int p4, .int p5]) 4 = some (.int p4) := rfl
  have l5 : im_lk (lv_args 0 [.int p0, .int p1, .int p2, .int p3, .int p4, .int p5]) 5 = some (.int p5) := rfl
  refine iq_iload_n hS 1 J_HPen_lastNear_d0 l0 rfl ?_
  refine iq_istore hS 3 J_HPen_lastNear_d1 (by decide) rfl ?_
  refine iq_iload_n hS 4 J_HPen_lastNear_d3 (lk_1i l1 (by decide)) rfl ?_
  refine iq_istore hS 6 J_HPen_lastNear_d4 (by decide) rfl ?_
  refine iq_iconst hS 7 J_HPen_lastNear_d6 (v := 0) (by decide +kernel) rfl ?_
  refine iq_istore hS 9 J_HPen_lastNear_d7 (by decide) rfl ?_
  obtain ⟨Q1, hQ1, h⟩ := bd1_ed h
  have K1 : ∀ (y2 : Int32) (L' : List (Nat × Value)), im_lk L' 6 = some (.int y2) → Q1 y2 → ia (tb_G L xs) (dep + 1) J_HPen_lastNear (rpI M Q) (73, L', [], M) := by
    intro y2 L' l3 h
    replace h := hQ1 _ h
    refine iq_iload hS 75 J_HPen_lastNear_d73 l3 rfl ?_
    exact iq_iret J_HPen_lastNear_d75 rfl rfl ⟨_, rfl, rfl, ed_some h⟩
  obtain ⟨r1, hr1, hq1⟩ := h
  obtain ⟨n1, hn1⟩ := lp_n hr1
  have I1 : ∀ (n : Nat) (x4 : Int32) (x5 : Int32) (x6 : Int32) (L' : List (Nat × Value)), im_lk L' 2 = some (.int p2) → im_lk L' 3 = some (.int p3) → im_lk L' 4 = some (.int p4) → im_lk L' 5 = some (.int p5) → im_lk L' 6 = some (.int x4) → im_lk L' 7 = some (.int x5) → im_lk L' 8 = some (.int x6) → lpn (uc3 (f_HPen_lastNear_L9 p2 p3 p4 p5 M)) n (x4, x5, x6) = some r1 → ia (tb_G L xs) (dep + 1) J_HPen_lastNear (rpI M Q) (9, L', [], M) := by
    intro n
    induction n with
    | zero => intro x4 x5 x6 L' l7 l8 l9 l10 l11 l12 l13 hn; exact (lpn_0 hn).elim
    | succ n ih =>
      intro x4 x5 x6 L' l7 l8 l9 l10 l11 l12 l13 hn
      have h := lpn_ed3 hn
      unfold f_HPen_lastNear_L9 at h
      refine iq_iload hS 11 J_HPen_lastNear_d9 l13 rfl ?_
      refine iq_bipush hS 13 J_HPen_lastNear_d11 (v := 16) (by decide +kernel) rfl ?_
      refine iq_icmp_ge hS 16 J_HPen_lastNear_d13 (t := 73) rfl (fun q13 => ?_) rfl (fun q13 => ?_)
      · replace h := ed_pos q13 h
        exact K1 _ _ l11 (lq_r h hq1)
      · replace h := ed_neg q13 h
        refine iq_iload hS 18 J_HPen_lastNear_d16 l12 rfl ?_
        refine iq_iload hS 20 J_HPen_lastNear_d18 l11 rfl ?_
        refine iq_isub hS 21 J_HPen_lastNear_d20 rfl ?_
        obtain ⟨Q14, hQ14, h⟩ := bd1_ed h
        refine iq_cpI hS 24 J_HPen_lastNear_d21 rfl (pr_stat (vs := [_]) lc_6_162 lT_158 rfl rfl (by decide) rfl (Nat.le_of_ble_eq_true rfl) (Nat.le_of_ble_eq_true rfl)) (f_Math_abs_ok (dep := dep + 0) hM h) rfl ?_
        intro x14 h
        replace h := hQ14 _ h
        refine iq_iconst hS 25 J_HPen_lastNear_d24 (v := 1) (by decide +kernel) rfl ?_
        refine iq_icmp_le hS 28 J_HPen_lastNear_d25 (t := 73) rfl (fun q25 => ?_) rfl (fun q25 => ?_)
        · replace h := ed_pos q25 h
          exact K1 _ _ l11 (lq_r h hq1)
        · replace h := ed_neg q25 h
          refine iq_iload hS 30 J_HPen_lastNear_d28 l11 rfl ?_
          refine iq_iload hS 32 J_HPen_lastNear_d30 l12 rfl ?_
          refine iq_iadd hS 33 J_HPen_lastNear_d32 rfl ?_
          refine iq_iconst hS 34 J_HPen_lastNear_d33 (v := 2) (by decide +kernel) rfl ?_
          refine iq_idiv hS 35 J_HPen_lastNear_d34 (by decide) rfl ?_
          refine iq_istore hS 37 J_HPen_lastNear_d35 (by decide) rfl ?_
          refine iq_iload hS 39 J_HPen_lastNear_d37 lk_1s rfl ?_
          refine iq_i2l hS 40 J_HPen_lastNear_d39 rfl ?_
          refine iq_iload_n hS 41 J_HPen_lastNear_d40 (lk_1i l7 (by decide)) rfl ?_
          refine iq_i2l hS 42 J_HPen_lastNear_d41 rfl ?_
          refine iq_iload_n hS 43 J_HPen_lastNear_d42 (lk_1i l8 (by decide)) rfl ?_
          refine iq_i2l hS 44 J_HPen_lastNear_d43 rfl ?_
          refine iq_iload hS 46 J_HPen_lastNear_d44 (lk_1i l9 (by decide)) rfl ?_
          refine iq_i2l hS 47 J_HPen_lastNear_d46 rfl ?_
          refine iq_iload hS 49 J_HPen_lastNear_d47 (lk_1i l10 (by decide)) rfl ?_
          refine iq_i2l hS 50 J_HPen_lastNear_d49 rfl ?_
          obtain ⟨Q15, hQ15, h⟩ := bd1_ed h
          refine iq_cpI hS 53 J_HPen_lastNear_d50 rfl (pr_stat (vs := [_, _, _, _, _]) lc_6_154 lT_185 rfl rfl (by decide) rfl (Nat.le_of_ble_eq_true rfl) (Nat.le_of_ble_eq_true rfl)) (f_HPen_isNear_ok (dep := dep + 0) hM h) rfl ?_
          intro x15 h
          replace h := hQ15 _ h
          have J16 : ∀ (z17 : Int32) (z18 : Int32) (L' : List (Nat × Value)), z17 = ((if x15 = 0 then x4 else ((x4 + x5) / 2)) : Int32) → z18 = ((if x15 = 0 then ((x4 + x5) / 2) else x5) : Int32) → im_lk L' 2 = some (.int p2) → im_lk L' 3 = some (.int p3) → im_lk L' 4 = some (.int p4) → im_lk L' 5 = some (.int p5) → im_lk L' 6 = some (.int z17) → im_lk L' 7 = some (.int z18) → im_lk L' 8 = some (.int x6) → ia (tb_G L xs) (dep + 1) J_HPen_lastNear (rpI M Q) (67, L', [], M) := by
            intro z17 z18 L' e19 e20 l21 l22 l23 l24 l25 l26 l27
            subst e19
            subst e20
            refine iq_iincv hS 70 J_HPen_lastNear_d67 (c := 1) (by decide +kernel) l27 (by decide) rfl ?_
            refine iq_goto hS J_HPen_lastNear_d70 (t := 9) rfl ?_
            exact ih _ _ _ _ (lk_1i l21 (by decide)) (lk_1i l22 (by decide)) (lk_1i l23 (by decide)) (lk_1i l24 (by decide)) (lk_1i l25 (by decide)) (lk_1i l26 (by decide)) lk_1s (lq_l h)
          refine iq_if_eq hS 56 J_HPen_lastNear_d53 (t := 63) rfl (fun q53 => ?_) rfl (fun q53 => ?_)
          · refine iq_iload hS 65 J_HPen_lastNear_d63 lk_1s rfl ?_
            refine iq_istore hS 67 J_HPen_lastNear_d65 (by decide) rfl ?_
            exact J16 _ _ _ (by rw [if_pos q53]) (by rw [if_pos q53]) (lk_1i (lk_1i l7 (by decide)) (by decide)) (lk_1i (lk_1i l8 (by decide)) (by decide)) (lk_1i (lk_1i l9 (by decide)) (by decide)) (lk_1i (lk_1i l10 (by decide)) (by decide)) (lk_1i (lk_1i l11 (by decide)) (by decide)) lk_1s (lk_1i (lk_1i l13 (by decide)) (by decide))
          · refine iq_iload hS 58 J_HPen_lastNear_d56 lk_1s rfl ?_
            refine iq_istore hS 60 J_HPen_lastNear_d58 (by decide) rfl ?_
            refine iq_goto hS J_HPen_lastNear_d60 (t := 67) rfl ?_
            exact J16 _ _ _ (by rw [if_neg q53]) (by rw [if_neg q53]) (lk_1i (lk_1i l7 (by decide)) (by decide)) (lk_1i (lk_1i l8 (by decide)) (by decide)) (lk_1i (lk_1i l9 (by decide)) (by decide)) (lk_1i (lk_1i l10 (by decide)) (by decide)) lk_1s (lk_1i (lk_1i l12 (by decide)) (by decide)) (lk_1i (lk_1i l13 (by decide)) (by decide))
  exact I1 n1 _ _ _ _ (lk_1i (lk_1i (lk_1i l2 (by decide)) (by decide)) (by decide)) (lk_1i (lk_1i (lk_1i l3 (by decide)) (by decide)) (by decide)) (lk_1i (lk_1i (lk_1i l4 (by decide)) (by decide)) (by decide)) (lk_1i (lk_1i (lk_1i l5 (by decide)) (by decide)) (by decide)) (lk_1i (lk_1i lk_1s (by decide)) (by decide)) (lk_1i lk_1s (by decide)) lk_1s hn1
noncomputable def f_HPen_drawLine_L47 (w : Bool) (v6 : Int32) (v7 : Int32) (v8 : Int32) (v9 : Int32) (x10 : Int32) (M11 : im_M) : Option ((Int32 × im_M) ⊕ (im_M)) := if v9 < x10 then some (.inr M11) else bd1 (f_Math_min 0 v7 M11) fun (x12 : Int32) => bd1 (f_Math_max 0 v7 M11) fun (x13 : Int32) => bd1 (f_Math_min x13 x10 M11) fun (x14 : Int32) => bd1 (f_Math_max x12 x14 M11) fun (x15 : Int32) => bd1 (if ¬ v7 = 0 then bd1 (f_Math_floorDiv (v6 * x15) v7 M11) fun (x17 : Int32) => some x17 else some 0) fun (y18 : Int32) => bd1 (f_HPen_isNear (Int32.toInt64 y18) (Int32.toInt64 x10) (Int32.toInt64 v6) (Int32.toInt64 v7) (Int32.toInt64 v8) M11) fun (x25 : Int32) => bd1 (f_HPen_isNear (Int32.toInt64 ((if ¬ x25 = 0 then y18 else (y18 + 1)) : Int32)) (Int32.toInt64 x10) (Int32.toInt64 v6) (Int32.toInt64 v7) (Int32.toInt64 v8) M11) fun (x27 : Int32) => bd1 (if x27 = 0 then some M11 else bd1 (f_Math_min 0 v6 M11) fun (x29 : Int32) => bd1 (f_HPen_lastNear ((if ¬ x25 = 0 then y18 else (y18 + 1)) : Int32) ((x29 - v8) - 1) x10 v6 v7 v8 M11) fun (x30 : Int32) => bd1 (f_Math_max 0 v6 M11) fun (x31 : Int32) => bd1 (f_HPen_lastNear ((if ¬ x25 = 0 then y18 else (y18 + 1)) : Int32) ((x31 + v8) + 1) x10 v6 v7 v8 M11) fun (x32 : Int32) => bd1 (f_HSheet_box w ((im_i M11 56 5) + x30) ((im_i M11 56 6) + x10) ((im_i M11 56 5) + x32) ((im_i M11 56 6) + x10) M11) fun (M33 : im_M) => some M33) fun (M34 : im_M) => some (.inl ((x10 + 1), M34))
noncomputable def f_HPen_drawLine (w : Bool) (p0 : Int32) (p1 : Int32) (p2 : Int32) (M : im_M) : Option (im_M) := bd1 (f_Math_min 0 p1 M) fun (x1 : Int32) => bd1 (f_Math_max (x1 - p2) (-(im_i M 56 6)) M) fun (x2 : Int32) => bd1 (f_Math_max 0 p1 M) fun (x3 : Int32) => bd1 (f_Math_min (x3 + p2) (((im_i M 28 1) - 1) - (im_i M 56 6)) M) fun (x4 : Int32) => bd1 (lp (uc2 (f_HPen_drawLine_L47 w p0 p1 p2 x4)) (x2, M)) fun (M41 : im_M) => some M41
theorem J_HPen_drawLine_d0 : decode J_HPen_drawLine.2.1 0 = .ok (.iconst 0, 1) := by decide +kernel
theorem J_HPen_drawLine_d1 : decode J_HPen_drawLine.2.1 1 = .ok (.iload_n 2, 1) := by decide +kernel
theorem J_HPen_drawLine_d2 : decode J_HPen_drawLine.2.1 2 = .ok (.invokestatic 143, 3) := by decide +kernel
theorem J_HPen_drawLine_d5 : decode J_HPen_drawLine.2.1 5 = .ok (.iload_n 3, 1) := by decide +kernel
theorem J_HPen_drawLine_d6 : decode J_HPen_drawLine.2.1 6 = .ok (.isub, 1) := by decide +kernel
theorem J_HPen_drawLine_d7 : decode J_HPen_drawLine.2.1 7 = .ok (.aload_n 0, 1) := by decide +kernel
theorem J_HPen_drawLine_d8 : decode J_HPen_drawLine.2.1 8 = .ok (.getfield 47, 3) := by decide +kernel
theorem J_HPen_drawLine_d11 : decode J_HPen_drawLine.2.1 11 = .ok (.ineg, 1) := by decide +kernel
theorem J_HPen_drawLine_d12 : decode J_HPen_drawLine.2.1 12 = .ok (.invokestatic 148, 3) := by decide +kernel
theorem J_HPen_drawLine_d15 : decode J_HPen_drawLine.2.1 15 = .ok (.istore 4, 2) := by decide +kernel
theorem J_HPen_drawLine_d17 : decode J_HPen_drawLine.2.1 17 = .ok (.iconst 0, 1) := by decide +kernel
theorem J_HPen_drawLine_d18 : decode J_HPen_drawLine.2.1 18 = .ok (.iload_n 2, 1) := by decide +kernel
theorem J_HPen_drawLine_d19 : decode J_HPen_drawLine.2.1 19 = .ok (.invokestatic 148, 3) := by decide +kernel
theorem J_HPen_drawLine_d22 : decode J_HPen_drawLine.2.1 22 = .ok (.iload_n 3, 1) := by decide +kernel
theorem J_HPen_drawLine_d23 : decode J_HPen_drawLine.2.1 23 = .ok (.iadd, 1) := by decide +kernel
theorem J_HPen_drawLine_d24 : decode J_HPen_drawLine.2.1 24 = .ok (.aload_n 0, 1) := by decide +kernel
theorem J_HPen_drawLine_d25 : decode J_HPen_drawLine.2.1 25 = .ok (.getfield 19, 3) := by decide +kernel
theorem J_HPen_drawLine_d28 : decode J_HPen_drawLine.2.1 28 = .ok (.getfield 134, 3) := by decide +kernel
theorem J_HPen_drawLine_d31 : decode J_HPen_drawLine.2.1 31 = .ok (.iconst 1, 1) := by decide +kernel
theorem J_HPen_drawLine_d32 : decode J_HPen_drawLine.2.1 32 = .ok (.isub, 1) := by decide +kernel
theorem J_HPen_drawLine_d33 : decode J_HPen_drawLine.2.1 33 = .ok (.aload_n 0, 1) := by decide +kernel
theorem J_HPen_drawLine_d34 : decode J_HPen_drawLine.2.1 34 = .ok (.getfield 47, 3) := by decide +kernel
theorem J_HPen_drawLine_d37 : decode J_HPen_drawLine.2.1 37 = .ok (.isub, 1) := by decide +kernel
theorem J_HPen_drawLine_d38 : decode J_HPen_drawLine.2.1 38 = .ok (.invokestatic 143, 3) := by decide +kernel
theorem J_HPen_drawLine_d41 : decode J_HPen_drawLine.2.1 41 = .ok (.istore 5, 2) := by decide +kernel
theorem J_HPen_drawLine_d43 : decode J_HPen_drawLine.2.1 43 = .ok (.iload 4, 2) := by decide +kernel
theorem J_HPen_drawLine_d45 : decode J_HPen_drawLine.2.1 45 = .ok (.istore 6, 2) := by decide +kernel
theorem J_HPen_drawLine_d47 : decode J_HPen_drawLine.2.1 47 = .ok (.iload 6, 2) := by decide +kernel
theorem J_HPen_drawLine_d49 : decode J_HPen_drawLine.2.1 49 = .ok (.iload 5, 2) := by decide +kernel
theorem J_HPen_drawLine_d51 : decode J_HPen_drawLine.2.1 51 = .ok (.if_icmp .gt 163, 3) := by decide +kernel
theorem J_HPen_drawLine_d54 : decode J_HPen_drawLine.2.1 54 = .ok (.iconst 0, 1) := by decide +kernel
theorem J_HPen_drawLine_d55 : decode J_HPen_drawLine.2.1 55 = .ok (.iload_n 2, 1) := by decide +kernel
theorem J_HPen_drawLine_d56 : decode J_HPen_drawLine.2.1 56 = .ok (.invokestatic 143, 3) := by decide +kernel
theorem J_HPen_drawLine_d59 : decode J_HPen_drawLine.2.1 59 = .ok (.iconst 0, 1) := by decide +kernel
theorem J_HPen_drawLine_d60 : decode J_HPen_drawLine.2.1 60 = .ok (.iload_n 2, 1) := by decide +kernel
theorem J_HPen_drawLine_d61 : decode J_HPen_drawLine.2.1 61 = .ok (.invokestatic 148, 3) := by decide +kernel
theorem J_HPen_drawLine_d64 : decode J_HPen_drawLine.2.1 64 = .ok (.iload 6, 2) := by decide +kernel
theorem J_HPen_drawLine_d66 : decode J_HPen_drawLine.2.1 66 = .ok (.invokestatic 143, 3) := by decide +kernel
theorem J_HPen_drawLine_d69 : decode J_HPen_drawLine.2.1 69 = .ok (.invokestatic 148, 3) := by decide +kernel
theorem J_HPen_drawLine_d72 : decode J_HPen_drawLine.2.1 72 = .ok (.istore 7, 2) := by decide +kernel
theorem J_HPen_drawLine_d74 : decode J_HPen_drawLine.2.1 74 = .ok (.iload_n 2, 1) := by decide +kernel
theorem J_HPen_drawLine_d75 : decode J_HPen_drawLine.2.1 75 = .ok (.ifCond .ne 7, 3) := by decide +kernel
theorem J_HPen_drawLine_d78 : decode J_HPen_drawLine.2.1 78 = .ok (.iconst 0, 1) := by decide +kernel
theorem J_HPen_drawLine_d79 : decode J_HPen_drawLine.2.1 79 = .ok (.goto 11, 3) := by decide +kernel
theorem J_HPen_drawLine_d82 : decode J_HPen_drawLine.2.1 82 = .ok (.iload_n 1, 1) := by decide +kernel
theorem J_HPen_drawLine_d83 : decode J_HPen_drawLine.2.1 83 = .ok (.iload 7, 2) := by decide +kernel
theorem J_HPen_drawLine_d85 : decode J_HPen_drawLine.2.1 85 = .ok (.imul, 1) := by decide +kernel
theorem J_HPen_drawLine_d86 : decode J_HPen_drawLine.2.1 86 = .ok (.iload_n 2, 1) := by decide +kernel
theorem J_HPen_drawLine_d87 : decode J_HPen_drawLine.2.1 87 = .ok (.invokestatic 151, 3) := by decide +kernel
theorem J_HPen_drawLine_d90 : decode J_HPen_drawLine.2.1 90 = .ok (.istore 8, 2) := by decide +kernel
theorem J_HPen_drawLine_d92 : decode J_HPen_drawLine.2.1 92 = .ok (.iload 8, 2) := by decide +kernel
theorem J_HPen_drawLine_d94 : decode J_HPen_drawLine.2.1 94 = .ok (.i2l, 1) := by decide +kernel
theorem J_HPen_drawLine_d95 : decode J_HPen_drawLine.2.1 95 = .ok (.iload 6, 2) := by decide +kernel
theorem J_HPen_drawLine_d97 : decode J_HPen_drawLine.2.1 97 = .ok (.i2l, 1) := by decide +kernel
theorem J_HPen_drawLine_d98 : decode J_HPen_drawLine.2.1 98 = .ok (.iload_n 1, 1) := by decide +kernel
theorem J_HPen_drawLine_d99 : decode J_HPen_drawLine.2.1 99 = .ok (.i2l, 1) := by decide +kernel
theorem J_HPen_drawLine_d100 : decode J_HPen_drawLine.2.1 100 = .ok (.iload_n 2, 1) := by decide +kernel
theorem J_HPen_drawLine_d101 : decode J_HPen_drawLine.2.1 101 = .ok (.i2l, 1) := by decide +kernel
theorem J_HPen_drawLine_d102 : decode J_HPen_drawLine.2.1 102 = .ok (.iload_n 3, 1) := by decide +kernel
theorem J_HPen_drawLine_d103 : decode J_HPen_drawLine.2.1 103 = .ok (.i2l, 1) := by decide +kernel
theorem J_HPen_drawLine_d104 : decode J_HPen_drawLine.2.1 104 = .ok (.invokestatic 154, 3) := by decide +kernel
theorem J_HPen_drawLine_d107 : decode J_HPen_drawLine.2.1 107 = .ok (.ifCond .ne 6, 3) := by decide +kernel
theorem J_HPen_drawLine_d110 : decode J_HPen_drawLine.2.1 110 = .ok (.iinc 8 1, 3) := by decide +kernel
theorem J_HPen_drawLine_d113 : decode J_HPen_drawLine.2.1 113 = .ok (.iload 8, 2) := by decide +kernel
theorem J_HPen_drawLine_d115 : decode J_HPen_drawLine.2.1 115 = .ok (.i2l, 1) := by decide +kernel
theorem J_HPen_drawLine_d116 : decode J_HPen_drawLine.2.1 116 = .ok (.iload 6, 2) := by decide +kernel
theorem J_HPen_drawLine_d118 : decode J_HPen_drawLine.2.1 118 = .ok (.i2l, 1) := by decide +kernel
theorem J_HPen_drawLine_d119 : decode J_HPen_drawLine.2.1 119 = .ok (.iload_n 1, 1) := by decide +kernel
theorem J_HPen_drawLine_d120 : decode J_HPen_drawLine.2.1 120 = .ok (.i2l, 1) := by decide +kernel
theorem J_HPen_drawLine_d121 : decode J_HPen_drawLine.2.1 121 = .ok (.iload_n 2, 1) := by decide +kernel
theorem J_HPen_drawLine_d122 : decode J_HPen_drawLine.2.1 122 = .ok (.i2l, 1) := by decide +kernel
theorem J_HPen_drawLine_d123 : decode J_HPen_drawLine.2.1 123 = .ok (.iload_n 3, 1) := by decide +kernel
theorem J_HPen_drawLine_d124 : decode J_HPen_drawLine.2.1 124 = .ok (.i2l, 1) := by decide +kernel
theorem J_HPen_drawLine_d125 : decode J_HPen_drawLine.2.1 125 = .ok (.invokestatic 154, 3) := by decide +kernel
theorem J_HPen_drawLine_d128 : decode J_HPen_drawLine.2.1 128 = .ok (.ifCond .eq 80, 3) := by decide +kernel
theorem J_HPen_drawLine_d131 : decode J_HPen_drawLine.2.1 131 = .ok (.iload 8, 2) := by decide +kernel
theorem J_HPen_drawLine_d133 : decode J_HPen_drawLine.2.1 133 = .ok (.iconst 0, 1) := by decide +kernel
theorem J_HPen_drawLine_d134 : decode J_HPen_drawLine.2.1 134 = .ok (.iload_n 1, 1) := by decide +kernel
theorem J_HPen_drawLine_d135 : decode J_HPen_drawLine.2.1 135 = .ok (.invokestatic 143, 3) := by decide +kernel
theorem J_HPen_drawLine_d138 : decode J_HPen_drawLine.2.1 138 = .ok (.iload_n 3, 1) := by decide +kernel
theorem J_HPen_drawLine_d139 : decode J_HPen_drawLine.2.1 139 = .ok (.isub, 1) := by decide +kernel
theorem J_HPen_drawLine_d140 : decode J_HPen_drawLine.2.1 140 = .ok (.iconst 1, 1) := by decide +kernel
theorem J_HPen_drawLine_d141 : decode J_HPen_drawLine.2.1 141 = .ok (.isub, 1) := by decide +kernel
theorem J_HPen_drawLine_d142 : decode J_HPen_drawLine.2.1 142 = .ok (.iload 6, 2) := by decide +kernel
theorem J_HPen_drawLine_d144 : decode J_HPen_drawLine.2.1 144 = .ok (.iload_n 1, 1) := by decide +kernel
theorem J_HPen_drawLine_d145 : decode J_HPen_drawLine.2.1 145 = .ok (.iload_n 2, 1) := by decide +kernel
theorem J_HPen_drawLine_d146 : decode J_HPen_drawLine.2.1 146 = .ok (.iload_n 3, 1) := by decide +kernel
theorem J_HPen_drawLine_d147 : decode J_HPen_drawLine.2.1 147 = .ok (.invokestatic 158, 3) := by decide +kernel
theorem J_HPen_drawLine_d150 : decode J_HPen_drawLine.2.1 150 = .ok (.istore 9, 2) := by decide +kernel
theorem J_HPen_drawLine_d152 : decode J_HPen_drawLine.2.1 152 = .ok (.iload 8, 2) := by decide +kernel
theorem J_HPen_drawLine_d154 : decode J_HPen_drawLine.2.1 154 = .ok (.iconst 0, 1) := by decide +kernel
theorem J_HPen_drawLine_d155 : decode J_HPen_drawLine.2.1 155 = .ok (.iload_n 1, 1) := by decide +kernel
theorem J_HPen_drawLine_d156 : decode J_HPen_drawLine.2.1 156 = .ok (.invokestatic 148, 3) := by decide +kernel
theorem J_HPen_drawLine_d159 : decode J_HPen_drawLine.2.1 159 = .ok (.iload_n 3, 1) := by decide +kernel
theorem J_HPen_drawLine_d160 : decode J_HPen_drawLine.2.1 160 = .ok (.iadd, 1) := by decide +kernel
theorem J_HPen_drawLine_d161 : decode J_HPen_drawLine.2.1 161 = .ok (.iconst 1, 1) := by decide +kernel
theorem J_HPen_drawLine_d162 : decode J_HPen_drawLine.2.1 162 = .ok (.iadd, 1) := by decide +kernel
theorem J_HPen_drawLine_d163 : decode J_HPen_drawLine.2.1 163 = .ok (.iload 6, 2) := by decide +kernel
theorem J_HPen_drawLine_d165 : decode J_HPen_drawLine.2.1 165 = .ok (.iload_n 1, 1) := by decide +kernel
theorem J_HPen_drawLine_d166 : decode J_HPen_drawLine.2.1 166 = .ok (.iload_n 2, 1) := by decide +kernel
theorem J_HPen_drawLine_d167 : decode J_HPen_drawLine.2.1 167 = .ok (.iload_n 3, 1) := by decide +kernel
theorem J_HPen_drawLine_d168 : decode J_HPen_drawLine.2.1 168 = .ok (.invokestatic 158, 3) := by decide +kernel
theorem J_HPen_drawLine_d171 : decode J_HPen_drawLine.2.1 171 = .ok (.istore 10, 2) := by decide +kernel
theorem J_HPen_drawLine_d173 : decode J_HPen_drawLine.2.1 173 = .ok (.aload_n 0, 1) := by decide +kernel
theorem J_HPen_drawLine_d174 : decode J_HPen_drawLine.2.1 174 = .ok (.getfield 19, 3) := by decide +kernel
theorem J_HPen_drawLine_d177 : decode J_HPen_drawLine.2.1 177 = .ok (.aload_n 0, 1) := by decide +kernel
theorem J_HPen_drawLine_d178 : decode J_HPen_drawLine.2.1 178 = .ok (.getfield 43, 3) := by decide +kernel
theorem J_HPen_drawLine_d181 : decode J_HPen_drawLine.2.1 181 = .ok (.iload 9, 2) := by decide +kernel
theorem J_HPen_drawLine_d183 : decode J_HPen_drawLine.2.1 183 = .ok (.iadd, 1) := by decide +kernel
theorem J_HPen_drawLine_d184 : decode J_HPen_drawLine.2.1 184 = .ok (.aload_n 0, 1) := by decide +kernel
theorem J_HPen_drawLine_d185 : decode J_HPen_drawLine.2.1 185 = .ok (.getfield 47, 3) := by decide +kernel
theorem J_HPen_drawLine_d188 : decode J_HPen_drawLine.2.1 188 = .ok (.iload 6, 2) := by decide +kernel
theorem J_HPen_drawLine_d190 : decode J_HPen_drawLine.2.1 190 = .ok (.iadd, 1) := by decide +kernel
theorem J_HPen_drawLine_d191 : decode J_HPen_drawLine.2.1 191 = .ok (.aload_n 0, 1) := by decide +kernel
theorem J_HPen_drawLine_d192 : decode J_HPen_drawLine.2.1 192 = .ok (.getfield 43, 3) := by decide +kernel
theorem J_HPen_drawLine_d195 : decode J_HPen_drawLine.2.1 195 = .ok (.iload 10, 2) := by decide +kernel
theorem J_HPen_drawLine_d197 : decode J_HPen_drawLine.2.1 197 = .ok (.iadd, 1) := by decide +kernel
theorem J_HPen_drawLine_d198 : decode J_HPen_drawLine.2.1 198 = .ok (.aload_n 0, 1) := by decide +kernel
theorem J_HPen_drawLine_d199 : decode J_HPen_drawLine.2.1 199 = .ok (.getfield 47, 3) := by decide +kernel
theorem J_HPen_drawLine_d202 : decode J_HPen_drawLine.2.1 202 = .ok (.iload 6, 2) := by decide +kernel
theorem J_HPen_drawLine_d204 : decode J_HPen_drawLine.2.1 204 = .ok (.iadd, 1) := by decide +kernel
theorem J_HPen_drawLine_d205 : decode J_HPen_drawLine.2.1 205 = .ok (.invokevirtual 107, 3) := by decide +kernel
theorem J_HPen_drawLine_d208 : decode J_HPen_drawLine.2.1 208 = .ok (.iinc 6 1, 3) := by decide +kernel
theorem J_HPen_drawLine_d211 : decode J_HPen_drawLine.2.1 211 = .ok (.goto (-164), 3) := by decide +kernel
theorem J_HPen_drawLine_d214 : decode J_HPen_drawLine.2.1 214 = .ok (.return_, 1) := by decide +kernel
theorem f_HPen_drawLine_ok {L : Nat} {xs : Nat → Int32} {dep : Nat} {w : Bool} {p0 : Int32} {p1 : Int32} {p2 : Int32} {M : im_M} {Q : im_M → Prop} (hM : lw_S w M) (h : ed (f_HPen_drawLine w p0 p1 p2 M) Q) : ia (tb_G L xs) (dep + 2) J_HPen_drawLine (rwV w Q) (0, lv_args 0 [.ref 56, .int p0, .int p1, .int p2], [], M) := by
  have hS : im_St (tb_G L xs) (dep + 2) J_HPen_drawLine (ia (tb_G L xs) (dep + 2) J_HPen_drawLine (rwV w Q)) := ia_St
  unfold f_HPen_drawLine at h
  have l0 : im_lk (lv_args 0 [.ref 56, .int p0, .int p1, .int p2]) 0 = some (.ref 56) := rfl
  have l1 : im_lk (lv_args 0 [.ref 56, .int p0, .int p1, .int p2]) 1 = some (.int p0) := rfl
  have l2 : im_lk (lv_args 0 [.ref 56, .int p0, .int p1, .int p2]) 2 = some (.int p1) := rfl
  have l3 : im_lk (lv_args 0 [.ref 56, .int p0, .int p1, .int p2]) 3 = some (.int p2) := rfl
  refine iq_iconst hS 1 J_HPen_drawLine_d0 (v := 0) (by decide +kernel) rfl ?_
  refine iq_iload_n hS 2 J_HPen_drawLine_d1 l2 rfl ?_
  obtain ⟨Q1, hQ1, h⟩ := bd1_ed h
  refine iq_cpI hS 5 J_HPen_drawLine_d2 rfl (pr_stat (vs := [_, _]) lc_6_143 lT_28 rfl rfl (by decide) rfl (Nat.le_of_ble_eq_true rfl) (Nat.le_of_ble_eq_true rfl)) (f_Math_min_ok (dep := dep + 1) hM h) rfl ?_
  intro x1 h
  replace h := hQ1 _ h
  refine iq_iload_n hS 6 J_HPen_drawLine_d5 l3 rfl ?_
  refine iq_isub hS 7 J_HPen_drawLine_d6 rfl ?_
  refine iq_aload_n hS 8 J_HPen_drawLine_d7 l0 rfl ?_
  refine iq_getI hS 11 J_HPen_drawLine_d8 lf_6_47 (Or.inl rfl) (ka_56 hM) rfl ?_
  refine iq_ineg hS 12 J_HPen_drawLine_d11 rfl ?_
  obtain ⟨Q2, hQ2, h⟩ := bd1_ed h
  refine iq_cpI hS 15 J_HPen_drawLine_d12 rfl (pr_stat (vs := [_, _]) lc_6_148 lT_27 rfl rfl (by decide) rfl (Nat.le_of_ble_eq_true rfl) (Nat.le_of_ble_eq_true rfl)) (f_Math_max_ok (dep := dep + 1) hM h) rfl ?_
  intro x2 h
  replace h := hQ2 _ h
  refine iq_istore hS 17 J_HPen_drawLine_d15 (by decide) rfl ?_
  refine iq_iconst hS 18 J_HPen_drawLine_d17 (v := 0) (by decide +kernel) rfl ?_
  refine iq_iload_n hS 19 J_HPen_drawLine_d18 (lk_1i l2 (by decide)) rfl ?_
  obtain ⟨Q3, hQ3, h⟩ := bd1_ed h
  refine iq_cpI hS 22 J_HPen_drawLine_d19 rfl (pr_stat (vs := [_, _]) lc_6_148 lT_27 rfl rfl (by decide) rfl (Nat.le_of_ble_eq_true rfl) (Nat.le_of_ble_eq_true rfl)) (f_Math_max_ok (dep := dep + 1) hM h) rfl ?_
  intro x3 h
  replace h := hQ3 _ h
  refine iq_iload_n hS 23 J_HPen_drawLine_d22 (lk_1i l3 (by decide)) rfl ?_
  refine iq_iadd hS 24 J_HPen_drawLine_d23 rfl ?_
  refine iq_aload_n hS 25 J_HPen_drawLine_d24 (lk_1r l0 (by decide)) rfl ?_
  refine iq_getR hS 28 J_HPen_drawLine_d25 lf_6_19 (Or.inl ⟨_, rfl⟩) (ka_56 hM) (ra_56_0 hM) rfl ?_
  refine iq_getI hS 31 J_HPen_drawLine_d28 lf_6_134 (Or.inl rfl) (ka_28 hM) rfl ?_
  refine iq_iconst hS 32 J_HPen_drawLine_d31 (v := 1) (by decide +kernel) rfl ?_
  refine iq_isub hS 33 J_HPen_drawLine_d32 rfl ?_
  refine iq_aload_n hS 34 J_HPen_drawLine_d33 (lk_1r l0 (by decide)) rfl ?_
  refine iq_getI hS 37 J_HPen_drawLine_d34 lf_6_47 (Or.inl rfl) (ka_56 hM) rfl ?_
  refine iq_isub hS 38 J_HPen_drawLine_d37 rfl ?_
  obtain ⟨Q4, hQ4, h⟩ := bd1_ed h
  refine iq_cpI hS 41 J_HPen_drawLine_d38 rfl (pr_stat (vs := [_, _]) lc_6_143 lT_28 rfl rfl (by decide) rfl (Nat.le_of_ble_eq_true rfl) (Nat.le_of_ble_eq_true rfl)) (f_Math_min_ok (dep := dep + 1) hM h) rfl ?_
  intro x4 h
  replace h := hQ4 _ h
  refine iq_istore hS 43 J_HPen_drawLine_d41 (by decide) rfl ?_
  refine iq_iload hS 45 J_HPen_drawLine_d43 (lk_1i lk_1s (by decide)) rfl ?_
  refine iq_istore hS 47 J_HPen_drawLine_d45 (by decide) rfl ?_
  obtain ⟨Q5, hQ5, h⟩ := bd1_ed h
  have K5 : ∀ (M6 : im_M) (L' : List (Nat × Value)), lw_S w M6 → Q5 M6 → ia (tb_G L xs) (dep + 2) J_HPen_drawLine (rwV w Q) (214, L', [], M6) := by
    intro M6 L' hM6  h
    replace h := hQ5 _ h
    exact iq_ret J_HPen_drawLine_d214 rfl ⟨rfl, hM6, ed_some h⟩
  obtain ⟨r5, hr5, hq5⟩ := h
  obtain ⟨n5, hn5⟩ := lp_n hr5
  have I5 : ∀ (n : Nat) (x7 : Int32) (M8 : im_M) (L' : List (Nat × Value)), lw_S w M8 → im_lk L' 0 = some (.ref 56) → im_lk L' 1 = some (.int p0) → im_lk L' 2 = some (.int p1) → im_lk L' 3 = some (.int p2) → im_lk L' 5 = some (.int x4) → im_lk L' 6 = some (.int x7) → lpn (uc2 (f_HPen_drawLine_L47 w p0 p1 p2 x4)) n (x7, M8) = some r5 → ia (tb_G L xs) (dep + 2) J_HPen_drawLine (rwV w Q) (47, L', [], M8) := by
    intro n
    induction n with
    | zero => intro x7 M8 L' hM8 l9 l10 l11 l12 l13 l14 hn; exact (lpn_0 hn).elim
    | succ n ih =>
      intro x7 M8 L' hM8 l9 l10 l11 l12 l13 l14 hn
      have h := lpn_ed2 hn
      unfold f_HPen_drawLine_L47 at h
      refine iq_iload hS 49 J_HPen_drawLine_d47 l14 rfl ?_
      refine iq_iload hS 51 J_HPen_drawLine_d49 l13 rfl ?_
      refine iq_icmp_gt hS 54 J_HPen_drawLine_d51 (t := 214) rfl (fun q51 => ?_) rfl (fun q51 => ?_)
      · replace h := ed_pos q51 h
        exact K5 _ _ hM8  (lq_r h hq5)
      · replace h := ed_neg q51 h
        refine iq_iconst hS 55 J_HPen_drawLine_d54 (v := 0) (by decide +kernel) rfl ?_
        refine iq_iload_n hS 56 J_HPen_drawLine_d55 l11 rfl ?_
        obtain ⟨Q15, hQ15, h⟩ := bd1_ed h
        refine iq_cpI hS 59 J_HPen_drawLine_d56 rfl (pr_stat (vs := [_, _]) lc_6_143 lT_28 rfl rfl (by decide) rfl (Nat.le_of_ble_eq_true rfl) (Nat.le_of_ble_eq_true rfl)) (f_Math_min_ok (dep := dep + 1) hM8 h) rfl ?_
        intro x15 h
        replace h := hQ15 _ h
        refine iq_iconst hS 60 J_HPen_drawLine_d59 (v := 0) (by decide +kernel) rfl ?_
        refine iq_iload_n hS 61 J_HPen_drawLine_d60 l11 rfl ?_
        obtain ⟨Q16, hQ16, h⟩ := bd1_ed h
        refine iq_cpI hS 64 J_HPen_drawLine_d61 rfl (pr_stat (vs := [_, _]) lc_6_148 lT_27 rfl rfl (by decide) rfl (Nat.le_of_ble_eq_true rfl) (Nat.le_of_ble_eq_true rfl)) (f_Math_max_ok (dep := dep + 1) hM8 h) rfl ?_
        intro x16 h
        replace h := hQ16 _ h
        refine iq_iload hS 66 J_HPen_drawLine_d64 l14 rfl ?_
        obtain ⟨Q17, hQ17, h⟩ := bd1_ed h
        refine iq_cpI hS 69 J_HPen_drawLine_d66 rfl (pr_stat (vs := [_, _]) lc_6_143 lT_28 rfl rfl (by decide) rfl (Nat.le_of_ble_eq_true rfl) (Nat.le_of_ble_eq_true rfl)) (f_Math_min_ok (dep := dep + 1) hM8 h) rfl ?_
        intro x17 h
        replace h := hQ17 _ h
        obtain ⟨Q18, hQ18, h⟩ := bd1_ed h
        refine iq_cpI hS 72 J_HPen_drawLine_d69 rfl (pr_stat (vs := [_, _]) lc_6_148 lT_27 rfl rfl (by decide) rfl (Nat.le_of_ble_eq_true rfl) (Nat.le_of_ble_eq_true rfl)) (f_Math_max_ok (dep := dep + 1) hM8 h) rfl ?_
        intro x18 h
        replace h := hQ18 _ h
        refine iq_istore hS 74 J_HPen_drawLine_d72 (by decide) rfl ?_
        refine iq_iload_n hS 75 J_HPen_drawLine_d74 (lk_1i l11 (by decide)) rfl ?_
        obtain ⟨Q19, hQ19, h⟩ := bd1_ed h
        have J19 : ∀ (y21 : Int32) (L' : List (Nat × Value)), im_lk L' 0 = some (.ref 56) → im_lk L' 1 = some (.int p0) → im_lk L' 2 = some (.int p1) → im_lk L' 3 = some (.int p2) → im_lk L' 5 = some (.int x4) → im_lk L' 6 = some (.int x7) → Q19 y21 → ia (tb_G L xs) (dep + 2) J_HPen_drawLine (rwV w Q) (90, L', [.int y21], M8) := by
          intro y21 L' l22 l23 l24 l25 l26 l27 h
          replace h := hQ19 _ h
          refine iq_istore hS 92 J_HPen_drawLine_d90 (by decide) rfl ?_
          refine iq_iload hS 94 J_HPen_drawLine_d92 lk_1s rfl ?_
          refine iq_i2l hS 95 J_HPen_drawLine_d94 rfl ?_
          refine iq_iload hS 97 J_HPen_drawLine_d95 (lk_1i l27 (by decide)) rfl ?_
          refine iq_i2l hS 98 J_HPen_drawLine_d97 rfl ?_
          refine iq_iload_n hS 99 J_HPen_drawLine_d98 (lk_1i l23 (by decide)) rfl ?_
          refine iq_i2l hS 100 J_HPen_drawLine_d99 rfl ?_
          refine iq_iload_n hS 101 J_HPen_drawLine_d100 (lk_1i l24 (by decide)) rfl ?_
          refine iq_i2l hS 102 J_HPen_drawLine_d101 rfl ?_
          refine iq_iload_n hS 103 J_HPen_drawLine_d102 (lk_1i l25 (by decide)) rfl ?_
          refine iq_i2l hS 104 J_HPen_drawLine_d103 rfl ?_
          obtain ⟨Q28, hQ28, h⟩ := bd1_ed h
          refine iq_cpI hS 107 J_HPen_drawLine_d104 rfl (pr_stat (vs := [_, _, _, _, _]) lc_6_154 lT_185 rfl rfl (by decide) rfl (Nat.le_of_ble_eq_true rfl) (Nat.le_of_ble_eq_true rfl)) (f_HPen_isNear_ok (dep := dep + 1) hM8 h) rfl ?_
          intro x28 h
          replace h := hQ28 _ h
          have J29 : ∀ (z30 : Int32) (L' : List (Nat × Value)), z30 = ((if ¬ x28 = 0 then y21 else (y21 + 1)) : Int32) → im_lk L' 0 = some (.ref 56) → im_lk L' 1 = some (.int p0) → im_lk L' 2 = some (.int p1) → im_lk L' 3 = some (.int p2) → im_lk L' 5 = some (.int x4) → im_lk L' 6 = some (.int x7) → im_lk L' 8 = some (.int z30) → ia (tb_G L xs) (dep + 2) J_HPen_drawLine (rwV w Q) (113, L', [], M8) := by
            intro z30 L' e31 l32 l33 l34 l35 l36 l37 l38
            subst e31
            refine iq_iload hS 115 J_HPen_drawLine_d113 l38 rfl ?_
            refine iq_i2l hS 116 J_HPen_drawLine_d115 rfl ?_
            refine iq_iload hS 118 J_HPen_drawLine_d116 l37 rfl ?_
            refine iq_i2l hS 119 J_HPen_drawLine_d118 rfl ?_
            refine iq_iload_n hS 120 J_HPen_drawLine_d119 l33 rfl ?_
            refine iq_i2l hS 121 J_HPen_drawLine_d120 rfl ?_
            refine iq_iload_n hS 122 J_HPen_drawLine_d121 l34 rfl ?_
            refine iq_i2l hS 123 J_HPen_drawLine_d122 rfl ?_
            refine iq_iload_n hS 124 J_HPen_drawLine_d123 l35 rfl ?_
            refine iq_i2l hS 125 J_HPen_drawLine_d124 rfl ?_
            obtain ⟨Q39, hQ39, h⟩ := bd1_ed h
            refine iq_cpI hS 128 J_HPen_drawLine_d125 rfl (pr_stat (vs := [_, _, _, _, _]) lc_6_154 lT_185 rfl rfl (by decide) rfl (Nat.le_of_ble_eq_true rfl) (Nat.le_of_ble_eq_true rfl)) (f_HPen_isNear_ok (dep := dep + 1) hM8 h) rfl ?_
            intro x39 h
            replace h := hQ39 _ h
            obtain ⟨Q40, hQ40, h⟩ := bd1_ed h
            have J40 : ∀ (M46 : im_M) (L' : List (Nat × Value)), lw_S w M46 → im_lk L' 0 = some (.ref 56) → im_lk L' 1 = some (.int p0) → im_lk L' 2 = some (.int p1) → im_lk L' 3 = some (.int p2) → im_lk L' 5 = some (.int x4) → im_lk L' 6 = some (.int x7) → Q40 M46 → ia (tb_G L xs) (dep + 2) J_HPen_drawLine (rwV w Q) (208, L', [], M46) := by
              intro M46 L' hM46 l47 l48 l49 l50 l51 l52 h
              replace h := hQ40 _ h
              refine iq_iincv hS 211 J_HPen_drawLine_d208 (c := 1) (by decide +kernel) l52 (by decide) rfl ?_
              refine iq_goto hS J_HPen_drawLine_d211 (t := 47) rfl ?_
              exact ih _ _ _ hM46 (lk_1r l47 (by decide)) (lk_1i l48 (by decide)) (lk_1i l49 (by decide)) (lk_1i l50 (by decide)) (lk_1i l51 (by decide)) lk_1s (lq_l h)
            refine iq_if_eq hS 131 J_HPen_drawLine_d128 (t := 208) rfl (fun q128 => ?_) rfl (fun q128 => ?_)
            · replace h := ed_pos q128 h
              exact J40 _ _ hM8 l32 l33 l34 l35 l36 l37 (ed_some h)
            · replace h := ed_neg q128 h
              refine iq_iload hS 133 J_HPen_drawLine_d131 l38 rfl ?_
              refine iq_iconst hS 134 J_HPen_drawLine_d133 (v := 0) (by decide +kernel) rfl ?_
              refine iq_iload_n hS 135 J_HPen_drawLine_d134 l33 rfl ?_
              obtain ⟨Q41, hQ41, h⟩ := bd1_ed h
              refine iq_cpI hS 138 J_HPen_drawLine_d135 rfl (pr_stat (vs := [_, _]) lc_6_143 lT_28 rfl rfl (by decide) rfl (Nat.le_of_ble_eq_true rfl) (Nat.le_of_ble_eq_true rfl)) (f_Math_min_ok (dep := dep + 1) hM8 h) rfl ?_
              intro x41 h
              replace h := hQ41 _ h
              refine iq_iload_n hS 139 J_HPen_drawLine_d138 l35 rfl ?_
              refine iq_isub hS 140 J_HPen_drawLine_d139 rfl ?_
              refine iq_iconst hS 141 J_HPen_drawLine_d140 (v := 1) (by decide +kernel) rfl ?_
              refine iq_isub hS 142 J_HPen_drawLine_d141 rfl ?_
              refine iq_iload hS 144 J_HPen_drawLine_d142 l37 rfl ?_
              refine iq_iload_n hS 145 J_HPen_drawLine_d144 l33 rfl ?_
              refine iq_iload_n hS 146 J_HPen_drawLine_d145 l34 rfl ?_
              refine iq_iload_n hS 147 J_HPen_drawLine_d146 l35 rfl ?_
              obtain ⟨Q42, hQ42, h⟩ := bd1_ed h
              refine iq_cpI hS 150 J_HPen_drawLine_d147 rfl (pr_stat (vs := [_, _, _, _, _, _]) lc_6_158 lT_186 rfl rfl (by decide) rfl (Nat.le_of_ble_eq_true rfl) (Nat.le_of_ble_eq_true rfl)) (f_HPen_lastNear_ok (dep := dep + 0) hM8 h) rfl ?_
              intro x42 h
              replace h := hQ42 _ h
              refine iq_istore hS 152 J_HPen_drawLine_d150 (by decide) rfl ?_
              refine iq_iload hS 154 J_HPen_drawLine_d152 (lk_1i l38 (by decide)) rfl ?_
              refine iq_iconst hS 155 J_HPen_drawLine_d154 (v := 0) (by decide +kernel) rfl ?_
              refine iq_iload_n hS 156 J_HPen_drawLine_d155 (lk_1i l33 (by decide)) rfl ?_
              obtain ⟨Q43, hQ43, h⟩ := bd1_ed h
              refine iq_cpI hS 159 J_HPen_drawLine_d156 rfl (pr_stat (vs := [_, _]) lc_6_148 lT_27 rfl rfl (by decide) rfl (Nat.le_of_ble_eq_true rfl) (Nat.le_of_ble_eq_true rfl)) (f_Math_max_ok (dep := dep + 1) hM8 h) rfl ?_
              intro x43 h
              replace h := hQ43 _ h
              refine iq_iload_n hS 160 J_HPen_drawLine_d159 (lk_1i l35 (by decide)) rfl ?_
              refine iq_iadd hS 161 J_HPen_drawLine_d160 rfl ?_
              refine iq_iconst hS 162 J_HPen_drawLine_d161 (v := 1) (by decide +kernel) rfl ?_
              refine iq_iadd hS 163 J_HPen_drawLine_d162 rfl ?_
              refine iq_iload hS 165 J_HPen_drawLine_d163 (lk_1i l37 (by decide)) rfl ?_
              refine iq_iload_n hS 166 J_HPen_drawLine_d165 (lk_1i l33 (by decide)) rfl ?_
              refine iq_iload_n hS 167 J_HPen_drawLine_d166 (lk_1i l34 (by decide)) rfl ?_
              refine iq_iload_n hS 168 J_HPen_drawLine_d167 (lk_1i l35 (by decide)) rfl ?_
              obtain ⟨Q44, hQ44, h⟩ := bd1_ed h
              refine iq_cpI hS 171 J_HPen_drawLine_d168 rfl (pr_stat (vs := [_, _, _, _, _, _]) lc_6_158 lT_186 rfl rfl (by decide) rfl (Nat.le_of_ble_eq_true rfl) (Nat.le_of_ble_eq_true rfl)) (f_HPen_lastNear_ok (dep := dep + 0) hM8 h) rfl ?_
              intro x44 h
              replace h := hQ44 _ h
              refine iq_istore hS 173 J_HPen_drawLine_d171 (by decide) rfl ?_
              refine iq_aload_n hS 174 J_HPen_drawLine_d173 (lk_1r (lk_1r l32 (by decide)) (by decide)) rfl ?_
              refine iq_getR hS 177 J_HPen_drawLine_d174 lf_6_19 (Or.inl ⟨_, rfl⟩) (ka_56 hM8) (ra_56_0 hM8) rfl ?_
              refine iq_aload_n hS 178 J_HPen_drawLine_d177 (lk_1r (lk_1r l32 (by decide)) (by decide)) rfl ?_
              refine iq_getI hS 181 J_HPen_drawLine_d178 lf_6_43 (Or.inl rfl) (ka_56 hM8) rfl ?_
              refine iq_iload hS 183 J_HPen_drawLine_d181 (lk_1i lk_1s (by decide)) rfl ?_
              refine iq_iadd hS 184 J_HPen_drawLine_d183 rfl ?_
              refine iq_aload_n hS 185 J_HPen_drawLine_d184 (lk_1r (lk_1r l32 (by decide)) (by decide)) rfl ?_
              refine iq_getI hS 188 J_HPen_drawLine_d185 lf_6_47 (Or.inl rfl) (ka_56 hM8) rfl ?_
              refine iq_iload hS 190 J_HPen_drawLine_d188 (lk_1i (lk_1i l37 (by decide)) (by decide)) rfl ?_
              refine iq_iadd hS 191 J_HPen_drawLine_d190 rfl ?_
              refine iq_aload_n hS 192 J_HPen_drawLine_d191 (lk_1r (lk_1r l32 (by decide)) (by decide)) rfl ?_
              refine iq_getI hS 195 J_HPen_drawLine_d192 lf_6_43 (Or.inl rfl) (ka_56 hM8) rfl ?_
              refine iq_iload hS 197 J_HPen_drawLine_d195 lk_1s rfl ?_
              refine iq_iadd hS 198 J_HPen_drawLine_d197 rfl ?_
              refine iq_aload_n hS 199 J_HPen_drawLine_d198 (lk_1r (lk_1r l32 (by decide)) (by decide)) rfl ?_
              refine iq_getI hS 202 J_HPen_drawLine_d199 lf_6_47 (Or.inl rfl) (ka_56 hM8) rfl ?_
              refine iq_iload hS 204 J_HPen_drawLine_d202 (lk_1i (lk_1i l37 (by decide)) (by decide)) rfl ?_
              refine iq_iadd hS 205 J_HPen_drawLine_d204 rfl ?_
              obtain ⟨Q45, hQ45, h⟩ := bd1_ed h
              refine iq_cwV hS 208 J_HPen_drawLine_d205 rfl (pr_inst (vs := [_, _, _, _]) lc_6_107 lT_113 rfl rfl (by decide) (by decide) rfl (Nat.le_of_ble_eq_true rfl) (Nat.le_of_ble_eq_true rfl) (fun _ => Or.inl (pr_b (ka_28 hM8) (by decide) rfl))) (f_HSheet_box_ok (dep := dep + 0) hM8 h) rfl ?_
              intro M45 hM45 h
              replace h := hQ45 _ h
              exact J40 _ _ hM45 (lk_1r (lk_1r l32 (by decide)) (by decide)) (lk_1i (lk_1i l33 (by decide)) (by decide)) (lk_1i (lk_1i l34 (by decide)) (by decide)) (lk_1i (lk_1i l35 (by decide)) (by decide)) (lk_1i (lk_1i l36 (by decide)) (by decide)) (lk_1i (lk_1i l37 (by decide)) (by decide)) (ed_some h)
          refine iq_if_ne hS 110 J_HPen_drawLine_d107 (t := 113) rfl (fun q107 => ?_) rfl (fun q107 => ?_)
          · exact J29 _ _ (by rw [if_pos q107]) (lk_1r l22 (by decide)) (lk_1i l23 (by decide)) (lk_1i l24 (by decide)) (lk_1i l25 (by decide)) (lk_1i l26 (by decide)) (lk_1i l27 (by decide)) lk_1s
          · refine iq_iincv hS 113 J_HPen_drawLine_d110 (c := 1) (by decide +kernel) lk_1s (by decide) rfl ?_
            exact J29 _ _ (by rw [if_neg q107]) (lk_1r (lk_1r l22 (by decide)) (by decide)) (lk_1i (lk_1i l23 (by decide)) (by decide)) (lk_1i (lk_1i l24 (by decide)) (by decide)) (lk_1i (lk_1i l25 (by decide)) (by decide)) (lk_1i (lk_1i l26 (by decide)) (by decide)) (lk_1i (lk_1i l27 (by decide)) (by decide)) lk_1s
        refine iq_if_ne hS 78 J_HPen_drawLine_d75 (t := 82) rfl (fun q75 => ?_) rfl (fun q75 => ?_)
        · replace h := ed_pos q75 h
          refine iq_iload_n hS 83 J_HPen_drawLine_d82 (lk_1i l10 (by decide)) rfl ?_
          refine iq_iload hS 85 J_HPen_drawLine_d83 lk_1s rfl ?_
          refine iq_imul hS 86 J_HPen_drawLine_d85 rfl ?_
          refine iq_iload_n hS 87 J_HPen_drawLine_d86 (lk_1i l11 (by decide)) rfl ?_
          obtain ⟨Q20, hQ20, h⟩ := bd1_ed h
          refine iq_cpI hS 90 J_HPen_drawLine_d87 rfl (pr_stat (vs := [_, _]) lc_6_151 lT_184 rfl rfl (by decide) rfl (Nat.le_of_ble_eq_true rfl) (Nat.le_of_ble_eq_true rfl)) (f_Math_floorDiv_ok (dep := dep + 1) hM8 h) rfl ?_
          intro x20 h
          replace h := hQ20 _ h
          exact J19 _ _ (lk_1r l9 (by decide)) (lk_1i l10 (by decide)) (lk_1i l11 (by decide)) (lk_1i l12 (by decide)) (lk_1i l13 (by decide)) (lk_1i l14 (by decide)) (ed_some h)
        · replace h := ed_neg q75 h
          refine iq_iconst hS 79 J_HPen_drawLine_d78 (v := 0) (by decide +kernel) rfl ?_
          refine iq_goto hS J_HPen_drawLine_d79 (t := 90) rfl ?_
          exact J19 _ _ (lk_1r l9 (by decide)) (lk_1i l10 (by decide)) (lk_1i l11 (by decide)) (lk_1i l12 (by decide)) (lk_1i l13 (by decide)) (lk_1i l14 (by decide)) (ed_some h)
  exact I5 n5 _ _ _ hM (lk_1r (lk_1r (lk_1r l0 (by decide)) (by decide)) (by decide)) (lk_1i (lk_1i (lk_1i l1 (by decide)) (by decide)) (by decide)) (lk_1i (lk_1i (lk_1i l2 (by decide)) (by decide)) (by decide)) (lk_1i (lk_1i (lk_1i l3 (by decide)) (by decide)) (by decide)) (lk_1i lk_1s (by decide)) lk_1s hn5
noncomputable def f_HPen_drawPicture_L41 (w : Bool) (v11 : Int32) (v12 : Int32) (v13 : Int32) (v14 : Int32) (v15 : Int32) (x16 : Int32) (M17 : im_M) : Option ((Int32 × im_M) ⊕ (im_M)) := if v12 ≤ x16 then some (.inr M17) else bd1 (f_HOrders_byteAt v11 ((v15 * v13) + (x16 / 8)) M17) fun (x18 : Int32) => bd1 (if ((x18 >>> (((7 : Int32) - (x16 - x16 / 8 * 8)) &&& 31)) &&& 1) = 0 then some M17 else bd1 (f_HSheet_box w ((im_i M17 56 5) + x16) ((im_i M17 56 6) + v15) ((im_i M17 56 5) + x16) ((im_i M17 56 6) + v15) M17) fun (M20 : im_M) => some M20) fun (M21 : im_M) => some (.inl ((x16 + 1), M21))
noncomputable def f_HPen_drawPicture_L31 (w : Bool) (v4 : Int32) (v5 : Int32) (v6 : Int32) (v7 : Int32) (x8 : Int32) (M9 : im_M) : Option ((Int32 × im_M) ⊕ (im_M)) := if v7 ≤ x8 then some (.inr M9) else bd1 (lp (uc2 (f_HPen_drawPicture_L41 w v4 v5 v6 v7 x8)) (0, M9)) fun (M30 : im_M) => some (.inl ((x8 + 1), M30))
noncomputable def f_HPen_drawPicture (w : Bool) (p1 : Int32) (M : im_M) : Option (im_M) := bd1 (f_HOrders_value_1 p1 5 M) fun (x1 : Int32) => bd1 (f_HOrders_value_1 p1 8 M) fun (x2 : Int32) => gd (¬ ((x1 + 7) / 8) = (0 : Int32)) <| bd1 (lp (uc2 (f_HPen_drawPicture_L31 w p1 x1 ((x1 + 7) / 8) (x2 / ((x1 + 7) / 8)))) (0, M)) fun (M31 : im_M) => some M31
theorem J_HPen_drawPicture_d0 : decode J_HPen_drawPicture.2.1 0 = .ok (.aload_n 1, 1) := by decide +kernel
theorem J_HPen_drawPicture_d1 : decode J_HPen_drawPicture.2.1 1 = .ok (.iload_n 2, 1) := by decide +kernel
theorem J_HPen_drawPicture_d2 : decode J_HPen_drawPicture.2.1 2 = .ok (.iconst 5, 1) := by decide +kernel
theorem J_HPen_drawPicture_d3 : decode J_HPen_drawPicture.2.1 3 = .ok (.invokevirtual 39, 3) := by decide +kernel
theorem J_HPen_drawPicture_d6 : decode J_HPen_drawPicture.2.1 6 = .ok (.istore_n 3, 1) := by decide +kernel
theorem J_HPen_drawPicture_d7 : decode J_HPen_drawPicture.2.1 7 = .ok (.iload_n 3, 1) := by decide +kernel
theorem J_HPen_drawPicture_d8 : decode J_HPen_drawPicture.2.1 8 = .ok (.bipush 7, 2) := by decide +kernel
theorem J_HPen_drawPicture_d10 : decode J_HPen_drawPicture.2.1 10 = .ok (.iadd, 1) := by decide +kernel
theorem J_HPen_drawPicture_d11 : decode J_HPen_drawPicture.2.1 11 = .ok (.bipush 8, 2) := by decide +kernel
theorem J_HPen_drawPicture_d13 : decode J_HPen_drawPicture.2.1 13 = .ok (.idiv, 1) := by decide +kernel
theorem J_HPen_drawPicture_d14 : decode J_HPen_drawPicture.2.1 14 = .ok (.istore 4, 2) := by decide +kernel
theorem J_HPen_drawPicture_d16 : decode J_HPen_drawPicture.2.1 16 = .ok (.aload_n 1, 1) := by decide +kernel
theorem J_HPen_drawPicture_d17 : decode J_HPen_drawPicture.2.1 17 = .ok (.iload_n 2, 1) := by decide +kernel
theorem J_HPen_drawPicture_d18 : decode J_HPen_drawPicture.2.1 18 = .ok (.bipush 8, 2) := by decide +kernel
theorem J_HPen_drawPicture_d20 : decode J_HPen_drawPicture.2.1 20 = .ok (.invokevirtual 39, 3) := by decide +kernel
theorem J_HPen_drawPicture_d23 : decode J_HPen_drawPicture.2.1 23 = .ok (.iload 4, 2) := by decide +kernel
theorem J_HPen_drawPicture_d25 : decode J_HPen_drawPicture.2.1 25 = .ok (.idiv, 1) := by decide +kernel
theorem J_HPen_drawPicture_d26 : decode J_HPen_drawPicture.2.1 26 = .ok (.istore 5, 2) := by decide +kernel
theorem J_HPen_drawPicture_d28 : decode J_HPen_drawPicture.2.1 28 = .ok (.iconst 0, 1) := by decide +kernel
theorem J_HPen_drawPicture_d29 : decode J_HPen_drawPicture.2.1 29 = .ok (.istore 6, 2) := by decide +kernel
theorem J_HPen_drawPicture_d31 : decode J_HPen_drawPicture.2.1 31 = .ok (.iload 6, 2) := by decide +kernel
theorem J_HPen_drawPicture_d33 : decode J_HPen_drawPicture.2.1 33 = .ok (.iload 5, 2) := by decide +kernel
theorem J_HPen_drawPicture_d35 : decode J_HPen_drawPicture.2.1 35 = .ok (.if_icmp .ge 93, 3) := by decide +kernel
theorem J_HPen_drawPicture_d38 : decode J_HPen_drawPicture.2.1 38 = .ok (.iconst 0, 1) := by decide +kernel
theorem J_HPen_drawPicture_d39 : decode J_HPen_drawPicture.2.1 39 = .ok (.istore 7, 2) := by decide +kernel
theorem J_HPen_drawPicture_d41 : decode J_HPen_drawPicture.2.1 41 = .ok (.iload 7, 2) := by decide +kernel
theorem J_HPen_drawPicture_d43 : decode J_HPen_drawPicture.2.1 43 = .ok (.iload_n 3, 1) := by decide +kernel
theorem J_HPen_drawPicture_d44 : decode J_HPen_drawPicture.2.1 44 = .ok (.if_icmp .ge 78, 3) := by decide +kernel
theorem J_HPen_drawPicture_d47 : decode J_HPen_drawPicture.2.1 47 = .ok (.aload_n 1, 1) := by decide +kernel
theorem J_HPen_drawPicture_d48 : decode J_HPen_drawPicture.2.1 48 = .ok (.iload_n 2, 1) := by decide +kernel
theorem J_HPen_drawPicture_d49 : decode J_HPen_drawPicture.2.1 49 = .ok (.iload 6, 2) := by decide +kernel
theorem J_HPen_drawPicture_d51 : decode J_HPen_drawPicture.2.1 51 = .ok (.iload 4, 2) := by decide +kernel
theorem J_HPen_drawPicture_d53 : decode J_HPen_drawPicture.2.1 53 = .ok (.imul, 1) := by decide +kernel
theorem J_HPen_drawPicture_d54 : decode J_HPen_drawPicture.2.1 54 = .ok (.iload 7, 2) := by decide +kernel
theorem J_HPen_drawPicture_d56 : decode J_HPen_drawPicture.2.1 56 = .ok (.bipush 8, 2) := by decide +kernel
theorem J_HPen_drawPicture_d58 : decode J_HPen_drawPicture.2.1 58 = .ok (.idiv, 1) := by decide +kernel
theorem J_HPen_drawPicture_d59 : decode J_HPen_drawPicture.2.1 59 = .ok (.iadd, 1) := by decide +kernel
theorem J_HPen_drawPicture_d60 : decode J_HPen_drawPicture.2.1 60 = .ok (.invokevirtual 111, 3) := by decide +kernel
theorem J_HPen_drawPicture_d63 : decode J_HPen_drawPicture.2.1 63 = .ok (.istore 8, 2) := by decide +kernel
theorem J_HPen_drawPicture_d65 : decode J_HPen_drawPicture.2.1 65 = .ok (.iload 8, 2) := by decide +kernel
theorem J_HPen_drawPicture_d67 : decode J_HPen_drawPicture.2.1 67 = .ok (.bipush 7, 2) := by decide +kernel
theorem J_HPen_drawPicture_d69 : decode J_HPen_drawPicture.2.1 69 = .ok (.iload 7, 2) := by decide +kernel
theorem J_HPen_drawPicture_d71 : decode J_HPen_drawPicture.2.1 71 = .ok (.bipush 8, 2) := by decide +kernel
theorem J_HPen_drawPicture_d73 : decode J_HPen_drawPicture.2.1 73 = .ok (.irem, 1) := by decide +kernel
theorem J_HPen_drawPicture_d74 : decode J_HPen_drawPicture.2.1 74 = .ok (.isub, 1) := by decide +kernel
theorem J_HPen_drawPicture_d75 : decode J_HPen_drawPicture.2.1 75 = .ok (.ishr, 1) := by decide +kernel
theorem J_HPen_drawPicture_d76 : decode J_HPen_drawPicture.2.1 76 = .ok (.iconst 1, 1) := by decide +kernel
theorem J_HPen_drawPicture_d77 : decode J_HPen_drawPicture.2.1 77 = .ok (.iand, 1) := by decide +kernel
theorem J_HPen_drawPicture_d78 : decode J_HPen_drawPicture.2.1 78 = .ok (.ifCond .eq 38, 3) := by decide +kernel
theorem J_HPen_drawPicture_d81 : decode J_HPen_drawPicture.2.1 81 = .ok (.aload_n 0, 1) := by decide +kernel
theorem J_HPen_drawPicture_d82 : decode J_HPen_drawPicture.2.1 82 = .ok (.getfield 19, 3) := by decide +kernel
theorem J_HPen_drawPicture_d85 : decode J_HPen_drawPicture.2.1 85 = .ok (.aload_n 0, 1) := by decide +kernel
theorem J_HPen_drawPicture_d86 : decode J_HPen_drawPicture.2.1 86 = .ok (.getfield 43, 3) := by decide +kernel
theorem J_HPen_drawPicture_d89 : decode J_HPen_drawPicture.2.1 89 = .ok (.iload 7, 2) := by decide +kernel
theorem J_HPen_drawPicture_d91 : decode J_HPen_drawPicture.2.1 91 = .ok (.iadd, 1) := by decide +kernel
theorem J_HPen_drawPicture_d92 : decode J_HPen_drawPicture.2.1 92 = .ok (.aload_n 0, 1) := by decide +kernel
theorem J_HPen_drawPicture_d93 : decode J_HPen_drawPicture.2.1 93 = .ok (.getfield 47, 3) := by decide +kernel
theorem J_HPen_drawPicture_d96 : decode J_HPen_drawPicture.2.1 96 = .ok (.iload 6, 2) := by decide +kernel
theorem J_HPen_drawPicture_d98 : decode J_HPen_drawPicture.2.1 98 = .ok (.iadd, 1) := by decide +kernel
theorem J_HPen_drawPicture_d99 : decode J_HPen_drawPicture.2.1 99 = .ok (.aload_n 0, 1) := by decide +kernel
theorem J_HPen_drawPicture_d100 : decode J_HPen_drawPicture.2.1 100 = .ok (.getfield 43, 3) := by decide +kernel
theorem J_HPen_drawPicture_d103 : decode J_HPen_drawPicture.2.1 103 = .ok (.iload 7, 2) := by decide +kernel
theorem J_HPen_drawPicture_d105 : decode J_HPen_drawPicture.2.1 105 = .ok (.iadd, 1) := by decide +kernel
theorem J_HPen_drawPicture_d106 : decode J_HPen_drawPicture.2.1 106 = .ok (.aload_n 0, 1) := by decide +kernel
theorem J_HPen_drawPicture_d107 : decode J_HPen_drawPicture.2.1 107 = .ok (.getfield 47, 3) := by decide +kernel
theorem J_HPen_drawPicture_d110 : decode J_HPen_drawPicture.2.1 110 = .ok (.iload 6, 2) := by decide +kernel
theorem J_HPen_drawPicture_d112 : decode J_HPen_drawPicture.2.1 112 = .ok (.iadd, 1) := by decide +kernel
theorem J_HPen_drawPicture_d113 : decode J_HPen_drawPicture.2.1 113 = .ok (.invokevirtual 107, 3) := by decide +kernel
theorem J_HPen_drawPicture_d116 : decode J_HPen_drawPicture.2.1 116 = .ok (.iinc 7 1, 3) := by decide +kernel
theorem J_HPen_drawPicture_d119 : decode J_HPen_drawPicture.2.1 119 = .ok (.goto (-78), 3) := by decide +kernel
theorem J_HPen_drawPicture_d122 : decode J_HPen_drawPicture.2.1 122 = .ok (.iinc 6 1, 3) := by decide +kernel
theorem J_HPen_drawPicture_d125 : decode J_HPen_drawPicture.2.1 125 = .ok (.goto (-94), 3) := by decide +kernel
theorem J_HPen_drawPicture_d128 : decode J_HPen_drawPicture.2.1 128 = .ok (.return_, 1) := by decide +kernel
theorem f_HPen_drawPicture_ok {L : Nat} {xs : Nat → Int32} {dep : Nat} {w : Bool} {p1 : Int32} {M : im_M} {Q : im_M → Prop} (hM : lw_S w M) (h : ed (f_HPen_drawPicture w p1 M) Q) : ia (tb_G L xs) (dep + 2) J_HPen_drawPicture (rwV w Q) (0, lv_args 0 [.ref 56, .ref 11, .int p1], [], M) := by
  have hS : im_St (tb_G L xs) (dep + 2) J_HPen_drawPicture (ia (tb_G L xs) (dep + 2) J_HPen_drawPicture (rwV w Q)) := ia_St
  unfold f_HPen_drawPicture at h
  have l0 : im_lk (lv_args 0 [.ref 56, .ref 11, .int p1]) 0 = some (.ref 56) := rfl
  have l1 : im_lk (lv_args 0 [.ref 56, .ref 11, .int p1]) 1 = some (.ref 11) := rfl
  have l2 : im_lk (lv_args 0 [.ref 56, .ref 11, .int p1]) 2 = some (.int p1) := rfl
  refine iq_aload_n hS 1 J_HPen_drawPicture_d0 l1 rfl ?_
  refine iq_iload_n hS 2 J_HPen_drawPicture_d1 l2 rfl ?_
  refine iq_iconst hS 3 J_HPen_drawPicture_d2 (v := 5) (by decide +kernel) rfl ?_
  obtain ⟨Q1, hQ1, h⟩ := bd1_ed h
  refine iq_cpI hS 6 J_HPen_drawPicture_d3 rfl (pr_inst (vs := [_, _]) lc_6_39 lT_77 rfl rfl (by decide) (by decide) rfl (Nat.le_of_ble_eq_true rfl) (Nat.le_of_ble_eq_true rfl) (fun _ => Or.inl (pr_b (ka_11 hM) (by decide) rfl))) (f_HOrders_value_1_ok (dep := dep + 1) hM h) rfl ?_
  intro x1 h
  replace h := hQ1 _ h
  refine iq_istore_n hS 7 J_HPen_drawPicture_d6 (by decide) rfl ?_
  refine iq_iload_n hS 8 J_HPen_drawPicture_d7 lk_1s rfl ?_
  refine iq_bipush hS 10 J_HPen_drawPicture_d8 (v := 7) (by decide +kernel) rfl ?_
  refine iq_iadd hS 11 J_HPen_drawPicture_d10 rfl ?_
  refine iq_bipush hS 13 J_HPen_drawPicture_d11 (v := 8) (by decide +kernel) rfl ?_
  refine iq_idiv hS 14 J_HPen_drawPicture_d13 (by decide) rfl ?_
  refine iq_istore hS 16 J_HPen_drawPicture_d14 (by decide) rfl ?_
  refine iq_aload_n hS 17 J_HPen_drawPicture_d16 (lk_1r (lk_1r l1 (by decide)) (by decide)) rfl ?_
  refine iq_iload_n hS 18 J_HPen_drawPicture_d17 (lk_1i (lk_1i l2 (by decide)) (by decide)) rfl ?_
  refine iq_bipush hS 20 J_HPen_drawPicture_d18 (v := 8) (by decide +kernel) rfl ?_
  obtain ⟨Q2, hQ2, h⟩ := bd1_ed h
  refine iq_cpI hS 23 J_HPen_drawPicture_d20 rfl (pr_inst (vs := [_, _]) lc_6_39 lT_77 rfl rfl (by decide) (by decide) rfl (Nat.le_of_ble_eq_true rfl) (Nat.le_of_ble_eq_true rfl) (fun _ => Or.inl (pr_b (ka_11 hM) (by decide) rfl))) (f_HOrders_value_1_ok (dep := dep + 1) hM h) rfl ?_
  intro x2 h
  replace h := hQ2 _ h
  refine iq_iload hS 25 J_HPen_drawPicture_d23 lk_1s rfl ?_
  obtain ⟨g25, h⟩ := ed_gd h
  refine iq_idiv hS 26 J_HPen_drawPicture_d25 g25 rfl ?_
  refine iq_istore hS 28 J_HPen_drawPicture_d26 (by decide) rfl ?_
  refine iq_iconst hS 29 J_HPen_drawPicture_d28 (v := 0) (by decide +kernel) rfl ?_
  refine iq_istore hS 31 J_HPen_drawPicture_d29 (by decide) rfl ?_
  obtain ⟨Q3, hQ3, h⟩ := bd1_ed h
  have K3 : ∀ (M4 : im_M) (L' : List (Nat × Value)), lw_S w M4 → Q3 M4 → ia (tb_G L xs) (dep + 2) J_HPen_drawPicture (rwV w Q) (128, L', [], M4) := by
    intro M4 L' hM4  h
    replace h := hQ3 _ h
    exact iq_ret J_HPen_drawPicture_d128 rfl ⟨rfl, hM4, ed_some h⟩
  obtain ⟨r3, hr3, hq3⟩ := h
  obtain ⟨n3, hn3⟩ := lp_n hr3
  have I3 : ∀ (n : Nat) (x5 : Int32) (M6 : im_M) (L' : List (Nat × Value)), lw_S w M6 → im_lk L' 0 = some (.ref 56) → im_lk L' 1 = some (.ref 11) → im_lk L' 2 = some (.int p1) → im_lk L' 3 = some (.int x1) → im_lk L' 4 = some (.int ((x1 + 7) / 8)) → im_lk L' 5 = some (.int (x2 / ((x1 + 7) / 8))) → im_lk L' 6 = some (.int x5) → lpn (uc2 (f_HPen_drawPicture_L31 w p1 x1 ((x1 + 7) / 8) (x2 / ((x1 + 7) / 8)))) n (x5, M6) = some r3 → ia (tb_G L xs) (dep + 2) J_HPen_drawPicture (rwV w Q) (31, L', [], M6) := by
    intro n
    induction n with
    | zero => intro x5 M6 L' hM6 l7 l8 l9 l10 l11 l12 l13 hn; exact (lpn_0 hn).elim
    | succ n ih =>
      intro x5 M6 L' hM6 l7 l8 l9 l10 l11 l12 l13 hn
      have h := lpn_ed2 hn
      unfold f_HPen_drawPicture_L31 at h
      refine iq_iload hS 33 J_HPen_drawPicture_d31 l13 rfl ?_
      refine iq_iload hS 35 J_HPen_drawPicture_d33 l12 rfl ?_
      refine iq_icmp_ge hS 38 J_HPen_drawPicture_d35 (t := 128) rfl (fun q35 => ?_) rfl (fun q35 => ?_)
      · replace h := ed_pos q35 h
        exact K3 _ _ hM6  (lq_r h hq3)
      · replace h := ed_neg q35 h
        refine iq_iconst hS 39 J_HPen_drawPicture_d38 (v := 0) (by decide +kernel) rfl ?_
        refine iq_istore hS 41 J_HPen_drawPicture_d39 (by decide) rfl ?_
        obtain ⟨Q14, hQ14, h⟩ := bd1_ed h
        have K14 : ∀ (M15 : im_M) (L' : List (Nat × Value)), lw_S w M15 → im_lk L' 0 = some (.ref 56) → im_lk L' 1 = some (.ref 11) → im_lk L' 2 = some (.int p1) → im_lk L' 3 = some (.int x1) → im_lk L' 4 = some (.int ((x1 + 7) / 8)) → im_lk L' 5 = some (.int (x2 / ((x1 + 7) / 8))) → im_lk L' 6 = some (.int x5) → Q14 M15 → ia (tb_G L xs) (dep + 2) J_HPen_drawPicture (rwV w Q) (122, L', [], M15) := by
          intro M15 L' hM15 l16 l17 l18 l19 l20 l21 l22 h
          replace h := hQ14 _ h
          refine iq_iincv hS 125 J_HPen_drawPicture_d122 (c := 1) (by decide +kernel) l22 (by decide) rfl ?_
          refine iq_goto hS J_HPen_drawPicture_d125 (t := 31) rfl ?_
          exact ih _ _ _ hM15 (lk_1r l16 (by decide)) (lk_1r l17 (by decide)) (lk_1i l18 (by decide)) (lk_1i l19 (by decide)) (lk_1i l20 (by decide)) (lk_1i l21 (by decide)) lk_1s (lq_l h)
        obtain ⟨r14, hr14, hq14⟩ := h
        obtain ⟨n14, hn14⟩ := lp_n hr14
        have I14 : ∀ (n : Nat) (x23 : Int32) (M24 : im_M) (L' : List (Nat × Value)), lw_S w M24 → im_lk L' 0 = some (.ref 56) → im_lk L' 1 = some (.ref 11) → im_lk L' 2 = some (.int p1) → im_lk L' 3 = some (.int x1) → im_lk L' 4 = some (.int ((x1 + 7) / 8)) → im_lk L' 5 = some (.int (x2 / ((x1 + 7) / 8))) → im_lk L' 6 = some (.int x5) → im_lk L' 7 = some (.int x23) → lpn (uc2 (f_HPen_drawPicture_L41 w p1 x1 ((x1 + 7) / 8) (x2 / ((x1 + 7) / 8)) x5)) n (x23, M24) = some r14 → ia (tb_G L xs) (dep + 2) J_HPen_drawPicture (rwV w Q) (41, L', [], M24) := by
          intro n
          induction n with
          | zero => intro x23 M24 L' hM24 l25 l26 l27 l28 l29 l30 l31 l32 hn; exact (lpn_0 hn).elim
          | succ n ih =>
            intro x23 M24 L' hM24 l25 l26 l27 l28 l29 l30 l31 l32 hn
            have h := lpn_ed2 hn
            unfold f_HPen_drawPicture_L41 at h
            refine iq_iload hS 43 J_HPen_drawPicture_d41 l32 rfl ?_
            refine iq_iload_n hS 44 J_HPen_drawPicture_d43 l28 rfl ?_
            refine iq_icmp_ge hS 47 J_HPen_drawPicture_d44 (t := 122) rfl (fun q44 => ?_) rfl (fun q44 => ?_)
            · replace h := ed_pos q44 h
              exact K14 _ _ hM24 l25 l26 l27 l28 l29 l30 l31 (lq_r h hq14)
            · replace h := ed_neg q44 h
              refine iq_aload_n hS 48 J_HPen_drawPicture_d47 l26 rfl ?_
              refine iq_iload_n hS 49 J_HPen_drawPicture_d48 l27 rfl ?_
              refine iq_iload hS 51 J_HPen_drawPicture_d49 l31 rfl ?_
              refine iq_iload hS 53 J_HPen_drawPicture_d51 l29 rfl ?_
              refine iq_imul hS 54 J_HPen_drawPicture_d53 rfl ?_
              refine iq_iload hS 56 J_HPen_drawPicture_d54 l32 rfl ?_
              refine iq_bipush hS 58 J_HPen_drawPicture_d56 (v := 8) (by decide +kernel) rfl ?_
              refine iq_idiv hS 59 J_HPen_drawPicture_d58 (by decide) rfl ?_
              refine iq_iadd hS 60 J_HPen_drawPicture_d59 rfl ?_
              obtain ⟨Q33, hQ33, h⟩ := bd1_ed h
              refine iq_cpI hS 63 J_HPen_drawPicture_d60 rfl (pr_inst (vs := [_, _]) lc_6_111 lT_110 rfl rfl (by decide) (by decide) rfl (Nat.le_of_ble_eq_true rfl) (Nat.le_of_ble_eq_true rfl) (fun _ => Or.inl (pr_b (ka_11 hM24) (by decide) rfl))) (f_HOrders_byteAt_ok (dep := dep + 1) hM24 h) rfl ?_
              intro x33 h
              replace h := hQ33 _ h
              refine iq_istore hS 65 J_HPen_drawPicture_d63 (by decide) rfl ?_
              refine iq_iload hS 67 J_HPen_drawPicture_d65 lk_1s rfl ?_
              refine iq_bipush hS 69 J_HPen_drawPicture_d67 (v := 7) (by decide +kernel) rfl ?_
              refine iq_iload hS 71 J_HPen_drawPicture_d69 (lk_1i l32 (by decide)) rfl ?_
              refine iq_bipush hS 73 J_HPen_drawPicture_d71 (v := 8) (by decide +kernel) rfl ?_
              refine iq_irem hS 74 J_HPen_drawPicture_d73 (by decide) rfl ?_
              refine iq_isub hS 75 J_HPen_drawPicture_d74 rfl ?_
              refine iq_ishr hS 76 J_HPen_drawPicture_d75 rfl ?_
              refine iq_iconst hS 77 J_HPen_drawPicture_d76 (v := 1) (by decide +kernel) rfl ?_
              refine iq_iand hS 78 J_HPen_drawPicture_d77 rfl ?_
              obtain ⟨Q34, hQ34, h⟩ := bd1_ed h
              have J34 : ∀ (M36 : im_M) (L' : List (Nat × Value)), lw_S w M36 → im_lk L' 0 = some (.ref 56) → im_lk L' 1 = some (.ref 11) → im_lk L' 2 = some (.int p1) → im_lk L' 3 = some (.int x1) → im_lk L' 4 = some (.int ((x1 + 7) / 8)) → im_lk L' 5 = some (.int (x2 / ((x1 + 7) / 8))) → im_lk L' 6 = some (.int x5) → im_lk L' 7 = some (.int x23) → Q34 M36 → ia (tb_G L xs) (dep + 2) J_HPen_drawPicture (rwV w Q) (116, L', [], M36) := by
                intro M36 L' hM36 l37 l38 l39 l40 l41 l42 l43 l44 h
                replace h := hQ34 _ h
                refine iq_iincv hS 119 J_HPen_drawPicture_d116 (c := 1) (by decide +kernel) l44 (by decide) rfl ?_
                refine iq_goto hS J_HPen_drawPicture_d119 (t := 41) rfl ?_
                exact ih _ _ _ hM36 (lk_1r l37 (by decide)) (lk_1r l38 (by decide)) (lk_1i l39 (by decide)) (lk_1i l40 (by decide)) (lk_1i l41 (by decide)) (lk_1i l42 (by decide)) (lk_1i l43 (by decide)) lk_1s (lq_l h)
              refine iq_if_eq hS 81 J_HPen_drawPicture_d78 (t := 116) rfl (fun q78 => ?_) rfl (fun q78 => ?_)
              · replace h := ed_pos q78 h
                exact J34 _ _ hM24 (lk_1r l25 (by decide)) (lk_1r l26 (by decide)) (lk_1i l27 (by decide)) (lk_1i l28 (by decide)) (lk_1i l29 (by decide)) (lk_1i l30 (by decide)) (lk_1i l31 (by decide)) (lk_1i l32 (by decide)) (ed_some h)
              · replace h := ed_neg q78 h
                refine iq_aload_n hS 82 J_HPen_drawPicture_d81 (lk_1r l25 (by decide)) rfl ?_
                refine iq_getR hS 85 J_HPen_drawPicture_d82 lf_6_19 (Or.inl ⟨_, rfl⟩) (ka_56 hM24) (ra_56_0 hM24) rfl ?_
                refine iq_aload_n hS 86 J_HPen_drawPicture_d85 (lk_1r l25 (by decide)) rfl ?_
                refine iq_getI hS 89 J_HPen_drawPicture_d86 lf_6_43 (Or.inl rfl) (ka_56 hM24) rfl ?_
                refine iq_iload hS 91 J_HPen_drawPicture_d89 (lk_1i l32 (by decide)) rfl ?_
                refine iq_iadd hS 92 J_HPen_drawPicture_d91 rfl ?_
                refine iq_aload_n hS 93 J_HPen_drawPicture_d92 (lk_1r l25 (by decide)) rfl ?_
                refine iq_getI hS 96 J_HPen_drawPicture_d93 lf_6_47 (Or.inl rfl) (ka_56 hM24) rfl ?_
                refine iq_iload hS 98 J_HPen_drawPicture_d96 (lk_1i l31 (by decide)) rfl ?_
                refine iq_iadd hS 99 J_HPen_drawPicture_d98 rfl ?_
                refine iq_aload_n hS 100 J_HPen_drawPicture_d99 (lk_1r l25 (by decide)) rfl ?_
                refine iq_getI hS 103 J_HPen_drawPicture_d100 lf_6_43 (Or.inl rfl) (ka_56 hM24) rfl ?_
                refine iq_iload hS 105 J_HPen_drawPicture_d103 (lk_1i l32 (by decide)) rfl ?_
                refine iq_iadd hS 106 J_HPen_drawPicture_d105 rfl ?_
                refine iq_aload_n hS 107 J_HPen_drawPicture_d106 (lk_1r l25 (by decide)) rfl ?_
                refine iq_getI hS 110 J_HPen_drawPicture_d107 lf_6_47 (Or.inl rfl) (ka_56 hM24) rfl ?_
                refine iq_iload hS 112 J_HPen_drawPicture_d110 (lk_1i l31 (by decide)) rfl ?_
                refine iq_iadd hS 113 J_HPen_drawPicture_d112 rfl ?_
                obtain ⟨Q35, hQ35, h⟩ := bd1_ed h
                refine iq_cwV hS 116 J_HPen_drawPicture_d113 rfl (pr_inst (vs := [_, _, _, _]) lc_6_107 lT_113 rfl rfl (by decide) (by decide) rfl (Nat.le_of_ble_eq_true rfl) (Nat.le_of_ble_eq_true rfl) (fun _ => Or.inl (pr_b (ka_28 hM24) (by decide) rfl))) (f_HSheet_box_ok (dep := dep + 0) hM24 h) rfl ?_
                intro M35 hM35 h
                replace h := hQ35 _ h
                exact J34 _ _ hM35 (lk_1r l25 (by decide)) (lk_1r l26 (by decide)) (lk_1i l27 (by decide)) (lk_1i l28 (by decide)) (lk_1i l29 (by decide)) (lk_1i l30 (by decide)) (lk_1i l31 (by decide)) (lk_1i l32 (by decide)) (ed_some h)
        exact I14 n14 _ _ _ hM6 (lk_1r l7 (by decide)) (lk_1r l8 (by decide)) (lk_1i l9 (by decide)) (lk_1i l10 (by decide)) (lk_1i l11 (by decide)) (lk_1i l12 (by decide)) (lk_1i l13 (by decide)) lk_1s hn14
  exact I3 n3 _ _ _ hM (lk_1r (lk_1r (lk_1r (lk_1r l0 (by decide)) (by decide)) (by decide)) (by decide)) (lk_1r (lk_1r (lk_1r (lk_1r l1 (by decide)) (by decide)) (by decide)) (by decide)) (lk_1i (lk_1i (lk_1i (lk_1i l2 (by decide)) (by decide)) (by decide)) (by decide)) (lk_1i (lk_1i (lk_1i lk_1s (by decide)) (by decide)) (by decide)) (lk_1i (lk_1i lk_1s (by decide)) (by decide)) (lk_1i lk_1s (by decide)) lk_1s hn3
noncomputable def f_HPen_follow (w : Bool) (p1 : Int32) (M : im_M) : Option (Int32 × im_M) := bd1 (f_HOrders_value_1 p1 1 M) fun (x1 : Int32) => bd1 (f_HOrders_value_1 p1 2 (im_setI M 56 5 x1)) fun (x2 : Int32) => bd1 (f_HOrders_value_1 p1 3 (im_setI (im_setI M 56 5 x1) 56 6 x2)) fun (x3 : Int32) => bd1 (f_HOrders_value_1 p1 4 (im_setI (im_setI (im_setI M 56 5 x1) 56 6 x2) 56 7 x3)) fun (x4 : Int32) => gd (((if ¬ x4 = 2 then 0 else 1) : Int32) = 0 ∨ ((if ¬ x4 = 2 then 0 else 1) : Int32) = 1) <| bd1 (f_HOrders_value_1 p1 5 (im_setI (im_setI (im_setI (im_setI (im_setI M 56 5 x1) 56 6 x2) 56 7 x3) 28 2 ((if ¬ x4 = 2 then 0 else 1) : Int32)) 28 3 0)) fun (x6 : Int32) => bd1 (f_HOrders_value_1 p1 6 (im_setI (im_setI (im_setI (im_setI (im_setI M 56 5 x1) 56 6 x2) 56 7 x3) 28 2 ((if ¬ x4 = 2 then 0 else 1) : Int32)) 28 3 0)) fun (x7 : Int32) => bd1 (f_HOrders_value_1 p1 7 (im_setI (im_setI (im_setI (im_setI (im_setI M 56 5 x1) 56 6 x2) 56 7 x3) 28 2 ((if ¬ x4 = 2 then 0 else 1) : Int32)) 28 3 0)) fun (x8 : Int32) => bd1 (f_HOrders_value_1 p1 0 (im_setI (im_setI (im_setI (im_setI (im_setI M 56 5 x1) 56 6 x2) 56 7 x3) 28 2 ((if ¬ x4 = 2 then 0 else 1) : Int32)) 28 3 0)) fun (x9 : Int32) => bd2 (if x9 = 0 then bd1 (f_HPen_drawText w p1 (im_setI (im_setI (im_setI (im_setI (im_setI M 56 5 x1) 56 6 x2) 56 7 x3) 28 2 ((if ¬ x4 = 2 then 0 else 1) : Int32)) 28 3 0)) fun (M11 : im_M) => some (1, M11) else if x9 = 1 then bd1 (f_HOrders_value_1 p1 8 (im_setI (im_setI (im_setI (im_setI (im_setI M 56 5 x1) 56 6 x2) 56 7 x3) 28 2 ((if ¬ x4 = 2 then 0 else 1) : Int32)) 28 3 0)) fun (x12 : Int32) => bd2 (f_HBars_layText (p1 * 200) x12 (im_setI (im_setI (im_setI (im_setI (im_setI M 56 5 x1) 56 6 x2) 56 7 x3) 28 2 ((if ¬ x4 = 2 then 0 else 1) : Int32)) 28 3 0)) fun (x13 : Int32) (M13 : im_M) => bd1 (f_HPen_drawBars w x13 x6 x7 M13) fun (M14 : im_M) => some (x13, M14) else if x9 = 2 then bd1 (f_HBars_layFigures (p1 * 200) (im_setI (im_setI (im_setI (im_setI (im_setI M 56 5 x1) 56 6 x2) 56 7 x3) 28 2 ((if ¬ x4 = 2 then 0 else 1) : Int32)) 28 3 0)) fun (M15 : im_M) => bd1 (f_HPen_drawBars w 1 x6 x7 M15) fun (M16 : im_M) => some (1, M16) else if x9 = 3 then bd1 (f_HOrders_value_1 p1 8 (im_setI (im_setI (im_setI (im_setI (im_setI M 56 5 x1) 56 6 x2) 56 7 x3) 28 2 ((if ¬ x4 = 2 then 0 else 1) : Int32)) 28 3 0)) fun (x17 : Int32) => bd2 (f_HGrid_make (p1 * 200) x17 x7 x8 (im_setI (im_setI (im_setI (im_setI (im_setI M 56 5 x1) 56 6 x2) 56 7 x3) 28 2 ((if ¬ x4 = 2 then 0 else 1) : Int32)) 28 3 0)) fun (x18 : Int32) (M18 : im_M) => bd1 (f_HPen_drawSquare w x18 x6 M18) fun (M19 : im_M) => some (x18, M19) else if x9 = 4 then bd1 (f_HPen_drawFrame w x6 x7 x8 (im_setI (im_setI (im_setI (im_setI (im_setI M 56 5 x1) 56 6 x2) 56 7 x3) 28 2 ((if ¬ x4 = 2 then 0 else 1) : Int32)) 28 3 0)) fun (M20 : im_M) => some (1, M20) else if x9 = 5 then bd1 (f_HPen_drawEllipse w x6 x7 x8 (im_setI (im_setI (im_setI (im_setI (im_setI M 56 5 x1) 56 6 x2) 56 7 x3) 28 2 ((if ¬ x4 = 2 then 0 else 1) : Int32)) 28 3 0)) fun (M21 : im_M) => some (1, M21) else if x9 = 6 then bd1 (f_HPen_drawLine w x6 x7 x8 (im_setI (im_setI (im_setI (im_setI (im_setI M 56 5 x1) 56 6 x2) 56 7 x3) 28 2 ((if ¬ x4 = 2 then 0 else 1) : Int32)) 28 3 0)) fun (M22 : im_M) => some (1, M22) else bd1 (f_HPen_drawPicture w p1 (im_setI (im_setI (im_setI (im_setI (im_setI M 56 5 x1) 56 6 x2) 56 7 x3) 28 2 ((if ¬ x4 = 2 then 0 else 1) : Int32)) 28 3 0)) fun (M23 : im_M) => some (1, M23)) fun (y24 : Int32) (M25 : im_M) => if y24 = 0 then some ((-1), M25) else some ((im_i M25 28 3), M25)
theorem J_HPen_follow_d0 : decode J_HPen_follow.2.1 0 = .ok (.aload_n 0, 1) := by decide +kernel
theorem J_HPen_follow_d1 : decode J_HPen_follow.2.1 1 = .ok (.aload_n 1, 1) := by decide +kernel
theorem J_HPen_follow_d2 : decode J_HPen_follow.2.1 2 = .ok (.iload_n 2, 1) := by decide +kernel
theorem J_HPen_follow_d3 : decode J_HPen_follow.2.1 3 = .ok (.iconst 1, 1) := by decide +kernel
theorem J_HPen_follow_d4 : decode J_HPen_follow.2.1 4 = .ok (.invokevirtual 39, 3) := by decide +kernel
theorem J_HPen_follow_d7 : decode J_HPen_follow.2.1 7 = .ok (.putfield 43, 3) := by decide +kernel
theorem J_HPen_follow_d10 : decode J_HPen_follow.2.1 10 = .ok (.aload_n 0, 1) := by decide +kernel
theorem J_HPen_follow_d11 : decode J_HPen_follow.2.1 11 = .ok (.aload_n 1, 1) := by decide +kernel
theorem J_HPen_follow_d12 : decode J_HPen_follow.2.1 12 = .ok (.iload_n 2, 1) := by decide +kernel
theorem J_HPen_follow_d13 : decode J_HPen_follow.2.1 13 = .ok (.iconst 2, 1) := by decide +kernel
theorem J_HPen_follow_d14 : decode J_HPen_follow.2.1 14 = .ok (.invokevirtual 39, 3) := by decide +kernel
theorem J_HPen_follow_d17 : decode J_HPen_follow.2.1 17 = .ok (.putfield 47, 3) := by decide +kernel
theorem J_HPen_follow_d20 : decode J_HPen_follow.2.1 20 = .ok (.aload_n 0, 1) := by decide +kernel
theorem J_HPen_follow_d21 : decode J_HPen_follow.2.1 21 = .ok (.aload_n 1, 1) := by decide +kernel
theorem J_HPen_follow_d22 : decode J_HPen_follow.2.1 22 = .ok (.iload_n 2, 1) := by decide +kernel
theorem J_HPen_follow_d23 : decode J_HPen_follow.2.1 23 = .ok (.iconst 3, 1) := by decide +kernel
theorem J_HPen_follow_d24 : decode J_HPen_follow.2.1 24 = .ok (.invokevirtual 39, 3) := by decide +kernel
theorem J_HPen_follow_d27 : decode J_HPen_follow.2.1 27 = .ok (.putfield 50, 3) := by decide +kernel
theorem J_HPen_follow_d30 : decode J_HPen_follow.2.1 30 = .ok (.aload_n 0, 1) := by decide +kernel
theorem J_HPen_follow_d31 : decode J_HPen_follow.2.1 31 = .ok (.getfield 19, 3) := by decide +kernel
theorem J_HPen_follow_d34 : decode J_HPen_follow.2.1 34 = .ok (.aload_n 1, 1) := by decide +kernel
theorem J_HPen_follow_d35 : decode J_HPen_follow.2.1 35 = .ok (.iload_n 2, 1) := by decide +kernel
theorem J_HPen_follow_d36 : decode J_HPen_follow.2.1 36 = .ok (.iconst 4, 1) := by decide +kernel
theorem J_HPen_follow_d37 : decode J_HPen_follow.2.1 37 = .ok (.invokevirtual 39, 3) := by decide +kernel
theorem J_HPen_follow_d40 : decode J_HPen_follow.2.1 40 = .ok (.iconst 2, 1) := by decide +kernel
theorem J_HPen_follow_d41 : decode J_HPen_follow.2.1 41 = .ok (.if_icmp .ne 7, 3) := by decide +kernel
theorem J_HPen_follow_d44 : decode J_HPen_follow.2.1 44 = .ok (.iconst 1, 1) := by decide +kernel
theorem J_HPen_follow_d45 : decode J_HPen_follow.2.1 45 = .ok (.goto 4, 3) := by decide +kernel
theorem J_HPen_follow_d48 : decode J_HPen_follow.2.1 48 = .ok (.iconst 0, 1) := by decide +kernel
theorem J_HPen_follow_d49 : decode J_HPen_follow.2.1 49 = .ok (.putfield 53, 3) := by decide +kernel
theorem J_HPen_follow_d52 : decode J_HPen_follow.2.1 52 = .ok (.aload_n 0, 1) := by decide +kernel
theorem J_HPen_follow_d53 : decode J_HPen_follow.2.1 53 = .ok (.getfield 19, 3) := by decide +kernel
theorem J_HPen_follow_d56 : decode J_HPen_follow.2.1 56 = .ok (.iconst 0, 1) := by decide +kernel
theorem J_HPen_follow_d57 : decode J_HPen_follow.2.1 57 = .ok (.putfield 59, 3) := by decide +kernel
theorem J_HPen_follow_d60 : decode J_HPen_follow.2.1 60 = .ok (.aload_n 1, 1) := by decide +kernel
theorem J_HPen_follow_d61 : decode J_HPen_follow.2.1 61 = .ok (.iload_n 2, 1) := by decide +kernel
theorem J_HPen_follow_d62 : decode J_HPen_follow.2.1 62 = .ok (.iconst 5, 1) := by decide +kernel
theorem J_HPen_follow_d63 : decode J_HPen_follow.2.1 63 = .ok (.invokevirtual 39, 3) := by decide +kernel
theorem J_HPen_follow_d66 : decode J_HPen_follow.2.1 66 = .ok (.istore_n 3, 1) := by decide +kernel
theorem J_HPen_follow_d67 : decode J_HPen_follow.2.1 67 = .ok (.aload_n 1, 1) := by decide +kernel
theorem J_HPen_follow_d68 : decode J_HPen_follow.2.1 68 = .ok (.iload_n 2, 1) := by decide +kernel
theorem J_HPen_follow_d69 : decode J_HPen_follow.2.1 69 = .ok (.bipush 6, 2) := by decide +kernel
theorem J_HPen_follow_d71 : decode J_HPen_follow.2.1 71 = .ok (.invokevirtual 39, 3) := by decide +kernel
theorem J_HPen_follow_d74 : decode J_HPen_follow.2.1 74 = .ok (.istore 4, 2) := by decide +kernel
theorem J_HPen_follow_d76 : decode J_HPen_follow.2.1 76 = .ok (.aload_n 1, 1) := by decide +kernel
theorem J_HPen_follow_d77 : decode J_HPen_follow.2.1 77 = .ok (.iload_n 2, 1) := by decide +kernel
theorem J_HPen_follow_d78 : decode J_HPen_follow.2.1 78 = .ok (.bipush 7, 2) := by decide +kernel
theorem J_HPen_follow_d80 : decode J_HPen_follow.2.1 80 = .ok (.invokevirtual 39, 3) := by decide +kernel
theorem J_HPen_follow_d83 : decode J_HPen_follow.2.1 83 = .ok (.istore 5, 2) := by decide +kernel
theorem J_HPen_follow_d85 : decode J_HPen_follow.2.1 85 = .ok (.iconst 1, 1) := by decide +kernel
theorem J_HPen_follow_d86 : decode J_HPen_follow.2.1 86 = .ok (.istore 6, 2) := by decide +kernel
theorem J_HPen_follow_d88 : decode J_HPen_follow.2.1 88 = .ok (.aload_n 1, 1) := by decide +kernel
theorem J_HPen_follow_d89 : decode J_HPen_follow.2.1 89 = .ok (.iload_n 2, 1) := by decide +kernel
theorem J_HPen_follow_d90 : decode J_HPen_follow.2.1 90 = .ok (.iconst 0, 1) := by decide +kernel
theorem J_HPen_follow_d91 : decode J_HPen_follow.2.1 91 = .ok (.invokevirtual 39, 3) := by decide +kernel
theorem J_HPen_follow_d94 : decode J_HPen_follow.2.1 94 = .ok (.tableswitch 190 0 6 #[42, 51, 88, 115, 154, 166, 178], 42) := by decide +kernel
theorem J_HPen_follow_d136 : decode J_HPen_follow.2.1 136 = .ok (.aload_n 0, 1) := by decide +kernel
theorem J_HPen_follow_d137 : decode J_HPen_follow.2.1 137 = .ok (.aload_n 1, 1) := by decide +kernel
theorem J_HPen_follow_d138 : decode J_HPen_follow.2.1 138 = .ok (.iload_n 2, 1) := by decide +kernel
theorem J_HPen_follow_d139 : decode J_HPen_follow.2.1 139 = .ok (.invokevirtual 62, 3) := by decide +kernel
theorem J_HPen_follow_d142 : decode J_HPen_follow.2.1 142 = .ok (.goto 148, 3) := by decide +kernel
theorem J_HPen_follow_d145 : decode J_HPen_follow.2.1 145 = .ok (.aload_n 0, 1) := by decide +kernel
theorem J_HPen_follow_d146 : decode J_HPen_follow.2.1 146 = .ok (.getfield 23, 3) := by decide +kernel
theorem J_HPen_follow_d149 : decode J_HPen_follow.2.1 149 = .ok (.aload_n 1, 1) := by decide +kernel
theorem J_HPen_follow_d150 : decode J_HPen_follow.2.1 150 = .ok (.getfield 66, 3) := by decide +kernel
theorem J_HPen_follow_d153 : decode J_HPen_follow.2.1 153 = .ok (.iload_n 2, 1) := by decide +kernel
theorem J_HPen_follow_d154 : decode J_HPen_follow.2.1 154 = .ok (.sipush 200, 3) := by decide +kernel
theorem J_HPen_follow_d157 : decode J_HPen_follow.2.1 157 = .ok (.imul, 1) := by decide +kernel
theorem J_HPen_follow_d158 : decode J_HPen_follow.2.1 158 = .ok (.aload_n 1, 1) := by decide +kernel
theorem J_HPen_follow_d159 : decode J_HPen_follow.2.1 159 = .ok (.iload_n 2, 1) := by decide +kernel
theorem J_HPen_follow_d160 : decode J_HPen_follow.2.1 160 = .ok (.bipush 8, 2) := by decide +kernel
theorem J_HPen_follow_d162 : decode J_HPen_follow.2.1 162 = .ok (.invokevirtual 39, 3) := by decide +kernel
theorem J_HPen_follow_d165 : decode J_HPen_follow.2.1 165 = .ok (.invokevirtual 70, 3) := by decide +kernel
theorem J_HPen_follow_d168 : decode J_HPen_follow.2.1 168 = .ok (.istore 6, 2) := by decide +kernel
theorem J_HPen_follow_d170 : decode J_HPen_follow.2.1 170 = .ok (.aload_n 0, 1) := by decide +kernel
theorem J_HPen_follow_d171 : decode J_HPen_follow.2.1 171 = .ok (.iload 6, 2) := by decide +kernel
theorem J_HPen_follow_d173 : decode J_HPen_follow.2.1 173 = .ok (.iload_n 3, 1) := by decide +kernel
theorem J_HPen_follow_d174 : decode J_HPen_follow.2.1 174 = .ok (.iload 4, 2) := by decide +kernel
theorem J_HPen_follow_d176 : decode J_HPen_follow.2.1 176 = .ok (.invokevirtual 76, 3) := by decide +kernel
theorem J_HPen_follow_d179 : decode J_HPen_follow.2.1 179 = .ok (.goto 111, 3) := by decide +kernel
theorem J_HPen_follow_d182 : decode J_HPen_follow.2.1 182 = .ok (.aload_n 0, 1) := by decide +kernel
theorem J_HPen_follow_d183 : decode J_HPen_follow.2.1 183 = .ok (.getfield 23, 3) := by decide +kernel
theorem J_HPen_follow_d186 : decode J_HPen_follow.2.1 186 = .ok (.aload_n 1, 1) := by decide +kernel
theorem J_HPen_follow_d187 : decode J_HPen_follow.2.1 187 = .ok (.getfield 66, 3) := by decide +kernel
theorem J_HPen_follow_d190 : decode J_HPen_follow.2.1 190 = .ok (.iload_n 2, 1) := by decide +kernel
theorem J_HPen_follow_d191 : decode J_HPen_follow.2.1 191 = .ok (.sipush 200, 3) := by decide +kernel
theorem J_HPen_follow_d194 : decode J_HPen_follow.2.1 194 = .ok (.imul, 1) := by decide +kernel
theorem J_HPen_follow_d195 : decode J_HPen_follow.2.1 195 = .ok (.invokevirtual 80, 3) := by decide +kernel
theorem J_HPen_follow_d198 : decode J_HPen_follow.2.1 198 = .ok (.aload_n 0, 1) := by decide +kernel
theorem J_HPen_follow_d199 : decode J_HPen_follow.2.1 199 = .ok (.iconst 1, 1) := by decide +kernel
theorem J_HPen_follow_d200 : decode J_HPen_follow.2.1 200 = .ok (.iload_n 3, 1) := by decide +kernel
theorem J_HPen_follow_d201 : decode J_HPen_follow.2.1 201 = .ok (.iload 4, 2) := by decide +kernel
theorem J_HPen_follow_d203 : decode J_HPen_follow.2.1 203 = .ok (.invokevirtual 76, 3) := by decide +kernel
theorem J_HPen_follow_d206 : decode J_HPen_follow.2.1 206 = .ok (.goto 84, 3) := by decide +kernel
theorem J_HPen_follow_d209 : decode J_HPen_follow.2.1 209 = .ok (.aload_n 0, 1) := by decide +kernel
theorem J_HPen_follow_d210 : decode J_HPen_follow.2.1 210 = .ok (.getfield 27, 3) := by decide +kernel
theorem J_HPen_follow_d213 : decode J_HPen_follow.2.1 213 = .ok (.aload_n 1, 1) := by decide +kernel
theorem J_HPen_follow_d214 : decode J_HPen_follow.2.1 214 = .ok (.getfield 66, 3) := by decide +kernel
theorem J_HPen_follow_d217 : decode J_HPen_follow.2.1 217 = .ok (.iload_n 2, 1) := by decide +kernel
theorem J_HPen_follow_d218 : decode J_HPen_follow.2.1 218 = .ok (.sipush 200, 3) := by decide +kernel
theorem J_HPen_follow_d221 : decode J_HPen_follow.2.1 221 = .ok (.imul, 1) := by decide +kernel
theorem J_HPen_follow_d222 : decode J_HPen_follow.2.1 222 = .ok (.aload_n 1, 1) := by decide +kernel
theorem J_HPen_follow_d223 : decode J_HPen_follow.2.1 223 = .ok (.iload_n 2, 1) := by decide +kernel
theorem J_HPen_follow_d224 : decode J_HPen_follow.2.1 224 = .ok (.bipush 8, 2) := by decide +kernel
theorem J_HPen_follow_d226 : decode J_HPen_follow.2.1 226 = .ok (.invokevirtual 39, 3) := by decide +kernel
theorem J_HPen_follow_d229 : decode J_HPen_follow.2.1 229 = .ok (.iload 4, 2) := by decide +kernel
theorem J_HPen_follow_d231 : decode J_HPen_follow.2.1 231 = .ok (.iload 5, 2) := by decide +kernel
theorem J_HPen_follow_d233 : decode J_HPen_follow.2.1 233 = .ok (.invokevirtual 84, 3) := by decide +kernel
theorem J_HPen_follow_d236 : decode J_HPen_follow.2.1 236 = .ok (.istore 6, 2) := by decide +kernel
theorem J_HPen_follow_d238 : decode J_HPen_follow.2.1 238 = .ok (.aload_n 0, 1) := by decide +kernel
theorem J_HPen_follow_d239 : decode J_HPen_follow.2.1 239 = .ok (.iload 6, 2) := by decide +kernel
theorem J_HPen_follow_d241 : decode J_HPen_follow.2.1 241 = .ok (.iload_n 3, 1) := by decide +kernel
theorem J_HPen_follow_d242 : decode J_HPen_follow.2.1 242 = .ok (.invokevirtual 90, 3) := by decide +kernel
theorem J_HPen_follow_d245 : decode J_HPen_follow.2.1 245 = .ok (.goto 45, 3) := by decide +kernel
theorem J_HPen_follow_d248 : decode J_HPen_follow.2.1 248 = .ok (.aload_n 0, 1) := by decide +kernel
theorem J_HPen_follow_d249 : decode J_HPen_follow.2.1 249 = .ok (.iload_n 3, 1) := by decide +kernel
theorem J_HPen_follow_d250 : decode J_HPen_follow.2.1 250 = .ok (.iload 4, 2) := by decide +kernel
theorem J_HPen_follow_d252 : decode J_HPen_follow.2.1 252 = .ok (.iload 5, 2) := by decide +kernel
theorem J_HPen_follow_d254 : decode J_HPen_follow.2.1 254 = .ok (.invokevirtual 94, 3) := by decide +kernel
theorem J_HPen_follow_d257 : decode J_HPen_follow.2.1 257 = .ok (.goto 33, 3) := by decide +kernel
theorem J_HPen_follow_d260 : decode J_HPen_follow.2.1 260 = .ok (.aload_n 0, 1) := by decide +kernel
theorem J_HPen_follow_d261 : decode J_HPen_follow.2.1 261 = .ok (.iload_n 3, 1) := by decide +kernel
theorem J_HPen_follow_d262 : decode J_HPen_follow.2.1 262 = .ok (.iload 4, 2) := by decide +kernel
theorem J_HPen_follow_d264 : decode J_HPen_follow.2.1 264 = .ok (.iload 5, 2) := by decide +kernel
theorem J_HPen_follow_d266 : decode J_HPen_follow.2.1 266 = .ok (.invokevirtual 98, 3) := by decide +kernel
theorem J_HPen_follow_d269 : decode J_HPen_follow.2.1 269 = .ok (.goto 21, 3) := by decide +kernel
theorem J_HPen_follow_d272 : decode J_HPen_follow.2.1 272 = .ok (.aload_n 0, 1) := by decide +kernel
theorem J_HPen_follow_d273 : decode J_HPen_follow.2.1 273 = .ok (.iload_n 3, 1) := by decide +kernel
theorem J_HPen_follow_d274 : decode J_HPen_follow.2.1 274 = .ok (.iload 4, 2) := by decide +kernel
theorem J_HPen_follow_d276 : decode J_HPen_follow.2.1 276 = .ok (.iload 5, 2) := by decide +kernel
theorem J_HPen_follow_d278 : decode J_HPen_follow.2.1 278 = .ok (.invokevirtual 101, 3) := by decide +kernel
theorem J_HPen_follow_d281 : decode J_HPen_follow.2.1 281 = .ok (.goto 9, 3) := by decide +kernel
theorem J_HPen_follow_d284 : decode J_HPen_follow.2.1 284 = .ok (.aload_n 0, 1) := by decide +kernel
theorem J_HPen_follow_d285 : decode J_HPen_follow.2.1 285 = .ok (.aload_n 1, 1) := by decide +kernel
theorem J_HPen_follow_d286 : decode J_HPen_follow.2.1 286 = .ok (.iload_n 2, 1) := by decide +kernel
theorem J_HPen_follow_d287 : decode J_HPen_follow.2.1 287 = .ok (.invokevirtual 104, 3) := by decide +kernel
theorem J_HPen_follow_d290 : decode J_HPen_follow.2.1 290 = .ok (.iload 6, 2) := by decide +kernel
theorem J_HPen_follow_d292 : decode J_HPen_follow.2.1 292 = .ok (.ifCond .eq 13, 3) := by decide +kernel
theorem J_HPen_follow_d295 : decode J_HPen_follow.2.1 295 = .ok (.aload_n 0, 1) := by decide +kernel
theorem J_HPen_follow_d296 : decode J_HPen_follow.2.1 296 = .ok (.getfield 19, 3) := by decide +kernel
theorem J_HPen_follow_d299 : decode J_HPen_follow.2.1 299 = .ok (.getfield 59, 3) := by decide +kernel
theorem J_HPen_follow_d302 : decode J_HPen_follow.2.1 302 = .ok (.goto 4, 3) := by decide +kernel
theorem J_HPen_follow_d305 : decode J_HPen_follow.2.1 305 = .ok (.iconst (-1), 1) := by decide +kernel
theorem J_HPen_follow_d306 : decode J_HPen_follow.2.1 306 = .ok (.ireturn, 1) := by decide +kernel
theorem f_HPen_follow_ok {L : Nat} {xs : Nat → Int32} {dep : Nat} {w : Bool} {p1 : Int32} {M : im_M} {Q : Int32 × im_M → Prop} (hM : lw_S w M) (h : ed (f_HPen_follow w p1 M) Q) : ia (tb_G L xs) (dep + 9) J_HPen_follow (rwI w Q) (0, lv_args 0 [.ref 56, .ref 11, .int p1], [], M) := by
  have hS : im_St (tb_G L xs) (dep + 9) J_HPen_follow (ia (tb_G L xs) (dep + 9) J_HPen_follow (rwI w Q)) := ia_St
  unfold f_HPen_follow at h
  have l0 : im_lk (lv_args 0 [.ref 56, .ref 11, .int p1]) 0 = some (.ref 56) := rfl
  have l1 : im_lk (lv_args 0 [.ref 56, .ref 11, .int p1]) 1 = some (.ref 11) := rfl
  have l2 : im_lk (lv_args 0 [.ref 56, .ref 11, .int p1]) 2 = some (.int p1) := rfl
  refine iq_aload_n hS 1 J_HPen_follow_d0 l0 rfl ?_
  refine iq_aload_n hS 2 J_HPen_follow_d1 l1 rfl ?_
  refine iq_iload_n hS 3 J_HPen_follow_d2 l2 rfl ?_
  refine iq_iconst hS 4 J_HPen_follow_d3 (v := 1) (by decide +kernel) rfl ?_
  obtain ⟨Q1, hQ1, h⟩ := bd1_ed h
  refine iq_cpI hS 7 J_HPen_follow_d4 rfl (pr_inst (vs := [_, _]) lc_6_39 lT_77 rfl rfl (by decide) (by decide) rfl (Nat.le_of_ble_eq_true rfl) (Nat.le_of_ble_eq_true rfl) (fun _ => Or.inl (pr_b (ka_11 hM) (by decide) rfl))) (f_HOrders_value_1_ok (dep := dep + 8) hM h) rfl ?_
  intro x1 h
  replace h := hQ1 _ h
  refine iq_putI hS 10 J_HPen_follow_d7 lf_6_43 (Or.inl rfl) rfl (ka_56 hM) rfl ?_
  refine iq_aload_n hS 11 J_HPen_follow_d10 l0 rfl ?_
  refine iq_aload_n hS 12 J_HPen_follow_d11 l1 rfl ?_
  refine iq_iload_n hS 13 J_HPen_follow_d12 l2 rfl ?_
  refine iq_iconst hS 14 J_HPen_follow_d13 (v := 2) (by decide +kernel) rfl ?_
  obtain ⟨Q2, hQ2, h⟩ := bd1_ed h
  refine iq_cpI hS 17 J_HPen_follow_d14 rfl (pr_inst (vs := [_, _]) lc_6_39 lT_77 rfl rfl (by decide) (by decide) rfl (Nat.le_of_ble_eq_true rfl) (Nat.le_of_ble_eq_true rfl) (fun _ => Or.inl (pr_b (ka_11 hM) (by decide) rfl))) (f_HOrders_value_1_ok (dep := dep + 8) hM h) rfl ?_
  intro x2 h
  replace h := hQ2 _ h
  refine iq_putI hS 20 J_HPen_follow_d17 lf_6_47 (Or.inl rfl) rfl (ka_56 hM) rfl ?_
  refine iq_aload_n hS 21 J_HPen_follow_d20 l0 rfl ?_
  refine iq_aload_n hS 22 J_HPen_follow_d21 l1 rfl ?_
  refine iq_iload_n hS 23 J_HPen_follow_d22 l2 rfl ?_
  refine iq_iconst hS 24 J_HPen_follow_d23 (v := 3) (by decide +kernel) rfl ?_
  obtain ⟨Q3, hQ3, h⟩ := bd1_ed h
  refine iq_cpI hS 27 J_HPen_follow_d24 rfl (pr_inst (vs := [_, _]) lc_6_39 lT_77 rfl rfl (by decide) (by decide) rfl (Nat.le_of_ble_eq_true rfl) (Nat.le_of_ble_eq_true rfl) (fun _ => Or.inl (pr_b (ka_11 hM) (by decide) rfl))) (f_HOrders_value_1_ok (dep := dep + 8) hM h) rfl ?_
  intro x3 h
  replace h := hQ3 _ h
  refine iq_putI hS 30 J_HPen_follow_d27 lf_6_50 (Or.inl rfl) rfl (ka_56 hM) rfl ?_
  refine iq_aload_n hS 31 J_HPen_follow_d30 l0 rfl ?_
  refine iq_getR hS 34 J_HPen_follow_d31 lf_6_19 (Or.inl ⟨_, rfl⟩) (ka_56 hM) (ra_56_0 hM) rfl ?_
  refine iq_aload_n hS 35 J_HPen_follow_d34 l1 rfl ?_
  refine iq_iload_n hS 36 J_HPen_follow_d35 l2 rfl ?_
  refine iq_iconst hS 37 J_HPen_follow_d36 (v := 4) (by decide +kernel) rfl ?_
  obtain ⟨Q4, hQ4, h⟩ := bd1_ed h
  refine iq_cpI hS 40 J_HPen_follow_d37 rfl (pr_inst (vs := [_, _]) lc_6_39 lT_77 rfl rfl (by decide) (by decide) rfl (Nat.le_of_ble_eq_true rfl) (Nat.le_of_ble_eq_true rfl) (fun _ => Or.inl (pr_b (ka_11 hM) (by decide) rfl))) (f_HOrders_value_1_ok (dep := dep + 8) hM h) rfl ?_
  intro x4 h
  replace h := hQ4 _ h
  refine iq_iconst hS 41 J_HPen_follow_d40 (v := 2) (by decide +kernel) rfl ?_
  have J5 : ∀ (z6 : Int32) (L' : List (Nat × Value)), z6 = ((if ¬ x4 = 2 then 0 else 1) : Int32) → im_lk L' 0 = some (.ref 56) → im_lk L' 1 = some (.ref 11) → im_lk L' 2 = some (.int p1) → ia (tb_G L xs) (dep + 9) J_HPen_follow (rwI w Q) (49, L', [.int z6, .ref 28], (im_setI (im_setI (im_setI M 56 5 x1) 56 6 x2) 56 7 x3)) := by
    intro z6 L' e7 l8 l9 l10
    subst e7
    obtain ⟨g49, h⟩ := ed_gd h
    refine iq_putZ hS 52 J_HPen_follow_d49 lf_6_53 (Or.inl rfl) rfl (ka_28 hM) g49 rfl ?_
    refine iq_aload_n hS 53 J_HPen_follow_d52 l8 rfl ?_
    refine iq_getR hS 56 J_HPen_follow_d53 lf_6_19 (Or.inl ⟨_, rfl⟩) (ka_56 hM) (ra_56_0 hM) rfl ?_
    refine iq_iconst hS 57 J_HPen_follow_d56 (v := 0) (by decide +kernel) rfl ?_
    refine iq_putI hS 60 J_HPen_follow_d57 lf_6_59 (Or.inl rfl) rfl (ka_28 hM) rfl ?_
    refine iq_aload_n hS 61 J_HPen_follow_d60 l9 rfl ?_
    refine iq_iload_n hS 62 J_HPen_follow_d61 l10 rfl ?_
    refine iq_iconst hS 63 J_HPen_follow_d62 (v := 5) (by decide +kernel) rfl ?_
    obtain ⟨Q11, hQ11, h⟩ := bd1_ed h
    refine iq_cpI hS 66 J_HPen_follow_d63 rfl (pr_inst (vs := [_, _]) lc_6_39 lT_77 rfl rfl (by decide) (by decide) rfl (Nat.le_of_ble_eq_true rfl) (Nat.le_of_ble_eq_true rfl) (fun _ => Or.inl (pr_b (ka_11 hM) (by decide) rfl))) (f_HOrders_value_1_ok (dep := dep + 8) hM h) rfl ?_
    intro x11 h
    replace h := hQ11 _ h
    refine iq_istore_n hS 67 J_HPen_follow_d66 (by decide) rfl ?_
    refine iq_aload_n hS 68 J_HPen_follow_d67 (lk_1r l9 (by decide)) rfl ?_
    refine iq_iload_n hS 69 J_HPen_follow_d68 (lk_1i l10 (by decide)) rfl ?_
    refine iq_bipush hS 71 J_HPen_follow_d69 (v := 6) (by decide +kernel) rfl ?_
    obtain ⟨Q12, hQ12, h⟩ := bd1_ed h
    refine iq_cpI hS 74 J_HPen_follow_d71 rfl (pr_inst (vs := [_, _]) lc_6_39 lT_77 rfl rfl (by decide) (by decide) rfl (Nat.le_of_ble_eq_true rfl) (Nat.le_of_ble_eq_true rfl) (fun _ => Or.inl (pr_b (ka_11 hM) (by decide) rfl))) (f_HOrders_value_1_ok (dep := dep + 8) hM h) rfl ?_
    intro x12 h
    replace h := hQ12 _ h
    refine iq_istore hS 76 J_HPen_follow_d74 (by decide) rfl ?_
    refine iq_aload_n hS 77 J_HPen_follow_d76 (lk_1r (lk_1r l9 (by decide)) (by decide)) rfl ?_
    refine iq_iload_n hS 78 J_HPen_follow_d77 (lk_1i (lk_1i l10 (by decide)) (by decide)) rfl ?_
    refine iq_bipush hS 80 J_HPen_follow_d78 (v := 7) (by decide +kernel) rfl ?_
    obtain ⟨Q13, hQ13, h⟩ := bd1_ed h
    refine iq_cpI hS 83 J_HPen_follow_d80 rfl (pr_inst (vs := [_, _]) lc_6_39 lT_77 rfl rfl (by decide) (by decide) rfl (Nat.le_of_ble_eq_true rfl) (Nat.le_of_ble_eq_true rfl) (fun _ => Or.inl (pr_b (ka_11 hM) (by decide) rfl))) (f_HOrders_value_1_ok (dep := dep + 8) hM h) rfl ?_
    intro x13 h
    replace h := hQ13 _ h
    refine iq_istore hS 85 J_HPen_follow_d83 (by decide) rfl ?_
    refine iq_iconst hS 86 J_HPen_follow_d85 (v := 1) (by decide +kernel) rfl ?_
    refine iq_istore hS 88 J_HPen_follow_d86 (by decide) rfl ?_
    refine iq_aload_n hS 89 J_HPen_follow_d88 (lk_1r (lk_1r (lk_1r (lk_1r l9 (by decide)) (by decide)) (by decide)) (by decide)) rfl ?_
    refine iq_iload_n hS 90 J_HPen_follow_d89 (lk_1i (lk_1i (lk_1i (lk_1i l10 (by decide)) (by decide)) (by decide)) (by decide)) rfl ?_
    refine iq_iconst hS 91 J_HPen_follow_d90 (v := 0) (by decide +kernel) rfl ?_
    obtain ⟨Q14, hQ14, h⟩ := bd1_ed h
    refine iq_cpI hS 94 J_HPen_follow_d91 rfl (pr_inst (vs := [_, _]) lc_6_39 lT_77 rfl rfl (by decide) (by decide) rfl (Nat.le_of_ble_eq_true rfl) (Nat.le_of_ble_eq_true rfl) (fun _ => Or.inl (pr_b (ka_11 hM) (by decide) rfl))) (f_HOrders_value_1_ok (dep := dep + 8) hM h) rfl ?_
    intro x14 h
    replace h := hQ14 _ h
    obtain ⟨Q15, hQ15, h⟩ := bd2_ed h
    have J15 : ∀ (y29 : Int32) (M30 : im_M) (L' : List (Nat × Value)), lw_S w M30 → im_lk L' 0 = some (.ref 56) → im_lk L' 6 = some (.int y29) → Q15 (y29, M30) → ia (tb_G L xs) (dep + 9) J_HPen_follow (rwI w Q) (290, L', [], M30) := by
      intro y29 M30 L' hM30 l31 l32 h
      replace h := hQ15 _ _ h
      refine iq_iload hS 292 J_HPen_follow_d290 l32 rfl ?_
      refine iq_if_eq hS 295 J_HPen_follow_d292 (t := 305) rfl (fun q292 => ?_) rfl (fun q292 => ?_)
      · replace h := ed_pos q292 h
        refine iq_iconst hS 306 J_HPen_follow_d305 (v := (-1)) (by decide +kernel) rfl ?_
        exact iq_iret J_HPen_follow_d306 rfl rfl ⟨_, rfl, hM30, ed_some h⟩
      · replace h := ed_neg q292 h
        refine iq_aload_n hS 296 J_HPen_follow_d295 l31 rfl ?_
        refine iq_getR hS 299 J_HPen_follow_d296 lf_6_19 (Or.inl ⟨_, rfl⟩) (ka_56 hM30) (ra_56_0 hM30) rfl ?_
        refine iq_getI hS 302 J_HPen_follow_d299 lf_6_59 (Or.inl rfl) (ka_28 hM30) rfl ?_
        refine iq_goto hS J_HPen_follow_d302 (t := 306) rfl ?_
        exact iq_iret J_HPen_follow_d306 rfl rfl ⟨_, rfl, hM30, ed_some h⟩
    by_cases q94_0 : x14 = 0
    · replace h := ed_pos q94_0 h
      refine iq_tsw hS J_HPen_follow_d94 (t := 136) (sw_v q94_0 (by decide +kernel)) ?_
      refine iq_aload_n hS 137 J_HPen_follow_d136 (lk_1r (lk_1r (lk_1r (lk_1r l8 (by decide)) (by decide)) (by decide)) (by decide)) rfl ?_
      refine iq_aload_n hS 138 J_HPen_follow_d137 (lk_1r (lk_1r (lk_1r (lk_1r l9 (by decide)) (by decide)) (by decide)) (by decide)) rfl ?_
      refine iq_iload_n hS 139 J_HPen_follow_d138 (lk_1i (lk_1i (lk_1i (lk_1i l10 (by decide)) (by decide)) (by decide)) (by decide)) rfl ?_
      obtain ⟨Q16, hQ16, h⟩ := bd1_ed h
      refine iq_cwV hS 142 J_HPen_follow_d139 rfl (pr_inst (vs := [_, _]) lc_6_62 lT_109 rfl rfl (by decide) (by decide) rfl (Nat.le_of_ble_eq_true rfl) (Nat.le_of_ble_eq_true rfl) (fun _ => Or.inl (pr_b (ka_56 hM) (by decide) rfl))) (f_HPen_drawText_ok (dep := dep + 4) hM h) rfl ?_
      intro M16 hM16 h
      replace h := hQ16 _ h
      refine iq_goto hS J_HPen_follow_d142 (t := 290) rfl ?_
      exact J15 _ _ _ hM16 (lk_1r (lk_1r (lk_1r (lk_1r l8 (by decide)) (by decide)) (by decide)) (by decide)) lk_1s (ed_some h)
    replace h := ed_neg q94_0 h
    by_cases q94_1 : x14 = 1
    · replace h := ed_pos q94_1 h
      refine iq_tsw hS J_HPen_follow_d94 (t := 145) (sw_v q94_1 (by decide +kernel)) ?_
      refine iq_aload_n hS 146 J_HPen_follow_d145 (lk_1r (lk_1r (lk_1r (lk_1r l8 (by decide)) (by decide)) (by decide)) (by decide)) rfl ?_
      refine iq_getR hS 149 J_HPen_follow_d146 lf_6_23 (Or.inl ⟨_, rfl⟩) (ka_56 hM) (ra_56_1 hM) rfl ?_
      refine iq_aload_n hS 150 J_HPen_follow_d149 (lk_1r (lk_1r (lk_1r (lk_1r l9 (by decide)) (by decide)) (by decide)) (by decide)) rfl ?_
      refine iq_getR hS 153 J_HPen_follow_d150 lf_6_66 (Or.inr ⟨_, rfl⟩) (ka_11 hM) (ra_11_1 hM) rfl ?_
      refine iq_iload_n hS 154 J_HPen_follow_d153 (lk_1i (lk_1i (lk_1i (lk_1i l10 (by decide)) (by decide)) (by decide)) (by decide)) rfl ?_
      refine iq_sipush hS 157 J_HPen_follow_d154 (v := 200) (by decide +kernel) rfl ?_
      refine iq_imul hS 158 J_HPen_follow_d157 rfl ?_
      refine iq_aload_n hS 159 J_HPen_follow_d158 (lk_1r (lk_1r (lk_1r (lk_1r l9 (by decide)) (by decide)) (by decide)) (by decide)) rfl ?_
      refine iq_iload_n hS 160 J_HPen_follow_d159 (lk_1i (lk_1i (lk_1i (lk_1i l10 (by decide)) (by decide)) (by decide)) (by decide)) rfl ?_
      refine iq_bipush hS 162 J_HPen_follow_d160 (v := 8) (by decide +kernel) rfl ?_
      obtain ⟨Q17, hQ17, h⟩ := bd1_ed h
      refine iq_cpI hS 165 J_HPen_follow_d162 rfl (pr_inst (vs := [_, _]) lc_6_39 lT_77 rfl rfl (by decide) (by decide) rfl (Nat.le_of_ble_eq_true rfl) (Nat.le_of_ble_eq_true rfl) (fun _ => Or.inl (pr_b (ka_11 hM) (by decide) rfl))) (f_HOrders_value_1_ok (dep := dep + 8) hM h) rfl ?_
      intro x17 h
      replace h := hQ17 _ h
      obtain ⟨Q18, hQ18, h⟩ := bd2_ed h
      refine iq_cwI hS 168 J_HPen_follow_d165 rfl (pr_inst (vs := [_, _, _]) lc_6_70 lT_115 rfl rfl (by decide) (by decide) rfl (Nat.le_of_ble_eq_true rfl) (Nat.le_of_ble_eq_true rfl) (fun _ => Or.inl (pr_b (ka_31 hM) (by decide) rfl))) (f_HBars_layText_ok (dep := dep + 4) hM h) rfl ?_
      intro x18 M18 hM18 h
      replace h := hQ18 _ _ h
      refine iq_istore hS 170 J_HPen_follow_d168 (by decide) rfl ?_
      refine iq_aload_n hS 171 J_HPen_follow_d170 (lk_1r (lk_1r (lk_1r (lk_1r (lk_1r l8 (by decide)) (by decide)) (by decide)) (by decide)) (by decide)) rfl ?_
      refine iq_iload hS 173 J_HPen_follow_d171 lk_1s rfl ?_
      refine iq_iload_n hS 174 J_HPen_follow_d173 (lk_1i (lk_1i (lk_1i (lk_1i lk_1s (by decide)) (by decide)) (by decide)) (by decide)) rfl ?_
      refine iq_iload hS 176 J_HPen_follow_d174 (lk_1i (lk_1i (lk_1i lk_1s (by decide)) (by decide)) (by decide)) rfl ?_
      obtain ⟨Q19, hQ19, h⟩ := bd1_ed h
      refine iq_cwV hS 179 J_HPen_follow_d176 rfl (pr_inst (vs := [_, _, _]) lc_6_76 lT_128 rfl rfl (by decide) (by decide) rfl (Nat.le_of_ble_eq_true rfl) (Nat.le_of_ble_eq_true rfl) (fun _ => Or.inl (pr_b (ka_56 hM18) (by decide) rfl))) (f_HPen_drawBars_ok (dep := dep + 5) hM18 h) rfl ?_
      intro M19 hM19 h
      replace h := hQ19 _ h
      refine iq_goto hS J_HPen_follow_d179 (t := 290) rfl ?_
      exact J15 _ _ _ hM19 (lk_1r (lk_1r (lk_1r (lk_1r (lk_1r l8 (by decide)) (by decide)) (by decide)) (by decide)) (by decide)) lk_1s (ed_some h)
    replace h := ed_neg q94_1 h
    by_cases q94_2 : x14 = 2
    · replace h := ed_pos q94_2 h
      refine iq_tsw hS J_HPen_follow_d94 (t := 182) (sw_v q94_2 (by decide +kernel)) ?_
      refine iq_aload_n hS 183 J_HPen_follow_d182 (lk_1r (lk_1r (lk_1r (lk_1r l8 (by decide)) (by decide)) (by decide)) (by decide)) rfl ?_
      refine iq_getR hS 186 J_HPen_follow_d183 lf_6_23 (Or.inl ⟨_, rfl⟩) (ka_56 hM) (ra_56_1 hM) rfl ?_
      refine iq_aload_n hS 187 J_HPen_follow_d186 (lk_1r (lk_1r (lk_1r (lk_1r l9 (by decide)) (by decide)) (by decide)) (by decide)) rfl ?_
      refine iq_getR hS 190 J_HPen_follow_d187 lf_6_66 (Or.inr ⟨_, rfl⟩) (ka_11 hM) (ra_11_1 hM) rfl ?_
      refine iq_iload_n hS 191 J_HPen_follow_d190 (lk_1i (lk_1i (lk_1i (lk_1i l10 (by decide)) (by decide)) (by decide)) (by decide)) rfl ?_
      refine iq_sipush hS 194 J_HPen_follow_d191 (v := 200) (by decide +kernel) rfl ?_
      refine iq_imul hS 195 J_HPen_follow_d194 rfl ?_
      obtain ⟨Q20, hQ20, h⟩ := bd1_ed h
      refine iq_cwV hS 198 J_HPen_follow_d195 rfl (pr_inst (vs := [_, _]) lc_6_80 lT_129 rfl rfl (by decide) (by decide) rfl (Nat.le_of_ble_eq_true rfl) (Nat.le_of_ble_eq_true rfl) (fun _ => Or.inl (pr_b (ka_31 hM) (by decide) rfl))) (f_HBars_layFigures_ok (dep := dep + 7) hM h) rfl ?_
      intro M20 hM20 h
      replace h := hQ20 _ h
      refine iq_aload_n hS 199 J_HPen_follow_d198 (lk_1r (lk_1r (lk_1r (lk_1r l8 (by decide)) (by decide)) (by decide)) (by decide)) rfl ?_
      refine iq_iconst hS 200 J_HPen_follow_d199 (v := 1) (by decide +kernel) rfl ?_
      refine iq_iload_n hS 201 J_HPen_follow_d200 (lk_1i (lk_1i (lk_1i lk_1s (by decide)) (by decide)) (by decide)) rfl ?_
      refine iq_iload hS 203 J_HPen_follow_d201 (lk_1i (lk_1i lk_1s (by decide)) (by decide)) rfl ?_
      obtain ⟨Q21, hQ21, h⟩ := bd1_ed h
      refine iq_cwV hS 206 J_HPen_follow_d203 rfl (pr_inst (vs := [_, _, _]) lc_6_76 lT_128 rfl rfl (by decide) (by decide) rfl (Nat.le_of_ble_eq_true rfl) (Nat.le_of_ble_eq_true rfl) (fun _ => Or.inl (pr_b (ka_56 hM20) (by decide) rfl))) (f_HPen_drawBars_ok (dep := dep + 5) hM20 h) rfl ?_
      intro M21 hM21 h
      replace h := hQ21 _ h
      refine iq_goto hS J_HPen_follow_d206 (t := 290) rfl ?_
      exact J15 _ _ _ hM21 (lk_1r (lk_1r (lk_1r (lk_1r l8 (by decide)) (by decide)) (by decide)) (by decide)) lk_1s (ed_some h)
    replace h := ed_neg q94_2 h
    by_cases q94_3 : x14 = 3
    · replace h := ed_pos q94_3 h
      refine iq_tsw hS J_HPen_follow_d94 (t := 209) (sw_v q94_3 (by decide +kernel)) ?_
      refine iq_aload_n hS 210 J_HPen_follow_d209 (lk_1r (lk_1r (lk_1r (lk_1r l8 (by decide)) (by decide)) (by decide)) (by decide)) rfl ?_
      refine iq_getR hS 213 J_HPen_follow_d210 lf_6_27 (Or.inl ⟨_, rfl⟩) (ka_56 hM) (ra_56_2 hM) rfl ?_
      refine iq_aload_n hS 214 J_HPen_follow_d213 (lk_1r (lk_1r (lk_1r (lk_1r l9 (by decide)) (by decide)) (by decide)) (by decide)) rfl ?_
      refine iq_getR hS 217 J_HPen_follow_d214 lf_6_66 (Or.inr ⟨_, rfl⟩) (ka_11 hM) (ra_11_1 hM) rfl ?_
      refine iq_iload_n hS 218 J_HPen_follow_d217 (lk_1i (lk_1i (lk_1i (lk_1i l10 (by decide)) (by decide)) (by decide)) (by decide)) rfl ?_
      refine iq_sipush hS 221 J_HPen_follow_d218 (v := 200) (by decide +kernel) rfl ?_
      refine iq_imul hS 222 J_HPen_follow_d221 rfl ?_
      refine iq_aload_n hS 223 J_HPen_follow_d222 (lk_1r (lk_1r (lk_1r (lk_1r l9 (by decide)) (by decide)) (by decide)) (by decide)) rfl ?_
      refine iq_iload_n hS 224 J_HPen_follow_d223 (lk_1i (lk_1i (lk_1i (lk_1i l10 (by decide)) (by decide)) (by decide)) (by decide)) rfl ?_
      refine iq_bipush hS 226 J_HPen_follow_d224 (v := 8) (by decide +kernel) rfl ?_
      obtain ⟨Q22, hQ22, h⟩ := bd1_ed h
      refine iq_cpI hS 229 J_HPen_follow_d226 rfl (pr_inst (vs := [_, _]) lc_6_39 lT_77 rfl rfl (by decide) (by decide) rfl (Nat.le_of_ble_eq_true rfl) (Nat.le_of_ble_eq_true rfl) (fun _ => Or.inl (pr_b (ka_11 hM) (by decide) rfl))) (f_HOrders_value_1_ok (dep := dep + 8) hM h) rfl ?_
      intro x22 h
      replace h := hQ22 _ h
      refine iq_iload hS 231 J_HPen_follow_d229 (lk_1i (lk_1i lk_1s (by decide)) (by decide)) rfl ?_
      refine iq_iload hS 233 J_HPen_follow_d231 (lk_1i lk_1s (by decide)) rfl ?_
      obtain ⟨Q23, hQ23, h⟩ := bd2_ed h
      refine iq_cwI hS 236 J_HPen_follow_d233 rfl (pr_inst (vs := [_, _, _, _, _]) lc_6_84 lT_132 rfl rfl (by decide) (by decide) rfl (Nat.le_of_ble_eq_true rfl) (Nat.le_of_ble_eq_true rfl) (fun _ => Or.inl (pr_b (ka_38 hM) (by decide) rfl))) (f_HGrid_make_ok (dep := dep + 0) hM h) rfl ?_
      intro x23 M23 hM23 h
      replace h := hQ23 _ _ h
      refine iq_istore hS 238 J_HPen_follow_d236 (by decide) rfl ?_
      refine iq_aload_n hS 239 J_HPen_follow_d238 (lk_1r (lk_1r (lk_1r (lk_1r (lk_1r l8 (by decide)) (by decide)) (by decide)) (by decide)) (by decide)) rfl ?_
      refine iq_iload hS 241 J_HPen_follow_d239 lk_1s rfl ?_
      refine iq_iload_n hS 242 J_HPen_follow_d241 (lk_1i (lk_1i (lk_1i (lk_1i lk_1s (by decide)) (by decide)) (by decide)) (by decide)) rfl ?_
      obtain ⟨Q24, hQ24, h⟩ := bd1_ed h
      refine iq_cwV hS 245 J_HPen_follow_d242 rfl (pr_inst (vs := [_, _]) lc_6_90 lT_179 rfl rfl (by decide) (by decide) rfl (Nat.le_of_ble_eq_true rfl) (Nat.le_of_ble_eq_true rfl) (fun _ => Or.inl (pr_b (ka_56 hM23) (by decide) rfl))) (f_HPen_drawSquare_ok (dep := dep + 5) hM23 h) rfl ?_
      intro M24 hM24 h
      replace h := hQ24 _ h
      refine iq_goto hS J_HPen_follow_d245 (t := 290) rfl ?_
      exact J15 _ _ _ hM24 (lk_1r (lk_1r (lk_1r (lk_1r (lk_1r l8 (by decide)) (by decide)) (by decide)) (by decide)) (by decide)) lk_1s (ed_some h)
    replace h := ed_neg q94_3 h
    by_cases q94_4 : x14 = 4
    · replace h := ed_pos q94_4 h
      refine iq_tsw hS J_HPen_follow_d94 (t := 248) (sw_v q94_4 (by decide +kernel)) ?_
      refine iq_aload_n hS 249 J_HPen_follow_d248 (lk_1r (lk_1r (lk_1r (lk_1r l8 (by decide)) (by decide)) (by decide)) (by decide)) rfl ?_
      refine iq_iload_n hS 250 J_HPen_follow_d249 (lk_1i (lk_1i (lk_1i lk_1s (by decide)) (by decide)) (by decide)) rfl ?_
      refine iq_iload hS 252 J_HPen_follow_d250 (lk_1i (lk_1i lk_1s (by decide)) (by decide)) rfl ?_
      refine iq_iload hS 254 J_HPen_follow_d252 (lk_1i lk_1s (by decide)) rfl ?_
      obtain ⟨Q25, hQ25, h⟩ := bd1_ed h
      refine iq_cwV hS 257 J_HPen_follow_d254 rfl (pr_inst (vs := [_, _, _]) lc_6_94 lT_180 rfl rfl (by decide) (by decide) rfl (Nat.le_of_ble_eq_true rfl) (Nat.le_of_ble_eq_true rfl) (fun _ => Or.inl (pr_b (ka_56 hM) (by decide) rfl))) (f_HPen_drawFrame_ok (dep := dep + 6) hM h) rfl ?_
      intro M25 hM25 h
      replace h := hQ25 _ h
      refine iq_goto hS J_HPen_follow_d257 (t := 290) rfl ?_
      exact J15 _ _ _ hM25 (lk_1r (lk_1r (lk_1r (lk_1r l8 (by decide)) (by decide)) (by decide)) (by decide)) lk_1s (ed_some h)
    replace h := ed_neg q94_4 h
    by_cases q94_5 : x14 = 5
    · replace h := ed_pos q94_5 h
      refine iq_tsw hS J_HPen_follow_d94 (t := 260) (sw_v q94_5 (by decide +kernel)) ?_
      refine iq_aload_n hS 261 J_HPen_follow_d260 (lk_1r (lk_1r (lk_1r (lk_1r l8 (by decide)) (by decide)) (by decide)) (by decide)) rfl ?_
      refine iq_iload_n hS 262 J_HPen_follow_d261 (lk_1i (lk_1i (lk_1i lk_1s (by decide)) (by decide)) (by decide)) rfl ?_
      refine iq_iload hS 264 J_HPen_follow_d262 (lk_1i (lk_1i lk_1s (by decide)) (by decide)) rfl ?_
      refine iq_iload hS 266 J_HPen_follow_d264 (lk_1i lk_1s (by decide)) rfl ?_
      obtain ⟨Q26, hQ26, h⟩ := bd1_ed h
      refine iq_cwV hS 269 J_HPen_follow_d266 rfl (pr_inst (vs := [_, _, _]) lc_6_98 lT_181 rfl rfl (by decide) (by decide) rfl (Nat.le_of_ble_eq_true rfl) (Nat.le_of_ble_eq_true rfl) (fun _ => Or.inl (pr_b (ka_56 hM) (by decide) rfl))) (f_HPen_drawEllipse_ok (dep := dep + 6) hM h) rfl ?_
      intro M26 hM26 h
      replace h := hQ26 _ h
      refine iq_goto hS J_HPen_follow_d269 (t := 290) rfl ?_
      exact J15 _ _ _ hM26 (lk_1r (lk_1r (lk_1r (lk_1r l8 (by decide)) (by decide)) (by decide)) (by decide)) lk_1s (ed_some h)
    replace h := ed_neg q94_5 h
    by_cases q94_6 : x14 = 6
    · replace h := ed_pos q94_6 h
      refine iq_tsw hS J_HPen_follow_d94 (t := 272) (sw_v q94_6 (by decide +kernel)) ?_
      refine iq_aload_n hS 273 J_HPen_follow_d272 (lk_1r (lk_1r (lk_1r (lk_1r l8 (by decide)) (by decide)) (by decide)) (by decide)) rfl ?_
      refine iq_iload_n hS 274 J_HPen_follow_d273 (lk_1i (lk_1i (lk_1i lk_1s (by decide)) (by decide)) (by decide)) rfl ?_
      refine iq_iload hS 276 J_HPen_follow_d274 (lk_1i (lk_1i lk_1s (by decide)) (by decide)) rfl ?_
      refine iq_iload hS 278 J_HPen_follow_d276 (lk_1i lk_1s (by decide)) rfl ?_
      obtain ⟨Q27, hQ27, h⟩ := bd1_ed h
      refine iq_cwV hS 281 J_HPen_follow_d278 rfl (pr_inst (vs := [_, _, _]) lc_6_101 lT_183 rfl rfl (by decide) (by decide) rfl (Nat.le_of_ble_eq_true rfl) (Nat.le_of_ble_eq_true rfl) (fun _ => Or.inl (pr_b (ka_56 hM) (by decide) rfl))) (f_HPen_drawLine_ok (dep := dep + 6) hM h) rfl ?_
      intro M27 hM27 h
      replace h := hQ27 _ h
      refine iq_goto hS J_HPen_follow_d281 (t := 290) rfl ?_
      exact J15 _ _ _ hM27 (lk_1r (lk_1r (lk_1r (lk_1r l8 (by decide)) (by decide)) (by decide)) (by decide)) lk_1s (ed_some h)
    replace h := ed_neg q94_6 h
    refine iq_tsw hS J_HPen_follow_d94 (t := 284) (sw_d [0, 1, 2, 3, 4, 5, 6] (by decide) (by decide) (by decide +kernel) (sw_nc q94_0 (sw_nc q94_1 (sw_nc q94_2 (sw_nc q94_3 (sw_nc q94_4 (sw_nc q94_5 (sw_nc q94_6 sw_nn)))))))) ?_
    refine iq_aload_n hS 285 J_HPen_follow_d284 (lk_1r (lk_1r (lk_1r (lk_1r l8 (by decide)) (by decide)) (by decide)) (by decide)) rfl ?_
    refine iq_aload_n hS 286 J_HPen_follow_d285 (lk_1r (lk_1r (lk_1r (lk_1r l9 (by decide)) (by decide)) (by decide)) (by decide)) rfl ?_
    refine iq_iload_n hS 287 J_HPen_follow_d286 (lk_1i (lk_1i (lk_1i (lk_1i l10 (by decide)) (by decide)) (by decide)) (by decide)) rfl ?_
    obtain ⟨Q28, hQ28, h⟩ := bd1_ed h
    refine iq_cwV hS 290 J_HPen_follow_d287 rfl (pr_inst (vs := [_, _]) lc_6_104 lT_187 rfl rfl (by decide) (by decide) rfl (Nat.le_of_ble_eq_true rfl) (Nat.le_of_ble_eq_true rfl) (fun _ => Or.inl (pr_b (ka_56 hM) (by decide) rfl))) (f_HPen_drawPicture_ok (dep := dep + 6) hM h) rfl ?_
    intro M28 hM28 h
    replace h := hQ28 _ h
    exact J15 _ _ _ hM28 (lk_1r (lk_1r (lk_1r (lk_1r l8 (by decide)) (by decide)) (by decide)) (by decide)) lk_1s (ed_some h)
  refine iq_icmp_ne hS 44 J_HPen_follow_d41 (t := 48) rfl (fun q41 => ?_) rfl (fun q41 => ?_)
  · refine iq_iconst hS 49 J_HPen_follow_d48 (v := 0) (by decide +kernel) rfl ?_
    exact J5 _ _ (by rw [if_pos q41]) l0 l1 l2
  · refine iq_iconst hS 45 J_HPen_follow_d44 (v := 1) (by decide +kernel) rfl ?_
    refine iq_goto hS J_HPen_follow_d45 (t := 49) rfl ?_
    exact J5 _ _ (by rw [if_neg q41]) l0 l1 l2
noncomputable def f_H_print_L98 (w : Bool) (v3 : Int32) (x4 : Int32) (x5 : Int32) (M6 : im_M) : Option ((Int32 × Int32 × im_M) ⊕ (Int32 × im_M)) := if (im_i M6 0 9) ≤ x5 then some (.inr (x4, M6)) else bd2 (f_HPen_follow w (v3 + x5) M6) fun (x7 : Int32) (M7 : im_M) => gd (inb x5 120) <| gd (inb x5 120) <| some (.inl (((if (im_i (im_setI M7 66 (Int32.toNatClampNeg x5) x7) 66 (Int32.toNatClampNeg x5)) = (-1) then x4 else (x4 + 1)) : Int32), (x5 + 1), (im_setI M7 66 (Int32.toNatClampNeg x5) x7)))
noncomputable def f_H_print (w : Bool) (p0 : Int32) (M : im_M) : Option (Int32 × im_M) := if p0 < 0 then none else if p0 < (im_i M 15 4) then gd (inb ((4 : Int32) * p0) 48) <| gd (inb (((4 : Int32) * p0) + 1) 48) <| bd1 (f_HSheet_renew w (im_i M 16 (Int32.toNatClampNeg ((4 : Int32) * p0))) (im_i M 16 (Int32.toNatClampNeg (((4 : Int32) * p0) + 1))) M) fun (M1 : im_M) => gd (inb (((4 : Int32) * p0) + 2) 48) <| gd (inb (((4 : Int32) * p0) + 3) 48) <| bd2 (lp (uc3 (f_H_print_L98 w (im_i (im_setI M1 59 0 0) 16 (Int32.toNatClampNeg (((4 : Int32) * p0) + 2))))) (0, 0, (im_setI (im_setI M1 59 0 0) 0 9 (im_i (im_setI M1 59 0 0) 16 (Int32.toNatClampNeg (((4 : Int32) * p0) + 3)))))) fun (y9 : Int32) (M10 : im_M) => some (y9, M10) else none
theorem J_H_print_d23 : decode J_H_print.2.1 23 = .ok (.aload_n 0, 1) := by decide +kernel
theorem J_H_print_d24 : decode J_H_print.2.1 24 = .ok (.getfield 37, 3) := by decide +kernel
theorem J_H_print_d27 : decode J_H_print.2.1 27 = .ok (.aload_n 0, 1) := by decide +kernel
theorem J_H_print_d28 : decode J_H_print.2.1 28 = .ok (.getfield 30, 3) := by decide +kernel
theorem J_H_print_d31 : decode J_H_print.2.1 31 = .ok (.getfield 125, 3) := by decide +kernel
theorem J_H_print_d34 : decode J_H_print.2.1 34 = .ok (.iconst 4, 1) := by decide +kernel
theorem J_H_print_d35 : decode J_H_print.2.1 35 = .ok (.iload_n 1, 1) := by decide +kernel
theorem J_H_print_d36 : decode J_H_print.2.1 36 = .ok (.imul, 1) := by decide +kernel
theorem J_H_print_d37 : decode J_H_print.2.1 37 = .ok (.iaload, 1) := by decide +kernel
theorem J_H_print_d38 : decode J_H_print.2.1 38 = .ok (.aload_n 0, 1) := by decide +kernel
theorem J_H_print_d39 : decode J_H_print.2.1 39 = .ok (.getfield 30, 3) := by decide +kernel
theorem J_H_print_d42 : decode J_H_print.2.1 42 = .ok (.getfield 125, 3) := by decide +kernel
theorem J_H_print_d45 : decode J_H_print.2.1 45 = .ok (.iconst 4, 1) := by decide +kernel
theorem J_H_print_d46 : decode J_H_print.2.1 46 = .ok (.iload_n 1, 1) := by decide +kernel
theorem J_H_print_d47 : decode J_H_print.2.1 47 = .ok (.imul, 1) := by decide +kernel
theorem J_H_print_d48 : decode J_H_print.2.1 48 = .ok (.iconst 1, 1) := by decide +kernel
theorem J_H_print_d49 : decode J_H_print.2.1 49 = .ok (.iadd, 1) := by decide +kernel
theorem J_H_print_d50 : decode J_H_print.2.1 50 = .ok (.iaload, 1) := by decide +kernel
theorem J_H_print_d51 : decode J_H_print.2.1 51 = .ok (.invokevirtual 142, 3) := by decide +kernel
theorem J_H_print_d54 : decode J_H_print.2.1 54 = .ok (.aload_n 0, 1) := by decide +kernel
theorem J_H_print_d55 : decode J_H_print.2.1 55 = .ok (.getfield 69, 3) := by decide +kernel
theorem J_H_print_d58 : decode J_H_print.2.1 58 = .ok (.iconst 0, 1) := by decide +kernel
theorem J_H_print_d59 : decode J_H_print.2.1 59 = .ok (.putfield 146, 3) := by decide +kernel
theorem J_H_print_d62 : decode J_H_print.2.1 62 = .ok (.aload_n 0, 1) := by decide +kernel
theorem J_H_print_d63 : decode J_H_print.2.1 63 = .ok (.getfield 30, 3) := by decide +kernel
theorem J_H_print_d66 : decode J_H_print.2.1 66 = .ok (.getfield 125, 3) := by decide +kernel
theorem J_H_print_d69 : decode J_H_print.2.1 69 = .ok (.iconst 4, 1) := by decide +kernel
theorem J_H_print_d70 : decode J_H_print.2.1 70 = .ok (.iload_n 1, 1) := by decide +kernel
theorem J_H_print_d71 : decode J_H_print.2.1 71 = .ok (.imul, 1) := by decide +kernel
theorem J_H_print_d72 : decode J_H_print.2.1 72 = .ok (.iconst 2, 1) := by decide +kernel
theorem J_H_print_d73 : decode J_H_print.2.1 73 = .ok (.iadd, 1) := by decide +kernel
theorem J_H_print_d74 : decode J_H_print.2.1 74 = .ok (.iaload, 1) := by decide +kernel
theorem J_H_print_d75 : decode J_H_print.2.1 75 = .ok (.istore_n 2, 1) := by decide +kernel
theorem J_H_print_d76 : decode J_H_print.2.1 76 = .ok (.aload_n 0, 1) := by decide +kernel
theorem J_H_print_d77 : decode J_H_print.2.1 77 = .ok (.aload_n 0, 1) := by decide +kernel
theorem J_H_print_d78 : decode J_H_print.2.1 78 = .ok (.getfield 30, 3) := by decide +kernel
theorem J_H_print_d81 : decode J_H_print.2.1 81 = .ok (.getfield 125, 3) := by decide +kernel
theorem J_H_print_d84 : decode J_H_print.2.1 84 = .ok (.iconst 4, 1) := by decide +kernel
theorem J_H_print_d85 : decode J_H_print.2.1 85 = .ok (.iload_n 1, 1) := by decide +kernel
theorem J_H_print_d86 : decode J_H_print.2.1 86 = .ok (.imul, 1) := by decide +kernel
theorem J_H_print_d87 : decode J_H_print.2.1 87 = .ok (.iconst 3, 1) := by decide +kernel
theorem J_H_print_d88 : decode J_H_print.2.1 88 = .ok (.iadd, 1) := by decide +kernel
theorem J_H_print_d89 : decode J_H_print.2.1 89 = .ok (.iaload, 1) := by decide +kernel
theorem J_H_print_d90 : decode J_H_print.2.1 90 = .ok (.putfield 149, 3) := by decide +kernel
theorem J_H_print_d93 : decode J_H_print.2.1 93 = .ok (.iconst 0, 1) := by decide +kernel
theorem J_H_print_d94 : decode J_H_print.2.1 94 = .ok (.istore_n 3, 1) := by decide +kernel
theorem J_H_print_d95 : decode J_H_print.2.1 95 = .ok (.iconst 0, 1) := by decide +kernel
theorem J_H_print_d96 : decode J_H_print.2.1 96 = .ok (.istore 4, 2) := by decide +kernel
theorem J_H_print_d98 : decode J_H_print.2.1 98 = .ok (.iload 4, 2) := by decide +kernel
theorem J_H_print_d100 : decode J_H_print.2.1 100 = .ok (.aload_n 0, 1) := by decide +kernel
theorem J_H_print_d101 : decode J_H_print.2.1 101 = .ok (.getfield 149, 3) := by decide +kernel
theorem J_H_print_d104 : decode J_H_print.2.1 104 = .ok (.if_icmp .ge 45, 3) := by decide +kernel
theorem J_H_print_d107 : decode J_H_print.2.1 107 = .ok (.aload_n 0, 1) := by decide +kernel
theorem J_H_print_d108 : decode J_H_print.2.1 108 = .ok (.getfield 73, 3) := by decide +kernel
theorem J_H_print_d111 : decode J_H_print.2.1 111 = .ok (.iload 4, 2) := by decide +kernel
theorem J_H_print_d113 : decode J_H_print.2.1 113 = .ok (.aload_n 0, 1) := by decide +kernel
theorem J_H_print_d114 : decode J_H_print.2.1 114 = .ok (.getfield 60, 3) := by decide +kernel
theorem J_H_print_d117 : decode J_H_print.2.1 117 = .ok (.aload_n 0, 1) := by decide +kernel
theorem J_H_print_d118 : decode J_H_print.2.1 118 = .ok (.getfield 21, 3) := by decide +kernel
theorem J_H_print_d121 : decode J_H_print.2.1 121 = .ok (.iload_n 2, 1) := by decide +kernel
theorem J_H_print_d122 : decode J_H_print.2.1 122 = .ok (.iload 4, 2) := by decide +kernel
theorem J_H_print_d124 : decode J_H_print.2.1 124 = .ok (.iadd, 1) := by decide +kernel
theorem J_H_print_d125 : decode J_H_print.2.1 125 = .ok (.invokevirtual 152, 3) := by decide +kernel
theorem J_H_print_d128 : decode J_H_print.2.1 128 = .ok (.iastore, 1) := by decide +kernel
theorem J_H_print_d129 : decode J_H_print.2.1 129 = .ok (.aload_n 0, 1) := by decide +kernel
theorem J_H_print_d130 : decode J_H_print.2.1 130 = .ok (.getfield 73, 3) := by decide +kernel
theorem J_H_print_d133 : decode J_H_print.2.1 133 = .ok (.iload 4, 2) := by decide +kernel
theorem J_H_print_d135 : decode J_H_print.2.1 135 = .ok (.iaload, 1) := by decide +kernel
theorem J_H_print_d136 : decode J_H_print.2.1 136 = .ok (.iconst (-1), 1) := by decide +kernel
theorem J_H_print_d137 : decode J_H_print.2.1 137 = .ok (.if_icmp .eq 6, 3) := by decide +kernel
theorem J_H_print_d140 : decode J_H_print.2.1 140 = .ok (.iinc 3 1, 3) := by decide +kernel
theorem J_H_print_d143 : decode J_H_print.2.1 143 = .ok (.iinc 4 1, 3) := by decide +kernel
theorem J_H_print_d146 : decode J_H_print.2.1 146 = .ok (.goto (-48), 3) := by decide +kernel
theorem J_H_print_d149 : decode J_H_print.2.1 149 = .ok (.iload_n 3, 1) := by decide +kernel
theorem J_H_print_d150 : decode J_H_print.2.1 150 = .ok (.ireturn, 1) := by decide +kernel
theorem f_H_print_ok {L : Nat} {xs : Nat → Int32} {dep : Nat} {w : Bool} {p0 : Int32} {M : im_M} {Q : Int32 × im_M → Prop} (hM : lw_S w M) (h : ed (f_H_print w p0 M) Q) : ia (tb_G L xs) (dep + 10) J_H_print (rwI w Q) (0, lv_args 0 [.ref 0, .int p0], [], M) := by
  have hS : im_St (tb_G L xs) (dep + 10) J_H_print (ia (tb_G L xs) (dep + 10) J_H_print (rwI w Q)) := ia_St
  unfold f_H_print at h
  have l0 : im_lk (lv_args 0 [.ref 0, .int p0]) 0 = some (.ref 0) := rfl
  have l1 : im_lk (lv_args 0 [.ref 0, .int p0]) 1 = some (.int p0) := rfl
  refine iq_iload_n hS 1 J_H_print_d0 l1 rfl ?_
  refine iq_if_lt hS 4 J_H_print_d1 (t := 15) rfl (fun q1 => ?_) rfl (fun q1 => ?_)
  · replace h := ed_pos q1 h
    exact (ed_none h).elim
  · replace h := ed_neg q1 h
    refine iq_iload_n hS 5 J_H_print_d4 l1 rfl ?_
    refine iq_aload_n hS 6 J_H_print_d5 l0 rfl ?_
    refine iq_getR hS 9 J_H_print_d6 lf_11_30 (Or.inl ⟨_, rfl⟩) (ka_0 hM) (ra_0_2 hM) rfl ?_
    refine iq_getI hS 12 J_H_print_d9 lf_11_122 (Or.inl rfl) (ka_15 hM) rfl ?_
    refine iq_icmp_lt hS 15 J_H_print_d12 (t := 23) rfl (fun q12 => ?_) rfl (fun q12 => ?_)
    · replace h := ed_pos q12 h
      refine iq_aload_n hS 24 J_H_print_d23 l0 rfl ?_
      refine iq_getR hS 27 J_H_print_d24 lf_11_37 (Or.inl ⟨_, rfl⟩) (ka_0 hM) (ra_0_3 hM) rfl ?_
      refine iq_aload_n hS 28 J_H_print_d27 l0 rfl ?_
      refine iq_getR hS 31 J_H_print_d28 lf_11_30 (Or.inl ⟨_, rfl⟩) (ka_0 hM) (ra_0_2 hM) rfl ?_
      refine iq_getR hS 34 J_H_print_d31 lf_11_125 (Or.inr ⟨_, rfl⟩) (ka_15 hM) (ra_15_5 hM) rfl ?_
      refine iq_iconst hS 35 J_H_print_d34 (v := 4) (by decide +kernel) rfl ?_
      refine iq_iload_n hS 36 J_H_print_d35 l1 rfl ?_
      refine iq_imul hS 37 J_H_print_d36 rfl ?_
      obtain ⟨g37, h⟩ := ed_gd h
      refine iq_iaload hS 38 J_H_print_d37 ⟨(ka_16 hM).1, (ka_16 hM).2, g37.1, ix_lt (kl_16 hM) g37.2⟩ rfl ?_
      refine iq_aload_n hS 39 J_H_print_d38 l0 rfl ?_
      refine iq_getR hS 42 J_H_print_d39 lf_11_30 (Or.inl ⟨_, rfl⟩) (ka_0 hM) (ra_0_2 hM) rfl ?_
      refine iq_getR hS 45 J_H_print_d42 lf_11_125 (Or.inr ⟨_, rfl⟩) (ka_15 hM) (ra_15_5 hM) rfl ?_
      refine iq_iconst hS 46 J_H_print_d45 (v := 4) (by decide +kernel) rfl ?_
      refine iq_iload_n hS 47 J_H_print_d46 l1 rfl ?_
      refine iq_imul hS 48 J_H_print_d47 rfl ?_
      refine iq_iconst hS 49 J_H_print_d48 (v := 1) (by decide +kernel) rfl ?_
      refine iq_iadd hS 50 J_H_print_d49 rfl ?_
      obtain ⟨g50, h⟩ := ed_gd h
      refine iq_iaload hS 51 J_H_print_d50 ⟨(ka_16 hM).1, (ka_16 hM).2, g50.1, ix_lt (kl_16 hM) g50.2⟩ rfl ?_
      obtain ⟨Q1, hQ1, h⟩ := bd1_ed h
      refine iq_cwV hS 54 J_H_print_d51 rfl (pr_inst (vs := [_, _]) lc_11_142 lT_106 rfl rfl (by decide) (by decide) rfl (Nat.le_of_ble_eq_true rfl) (Nat.le_of_ble_eq_true rfl) (fun _ => Or.inl (pr_b (ka_28 hM) (by decide) rfl))) (f_HSheet_renew_ok (dep := dep + 8) hM h) rfl ?_
      intro M1 hM1 h
      replace h := hQ1 _ h
      refine iq_aload_n hS 55 J_H_print_d54 l0 rfl ?_
      refine iq_getR hS 58 J_H_print_d55 lf_11_69 (Or.inl ⟨_, rfl⟩) (ka_0 hM1) (ra_0_7 hM1) rfl ?_
      refine iq_iconst hS 59 J_H_print_d58 (v := 0) (by decide +kernel) rfl ?_
      refine iq_putI hS 62 J_H_print_d59 lf_11_146 (Or.inl rfl) rfl (ka_59 hM1) rfl ?_
      refine iq_aload_n hS 63 J_H_print_d62 l0 rfl ?_
      refine iq_getR hS 66 J_H_print_d63 lf_11_30 (Or.inl ⟨_, rfl⟩) (ka_0 hM1) (ra_0_2 hM1) rfl ?_
      refine iq_getR hS 69 J_H_print_d66 lf_11_125 (Or.inr ⟨_, rfl⟩) (ka_15 hM1) (ra_15_5 hM1) rfl ?_
      refine iq_iconst hS 70 J_H_print_d69 (v := 4) (by decide +kernel) rfl ?_
      refine iq_iload_n hS 71 J_H_print_d70 l1 rfl ?_
      refine iq_imul hS 72 J_H_print_d71 rfl ?_
      refine iq_iconst hS 73 J_H_print_d72 (v := 2) (by decide +kernel) rfl ?_
      refine iq_iadd hS 74 J_H_print_d73 rfl ?_
      obtain ⟨g74, h⟩ := ed_gd h
      refine iq_iaload hS 75 J_H_print_d74 ⟨(ka_16 hM1).1, (ka_16 hM1).2, g74.1, ix_lt (kl_16 hM1) g74.2⟩ rfl ?_
      refine iq_istore_n hS 76 J_H_print_d75 (by decide) rfl ?_
      refine iq_aload_n hS 77 J_H_print_d76 (lk_1r l0 (by decide)) rfl ?_
      refine iq_aload_n hS 78 J_H_print_d77 (lk_1r l0 (by decide)) rfl ?_
      refine iq_getR hS 81 J_H_print_d78 lf_11_30 (Or.inl ⟨_, rfl⟩) (ka_0 hM1) (ra_0_2 hM1) rfl ?_
      refine iq_getR hS 84 J_H_print_d81 lf_11_125 (Or.inr ⟨_, rfl⟩) (ka_15 hM1) (ra_15_5 hM1) rfl ?_
      refine iq_iconst hS 85 J_H_print_d84 (v := 4) (by decide +kernel) rfl ?_
      refine iq_iload_n hS 86 J_H_print_d85 (lk_1i l1 (by decide)) rfl ?_
      refine iq_imul hS 87 J_H_print_d86 rfl ?_
      refine iq_iconst hS 88 J_H_print_d87 (v := 3) (by decide +kernel) rfl ?_
      refine iq_iadd hS 89 J_H_print_d88 rfl ?_
      obtain ⟨g89, h⟩ := ed_gd h
      refine iq_iaload hS 90 J_H_print_d89 ⟨(ka_16 hM1).1, (ka_16 hM1).2, g89.1, ix_lt (kl_16 hM1) g89.2⟩ rfl ?_
      refine iq_putI hS 93 J_H_print_d90 lf_11_149 (Or.inl rfl) rfl (ka_0 hM1) rfl ?_
      refine iq_iconst hS 94 J_H_print_d93 (v := 0) (by decide +kernel) rfl ?_
      refine iq_istore_n hS 95 J_H_print_d94 (by decide) rfl ?_
      refine iq_iconst hS 96 J_H_print_d95 (v := 0) (by decide +kernel) rfl ?_
      refine iq_istore hS 98 J_H_print_d96 (by decide) rfl ?_
      obtain ⟨Q2, hQ2, h⟩ := bd2_ed h
      have K2 : ∀ (y3 : Int32) (M4 : im_M) (L' : List (Nat × Value)), lw_S w M4 → im_lk L' 3 = some (.int y3) → Q2 (y3, M4) → ia (tb_G L xs) (dep + 10) J_H_print (rwI w Q) (149, L', [], M4) := by
        intro y3 M4 L' hM4 l5 h
        replace h := hQ2 _ _ h
        refine iq_iload_n hS 150 J_H_print_d149 l5 rfl ?_
        exact iq_iret J_H_print_d150 rfl rfl ⟨_, rfl, hM4, ed_some h⟩
      obtain ⟨r2, hr2, hq2⟩ := h
      obtain ⟨n2, hn2⟩ := lp_n hr2
      have I2 : ∀ (n : Nat) (x6 : Int32) (x7 : Int32) (M8 : im_M) (L' : List (Nat × Value)), lw_S w M8 → im_lk L' 0 = some (.ref 0) → im_lk L' 2 = some (.int (im_i (im_setI M1 59 0 0) 16 (Int32.toNatClampNeg (((4 : Int32) * p0) + 2)))) → im_lk L' 3 = some (.int x6) → im_lk L' 4 = some (.int x7) → lpn (uc3 (f_H_print_L98 w (im_i (im_setI M1 59 0 0) 16 (Int32.toNatClampNeg (((4 : Int32) * p0) + 2))))) n (x6, x7, M8) = some r2 → ia (tb_G L xs) (dep + 10) J_H_print (rwI w Q) (98, L', [], M8) := by
        intro n
        induction n with
        | zero => intro x6 x7 M8 L' hM8 l9 l10 l11 l12 hn; exact (lpn_0 hn).elim
        | succ n ih =>
          intro x6 x7 M8 L' hM8 l9 l10 l11 l12 hn
          have h := lpn_ed3 hn
          unfold f_H_print_L98 at h
          refine iq_iload hS 100 J_H_print_d98 l12 rfl ?_
          refine iq_aload_n hS 101 J_H_print_d100 l9 rfl ?_
          refine iq_getI hS 104 J_H_print_d101 lf_11_149 (Or.inl rfl) (ka_0 hM8) rfl ?_
          refine iq_icmp_ge hS 107 J_H_print_d104 (t := 149) rfl (fun q104 => ?_) rfl (fun q104 => ?_)
          · replace h := ed_pos q104 h
            exact K2 _ _ _ hM8 l11 (lq_r h hq2)
          · replace h := ed_neg q104 h
            refine iq_aload_n hS 108 J_H_print_d107 l9 rfl ?_
            refine iq_getR hS 111 J_H_print_d108 lf_11_73 (Or.inr ⟨_, rfl⟩) (ka_0 hM8) (ra_0_8 hM8) rfl ?_
            refine iq_iload hS 113 J_H_print_d111 l12 rfl ?_
            refine iq_aload_n hS 114 J_H_print_d113 l9 rfl ?_
            refine iq_getR hS 117 J_H_print_d114 lf_11_60 (Or.inl ⟨_, rfl⟩) (ka_0 hM8) (ra_0_4 hM8) rfl ?_
            refine iq_aload_n hS 118 J_H_print_d117 l9 rfl ?_
            refine iq_getR hS 121 J_H_print_d118 lf_11_21 (Or.inl ⟨_, rfl⟩) (ka_0 hM8) (ra_0_1 hM8) rfl ?_
            refine iq_iload_n hS 122 J_H_print_d121 l10 rfl ?_
            refine iq_iload hS 124 J_H_print_d122 l12 rfl ?_
            refine iq_iadd hS 125 J_H_print_d124 rfl ?_
            obtain ⟨Q13, hQ13, h⟩ := bd2_ed h
            refine iq_cwI hS 128 J_H_print_d125 rfl (pr_inst (vs := [_, _]) lc_11_152 lT_108 rfl rfl (by decide) (by decide) rfl (Nat.le_of_ble_eq_true rfl) (Nat.le_of_ble_eq_true rfl) (fun _ => Or.inl (pr_b (ka_56 hM8) (by decide) rfl))) (f_HPen_follow_ok (dep := dep + 0) hM8 h) rfl ?_
            intro x13 M13 hM13 h
            replace h := hQ13 _ _ h
            obtain ⟨g128, h⟩ := ed_gd h
            refine iq_iastore hS 129 J_H_print_d128 ⟨(ka_66 hM13).1, (ka_66 hM13).2, g128.1, ix_lt (kl_66 hM13) g128.2⟩ rfl ?_
            refine iq_aload_n hS 130 J_H_print_d129 l9 rfl ?_
            refine iq_getR hS 133 J_H_print_d130 lf_11_73 (Or.inr ⟨_, rfl⟩) (ka_0 hM13) (ra_0_8 hM13) rfl ?_
            refine iq_iload hS 135 J_H_print_d133 l12 rfl ?_
            obtain ⟨g135, h⟩ := ed_gd h
            refine iq_iaload hS 136 J_H_print_d135 ⟨(ka_66 hM13).1, (ka_66 hM13).2, g135.1, ix_lt (kl_66 hM13) g135.2⟩ rfl ?_
            refine iq_iconst hS 137 J_H_print_d136 (v := (-1)) (by decide +kernel) rfl ?_
            have J14 : ∀ (z15 : Int32) (L' : List (Nat × Value)), z15 = ((if (im_i (im_setI M13 66 (Int32.toNatClampNeg x7) x13) 66 (Int32.toNatClampNeg x7)) = (-1) then x6 else (x6 + 1)) : Int32) → im_lk L' 0 = some (.ref 0) → im_lk L' 2 = some (.int (im_i (im_setI M1 59 0 0) 16 (Int32.toNatClampNeg (((4 : Int32) * p0) + 2)))) → im_lk L' 3 = some (.int z15) → im_lk L' 4 = some (.int x7) → ia (tb_G L xs) (dep + 10) J_H_print (rwI w Q) (143, L', [], (im_setI M13 66 (Int32.toNatClampNeg x7) x13)) := by
              intro z15 L' e16 l17 l18 l19 l20
              subst e16
              refine iq_iincv hS 146 J_H_print_d143 (c := 1) (by decide +kernel) l20 (by decide) rfl ?_
              refine iq_goto hS J_H_print_d146 (t := 98) rfl ?_
              exact ih _ _ _ _ hM13 (lk_1r l17 (by decide)) (lk_1i l18 (by decide)) (lk_1i l19 (by decide)) lk_1s (lq_l h)
            refine iq_icmp_eq hS 140 J_H_print_d137 (t := 143) rfl (fun q137 => ?_) rfl (fun q137 => ?_)
            · exact J14 _ _ (by rw [if_pos q137]) l9 l10 l11 l12
            · refine iq_iincv hS 143 J_H_print_d140 (c := 1) (by decide +kernel) l11 (by decide) rfl ?_
              exact J14 _ _ (by rw [if_neg q137]) (lk_1r l9 (by decide)) (lk_1i l10 (by decide)) lk_1s (lk_1i l12 (by decide))
      exact I2 n2 _ _ _ _ hM1 (lk_1r (lk_1r (lk_1r l0 (by decide)) (by decide)) (by decide)) (lk_1i (lk_1i lk_1s (by decide)) (by decide)) (lk_1i lk_1s (by decide)) lk_1s hn2
    · replace h := ed_neg q12 h
      exact (ed_none h).elim
noncomputable def f_Arrays_fill2_1_L6 (v2 : Int64) (v3 : Int32) (x4 : Int32) (M5 : im_M) : Option ((Int32 × im_M) ⊕ (im_M)) := if v3 ≤ x4 then some (.inr M5) else gd (inb x4 4096) <| some (.inl ((x4 + 1), (im_setL M5 (ss w) (Int32.toNatClampNeg x4) v2)))
noncomputable def f_Arrays_fill2_1 (p1 : Int64) (M : im_M) : Option (im_M) := bd1 (lp (uc2 (f_Arrays_fill2_1_L6 p1 4096)) (0, M)) fun (M6 : im_M) => some M6
theorem f_Arrays_fill2_1_ok {L : Nat} {xs : Nat → Int32} {dep : Nat} {w : Bool} {p1 : Int64} {M : im_M} {Q : im_M → Prop} (hM : lw_S w M) (h : ed (f_Arrays_fill2_1 p1 M) Q) : ia (tb_G L xs) dep J_Arrays_fill2 (rwV w Q) (0, lv_args 0 [.ref (ss w), .long p1], [], M) := by
  have hS : im_St (tb_G L xs) dep J_Arrays_fill2 (ia (tb_G L xs) dep J_Arrays_fill2 (rwV w Q)) := ia_St
  unfold f_Arrays_fill2_1 at h
  have l0 : im_lk (lv_args 0 [.ref (ss w), .long p1]) 0 = some (.ref (ss w)) := rfl
  have l1 : im_lk (lv_args 0 [.ref (ss w), .long p1]) 1 = some (.long p1) := rfl
  refine iq_iconst hS 1 J_Arrays_fill2_d0 (v := 0) (by decide +kernel) rfl ?_
  refine iq_istore_n hS 2 J_Arrays_fill2_d1 (by decide) rfl ?_
  refine iq_aload_n hS 3 J_Arrays_fill2_d2 (lk_1r l0 (by decide)) rfl ?_
  refine iq_alenv hS 4 J_Arrays_fill2_d3 (v := 4096) (ka_ss hM) (by decide) (by decide) (kl_ss hM) (by decide +kernel) rfl ?_
  refine iq_istore hS 6 J_Arrays_fill2_d4 (by decide) rfl ?_
  obtain ⟨Q1, hQ1, h⟩ := bd1_ed h
  have K1 : ∀ (M2 : im_M) (L' : List (Nat × Value)), lw_S w M2 → Q1 M2 → ia (tb_G L xs) dep J_Arrays_fill2 (rwV w Q) (22, L', [], M2) := by
    intro M2 L' hM2  h
    replace h := hQ1 _ h
    exact iq_ret J_Arrays_fill2_d22 rfl ⟨rfl, hM2, ed_some h⟩
  obtain ⟨r1, hr1, hq1⟩ := h
  obtain ⟨n1, hn1⟩ := lp_n hr1
  have I1 : ∀ (n : Nat) (x3 : Int32) (M4 : im_M) (L' : List (Nat × Value)), lw_S w M4 → im_lk L' 0 = some (.ref (ss w)) → im_lk L' 1 = some (.long p1) → im_lk L' 3 = some (.int x3) → im_lk L' 4 = some (.int 4096) → lpn (uc2 (f_Arrays_fill2_1_L6 p1 4096)) n (x3, M4) = some r1 → ia (tb_G L xs) dep J_Arrays_fill2 (rwV w Q) (6, L', [], M4) := by
    intro n
    induction n with
    | zero => intro x3 M4 L' hM4 l5 l6 l7 l8 hn; exact (lpn_0 hn).elim
    | succ n ih =>
      intro x3 M4 L' hM4 l5 l6 l7 l8 hn
      have h := lpn_ed2 hn
      unfold f_Arrays_fill2_1_L6 at h
      refine iq_iload_n hS 7 J_Arrays_fill2_d6 l7 rfl ?_
      refine iq_iload hS 9 J_Arrays_fill2_d7 l8 rfl ?_
      refine iq_icmp_ge hS 12 J_Arrays_fill2_d9 (t := 22) rfl (fun q9 => ?_) rfl (fun q9 => ?_)
      · replace h := ed_pos q9 h
        exact K1 _ _ hM4  (lq_r h hq1)
      · replace h := ed_neg q9 h
        refine iq_aload_n hS 13 J_Arrays_fill2_d12 l5 rfl ?_
        refine iq_iload_n hS 14 J_Arrays_fill2_d13 l7 rfl ?_
        refine iq_lload_n hS 15 J_Arrays_fill2_d14 l6 rfl ?_
        obtain ⟨g15, h⟩ := ed_gd h
        refine iq_lastore hS 16 J_Arrays_fill2_d15 ⟨(ka_ss hM4).1, (ka_ss hM4).2, g15.1, ix_lt (kl_ss hM4) g15.2⟩ rfl ?_
        refine iq_iincv hS 19 J_Arrays_fill2_d16 (c := 1) (by decide +kernel) l7 (by decide) rfl ?_
        refine iq_goto hS J_Arrays_fill2_d19 (t := 6) rfl ?_
        exact ih _ _ _ hM4 (lk_1r l5 (by decide)) (lk_1l l6 (by decide) (by decide)) lk_1s (lk_1i l8 (by decide)) (lq_l h)
  exact I1 n1 _ _ _ hM (lk_1r (lk_1r l0 (by decide)) (by decide)) (lk_1l (lk_1l l1 (by decide) (by decide)) (by decide) (by decide)) (lk_1i lk_1s (by decide)) lk_1s hn1
noncomputable def f_HSheet_rotateWord_L16 (w : Bool) (v2 : Int32) (v3 : Int32) (v4 : Int32) (v5 : Int64) (x6 : Int32) (M7 : im_M) : Option ((Int32 × im_M) ⊕ (im_M)) := if 64 ≤ x6 then some (.inr M7) else bd1 (if (lg_cmp ((Int64.toUInt64 v5 >>> ((Int32.toInt64 x6).toUInt64 &&& Int64.toUInt64 63)).toInt64 &&& 1) 0) = 0 then some M7 else gd (inb ((((if ¬ v4 = 1 then (if ¬ v4 = 2 then (((im_i M7 28 0) - 1) - (((64 : Int32) * v2) + x6)) else (((im_i M7 28 1) - 1) - v3)) else (((64 : Int32) * v2) + x6)) : Int32) * 8) + (((if ¬ v4 = 1 then (if ¬ v4 = 2 then v3 else (((im_i M7 28 0) - 1) - (((64 : Int32) * v2) + x6))) else (((im_i M7 28 1) - 1) - v3)) : Int32) >>> (6 &&& 31))) 4096) <| gd (inb ((((if ¬ v4 = 1 then (if ¬ v4 = 2 then (((im_i M7 28 0) - 1) - (((64 : Int32) * v2) + x6)) else (((im_i M7 28 1) - 1) - v3)) else (((64 : Int32) * v2) + x6)) : Int32) * 8) + (((if ¬ v4 = 1 then (if ¬ v4 = 2 then v3 else (((im_i M7 28 0) - 1) - (((64 : Int32) * v2) + x6))) else (((im_i M7 28 1) - 1) - v3)) : Int32) >>> (6 &&& 31))) 4096) <| some (im_setL M7 (ss w) (Int32.toNatClampNeg ((((if ¬ v4 = 1 then (if ¬ v4 = 2 then (((im_i M7 28 0) - 1) - (((64 : Int32) * v2) + x6)) else (((im_i M7 28 1) - 1) - v3)) else (((64 : Int32) * v2) + x6)) : Int32) * 8) + (((if ¬ v4 = 1 then (if ¬ v4 = 2 then v3 else (((im_i M7 28 0) - 1) - (((64 : Int32) * v2) + x6))) else (((im_i M7 28 1) - 1) - v3)) : Int32) >>> (6 &&& 31)))) ((im_l M7 (ss w) (Int32.toNatClampNeg ((((if ¬ v4 = 1 then (if ¬ v4 = 2 then (((im_i M7 28 0) - 1) - (((64 : Int32) * v2) + x6)) else (((im_i M7 28 1) - 1) - v3)) else (((64 : Int32) * v2) + x6)) : Int32) * 8) + (((if ¬ v4 = 1 then (if ¬ v4 = 2 then v3 else (((im_i M7 28 0) - 1) - (((64 : Int32) * v2) + x6))) else (((im_i M7 28 1) - 1) - v3)) : Int32) >>> (6 &&& 31))))) ||| ((1 : Int64) <<< (Int32.toInt64 (((if ¬ v4 = 1 then (if ¬ v4 = 2 then v3 else (((im_i M7 28 0) - 1) - (((64 : Int32) * v2) + x6))) else (((im_i M7 28 1) - 1) - v3)) : Int32) &&& 63) &&& 63))))) fun (M11 : im_M) => some (.inl ((x6 + 1), M11))
noncomputable def f_HSheet_rotateWord (w : Bool) (p0 : Int32) (p1 : Int32) (p2 : Int32) (M : im_M) : Option (im_M) := gd (inb ((p1 * 8) + p0) 4096) <| bd1 (lp (uc2 (f_HSheet_rotateWord_L16 w p0 p1 p2 (im_l M (sw w) (Int32.toNatClampNeg ((p1 * 8) + p0))))) (0, M)) fun (M18 : im_M) => some M18
theorem J_HSheet_rotateWord_d0 : decode J_HSheet_rotateWord.2.1 0 = .ok (.aload_n 0, 1) := by decide +kernel
theorem J_HSheet_rotateWord_d1 : decode J_HSheet_rotateWord.2.1 1 = .ok (.getfield 18, 3) := by decide +kernel
theorem J_HSheet_rotateWord_d4 : decode J_HSheet_rotateWord.2.1 4 = .ok (.iload_n 2, 1) := by decide +kernel
theorem J_HSheet_rotateWord_d5 : decode J_HSheet_rotateWord.2.1 5 = .ok (.bipush 8, 2) := by decide +kernel
theorem J_HSheet_rotateWord_d7 : decode J_HSheet_rotateWord.2.1 7 = .ok (.imul, 1) := by decide +kernel
theorem J_HSheet_rotateWord_d8 : decode J_HSheet_rotateWord.2.1 8 = .ok (.iload_n 1, 1) := by decide +kernel
theorem J_HSheet_rotateWord_d9 : decode J_HSheet_rotateWord.2.1 9 = .ok (.iadd, 1) := by decide +kernel
theorem J_HSheet_rotateWord_d10 : decode J_HSheet_rotateWord.2.1 10 = .ok (.laload, 1) := by decide +kernel
theorem J_HSheet_rotateWord_d11 : decode J_HSheet_rotateWord.2.1 11 = .ok (.lstore 4, 2) := by decide +kernel
theorem J_HSheet_rotateWord_d13 : decode J_HSheet_rotateWord.2.1 13 = .ok (.iconst 0, 1) := by decide +kernel
theorem J_HSheet_rotateWord_d14 : decode J_HSheet_rotateWord.2.1 14 = .ok (.istore 6, 2) := by decide +kernel
theorem J_HSheet_rotateWord_d16 : decode J_HSheet_rotateWord.2.1 16 = .ok (.iload 6, 2) := by decide +kernel
theorem J_HSheet_rotateWord_d18 : decode J_HSheet_rotateWord.2.1 18 = .ok (.bipush 64, 2) := by decide +kernel
theorem J_HSheet_rotateWord_d20 : decode J_HSheet_rotateWord.2.1 20 = .ok (.if_icmp .ge 129, 3) := by decide +kernel
theorem J_HSheet_rotateWord_d23 : decode J_HSheet_rotateWord.2.1 23 = .ok (.lload 4, 2) := by decide +kernel
theorem J_HSheet_rotateWord_d25 : decode J_HSheet_rotateWord.2.1 25 = .ok (.iload 6, 2) := by decide +kernel
theorem J_HSheet_rotateWord_d27 : decode J_HSheet_rotateWord.2.1 27 = .ok (.lushr, 1) := by decide +kernel
theorem J_HSheet_rotateWord_d28 : decode J_HSheet_rotateWord.2.1 28 = .ok (.lconst 1, 1) := by decide +kernel
theorem J_HSheet_rotateWord_d29 : decode J_HSheet_rotateWord.2.1 29 = .ok (.land, 1) := by decide +kernel
theorem J_HSheet_rotateWord_d30 : decode J_HSheet_rotateWord.2.1 30 = .ok (.lconst 0, 1) := by decide +kernel
theorem J_HSheet_rotateWord_d31 : decode J_HSheet_rotateWord.2.1 31 = .ok (.lcmp, 1) := by decide +kernel
theorem J_HSheet_rotateWord_d32 : decode J_HSheet_rotateWord.2.1 32 = .ok (.ifCond .eq 111, 3) := by decide +kernel
theorem J_HSheet_rotateWord_d35 : decode J_HSheet_rotateWord.2.1 35 = .ok (.bipush 64, 2) := by decide +kernel
theorem J_HSheet_rotateWord_d37 : decode J_HSheet_rotateWord.2.1 37 = .ok (.iload_n 1, 1) := by decide +kernel
theorem J_HSheet_rotateWord_d38 : decode J_HSheet_rotateWord.2.1 38 = .ok (.imul, 1) := by decide +kernel
theorem J_HSheet_rotateWord_d39 : decode J_HSheet_rotateWord.2.1 39 = .ok (.iload 6, 2) := by decide +kernel
theorem J_HSheet_rotateWord_d41 : decode J_HSheet_rotateWord.2.1 41 = .ok (.iadd, 1) := by decide +kernel
theorem J_HSheet_rotateWord_d42 : decode J_HSheet_rotateWord.2.1 42 = .ok (.istore 7, 2) := by decide +kernel
theorem J_HSheet_rotateWord_d44 : decode J_HSheet_rotateWord.2.1 44 = .ok (.iload_n 3, 1) := by decide +kernel
theorem J_HSheet_rotateWord_d45 : decode J_HSheet_rotateWord.2.1 45 = .ok (.iconst 1, 1) := by decide +kernel
theorem J_HSheet_rotateWord_d46 : decode J_HSheet_rotateWord.2.1 46 = .ok (.if_icmp .ne 14, 3) := by decide +kernel
theorem J_HSheet_rotateWord_d49 : decode J_HSheet_rotateWord.2.1 49 = .ok (.aload_n 0, 1) := by decide +kernel
theorem J_HSheet_rotateWord_d50 : decode J_HSheet_rotateWord.2.1 50 = .ok (.getfield 15, 3) := by decide +kernel
theorem J_HSheet_rotateWord_d53 : decode J_HSheet_rotateWord.2.1 53 = .ok (.iconst 1, 1) := by decide +kernel
theorem J_HSheet_rotateWord_d54 : decode J_HSheet_rotateWord.2.1 54 = .ok (.isub, 1) := by decide +kernel
theorem J_HSheet_rotateWord_d55 : decode J_HSheet_rotateWord.2.1 55 = .ok (.iload_n 2, 1) := by decide +kernel
theorem J_HSheet_rotateWord_d56 : decode J_HSheet_rotateWord.2.1 56 = .ok (.isub, 1) := by decide +kernel
theorem J_HSheet_rotateWord_d57 : decode J_HSheet_rotateWord.2.1 57 = .ok (.goto 21, 3) := by decide +kernel
theorem J_HSheet_rotateWord_d60 : decode J_HSheet_rotateWord.2.1 60 = .ok (.iload_n 3, 1) := by decide +kernel
theorem J_HSheet_rotateWord_d61 : decode J_HSheet_rotateWord.2.1 61 = .ok (.iconst 2, 1) := by decide +kernel
theorem J_HSheet_rotateWord_d62 : decode J_HSheet_rotateWord.2.1 62 = .ok (.if_icmp .ne 15, 3) := by decide +kernel
theorem J_HSheet_rotateWord_d65 : decode J_HSheet_rotateWord.2.1 65 = .ok (.aload_n 0, 1) := by decide +kernel
theorem J_HSheet_rotateWord_d66 : decode J_HSheet_rotateWord.2.1 66 = .ok (.getfield 9, 3) := by decide +kernel
theorem J_HSheet_rotateWord_d69 : decode J_HSheet_rotateWord.2.1 69 = .ok (.iconst 1, 1) := by decide +kernel
theorem J_HSheet_rotateWord_d70 : decode J_HSheet_rotateWord.2.1 70 = .ok (.isub, 1) := by decide +kernel
theorem J_HSheet_rotateWord_d71 : decode J_HSheet_rotateWord.2.1 71 = .ok (.iload 7, 2) := by decide +kernel
theorem J_HSheet_rotateWord_d73 : decode J_HSheet_rotateWord.2.1 73 = .ok (.isub, 1) := by decide +kernel
theorem J_HSheet_rotateWord_d74 : decode J_HSheet_rotateWord.2.1 74 = .ok (.goto 4, 3) := by decide +kernel
theorem J_HSheet_rotateWord_d77 : decode J_HSheet_rotateWord.2.1 77 = .ok (.iload_n 2, 1) := by decide +kernel
theorem J_HSheet_rotateWord_d78 : decode J_HSheet_rotateWord.2.1 78 = .ok (.istore 8, 2) := by decide +kernel
theorem J_HSheet_rotateWord_d80 : decode J_HSheet_rotateWord.2.1 80 = .ok (.iload_n 3, 1) := by decide +kernel
theorem J_HSheet_rotateWord_d81 : decode J_HSheet_rotateWord.2.1 81 = .ok (.iconst 1, 1) := by decide +kernel
theorem J_HSheet_rotateWord_d82 : decode J_HSheet_rotateWord.2.1 82 = .ok (.if_icmp .ne 8, 3) := by decide +kernel
theorem J_HSheet_rotateWord_d85 : decode J_HSheet_rotateWord.2.1 85 = .ok (.iload 7, 2) := by decide +kernel
theorem J_HSheet_rotateWord_d87 : decode J_HSheet_rotateWord.2.1 87 = .ok (.goto 28, 3) := by decide +kernel
theorem J_HSheet_rotateWord_d90 : decode J_HSheet_rotateWord.2.1 90 = .ok (.iload_n 3, 1) := by decide +kernel
theorem J_HSheet_rotateWord_d91 : decode J_HSheet_rotateWord.2.1 91 = .ok (.iconst 2, 1) := by decide +kernel
theorem J_HSheet_rotateWord_d92 : decode J_HSheet_rotateWord.2.1 92 = .ok (.if_icmp .ne 14, 3) := by decide +kernel
theorem J_HSheet_rotateWord_d95 : decode J_HSheet_rotateWord.2.1 95 = .ok (.aload_n 0, 1) := by decide +kernel
theorem J_HSheet_rotateWord_d96 : decode J_HSheet_rotateWord.2.1 96 = .ok (.getfield 15, 3) := by decide +kernel
theorem J_HSheet_rotateWord_d99 : decode J_HSheet_rotateWord.2.1 99 = .ok (.iconst 1, 1) := by decide +kernel
theorem J_HSheet_rotateWord_d100 : decode J_HSheet_rotateWord.2.1 100 = .ok (.isub, 1) := by decide +kernel
theorem J_HSheet_rotateWord_d101 : decode J_HSheet_rotateWord.2.1 101 = .ok (.iload_n 2, 1) := by decide +kernel
theorem J_HSheet_rotateWord_d102 : decode J_HSheet_rotateWord.2.1 102 = .ok (.isub, 1) := by decide +kernel
theorem J_HSheet_rotateWord_d103 : decode J_HSheet_rotateWord.2.1 103 = .ok (.goto 12, 3) := by decide +kernel
theorem J_HSheet_rotateWord_d106 : decode J_HSheet_rotateWord.2.1 106 = .ok (.aload_n 0, 1) := by decide +kernel
theorem J_HSheet_rotateWord_d107 : decode J_HSheet_rotateWord.2.1 107 = .ok (.getfield 9, 3) := by decide +kernel
theorem J_HSheet_rotateWord_d110 : decode J_HSheet_rotateWord.2.1 110 = .ok (.iconst 1, 1) := by decide +kernel
theorem J_HSheet_rotateWord_d111 : decode J_HSheet_rotateWord.2.1 111 = .ok (.isub, 1) := by decide +kernel
theorem J_HSheet_rotateWord_d112 : decode J_HSheet_rotateWord.2.1 112 = .ok (.iload 7, 2) := by decide +kernel
theorem J_HSheet_rotateWord_d114 : decode J_HSheet_rotateWord.2.1 114 = .ok (.isub, 1) := by decide +kernel
theorem J_HSheet_rotateWord_d115 : decode J_HSheet_rotateWord.2.1 115 = .ok (.istore 9, 2) := by decide +kernel
theorem J_HSheet_rotateWord_d117 : decode J_HSheet_rotateWord.2.1 117 = .ok (.aload_n 0, 1) := by decide +kernel
theorem J_HSheet_rotateWord_d118 : decode J_HSheet_rotateWord.2.1 118 = .ok (.getfield 22, 3) := by decide +kernel
theorem J_HSheet_rotateWord_d121 : decode J_HSheet_rotateWord.2.1 121 = .ok (.iload 9, 2) := by decide +kernel
theorem J_HSheet_rotateWord_d123 : decode J_HSheet_rotateWord.2.1 123 = .ok (.bipush 8, 2) := by decide +kernel
theorem J_HSheet_rotateWord_d125 : decode J_HSheet_rotateWord.2.1 125 = .ok (.imul, 1) := by decide +kernel
theorem J_HSheet_rotateWord_d126 : decode J_HSheet_rotateWord.2.1 126 = .ok (.iload 8, 2) := by decide +kernel
theorem J_HSheet_rotateWord_d128 : decode J_HSheet_rotateWord.2.1 128 = .ok (.bipush 6, 2) := by decide +kernel
theorem J_HSheet_rotateWord_d130 : decode J_HSheet_rotateWord.2.1 130 = .ok (.ishr, 1) := by decide +kernel
theorem J_HSheet_rotateWord_d131 : decode J_HSheet_rotateWord.2.1 131 = .ok (.iadd, 1) := by decide +kernel
theorem J_HSheet_rotateWord_d132 : decode J_HSheet_rotateWord.2.1 132 = .ok (.dup2, 1) := by decide +kernel
theorem J_HSheet_rotateWord_d133 : decode J_HSheet_rotateWord.2.1 133 = .ok (.laload, 1) := by decide +kernel
theorem J_HSheet_rotateWord_d134 : decode J_HSheet_rotateWord.2.1 134 = .ok (.lconst 1, 1) := by decide +kernel
theorem J_HSheet_rotateWord_d135 : decode J_HSheet_rotateWord.2.1 135 = .ok (.iload 8, 2) := by decide +kernel
theorem J_HSheet_rotateWord_d137 : decode J_HSheet_rotateWord.2.1 137 = .ok (.bipush 63, 2) := by decide +kernel
theorem J_HSheet_rotateWord_d139 : decode J_HSheet_rotateWord.2.1 139 = .ok (.iand, 1) := by decide +kernel
theorem J_HSheet_rotateWord_d140 : decode J_HSheet_rotateWord.2.1 140 = .ok (.lshl, 1) := by decide +kernel
theorem J_HSheet_rotateWord_d141 : decode J_HSheet_rotateWord.2.1 141 = .ok (.lor, 1) := by decide +kernel
theorem J_HSheet_rotateWord_d142 : decode J_HSheet_rotateWord.2.1 142 = .ok (.lastore, 1) := by decide +kernel
theorem J_HSheet_rotateWord_d143 : decode J_HSheet_rotateWord.2.1 143 = .ok (.iinc 6 1, 3) := by decide +kernel
theorem J_HSheet_rotateWord_d146 : decode J_HSheet_rotateWord.2.1 146 = .ok (.goto (-130), 3) := by decide +kernel
theorem J_HSheet_rotateWord_d149 : decode J_HSheet_rotateWord.2.1 149 = .ok (.return_, 1) := by decide +kernel
theorem f_HSheet_rotateWord_ok {L : Nat} {xs : Nat → Int32} {dep : Nat} {w : Bool} {p0 : Int32} {p1 : Int32} {p2 : Int32} {M : im_M} {Q : im_M → Prop} (hM : lw_S w M) (h : ed (f_HSheet_rotateWord w p0 p1 p2 M) Q) : ia (tb_G L xs) dep J_HSheet_rotateWord (rwV w Q) (0, lv_args 0 [.ref 28, .int p0, .int p1, .int p2], [], M) := by
  have hS : im_St (tb_G L xs) dep J_HSheet_rotateWord (ia (tb_G L xs) dep J_HSheet_rotateWord (rwV w Q)) := ia_St
  unfold f_HSheet_rotateWord at h
  have l0 : im_lk (lv_args 0 [.ref 28, .int p0, .int p1, .int p2]) 0 = some (.ref 28) := rfl
  have l1 : im_lk (lv_args 0 [.ref 28, .int p0, .int p1, .int p2]) 1 = some (.int p0) := rfl
  have l2 : im_lk (lv_args 0 [.ref 28, .int p0, .int p1, .int p2]) 2 = some (.int p1) := rfl
  have l3 : im_lk (lv_args 0 [.ref 28, .int p0, .int p1, .int p2]) 3 = some (.int p2) := rfl
  refine iq_aload_n hS 1 J_HSheet_rotateWord_d0 l0 rfl ?_
  refine iq_getR hS 4 J_HSheet_rotateWord_d1 lf_9_18 (Or.inr ⟨_, rfl⟩) (ka_28 hM) (ra_28_sw hM) rfl ?_
  refine iq_iload_n hS 5 J_HSheet_rotateWord_d4 l2 rfl ?_
  refine iq_bipush hS 7 J_HSheet_rotateWord_d5 (v := 8) (by decide +kernel) rfl ?_
  refine iq_imul hS 8 J_HSheet_rotateWord_d7 rfl ?_
  refine iq_iload_n hS 9 J_HSheet_rotateWord_d8 l1 rfl ?_
  refine iq_iadd hS 10 J_HSheet_rotateWord_d9 rfl ?_
  obtain ⟨g10, h⟩ := ed_gd h
  refine iq_laload hS 11 J_HSheet_rotateWord_d10 ⟨(ka_sw hM).1, (ka_sw hM).2, g10.1, ix_lt (kl_sw hM) g10.2⟩ rfl ?_
  refine iq_lstore hS 13 J_HSheet_rotateWord_d11 (by decide) rfl ?_
  refine iq_iconst hS 14 J_HSheet_rotateWord_d13 (v := 0) (by decide +kernel) rfl ?_
  refine iq_istore hS 16 J_HSheet_rotateWord_d14 (by decide) rfl ?_
  obtain ⟨Q1, hQ1, h⟩ := bd1_ed h
  have K1 : ∀ (M2 : im_M) (L' : List (Nat × Value)), lw_S w M2 → Q1 M2 → ia (tb_G L xs) dep J_HSheet_rotateWord (rwV w Q) (149, L', [], M2) := by
    intro M2 L' hM2  h
    replace h := hQ1 _ h
    exact iq_ret J_HSheet_rotateWord_d149 rfl ⟨rfl, hM2, ed_some h⟩
  obtain ⟨r1, hr1, hq1⟩ := h
  obtain ⟨n1, hn1⟩ := lp_n hr1
  have I1 : ∀ (n : Nat) (x3 : Int32) (M4 : im_M) (L' : List (Nat × Value)), lw_S w M4 → im_lk L' 0 = some (.ref 28) → im_lk L' 1 = some (.int p0) → im_lk L' 2 = some (.int p1) → im_lk L' 3 = some (.int p2) → im_lk L' 4 = some (.long (im_l M (sw w) (Int32.toNatClampNeg ((p1 * 8) + p0)))) → im_lk L' 6 = some (.int x3) → lpn (uc2 (f_HSheet_rotateWord_L16 w p0 p1 p2 (im_l M (sw w) (Int32.toNatClampNeg ((p1 * 8) + p0))))) n (x3, M4) = some r1 → ia (tb_G L xs) dep J_HSheet_rotateWord (rwV w Q) (16, L', [], M4) := by
    intro n
    induction n with
    | zero => intro x3 M4 L' hM4 l5 l6 l7 l8 l9 l10 hn; exact (lpn_0 hn).elim
    | succ n ih =>
      intro x3 M4 L' hM4 l5 l6 l7 l8 l9 l10 hn
      have h := lpn_ed2 hn
      unfold f_HSheet_rotateWord_L16 at h
      refine iq_iload hS 18 J_HSheet_rotateWord_d16 l10 rfl ?_
      refine iq_bipush hS 20 J_HSheet_rotateWord_d18 (v := 64) (by decide +kernel) rfl ?_
      refine iq_icmp_ge hS 23 J_HSheet_rotateWord_d20 (t := 149) rfl (fun q20 => ?_) rfl (fun q20 => ?_)
      · replace h := ed_pos q20 h
        exact K1 _ _ hM4  (lq_r h hq1)
      · replace h := ed_neg q20 h
        refine iq_lload hS 25 J_HSheet_rotateWord_d23 l9 rfl ?_
        refine iq_iload hS 27 J_HSheet_rotateWord_d25 l10 rfl ?_
        refine iq_lushr hS 28 J_HSheet_rotateWord_d27 rfl ?_
        refine iq_lconst hS 29 J_HSheet_rotateWord_d28 (v := 1) (by decide +kernel) rfl ?_
        refine iq_land hS 30 J_HSheet_rotateWord_d29 rfl ?_
        refine iq_lconst hS 31 J_HSheet_rotateWord_d30 (v := 0) (by decide +kernel) rfl ?_
        refine iq_lcmp hS 32 J_HSheet_rotateWord_d31 rfl ?_
        obtain ⟨Q11, hQ11, h⟩ := bd1_ed h
        have J11 : ∀ (M32 : im_M) (L' : List (Nat × Value)), lw_S w M32 → im_lk L' 0 = some (.ref 28) → im_lk L' 1 = some (.int p0) → im_lk L' 2 = some (.int p1) → im_lk L' 3 = some (.int p2) → im_lk L' 4 = some (.long (im_l M (sw w) (Int32.toNatClampNeg ((p1 * 8) + p0)))) → im_lk L' 6 = some (.int x3) → Q11 M32 → ia (tb_G L xs) dep J_HSheet_rotateWord (rwV w Q) (143, L', [], M32) := by
          intro M32 L' hM32 l33 l34 l35 l36 l37 l38 h
          replace h := hQ11 _ h
          refine iq_iincv hS 146 J_HSheet_rotateWord_d143 (c := 1) (by decide +kernel) l38 (by decide) rfl ?_
          refine iq_goto hS J_HSheet_rotateWord_d146 (t := 16) rfl ?_
          exact ih _ _ _ hM32 (lk_1r l33 (by decide)) (lk_1i l34 (by decide)) (lk_1i l35 (by decide)) (lk_1i l36 (by decide)) (lk_1l l37 (by decide) (by decide)) lk_1s (lq_l h)
        refine iq_if_eq hS 35 J_HSheet_rotateWord_d32 (t := 143) rfl (fun q32 => ?_) rfl (fun q32 => ?_)
        · replace h := ed_pos q32 h
          exact J11 _ _ hM4 l5 l6 l7 l8 l9 l10 (ed_some h)
        · replace h := ed_neg q32 h
          refine iq_bipush hS 37 J_HSheet_rotateWord_d35 (v := 64) (by decide +kernel) rfl ?_
          refine iq_iload_n hS 38 J_HSheet_rotateWord_d37 l6 rfl ?_
          refine iq_imul hS 39 J_HSheet_rotateWord_d38 rfl ?_
          refine iq_iload hS 41 J_HSheet_rotateWord_d39 l10 rfl ?_
          refine iq_iadd hS 42 J_HSheet_rotateWord_d41 rfl ?_
          refine iq_istore hS 44 J_HSheet_rotateWord_d42 (by decide) rfl ?_
          refine iq_iload_n hS 45 J_HSheet_rotateWord_d44 (lk_1i l8 (by decide)) rfl ?_
          refine iq_iconst hS 46 J_HSheet_rotateWord_d45 (v := 1) (by decide +kernel) rfl ?_
          have J12 : ∀ (z13 : Int32) (L' : List (Nat × Value)), z13 = ((if ¬ p2 = 1 then (if ¬ p2 = 2 then p1 else (((im_i M4 28 0) - 1) - (((64 : Int32) * p0) + x3))) else (((im_i M4 28 1) - 1) - p1)) : Int32) → im_lk L' 0 = some (.ref 28) → im_lk L' 1 = some (.int p0) → im_lk L' 2 = some (.int p1) → im_lk L' 3 = some (.int p2) → im_lk L' 4 = some (.long (im_l M (sw w) (Int32.toNatClampNeg ((p1 * 8) + p0)))) → im_lk L' 6 = some (.int x3) → im_lk L' 7 = some (.int (((64 : Int32) * p0) + x3)) → ia (tb_G L xs) dep J_HSheet_rotateWord (rwV w Q) (78, L', [.int z13], M4) := by
            intro z13 L' e14 l15 l16 l17 l18 l19 l20 l21
            subst e14
            refine iq_istore hS 80 J_HSheet_rotateWord_d78 (by decide) rfl ?_
            refine iq_iload_n hS 81 J_HSheet_rotateWord_d80 (lk_1i l18 (by decide)) rfl ?_
            refine iq_iconst hS 82 J_HSheet_rotateWord_d81 (v := 1) (by decide +kernel) rfl ?_
            have J22 : ∀ (z23 : Int32) (L' : List (Nat × Value)), z23 = ((if ¬ p2 = 1 then (if ¬ p2 = 2 then (((im_i M4 28 0) - 1) - (((64 : Int32) * p0) + x3)) else (((im_i M4 28 1) - 1) - p1)) else (((64 : Int32) * p0) + x3)) : Int32) → im_lk L' 0 = some (.ref 28) → im_lk L' 1 = some (.int p0) → im_lk L' 2 = some (.int p1) → im_lk L' 3 = some (.int p2) → im_lk L' 4 = some (.long (im_l M (sw w) (Int32.toNatClampNeg ((p1 * 8) + p0)))) → im_lk L' 6 = some (.int x3) → im_lk L' 8 = some (.int ((if ¬ p2 = 1 then (if ¬ p2 = 2 then p1 else (((im_i M4 28 0) - 1) - (((64 : Int32) * p0) + x3))) else (((im_i M4 28 1) - 1) - p1)) : Int32)) → ia (tb_G L xs) dep J_HSheet_rotateWord (rwV w Q) (115, L', [.int z23], M4) := by
              intro z23 L' e24 l25 l26 l27 l28 l29 l30 l31
              subst e24
              refine iq_istore hS 117 J_HSheet_rotateWord_d115 (by decide) rfl ?_
              refine iq_aload_n hS 118 J_HSheet_rotateWord_d117 (lk_1r l25 (by decide)) rfl ?_
              refine iq_getR hS 121 J_HSheet_rotateWord_d118 lf_9_22 (Or.inr ⟨_, rfl⟩) (ka_28 hM4) (ra_28_ss hM4) rfl ?_
              refine iq_iload hS 123 J_HSheet_rotateWord_d121 lk_1s rfl ?_
              refine iq_bipush hS 125 J_HSheet_rotateWord_d123 (v := 8) (by decide +kernel) rfl ?_
              refine iq_imul hS 126 J_HSheet_rotateWord_d125 rfl ?_
              refine iq_iload hS 128 J_HSheet_rotateWord_d126 (lk_1i l31 (by decide)) rfl ?_
              refine iq_bipush hS 130 J_HSheet_rotateWord_d128 (v := 6) (by decide +kernel) rfl ?_
              refine iq_ishr hS 131 J_HSheet_rotateWord_d130 rfl ?_
              refine iq_iadd hS 132 J_HSheet_rotateWord_d131 rfl ?_
              refine iq_dup2 hS 133 J_HSheet_rotateWord_d132 rfl rfl rfl ?_
              obtain ⟨g133, h⟩ := ed_gd h
              refine iq_laload hS 134 J_HSheet_rotateWord_d133 ⟨(ka_ss hM4).1, (ka_ss hM4).2, g133.1, ix_lt (kl_ss hM4) g133.2⟩ rfl ?_
              refine iq_lconst hS 135 J_HSheet_rotateWord_d134 (v := 1) (by decide +kernel) rfl ?_
              refine iq_iload hS 137 J_HSheet_rotateWord_d135 (lk_1i l31 (by decide)) rfl ?_
              refine iq_bipush hS 139 J_HSheet_rotateWord_d137 (v := 63) (by decide +kernel) rfl ?_
              refine iq_iand hS 140 J_HSheet_rotateWord_d139 rfl ?_
              refine iq_lshl hS 141 J_HSheet_rotateWord_d140 rfl ?_
              refine iq_lor hS 142 J_HSheet_rotateWord_d141 rfl ?_
              obtain ⟨g142, h⟩ := ed_gd h
              refine iq_lastore hS 143 J_HSheet_rotateWord_d142 ⟨(ka_ss hM4).1, (ka_ss hM4).2, g142.1, ix_lt (kl_ss hM4) g142.2⟩ rfl ?_
              exact J11 _ _ hM4 (lk_1r l25 (by decide)) (lk_1i l26 (by decide)) (lk_1i l27 (by decide)) (lk_1i l28 (by decide)) (lk_1l l29 (by decide) (by decide)) (lk_1i l30 (by decide)) (ed_some h)
            refine iq_icmp_ne hS 85 J_HSheet_rotateWord_d82 (t := 90) rfl (fun q82 => ?_) rfl (fun q82 => ?_)
            · refine iq_iload_n hS 91 J_HSheet_rotateWord_d90 (lk_1i l18 (by decide)) rfl ?_
              refine iq_iconst hS 92 J_HSheet_rotateWord_d91 (v := 2) (by decide +kernel) rfl ?_
              refine iq_icmp_ne hS 95 J_HSheet_rotateWord_d92 (t := 106) rfl (fun q92 => ?_) rfl (fun q92 => ?_)
              · refine iq_aload_n hS 107 J_HSheet_rotateWord_d106 (lk_1r l15 (by decide)) rfl ?_
                refine iq_getI hS 110 J_HSheet_rotateWord_d107 lf_9_9 (Or.inl rfl) (ka_28 hM4) rfl ?_
                refine iq_iconst hS 111 J_HSheet_rotateWord_d110 (v := 1) (by decide +kernel) rfl ?_
                refine iq_isub hS 112 J_HSheet_rotateWord_d111 rfl ?_
                refine iq_iload hS 114 J_HSheet_rotateWord_d112 (lk_1i l21 (by decide)) rfl ?_
                refine iq_isub hS 115 J_HSheet_rotateWord_d114 rfl ?_
                exact J22 _ _ (by rw [if_pos q82, if_pos q92]) (lk_1r l15 (by decide)) (lk_1i l16 (by decide)) (lk_1i l17 (by decide)) (lk_1i l18 (by decide)) (lk_1l l19 (by decide) (by decide)) (lk_1i l20 (by decide)) lk_1s
              · refine iq_aload_n hS 96 J_HSheet_rotateWord_d95 (lk_1r l15 (by decide)) rfl ?_
                refine iq_getI hS 99 J_HSheet_rotateWord_d96 lf_9_15 (Or.inl rfl) (ka_28 hM4) rfl ?_
                refine iq_iconst hS 100 J_HSheet_rotateWord_d99 (v := 1) (by decide +kernel) rfl ?_
                refine iq_isub hS 101 J_HSheet_rotateWord_d100 rfl ?_
                refine iq_iload_n hS 102 J_HSheet_rotateWord_d101 (lk_1i l17 (by decide)) rfl ?_
                refine iq_isub hS 103 J_HSheet_rotateWord_d102 rfl ?_
                refine iq_goto hS J_HSheet_rotateWord_d103 (t := 115) rfl ?_
                exact J22 _ _ (by rw [if_pos q82, if_neg q92]) (lk_1r l15 (by decide)) (lk_1i l16 (by decide)) (lk_1i l17 (by decide)) (lk_1i l18 (by decide)) (lk_1l l19 (by decide) (by decide)) (lk_1i l20 (by decide)) lk_1s
            · refine iq_iload hS 87 J_HSheet_rotateWord_d85 (lk_1i l21 (by decide)) rfl ?_
              refine iq_goto hS J_HSheet_rotateWord_d87 (t := 115) rfl ?_
              exact J22 _ _ (by rw [if_neg q82]) (lk_1r l15 (by decide)) (lk_1i l16 (by decide)) (lk_1i l17 (by decide)) (lk_1i l18 (by decide)) (lk_1l l19 (by decide) (by decide)) (lk_1i l20 (by decide)) lk_1s
          refine iq_icmp_ne hS 49 J_HSheet_rotateWord_d46 (t := 60) rfl (fun q46 => ?_) rfl (fun q46 => ?_)
          · refine iq_iload_n hS 61 J_HSheet_rotateWord_d60 (lk_1i l8 (by decide)) rfl ?_
            refine iq_iconst hS 62 J_HSheet_rotateWord_d61 (v := 2) (by decide +kernel) rfl ?_
            refine iq_icmp_ne hS 65 J_HSheet_rotateWord_d62 (t := 77) rfl (fun q62 => ?_) rfl (fun q62 => ?_)
            · refine iq_iload_n hS 78 J_HSheet_rotateWord_d77 (lk_1i l7 (by decide)) rfl ?_
              exact J12 _ _ (by rw [if_pos q46, if_pos q62]) (lk_1r l5 (by decide)) (lk_1i l6 (by decide)) (lk_1i l7 (by decide)) (lk_1i l8 (by decide)) (lk_1l l9 (by decide) (by decide)) (lk_1i l10 (by decide)) lk_1s
            · refine iq_aload_n hS 66 J_HSheet_rotateWord_d65 (lk_1r l5 (by decide)) rfl ?_
              refine iq_getI hS 69 J_HSheet_rotateWord_d66 lf_9_9 (Or.inl rfl) (ka_28 hM4) rfl ?_
              refine iq_iconst hS 70 J_HSheet_rotateWord_d69 (v := 1) (by decide +kernel) rfl ?_
              refine iq_isub hS 71 J_HSheet_rotateWord_d70 rfl ?_
              refine iq_iload hS 73 J_HSheet_rotateWord_d71 lk_1s rfl ?_
              refine iq_isub hS 74 J_HSheet_rotateWord_d73 rfl ?_
              refine iq_goto hS J_HSheet_rotateWord_d74 (t := 78) rfl ?_
              exact J12 _ _ (by rw [if_pos q46, if_neg q62]) (lk_1r l5 (by decide)) (lk_1i l6 (by decide)) (lk_1i l7 (by decide)) (lk_1i l8 (by decide)) (lk_1l l9 (by decide) (by decide)) (lk_1i l10 (by decide)) lk_1s
          · refine iq_aload_n hS 50 J_HSheet_rotateWord_d49 (lk_1r l5 (by decide)) rfl ?_
            refine iq_getI hS 53 J_HSheet_rotateWord_d50 lf_9_15 (Or.inl rfl) (ka_28 hM4) rfl ?_
            refine iq_iconst hS 54 J_HSheet_rotateWord_d53 (v := 1) (by decide +kernel) rfl ?_
            refine iq_isub hS 55 J_HSheet_rotateWord_d54 rfl ?_
            refine iq_iload_n hS 56 J_HSheet_rotateWord_d55 (lk_1i l7 (by decide)) rfl ?_
            refine iq_isub hS 57 J_HSheet_rotateWord_d56 rfl ?_
            refine iq_goto hS J_HSheet_rotateWord_d57 (t := 78) rfl ?_
            exact J12 _ _ (by rw [if_neg q46]) (lk_1r l5 (by decide)) (lk_1i l6 (by decide)) (lk_1i l7 (by decide)) (lk_1i l8 (by decide)) (lk_1l l9 (by decide) (by decide)) (lk_1i l10 (by decide)) lk_1s
  exact I1 n1 _ _ _ hM (lk_1r (lk_2r l0 (by decide) (by decide)) (by decide)) (lk_1i (lk_2i l1 (by decide) (by decide)) (by decide)) (lk_1i (lk_2i l2 (by decide) (by decide)) (by decide)) (lk_1i (lk_2i l3 (by decide) (by decide)) (by decide)) (lk_1l lk_2s (by decide) (by decide)) lk_1s hn1
