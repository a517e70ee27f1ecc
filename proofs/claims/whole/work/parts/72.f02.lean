/-! METHODS AS FUNCTIONS -/
noncomputable def f_HOrders_countOn_L9 (v2 : Int32) (v3 : Int64) (M7 : im_M) (x4 : Int32) (x5 : Int64) (x6 : Int64) : Option ((Int32 × Int64 × Int64) ⊕ (Int32 × Int64 × Int64)) := if x4 ≤ 0 then some (.inr (x4, x5, x6)) else if 9 ≤ (v2 - x4) then some (.inr (x4, x5, x6)) else gd (inb (x4 - 1) 200) <| if (im_i M7 12 (Int32.toNatClampNeg (x4 - 1))) < 48 then some (.inr (x4, x5, x6)) else gd (inb (x4 - 1) 200) <| if 57 < (im_i M7 12 (Int32.toNatClampNeg (x4 - 1))) then some (.inr (x4, x5, x6)) else gd (inb (x4 + (-1)) 200) <| some (.inl ((x4 + (-1)), (x5 + (x6 * (Int32.toInt64 ((im_i M7 12 (Int32.toNatClampNeg (x4 + (-1)))) - 48)))), (x6 * 10)))
noncomputable def f_HOrders_countOn_L100 (v13 : Int32) (x14 : Int64) (x15 : Int32) (M16 : im_M) : Option ((Int64 × Int32 × im_M) ⊕ (im_M)) := if x15 < v13 then some (.inr M16) else gd (inb x15 200) <| some (.inl ((x14 / 10), (x15 + (-1)), (im_setI M16 12 (Int32.toNatClampNeg x15) (vp_nar .byte ((Int32.toInt8 (Int64.toInt32 ((48 : Int64) + (x14 - x14 / 10 * 10)))).toInt32)))))
noncomputable def f_HOrders_countOn (p0 : Int32) (p1 : Int64) (M : im_M) : Option (im_M) := bd3 (lp (uc3 (f_HOrders_countOn_L9 p0 p1 M)) (p0, 0, 1)) fun (y8 : Int32) (y9 : Int64) (y10 : Int64) => bd1 (f_Math_floorMod (y9 + p1) y10 M) fun (x11 : Int64) => bd1 (lp (uc3 (f_HOrders_countOn_L100 y8)) (x11, (p0 - 1), M)) fun (M17 : im_M) => some M17
theorem J_HOrders_countOn_d0 : decode J_HOrders_countOn.2.1 0 = .ok (.iload_n 1, 1) := by decide +kernel
theorem J_HOrders_countOn_d1 : decode J_HOrders_countOn.2.1 1 = .ok (.istore 4, 2) := by decide +kernel
theorem J_HOrders_countOn_d3 : decode J_HOrders_countOn.2.1 3 = .ok (.lconst 0, 1) := by decide +kernel
theorem J_HOrders_countOn_d4 : decode J_HOrders_countOn.2.1 4 = .ok (.lstore 5, 2) := by decide +kernel
theorem J_HOrders_countOn_d6 : decode J_HOrders_countOn.2.1 6 = .ok (.lconst 1, 1) := by decide +kernel
theorem J_HOrders_countOn_d7 : decode J_HOrders_countOn.2.1 7 = .ok (.lstore 7, 2) := by decide +kernel
theorem J_HOrders_countOn_d9 : decode J_HOrders_countOn.2.1 9 = .ok (.iload 4, 2) := by decide +kernel
theorem J_HOrders_countOn_d11 : decode J_HOrders_countOn.2.1 11 = .ok (.ifCond .le 73, 3) := by decide +kernel
theorem J_HOrders_countOn_d14 : decode J_HOrders_countOn.2.1 14 = .ok (.iload_n 1, 1) := by decide +kernel
theorem J_HOrders_countOn_d15 : decode J_HOrders_countOn.2.1 15 = .ok (.iload 4, 2) := by decide +kernel
theorem J_HOrders_countOn_d17 : decode J_HOrders_countOn.2.1 17 = .ok (.isub, 1) := by decide +kernel
theorem J_HOrders_countOn_d18 : decode J_HOrders_countOn.2.1 18 = .ok (.bipush 9, 2) := by decide +kernel
theorem J_HOrders_countOn_d20 : decode J_HOrders_countOn.2.1 20 = .ok (.if_icmp .ge 64, 3) := by decide +kernel
theorem J_HOrders_countOn_d23 : decode J_HOrders_countOn.2.1 23 = .ok (.aload_n 0, 1) := by decide +kernel
theorem J_HOrders_countOn_d24 : decode J_HOrders_countOn.2.1 24 = .ok (.getfield 9, 3) := by decide +kernel
theorem J_HOrders_countOn_d27 : decode J_HOrders_countOn.2.1 27 = .ok (.iload 4, 2) := by decide +kernel
theorem J_HOrders_countOn_d29 : decode J_HOrders_countOn.2.1 29 = .ok (.iconst 1, 1) := by decide +kernel
theorem J_HOrders_countOn_d30 : decode J_HOrders_countOn.2.1 30 = .ok (.isub, 1) := by decide +kernel
theorem J_HOrders_countOn_d31 : decode J_HOrders_countOn.2.1 31 = .ok (.baload, 1) := by decide +kernel
theorem J_HOrders_countOn_d32 : decode J_HOrders_countOn.2.1 32 = .ok (.bipush 48, 2) := by decide +kernel
theorem J_HOrders_countOn_d34 : decode J_HOrders_countOn.2.1 34 = .ok (.if_icmp .lt 50, 3) := by decide +kernel
theorem J_HOrders_countOn_d37 : decode J_HOrders_countOn.2.1 37 = .ok (.aload_n 0, 1) := by decide +kernel
theorem J_HOrders_countOn_d38 : decode J_HOrders_countOn.2.1 38 = .ok (.getfield 9, 3) := by decide +kernel
theorem J_HOrders_countOn_d41 : decode J_HOrders_countOn.2.1 41 = .ok (.iload 4, 2) := by decide +kernel
theorem J_HOrders_countOn_d43 : decode J_HOrders_countOn.2.1 43 = .ok (.iconst 1, 1) := by decide +kernel
theorem J_HOrders_countOn_d44 : decode J_HOrders_countOn.2.1 44 = .ok (.isub, 1) := by decide +kernel
theorem J_HOrders_countOn_d45 : decode J_HOrders_countOn.2.1 45 = .ok (.baload, 1) := by decide +kernel
theorem J_HOrders_countOn_d46 : decode J_HOrders_countOn.2.1 46 = .ok (.bipush 57, 2) := by decide +kernel
theorem J_HOrders_countOn_d48 : decode J_HOrders_countOn.2.1 48 = .ok (.if_icmp .gt 36, 3) := by decide +kernel
theorem J_HOrders_countOn_d51 : decode J_HOrders_countOn.2.1 51 = .ok (.iinc 4 (-1), 3) := by decide +kernel
theorem J_HOrders_countOn_d54 : decode J_HOrders_countOn.2.1 54 = .ok (.lload 5, 2) := by decide +kernel
theorem J_HOrders_countOn_d56 : decode J_HOrders_countOn.2.1 56 = .ok (.lload 7, 2) := by decide +kernel
theorem J_HOrders_countOn_d58 : decode J_HOrders_countOn.2.1 58 = .ok (.aload_n 0, 1) := by decide +kernel
theorem J_HOrders_countOn_d59 : decode J_HOrders_countOn.2.1 59 = .ok (.getfield 9, 3) := by decide +kernel
theorem J_HOrders_countOn_d62 : decode J_HOrders_countOn.2.1 62 = .ok (.iload 4, 2) := by decide +kernel
theorem J_HOrders_countOn_d64 : decode J_HOrders_countOn.2.1 64 = .ok (.baload, 1) := by decide +kernel
theorem J_HOrders_countOn_d65 : decode J_HOrders_countOn.2.1 65 = .ok (.bipush 48, 2) := by decide +kernel
theorem J_HOrders_countOn_d67 : decode J_HOrders_countOn.2.1 67 = .ok (.isub, 1) := by decide +kernel
theorem J_HOrders_countOn_d68 : decode J_HOrders_countOn.2.1 68 = .ok (.i2l, 1) := by decide +kernel
theorem J_HOrders_countOn_d69 : decode J_HOrders_countOn.2.1 69 = .ok (.lmul, 1) := by decide +kernel
theorem J_HOrders_countOn_d70 : decode J_HOrders_countOn.2.1 70 = .ok (.ladd, 1) := by decide +kernel
theorem J_HOrders_countOn_d71 : decode J_HOrders_countOn.2.1 71 = .ok (.lstore 5, 2) := by decide +kernel
theorem J_HOrders_countOn_d73 : decode J_HOrders_countOn.2.1 73 = .ok (.lload 7, 2) := by decide +kernel
theorem J_HOrders_countOn_d75 : decode J_HOrders_countOn.2.1 75 = .ok (.ldc2_w 50, 3) := by decide +kernel
theorem J_HOrders_countOn_d78 : decode J_HOrders_countOn.2.1 78 = .ok (.lmul, 1) := by decide +kernel
theorem J_HOrders_countOn_d79 : decode J_HOrders_countOn.2.1 79 = .ok (.lstore 7, 2) := by decide +kernel
theorem J_HOrders_countOn_d81 : decode J_HOrders_countOn.2.1 81 = .ok (.goto (-72), 3) := by decide +kernel
theorem J_HOrders_countOn_d84 : decode J_HOrders_countOn.2.1 84 = .ok (.lload 5, 2) := by decide +kernel
theorem J_HOrders_countOn_d86 : decode J_HOrders_countOn.2.1 86 = .ok (.lload_n 2, 1) := by decide +kernel
theorem J_HOrders_countOn_d87 : decode J_HOrders_countOn.2.1 87 = .ok (.ladd, 1) := by decide +kernel
theorem J_HOrders_countOn_d88 : decode J_HOrders_countOn.2.1 88 = .ok (.lload 7, 2) := by decide +kernel
theorem J_HOrders_countOn_d90 : decode J_HOrders_countOn.2.1 90 = .ok (.invokestatic 52, 3) := by decide +kernel
theorem J_HOrders_countOn_d93 : decode J_HOrders_countOn.2.1 93 = .ok (.lstore 5, 2) := by decide +kernel
theorem J_HOrders_countOn_d95 : decode J_HOrders_countOn.2.1 95 = .ok (.iload_n 1, 1) := by decide +kernel
theorem J_HOrders_countOn_d96 : decode J_HOrders_countOn.2.1 96 = .ok (.iconst 1, 1) := by decide +kernel
theorem J_HOrders_countOn_d97 : decode J_HOrders_countOn.2.1 97 = .ok (.isub, 1) := by decide +kernel
theorem J_HOrders_countOn_d98 : decode J_HOrders_countOn.2.1 98 = .ok (.istore 9, 2) := by decide +kernel
theorem J_HOrders_countOn_d100 : decode J_HOrders_countOn.2.1 100 = .ok (.iload 9, 2) := by decide +kernel
theorem J_HOrders_countOn_d102 : decode J_HOrders_countOn.2.1 102 = .ok (.iload 4, 2) := by decide +kernel
theorem J_HOrders_countOn_d104 : decode J_HOrders_countOn.2.1 104 = .ok (.if_icmp .lt 36, 3) := by decide +kernel
theorem J_HOrders_countOn_d107 : decode J_HOrders_countOn.2.1 107 = .ok (.aload_n 0, 1) := by decide +kernel
theorem J_HOrders_countOn_d108 : decode J_HOrders_countOn.2.1 108 = .ok (.getfield 9, 3) := by decide +kernel
theorem J_HOrders_countOn_d111 : decode J_HOrders_countOn.2.1 111 = .ok (.iload 9, 2) := by decide +kernel
theorem J_HOrders_countOn_d113 : decode J_HOrders_countOn.2.1 113 = .ok (.ldc2_w 58, 3) := by decide +kernel
theorem J_HOrders_countOn_d116 : decode J_HOrders_countOn.2.1 116 = .ok (.lload 5, 2) := by decide +kernel
theorem J_HOrders_countOn_d118 : decode J_HOrders_countOn.2.1 118 = .ok (.ldc2_w 50, 3) := by decide +kernel
theorem J_HOrders_countOn_d121 : decode J_HOrders_countOn.2.1 121 = .ok (.lrem, 1) := by decide +kernel
theorem J_HOrders_countOn_d122 : decode J_HOrders_countOn.2.1 122 = .ok (.ladd, 1) := by decide +kernel
theorem J_HOrders_countOn_d123 : decode J_HOrders_countOn.2.1 123 = .ok (.l2i, 1) := by decide +kernel
theorem J_HOrders_countOn_d124 : decode J_HOrders_countOn.2.1 124 = .ok (.i2b, 1) := by decide +kernel
theorem J_HOrders_countOn_d125 : decode J_HOrders_countOn.2.1 125 = .ok (.bastore, 1) := by decide +kernel
theorem J_HOrders_countOn_d126 : decode J_HOrders_countOn.2.1 126 = .ok (.lload 5, 2) := by decide +kernel
theorem J_HOrders_countOn_d128 : decode J_HOrders_countOn.2.1 128 = .ok (.ldc2_w 50, 3) := by decide +kernel
theorem J_HOrders_countOn_d131 : decode J_HOrders_countOn.2.1 131 = .ok (.ldiv, 1) := by decide +kernel
theorem J_HOrders_countOn_d132 : decode J_HOrders_countOn.2.1 132 = .ok (.lstore 5, 2) := by decide +kernel
theorem J_HOrders_countOn_d134 : decode J_HOrders_countOn.2.1 134 = .ok (.iinc 9 (-1), 3) := by decide +kernel
theorem J_HOrders_countOn_d137 : decode J_HOrders_countOn.2.1 137 = .ok (.goto (-37), 3) := by decide +kernel
theorem J_HOrders_countOn_d140 : decode J_HOrders_countOn.2.1 140 = .ok (.return_, 1) := by decide +kernel
theorem f_HOrders_countOn_ok {L : Nat} {xs : Nat → Int32} {dep : Nat} {w : Bool} {p0 : Int32} {p1 : Int64} {M : im_M} {Q : im_M → Prop} (hM : lw_S w M) (h : ed (f_HOrders_countOn p0 p1 M) Q) : ia (tb_G L xs) (dep + 1) J_HOrders_countOn (rwV w Q) (0, lv_args 0 [.ref 11, .int p0, .long p1], [], M) := by
  have hS : im_St (tb_G L xs) (dep + 1) J_HOrders_countOn (ia (tb_G L xs) (dep + 1) J_HOrders_countOn (rwV w Q)) := ia_St
  unfold f_HOrders_countOn at h
  have l0 : im_lk (lv_args 0 [.ref 11, .int p0, .long p1]) 0 = some (.ref 11) := rfl
  have l1 : im_lk (lv_args 0 [.ref 11, .int p0, .long p1]) 1 = some (.int p0) := rfl
  have l2 : im_lk (lv_args 0 [.ref 11, .int p0, .long p1]) 2 = some (.long p1) := rfl
  refine iq_iload_n hS 1 J_HOrders_countOn_d0 l1 rfl ?_
  refine iq_istore hS 3 J_HOrders_countOn_d1 (by decide) rfl ?_
  refine iq_lconst hS 4 J_HOrders_countOn_d3 (v := 0) (by decide +kernel) rfl ?_
  refine iq_lstore hS 6 J_HOrders_countOn_d4 (by decide) rfl ?_
  refine iq_lconst hS 7 J_HOrders_countOn_d6 (v := 1) (by decide +kernel) rfl ?_
  refine iq_lstore hS 9 J_HOrders_countOn_d7 (by decide) rfl ?_
  obtain ⟨Q1, hQ1, h⟩ := bd3_ed h
  have K1 : ∀ (y2 : Int32) (y3 : Int64) (y4 : Int64) (L' : List (Nat × Value)), im_lk L' 0 = some (.ref 11) → im_lk L' 1 = some (.int p0) → im_lk L' 2 = some (.long p1) → im_lk L' 4 = some (.int y2) → im_lk L' 5 = some (.long y3) → im_lk L' 7 = some (.long y4) → Q1 (y2, y3, y4) → ia (tb_G L xs) (dep + 1) J_HOrders_countOn (rwV w Q) (84, L', [], M) := by
    intro y2 y3 y4 L' l5 l6 l7 l8 l9 l10 h
    replace h := hQ1 _ _ _ h
    refine iq_lload hS 86 J_HOrders_countOn_d84 l9 rfl ?_
    refine iq_lload_n hS 87 J_HOrders_countOn_d86 l7 rfl ?_
    refine iq_ladd hS 88 J_HOrders_countOn_d87 rfl ?_
    refine iq_lload hS 90 J_HOrders_countOn_d88 l10 rfl ?_
    obtain ⟨Q11, hQ11, h⟩ := bd1_ed h
    refine iq_cpL hS 93 J_HOrders_countOn_d90 rfl (pr_stat (vs := [_, _]) lc_5_52 lT_79 rfl rfl (by decide) rfl (Nat.le_of_ble_eq_true rfl) (Nat.le_of_ble_eq_true rfl)) (f_Math_floorMod_ok (dep := dep + 0) hM h) rfl ?_
    intro x11 h
    replace h := hQ11 _ h
    refine iq_lstore hS 95 J_HOrders_countOn_d93 (by decide) rfl ?_
    refine iq_iload_n hS 96 J_HOrders_countOn_d95 (lk_2i l6 (by decide) (by decide)) rfl ?_
    refine iq_iconst hS 97 J_HOrders_countOn_d96 (v := 1) (by decide +kernel) rfl ?_
    refine iq_isub hS 98 J_HOrders_countOn_d97 rfl ?_
    refine iq_istore hS 100 J_HOrders_countOn_d98 (by decide) rfl ?_
    obtain ⟨Q12, hQ12, h⟩ := bd1_ed h
    have K12 : ∀ (M13 : im_M) (L' : List (Nat × Value)), lw_S w M13 → Q12 M13 → ia (tb_G L xs) (dep + 1) J_HOrders_countOn (rwV w Q) (140, L', [], M13) := by
      intro M13 L' hM13  h
      replace h := hQ12 _ h
      exact iq_ret J_HOrders_countOn_d140 rfl ⟨rfl, hM13, ed_some h⟩
    obtain ⟨r12, hr12, hq12⟩ := h
    obtain ⟨n12, hn12⟩ := lp_n hr12
    have I12 : ∀ (n : Nat) (x14 : Int64) (x15 : Int32) (M16 : im_M) (L' : List (Nat × Value)), lw_S w M16 → im_lk L' 0 = some (.ref 11) → im_lk L' 4 = some (.int y2) → im_lk L' 5 = some (.long x14) → im_lk L' 9 = some (.int x15) → lpn (uc3 (f_HOrders_countOn_L100 y2)) n (x14, x15, M16) = some r12 → ia (tb_G L xs) (dep + 1) J_HOrders_countOn (rwV w Q) (100, L', [], M16) := by
      intro n
      induction n with
      | zero => intro x14 x15 M16 L' hM16 l17 l18 l19 l20 hn; exact (lpn_0 hn).elim
      | succ n ih =>
        intro x14 x15 M16 L' hM16 l17 l18 l19 l20 hn
        have h := lpn_ed3 hn
        unfold f_HOrders_countOn_L100 at h
        refine iq_iload hS 102 J_HOrders_countOn_d100 l20 rfl ?_
        refine iq_iload hS 104 J_HOrders_countOn_d102 l18 rfl ?_
        refine iq_icmp_lt hS 107 J_HOrders_countOn_d104 (t := 140) rfl (fun q104 => ?_) rfl (fun q104 => ?_)
        · replace h := ed_pos q104 h
          exact K12 _ _ hM16  (lq_r h hq12)
        · replace h := ed_neg q104 h
          refine iq_aload_n hS 108 J_HOrders_countOn_d107 l17 rfl ?_
          refine iq_getR hS 111 J_HOrders_countOn_d108 lf_5_9 (Or.inr ⟨_, rfl⟩) (ka_11 hM16) (ra_11_2 hM16) rfl ?_
          refine iq_iload hS 113 J_HOrders_countOn_d111 l20 rfl ?_
          refine iq_ldc2_w hS 116 J_HOrders_countOn_d113 lk_5_58 rfl ?_
          refine iq_lload hS 118 J_HOrders_countOn_d116 l19 rfl ?_
          refine iq_ldc2_w hS 121 J_HOrders_countOn_d118 lk_5_50 rfl ?_
          refine iq_lrem hS 122 J_HOrders_countOn_d121 (by decide) rfl ?_
          refine iq_ladd hS 123 J_HOrders_countOn_d122 rfl ?_
          refine iq_l2i hS 124 J_HOrders_countOn_d123 rfl ?_
          refine iq_i2b hS 125 J_HOrders_countOn_d124 rfl ?_
          obtain ⟨g125, h⟩ := ed_gd h
          refine iq_bastore hS 126 J_HOrders_countOn_d125 ⟨(ka_12 hM16).1, (ka_12 hM16).2, g125.1, ix_lt (kl_12 hM16) g125.2⟩ rfl ?_
          refine iq_lload hS 128 J_HOrders_countOn_d126 l19 rfl ?_
          refine iq_ldc2_w hS 131 J_HOrders_countOn_d128 lk_5_50 rfl ?_
          refine iq_ldiv hS 132 J_HOrders_countOn_d131 (by decide) rfl ?_
          refine iq_lstore hS 134 J_HOrders_countOn_d132 (by decide) rfl ?_
          refine iq_iincv hS 137 J_HOrders_countOn_d134 (c := (-1)) (by decide +kernel) (lk_2i l20 (by decide) (by decide)) (by decide) rfl ?_
          refine iq_goto hS J_HOrders_countOn_d137 (t := 100) rfl ?_
          exact ih _ _ _ _ (lw_sI hM16) (lk_1r (lk_2r l17 (by decide) (by decide)) (by decide)) (lk_1i (lk_2i l18 (by decide) (by decide)) (by decide)) (lk_1l lk_2s (by decide) (by decide)) lk_1s (lq_l h)
    exact I12 n12 _ _ _ _ hM (lk_1r (lk_2r l5 (by decide) (by decide)) (by decide)) (lk_1i (lk_2i l8 (by decide) (by decide)) (by decide)) (lk_1l lk_2s (by decide) (by decide)) lk_1s hn12
  obtain ⟨r1, hr1, hq1⟩ := h
  obtain ⟨n1, hn1⟩ := lp_n hr1
  have I1 : ∀ (n : Nat) (x21 : Int32) (x22 : Int64) (x23 : Int64) (L' : List (Nat × Value)), im_lk L' 0 = some (.ref 11) → im_lk L' 1 = some (.int p0) → im_lk L' 2 = some (.long p1) → im_lk L' 4 = some (.int x21) → im_lk L' 5 = some (.long x22) → im_lk L' 7 = some (.long x23) → lpn (uc3 (f_HOrders_countOn_L9 p0 p1 M)) n (x21, x22, x23) = some r1 → ia (tb_G L xs) (dep + 1) J_HOrders_countOn (rwV w Q) (9, L', [], M) := by
    intro n
    induction n with
    | zero => intro x21 x22 x23 L' l24 l25 l26 l27 l28 l29 hn; exact (lpn_0 hn).elim
    | succ n ih =>
      intro x21 x22 x23 L' l24 l25 l26 l27 l28 l29 hn
      have h := lpn_ed3 hn
      unfold f_HOrders_countOn_L9 at h
      refine iq_iload hS 11 J_HOrders_countOn_d9 l27 rfl ?_
      refine iq_if_le hS 14 J_HOrders_countOn_d11 (t := 84) rfl (fun q11 => ?_) rfl (fun q11 => ?_)
      · replace h := ed_pos q11 h
        exact K1 _ _ _ _ l24 l25 l26 l27 l28 l29 (lq_r h hq1)
      · replace h := ed_neg q11 h
        refine iq_iload_n hS 15 J_HOrders_countOn_d14 l25 rfl ?_
        refine iq_iload hS 17 J_HOrders_countOn_d15 l27 rfl ?_
        refine iq_isub hS 18 J_HOrders_countOn_d17 rfl ?_
        refine iq_bipush hS 20 J_HOrders_countOn_d18 (v := 9) (by decide +kernel) rfl ?_
        refine iq_icmp_ge hS 23 J_HOrders_countOn_d20 (t := 84) rfl (fun q20 => ?_) rfl (fun q20 => ?_)
        · replace h := ed_pos q20 h
          exact K1 _ _ _ _ l24 l25 l26 l27 l28 l29 (lq_r h hq1)
        · replace h := ed_neg q20 h
          refine iq_aload_n hS 24 J_HOrders_countOn_d23 l24 rfl ?_
          refine iq_getR hS 27 J_HOrders_countOn_d24 lf_5_9 (Or.inr ⟨_, rfl⟩) (ka_11 hM) (ra_11_2 hM) rfl ?_
          refine iq_iload hS 29 J_HOrders_countOn_d27 l27 rfl ?_
          refine iq_iconst hS 30 J_HOrders_countOn_d29 (v := 1) (by decide +kernel) rfl ?_
          refine iq_isub hS 31 J_HOrders_countOn_d30 rfl ?_
          obtain ⟨g31, h⟩ := ed_gd h
          refine iq_baload hS 32 J_HOrders_countOn_d31 ⟨(ka_12 hM).1, (ka_12 hM).2, g31.1, ix_lt (kl_12 hM) g31.2⟩ rfl ?_
          refine iq_bipush hS 34 J_HOrders_countOn_d32 (v := 48) (by decide +kernel) rfl ?_
          refine iq_icmp_lt hS 37 J_HOrders_countOn_d34 (t := 84) rfl (fun q34 => ?_) rfl (fun q34 => ?_)
          · replace h := ed_pos q34 h
            exact K1 _ _ _ _ l24 l25 l26 l27 l28 l29 (lq_r h hq1)
          · replace h := ed_neg q34 h
            refine iq_aload_n hS 38 J_HOrders_countOn_d37 l24 rfl ?_
            refine iq_getR hS 41 J_HOrders_countOn_d38 lf_5_9 (Or.inr ⟨_, rfl⟩) (ka_11 hM) (ra_11_2 hM) rfl ?_
            refine iq_iload hS 43 J_HOrders_countOn_d41 l27 rfl ?_
            refine iq_iconst hS 44 J_HOrders_countOn_d43 (v := 1) (by decide +kernel) rfl ?_
            refine iq_isub hS 45 J_HOrders_countOn_d44 rfl ?_
            obtain ⟨g45, h⟩ := ed_gd h
            refine iq_baload hS 46 J_HOrders_countOn_d45 ⟨(ka_12 hM).1, (ka_12 hM).2, g45.1, ix_lt (kl_12 hM) g45.2⟩ rfl ?_
            refine iq_bipush hS 48 J_HOrders_countOn_d46 (v := 57) (by decide +kernel) rfl ?_
            refine iq_icmp_gt hS 51 J_HOrders_countOn_d48 (t := 84) rfl (fun q48 => ?_) rfl (fun q48 => ?_)
            · replace h := ed_pos q48 h
              exact K1 _ _ _ _ l24 l25 l26 l27 l28 l29 (lq_r h hq1)
            · replace h := ed_neg q48 h
              refine iq_iincv hS 54 J_HOrders_countOn_d51 (c := (-1)) (by decide +kernel) l27 (by decide) rfl ?_
              refine iq_lload hS 56 J_HOrders_countOn_d54 (lk_1l l28 (by decide) (by decide)) rfl ?_
              refine iq_lload hS 58 J_HOrders_countOn_d56 (lk_1l l29 (by decide) (by decide)) rfl ?_
              refine iq_aload_n hS 59 J_HOrders_countOn_d58 (lk_1r l24 (by decide)) rfl ?_
              refine iq_getR hS 62 J_HOrders_countOn_d59 lf_5_9 (Or.inr ⟨_, rfl⟩) (ka_11 hM) (ra_11_2 hM) rfl ?_
              refine iq_iload hS 64 J_HOrders_countOn_d62 lk_1s rfl ?_
              obtain ⟨g64, h⟩ := ed_gd h
              refine iq_baload hS 65 J_HOrders_countOn_d64 ⟨(ka_12 hM).1, (ka_12 hM).2, g64.1, ix_lt (kl_12 hM) g64.2⟩ rfl ?_
              refine iq_bipush hS 67 J_HOrders_countOn_d65 (v := 48) (by decide +kernel) rfl ?_
              refine iq_isub hS 68 J_HOrders_countOn_d67 rfl ?_
              refine iq_i2l hS 69 J_HOrders_countOn_d68 rfl ?_
              refine iq_lmul hS 70 J_HOrders_countOn_d69 rfl ?_
              refine iq_ladd hS 71 J_HOrders_countOn_d70 rfl ?_
              refine iq_lstore hS 73 J_HOrders_countOn_d71 (by decide) rfl ?_
              refine iq_lload hS 75 J_HOrders_countOn_d73 (lk_2l (lk_1l l29 (by decide) (by decide)) (by decide) (by decide) (by decide)) rfl ?_
              refine iq_ldc2_w hS 78 J_HOrders_countOn_d75 lk_5_50 rfl ?_
              refine iq_lmul hS 79 J_HOrders_countOn_d78 rfl ?_
              refine iq_lstore hS 81 J_HOrders_countOn_d79 (by decide) rfl ?_
              refine iq_goto hS J_HOrders_countOn_d81 (t := 9) rfl ?_
              exact ih _ _ _ _ (lk_2r (lk_2r (lk_1r l24 (by decide)) (by decide) (by decide)) (by decide) (by decide)) (lk_2i (lk_2i (lk_1i l25 (by decide)) (by decide) (by decide)) (by decide) (by decide)) (lk_2l (lk_2l (lk_1l l26 (by decide) (by decide)) (by decide) (by decide) (by decide)) (by decide) (by decide) (by decide)) (lk_2i (lk_2i lk_1s (by decide) (by decide)) (by decide) (by decide)) (lk_2l lk_2s (by decide) (by decide) (by decide)) lk_2s (lq_l h)
  exact I1 n1 _ _ _ _ (lk_2r (lk_2r (lk_1r l0 (by decide)) (by decide) (by decide)) (by decide) (by decide)) (lk_2i (lk_2i (lk_1i l1 (by decide)) (by decide) (by decide)) (by decide) (by decide)) (lk_2l (lk_2l (lk_1l l2 (by decide) (by decide)) (by decide) (by decide) (by decide)) (by decide) (by decide) (by decide)) (lk_2i (lk_2i lk_1s (by decide) (by decide)) (by decide) (by decide)) (lk_2l lk_2s (by decide) (by decide) (by decide)) lk_2s hn1
theorem f_HOrders_countOn_fr {p0 : Int32} {p1 : Int64} {M : im_M} {r : im_M} (h : f_HOrders_countOn p0 p1 M = some r) : fr 4096 [] M r := by
  replace h : ed (f_HOrders_countOn p0 p1 M) (fun x => x = r) := ⟨r, h, rfl⟩
  unfold f_HOrders_countOn at h
  obtain ⟨Q1, hQ1, h⟩ := bd3_ed h
  have K1 : ∀ (y2 : Int32) (y3 : Int64) (y4 : Int64), Q1 (y2, y3, y4) → fr 4096 [] M r := by
    intro y2 y3 y4 h
    replace h := hQ1 _ _ _ h
    obtain ⟨Q5, hQ5, h⟩ := bd1_ed h
    obtain ⟨x5, e5, h⟩ := h
    replace h := hQ5 _ h
    obtain ⟨Q6, hQ6, h⟩ := bd1_ed h
    have K6 : ∀ (M7 : im_M), fr 4096 [] M M7 → Q6 M7 → fr 4096 [] M r := by
      intro M7 hM7 h
      replace h := hQ6 _ h
      exact fr_retV h hM7
    obtain ⟨r6, hr6, hq6⟩ := h
    obtain ⟨n6, hn6⟩ := lp_n hr6
    have I6 : ∀ (n : Nat) (x8 : Int64) (x9 : Int32) (M10 : im_M), fr 4096 [] M M10 → lpn (uc3 (f_HOrders_countOn_L100 y2)) n (x8, x9, M10) = some r6 → fr 4096 [] M r := by
      intro n
      induction n with
      | zero => intro x8 x9 M10 hM10 hn; exact (lpn_0 hn).elim
      | succ n ih =>
        intro x8 x9 M10 hM10 hn
        have h := lpn_ed3 hn
        unfold f_HOrders_countOn_L100 at h
        by_cases q104 : x9 < y2
        · replace h := ed_pos q104 h
          exact K6 _ hM10 (lq_r h hq6)
        · replace h := ed_neg q104 h
          obtain ⟨g125, h⟩ := ed_gd h
          exact ih _ _ _ (fr_I (by decide) hM10) (lq_l h)
    exact I6 n6 _ _ _ fr_refl hn6
  obtain ⟨r1, hr1, hq1⟩ := h
  obtain ⟨n1, hn1⟩ := lp_n hr1
  have I1 : ∀ (n : Nat) (x11 : Int32) (x12 : Int64) (x13 : Int64), lpn (uc3 (f_HOrders_countOn_L9 p0 p1 M)) n (x11, x12, x13) = some r1 → fr 4096 [] M r := by
    intro n
    induction n with
    | zero => intro x11 x12 x13 hn; exact (lpn_0 hn).elim
    | succ n ih =>
      intro x11 x12 x13 hn
      have h := lpn_ed3 hn
      unfold f_HOrders_countOn_L9 at h
      by_cases q11 : x11 ≤ 0
      · replace h := ed_pos q11 h
        exact K1 _ _ _ (lq_r h hq1)
      · replace h := ed_neg q11 h
        by_cases q20 : 9 ≤ (p0 - x11)
        · replace h := ed_pos q20 h
          exact K1 _ _ _ (lq_r h hq1)
        · replace h := ed_neg q20 h
          obtain ⟨g31, h⟩ := ed_gd h
          by_cases q34 : (im_i M 12 (Int32.toNatClampNeg (x11 - 1))) < 48
          · replace h := ed_pos q34 h
            exact K1 _ _ _ (lq_r h hq1)
          · replace h := ed_neg q34 h
            obtain ⟨g45, h⟩ := ed_gd h
            by_cases q48 : 57 < (im_i M 12 (Int32.toNatClampNeg (x11 - 1)))
            · replace h := ed_pos q48 h
              exact K1 _ _ _ (lq_r h hq1)
            · replace h := ed_neg q48 h
              obtain ⟨g64, h⟩ := ed_gd h
              exact ih _ _ _ (lq_l h)
  exact I1 n1 _ _ _ hn1
noncomputable def f_HOrders_addCopy_L118 (v16 : Int32) (v17 : Int32) (x18 : Int32) (M19 : im_M) : Option ((Int32 × im_M) ⊕ (im_M)) := if v16 ≤ x18 then some (.inr M19) else gd (inb ((2 : Int32) * x18) 200) <| bd1 (f_HTape_hexValue (im_i M19 12 (Int32.toNatClampNeg ((2 : Int32) * x18))) M19) fun (x20 : Int32) => gd (inb (((2 : Int32) * x18) + 1) 200) <| bd1 (f_HTape_hexValue (im_i M19 12 (Int32.toNatClampNeg (((2 : Int32) * x18) + 1))) M19) fun (x21 : Int32) => gd (inb (v17 + x18) 24000) <| some (.inl ((x18 + 1), (im_setI M19 14 (Int32.toNatClampNeg (v17 + x18)) (vp_nar .byte ((Int32.toInt8 (((16 : Int32) * x20) + x21)).toInt32)))))
noncomputable def f_HOrders_addCopy (p1 : Int32) (p2 : Int32) (M : im_M) : Option (im_M) := gd (cpy (p1 * 14) 1960 ((im_i M 11 3) * 14) 1680 14) <| bd1 (f_HOrders_value p1 13 (im_setA M 13 (va_cpy (im_i M 21) (im_i M 13) (Int32.toNatClampNeg (p1 * 14)) (Int32.toNatClampNeg ((im_i M 11 3) * 14)) (Int32.toNatClampNeg 14)))) fun (x1 : Int32) => bd1 (f_HOrders_value p1 10 (im_setA M 13 (va_cpy (im_i M 21) (im_i M 13) (Int32.toNatClampNeg (p1 * 14)) (Int32.toNatClampNeg ((im_i M 11 3) * 14)) (Int32.toNatClampNeg 14)))) fun (x2 : Int32) => gd (cpy (x2 * 200) 28000 0 200 x1) <| bd1 (f_HOrders_value p1 11 (im_setA (im_setA M 13 (va_cpy (im_i M 21) (im_i M 13) (Int32.toNatClampNeg (p1 * 14)) (Int32.toNatClampNeg ((im_i M 11 3) * 14)) (Int32.toNatClampNeg 14))) 12 (va_cpy (im_i (im_setA M 13 (va_cpy (im_i M 21) (im_i M 13) (Int32.toNatClampNeg (p1 * 14)) (Int32.toNatClampNeg ((im_i M 11 3) * 14)) (Int32.toNatClampNeg 14))) 22) (im_i (im_setA M 13 (va_cpy (im_i M 21) (im_i M 13) (Int32.toNatClampNeg (p1 * 14)) (Int32.toNatClampNeg ((im_i M 11 3) * 14)) (Int32.toNatClampNeg 14))) 12) (Int32.toNatClampNeg (x2 * 200)) (Int32.toNatClampNeg 0) (Int32.toNatClampNeg x1)))) fun (x3 : Int32) => bd1 (if x3 = 0 then some (im_setA (im_setA M 13 (va_cpy (im_i M 21) (im_i M 13) (Int32.toNatClampNeg (p1 * 14)) (Int32.toNatClampNeg ((im_i M 11 3) * 14)) (Int32.toNatClampNeg 14))) 12 (va_cpy (im_i (im_setA M 13 (va_cpy (im_i M 21) (im_i M 13) (Int32.toNatClampNeg (p1 * 14)) (Int32.toNatClampNeg ((im_i M 11 3) * 14)) (Int32.toNatClampNeg 14))) 22) (im_i (im_setA M 13 (va_cpy (im_i M 21) (im_i M 13) (Int32.toNatClampNeg (p1 * 14)) (Int32.toNatClampNeg ((im_i M 11 3) * 14)) (Int32.toNatClampNeg 14))) 12) (Int32.toNatClampNeg (x2 * 200)) (Int32.toNatClampNeg 0) (Int32.toNatClampNeg x1))) else bd1 (f_HOrders_value p1 12 (im_setA (im_setA M 13 (va_cpy (im_i M 21) (im_i M 13) (Int32.toNatClampNeg (p1 * 14)) (Int32.toNatClampNeg ((im_i M 11 3) * 14)) (Int32.toNatClampNeg 14))) 12 (va_cpy (im_i (im_setA M 13 (va_cpy (im_i M 21) (im_i M 13) (Int32.toNatClampNeg (p1 * 14)) (Int32.toNatClampNeg ((im_i M 11 3) * 14)) (Int32.toNatClampNeg 14))) 22) (im_i (im_setA M 13 (va_cpy (im_i M 21) (im_i M 13) (Int32.toNatClampNeg (p1 * 14)) (Int32.toNatClampNeg ((im_i M 11 3) * 14)) (Int32.toNatClampNeg 14))) 12) (Int32.toNatClampNeg (x2 * 200)) (Int32.toNatClampNeg 0) (Int32.toNatClampNeg x1)))) fun (x5 : Int32) => bd1 (f_HOrders_countOn x1 ((Int32.toInt64 x5) * (Int32.toInt64 p2)) (im_setA (im_setA M 13 (va_cpy (im_i M 21) (im_i M 13) (Int32.toNatClampNeg (p1 * 14)) (Int32.toNatClampNeg ((im_i M 11 3) * 14)) (Int32.toNatClampNeg 14))) 12 (va_cpy (im_i (im_setA M 13 (va_cpy (im_i M 21) (im_i M 13) (Int32.toNatClampNeg (p1 * 14)) (Int32.toNatClampNeg ((im_i M 11 3) * 14)) (Int32.toNatClampNeg 14))) 22) (im_i (im_setA M 13 (va_cpy (im_i M 21) (im_i M 13) (Int32.toNatClampNeg (p1 * 14)) (Int32.toNatClampNeg ((im_i M 11 3) * 14)) (Int32.toNatClampNeg 14))) 12) (Int32.toNatClampNeg (x2 * 200)) (Int32.toNatClampNeg 0) (Int32.toNatClampNeg x1)))) fun (M6 : im_M) => some M6) fun (M7 : im_M) => bd1 (f_HOrders_value p1 8 M7) fun (x11 : Int32) => bd1 (f_HOrders_value p1 0 M7) fun (x12 : Int32) => bd1 (if ¬ x12 = 7 then bd1 (f_HOrders_value p1 9 M7) fun (x14 : Int32) => gd (cpy x14 200 ((im_i M7 11 3) * 200) 24000 x11) <| some (im_setA M7 14 (va_cpy (im_i M7 12) (im_i M7 14) (Int32.toNatClampNeg x14) (Int32.toNatClampNeg ((im_i M7 11 3) * 200)) (Int32.toNatClampNeg x11))) else bd1 (lp (uc2 (f_HOrders_addCopy_L118 x11 ((im_i M7 11 3) * 200))) (0, M7)) fun (M22 : im_M) => some M22) fun (M23 : im_M) => some (im_setI M23 11 3 ((im_i M23 11 3) + 1))
theorem J_HOrders_addCopy_d0 : decode J_HOrders_addCopy.2.1 0 = .ok (.aload_n 1, 1) := by decide +kernel
theorem J_HOrders_addCopy_d1 : decode J_HOrders_addCopy.2.1 1 = .ok (.getfield 13, 3) := by decide +kernel
theorem J_HOrders_addCopy_d4 : decode J_HOrders_addCopy.2.1 4 = .ok (.iload_n 2, 1) := by decide +kernel
theorem J_HOrders_addCopy_d5 : decode J_HOrders_addCopy.2.1 5 = .ok (.bipush 14, 2) := by decide +kernel
theorem J_HOrders_addCopy_d7 : decode J_HOrders_addCopy.2.1 7 = .ok (.imul, 1) := by decide +kernel
theorem J_HOrders_addCopy_d8 : decode J_HOrders_addCopy.2.1 8 = .ok (.aload_n 0, 1) := by decide +kernel
theorem J_HOrders_addCopy_d9 : decode J_HOrders_addCopy.2.1 9 = .ok (.getfield 13, 3) := by decide +kernel
theorem J_HOrders_addCopy_d12 : decode J_HOrders_addCopy.2.1 12 = .ok (.aload_n 0, 1) := by decide +kernel
theorem J_HOrders_addCopy_d13 : decode J_HOrders_addCopy.2.1 13 = .ok (.getfield 26, 3) := by decide +kernel
theorem J_HOrders_addCopy_d16 : decode J_HOrders_addCopy.2.1 16 = .ok (.bipush 14, 2) := by decide +kernel
theorem J_HOrders_addCopy_d18 : decode J_HOrders_addCopy.2.1 18 = .ok (.imul, 1) := by decide +kernel
theorem J_HOrders_addCopy_d19 : decode J_HOrders_addCopy.2.1 19 = .ok (.bipush 14, 2) := by decide +kernel
theorem J_HOrders_addCopy_d21 : decode J_HOrders_addCopy.2.1 21 = .ok (.invokestatic 30, 3) := by decide +kernel
theorem J_HOrders_addCopy_d24 : decode J_HOrders_addCopy.2.1 24 = .ok (.aload_n 1, 1) := by decide +kernel
theorem J_HOrders_addCopy_d25 : decode J_HOrders_addCopy.2.1 25 = .ok (.iload_n 2, 1) := by decide +kernel
theorem J_HOrders_addCopy_d26 : decode J_HOrders_addCopy.2.1 26 = .ok (.bipush 13, 2) := by decide +kernel
theorem J_HOrders_addCopy_d28 : decode J_HOrders_addCopy.2.1 28 = .ok (.invokevirtual 36, 3) := by decide +kernel
theorem J_HOrders_addCopy_d31 : decode J_HOrders_addCopy.2.1 31 = .ok (.istore 4, 2) := by decide +kernel
theorem J_HOrders_addCopy_d33 : decode J_HOrders_addCopy.2.1 33 = .ok (.aload_n 1, 1) := by decide +kernel
theorem J_HOrders_addCopy_d34 : decode J_HOrders_addCopy.2.1 34 = .ok (.getfield 17, 3) := by decide +kernel
theorem J_HOrders_addCopy_d37 : decode J_HOrders_addCopy.2.1 37 = .ok (.aload_n 1, 1) := by decide +kernel
theorem J_HOrders_addCopy_d38 : decode J_HOrders_addCopy.2.1 38 = .ok (.iload_n 2, 1) := by decide +kernel
theorem J_HOrders_addCopy_d39 : decode J_HOrders_addCopy.2.1 39 = .ok (.bipush 10, 2) := by decide +kernel
theorem J_HOrders_addCopy_d41 : decode J_HOrders_addCopy.2.1 41 = .ok (.invokevirtual 36, 3) := by decide +kernel
theorem J_HOrders_addCopy_d44 : decode J_HOrders_addCopy.2.1 44 = .ok (.sipush 200, 3) := by decide +kernel
theorem J_HOrders_addCopy_d47 : decode J_HOrders_addCopy.2.1 47 = .ok (.imul, 1) := by decide +kernel
theorem J_HOrders_addCopy_d48 : decode J_HOrders_addCopy.2.1 48 = .ok (.aload_n 0, 1) := by decide +kernel
theorem J_HOrders_addCopy_d49 : decode J_HOrders_addCopy.2.1 49 = .ok (.getfield 9, 3) := by decide +kernel
theorem J_HOrders_addCopy_d52 : decode J_HOrders_addCopy.2.1 52 = .ok (.iconst 0, 1) := by decide +kernel
theorem J_HOrders_addCopy_d53 : decode J_HOrders_addCopy.2.1 53 = .ok (.iload 4, 2) := by decide +kernel
theorem J_HOrders_addCopy_d55 : decode J_HOrders_addCopy.2.1 55 = .ok (.invokestatic 30, 3) := by decide +kernel
theorem J_HOrders_addCopy_d58 : decode J_HOrders_addCopy.2.1 58 = .ok (.aload_n 1, 1) := by decide +kernel
theorem J_HOrders_addCopy_d59 : decode J_HOrders_addCopy.2.1 59 = .ok (.iload_n 2, 1) := by decide +kernel
theorem J_HOrders_addCopy_d60 : decode J_HOrders_addCopy.2.1 60 = .ok (.bipush 11, 2) := by decide +kernel
theorem J_HOrders_addCopy_d62 : decode J_HOrders_addCopy.2.1 62 = .ok (.invokevirtual 36, 3) := by decide +kernel
theorem J_HOrders_addCopy_d65 : decode J_HOrders_addCopy.2.1 65 = .ok (.ifCond .eq 20, 3) := by decide +kernel
theorem J_HOrders_addCopy_d68 : decode J_HOrders_addCopy.2.1 68 = .ok (.aload_n 0, 1) := by decide +kernel
theorem J_HOrders_addCopy_d69 : decode J_HOrders_addCopy.2.1 69 = .ok (.iload 4, 2) := by decide +kernel
theorem J_HOrders_addCopy_d71 : decode J_HOrders_addCopy.2.1 71 = .ok (.aload_n 1, 1) := by decide +kernel
theorem J_HOrders_addCopy_d72 : decode J_HOrders_addCopy.2.1 72 = .ok (.iload_n 2, 1) := by decide +kernel
theorem J_HOrders_addCopy_d73 : decode J_HOrders_addCopy.2.1 73 = .ok (.bipush 12, 2) := by decide +kernel
theorem J_HOrders_addCopy_d75 : decode J_HOrders_addCopy.2.1 75 = .ok (.invokevirtual 36, 3) := by decide +kernel
theorem J_HOrders_addCopy_d78 : decode J_HOrders_addCopy.2.1 78 = .ok (.i2l, 1) := by decide +kernel
theorem J_HOrders_addCopy_d79 : decode J_HOrders_addCopy.2.1 79 = .ok (.iload_n 3, 1) := by decide +kernel
theorem J_HOrders_addCopy_d80 : decode J_HOrders_addCopy.2.1 80 = .ok (.i2l, 1) := by decide +kernel
theorem J_HOrders_addCopy_d81 : decode J_HOrders_addCopy.2.1 81 = .ok (.lmul, 1) := by decide +kernel
theorem J_HOrders_addCopy_d82 : decode J_HOrders_addCopy.2.1 82 = .ok (.invokevirtual 40, 3) := by decide +kernel
theorem J_HOrders_addCopy_d85 : decode J_HOrders_addCopy.2.1 85 = .ok (.aload_n 1, 1) := by decide +kernel
theorem J_HOrders_addCopy_d86 : decode J_HOrders_addCopy.2.1 86 = .ok (.iload_n 2, 1) := by decide +kernel
theorem J_HOrders_addCopy_d87 : decode J_HOrders_addCopy.2.1 87 = .ok (.bipush 8, 2) := by decide +kernel
theorem J_HOrders_addCopy_d89 : decode J_HOrders_addCopy.2.1 89 = .ok (.invokevirtual 36, 3) := by decide +kernel
theorem J_HOrders_addCopy_d92 : decode J_HOrders_addCopy.2.1 92 = .ok (.istore 5, 2) := by decide +kernel
theorem J_HOrders_addCopy_d94 : decode J_HOrders_addCopy.2.1 94 = .ok (.aload_n 0, 1) := by decide +kernel
theorem J_HOrders_addCopy_d95 : decode J_HOrders_addCopy.2.1 95 = .ok (.getfield 26, 3) := by decide +kernel
theorem J_HOrders_addCopy_d98 : decode J_HOrders_addCopy.2.1 98 = .ok (.sipush 200, 3) := by decide +kernel
theorem J_HOrders_addCopy_d101 : decode J_HOrders_addCopy.2.1 101 = .ok (.imul, 1) := by decide +kernel
theorem J_HOrders_addCopy_d102 : decode J_HOrders_addCopy.2.1 102 = .ok (.istore 6, 2) := by decide +kernel
theorem J_HOrders_addCopy_d104 : decode J_HOrders_addCopy.2.1 104 = .ok (.aload_n 1, 1) := by decide +kernel
theorem J_HOrders_addCopy_d105 : decode J_HOrders_addCopy.2.1 105 = .ok (.iload_n 2, 1) := by decide +kernel
theorem J_HOrders_addCopy_d106 : decode J_HOrders_addCopy.2.1 106 = .ok (.iconst 0, 1) := by decide +kernel
theorem J_HOrders_addCopy_d107 : decode J_HOrders_addCopy.2.1 107 = .ok (.invokevirtual 36, 3) := by decide +kernel
theorem J_HOrders_addCopy_d110 : decode J_HOrders_addCopy.2.1 110 = .ok (.bipush 7, 2) := by decide +kernel
theorem J_HOrders_addCopy_d112 : decode J_HOrders_addCopy.2.1 112 = .ok (.if_icmp .ne 67, 3) := by decide +kernel
theorem J_HOrders_addCopy_d115 : decode J_HOrders_addCopy.2.1 115 = .ok (.iconst 0, 1) := by decide +kernel
theorem J_HOrders_addCopy_d116 : decode J_HOrders_addCopy.2.1 116 = .ok (.istore 7, 2) := by decide +kernel
theorem J_HOrders_addCopy_d118 : decode J_HOrders_addCopy.2.1 118 = .ok (.iload 7, 2) := by decide +kernel
theorem J_HOrders_addCopy_d120 : decode J_HOrders_addCopy.2.1 120 = .ok (.iload 5, 2) := by decide +kernel
theorem J_HOrders_addCopy_d122 : decode J_HOrders_addCopy.2.1 122 = .ok (.if_icmp .ge 54, 3) := by decide +kernel
theorem J_HOrders_addCopy_d125 : decode J_HOrders_addCopy.2.1 125 = .ok (.aload_n 0, 1) := by decide +kernel
theorem J_HOrders_addCopy_d126 : decode J_HOrders_addCopy.2.1 126 = .ok (.getfield 9, 3) := by decide +kernel
theorem J_HOrders_addCopy_d129 : decode J_HOrders_addCopy.2.1 129 = .ok (.iconst 2, 1) := by decide +kernel
theorem J_HOrders_addCopy_d130 : decode J_HOrders_addCopy.2.1 130 = .ok (.iload 7, 2) := by decide +kernel
theorem J_HOrders_addCopy_d132 : decode J_HOrders_addCopy.2.1 132 = .ok (.imul, 1) := by decide +kernel
theorem J_HOrders_addCopy_d133 : decode J_HOrders_addCopy.2.1 133 = .ok (.baload, 1) := by decide +kernel
theorem J_HOrders_addCopy_d134 : decode J_HOrders_addCopy.2.1 134 = .ok (.invokestatic 44, 3) := by decide +kernel
theorem J_HOrders_addCopy_d137 : decode J_HOrders_addCopy.2.1 137 = .ok (.istore 8, 2) := by decide +kernel
theorem J_HOrders_addCopy_d139 : decode J_HOrders_addCopy.2.1 139 = .ok (.aload_n 0, 1) := by decide +kernel
theorem J_HOrders_addCopy_d140 : decode J_HOrders_addCopy.2.1 140 = .ok (.getfield 17, 3) := by decide +kernel
theorem J_HOrders_addCopy_d143 : decode J_HOrders_addCopy.2.1 143 = .ok (.iload 6, 2) := by decide +kernel
theorem J_HOrders_addCopy_d145 : decode J_HOrders_addCopy.2.1 145 = .ok (.iload 7, 2) := by decide +kernel
theorem J_HOrders_addCopy_d147 : decode J_HOrders_addCopy.2.1 147 = .ok (.iadd, 1) := by decide +kernel
theorem J_HOrders_addCopy_d148 : decode J_HOrders_addCopy.2.1 148 = .ok (.bipush 16, 2) := by decide +kernel
theorem J_HOrders_addCopy_d150 : decode J_HOrders_addCopy.2.1 150 = .ok (.iload 8, 2) := by decide +kernel
theorem J_HOrders_addCopy_d152 : decode J_HOrders_addCopy.2.1 152 = .ok (.imul, 1) := by decide +kernel
theorem J_HOrders_addCopy_d153 : decode J_HOrders_addCopy.2.1 153 = .ok (.aload_n 0, 1) := by decide +kernel
theorem J_HOrders_addCopy_d154 : decode J_HOrders_addCopy.2.1 154 = .ok (.getfield 9, 3) := by decide +kernel
theorem J_HOrders_addCopy_d157 : decode J_HOrders_addCopy.2.1 157 = .ok (.iconst 2, 1) := by decide +kernel
theorem J_HOrders_addCopy_d158 : decode J_HOrders_addCopy.2.1 158 = .ok (.iload 7, 2) := by decide +kernel
theorem J_HOrders_addCopy_d160 : decode J_HOrders_addCopy.2.1 160 = .ok (.imul, 1) := by decide +kernel
theorem J_HOrders_addCopy_d161 : decode J_HOrders_addCopy.2.1 161 = .ok (.iconst 1, 1) := by decide +kernel
theorem J_HOrders_addCopy_d162 : decode J_HOrders_addCopy.2.1 162 = .ok (.iadd, 1) := by decide +kernel
theorem J_HOrders_addCopy_d163 : decode J_HOrders_addCopy.2.1 163 = .ok (.baload, 1) := by decide +kernel
theorem J_HOrders_addCopy_d164 : decode J_HOrders_addCopy.2.1 164 = .ok (.invokestatic 44, 3) := by decide +kernel
theorem J_HOrders_addCopy_d167 : decode J_HOrders_addCopy.2.1 167 = .ok (.iadd, 1) := by decide +kernel
theorem J_HOrders_addCopy_d168 : decode J_HOrders_addCopy.2.1 168 = .ok (.i2b, 1) := by decide +kernel
theorem J_HOrders_addCopy_d169 : decode J_HOrders_addCopy.2.1 169 = .ok (.bastore, 1) := by decide +kernel
theorem J_HOrders_addCopy_d170 : decode J_HOrders_addCopy.2.1 170 = .ok (.iinc 7 1, 3) := by decide +kernel
theorem J_HOrders_addCopy_d173 : decode J_HOrders_addCopy.2.1 173 = .ok (.goto (-55), 3) := by decide +kernel
theorem J_HOrders_addCopy_d176 : decode J_HOrders_addCopy.2.1 176 = .ok (.goto 25, 3) := by decide +kernel
theorem J_HOrders_addCopy_d179 : decode J_HOrders_addCopy.2.1 179 = .ok (.aload_n 0, 1) := by decide +kernel
theorem J_HOrders_addCopy_d180 : decode J_HOrders_addCopy.2.1 180 = .ok (.getfield 9, 3) := by decide +kernel
theorem J_HOrders_addCopy_d183 : decode J_HOrders_addCopy.2.1 183 = .ok (.aload_n 1, 1) := by decide +kernel
theorem J_HOrders_addCopy_d184 : decode J_HOrders_addCopy.2.1 184 = .ok (.iload_n 2, 1) := by decide +kernel
theorem J_HOrders_addCopy_d185 : decode J_HOrders_addCopy.2.1 185 = .ok (.bipush 9, 2) := by decide +kernel
theorem J_HOrders_addCopy_d187 : decode J_HOrders_addCopy.2.1 187 = .ok (.invokevirtual 36, 3) := by decide +kernel
theorem J_HOrders_addCopy_d190 : decode J_HOrders_addCopy.2.1 190 = .ok (.aload_n 0, 1) := by decide +kernel
theorem J_HOrders_addCopy_d191 : decode J_HOrders_addCopy.2.1 191 = .ok (.getfield 17, 3) := by decide +kernel
theorem J_HOrders_addCopy_d194 : decode J_HOrders_addCopy.2.1 194 = .ok (.iload 6, 2) := by decide +kernel
theorem J_HOrders_addCopy_d196 : decode J_HOrders_addCopy.2.1 196 = .ok (.iload 5, 2) := by decide +kernel
theorem J_HOrders_addCopy_d198 : decode J_HOrders_addCopy.2.1 198 = .ok (.invokestatic 30, 3) := by decide +kernel
theorem J_HOrders_addCopy_d201 : decode J_HOrders_addCopy.2.1 201 = .ok (.aload_n 0, 1) := by decide +kernel
theorem J_HOrders_addCopy_d202 : decode J_HOrders_addCopy.2.1 202 = .ok (.dup, 1) := by decide +kernel
theorem J_HOrders_addCopy_d203 : decode J_HOrders_addCopy.2.1 203 = .ok (.getfield 26, 3) := by decide +kernel
theorem J_HOrders_addCopy_d206 : decode J_HOrders_addCopy.2.1 206 = .ok (.iconst 1, 1) := by decide +kernel
theorem J_HOrders_addCopy_d207 : decode J_HOrders_addCopy.2.1 207 = .ok (.iadd, 1) := by decide +kernel
theorem J_HOrders_addCopy_d208 : decode J_HOrders_addCopy.2.1 208 = .ok (.putfield 26, 3) := by decide +kernel
theorem J_HOrders_addCopy_d211 : decode J_HOrders_addCopy.2.1 211 = .ok (.return_, 1) := by decide +kernel
theorem f_HOrders_addCopy_ok {L : Nat} {xs : Nat → Int32} {dep : Nat} {w : Bool} {p1 : Int32} {p2 : Int32} {M : im_M} {Q : im_M → Prop} (hM : lw_S w M) (h : ed (f_HOrders_addCopy p1 p2 M) Q) : ia (tb_G L xs) (dep + 2) J_HOrders_addCopy (rwV w Q) (0, lv_args 0 [.ref 11, .ref 19, .int p1, .int p2], [], M) := by
  have hS : im_St (tb_G L xs) (dep + 2) J_HOrders_addCopy (ia (tb_G L xs) (dep + 2) J_HOrders_addCopy (rwV w Q)) := ia_St
  unfold f_HOrders_addCopy at h
  have l0 : im_lk (lv_args 0 [.ref 11, .ref 19, .int p1, .int p2]) 0 = some (.ref 11) := rfl
  have l1 : im_lk (lv_args 0 [.ref 11, .ref 19, .int p1, .int p2]) 1 = some (.ref 19) := rfl
  have l2 : im_lk (lv_args 0 [.ref 11, .ref 19, .int p1, .int p2]) 2 = some (.int p1) := rfl
  have l3 : im_lk (lv_args 0 [.ref 11, .ref 19, .int p1, .int p2]) 3 = some (.int p2) := rfl
  refine iq_aload_n hS 1 J_HOrders_addCopy_d0 l1 rfl ?_
  refine iq_getR hS 4 J_HOrders_addCopy_d1 lf_5_13 (Or.inr ⟨_, rfl⟩) (ka_19 hM) (ra_19_0 hM) rfl ?_
  refine iq_iload_n hS 5 J_HOrders_addCopy_d4 l2 rfl ?_
  refine iq_bipush hS 7 J_HOrders_addCopy_d5 (v := 14) (by decide +kernel) rfl ?_
  refine iq_imul hS 8 J_HOrders_addCopy_d7 rfl ?_
  refine iq_aload_n hS 9 J_HOrders_addCopy_d8 l0 rfl ?_
  refine iq_getR hS 12 J_HOrders_addCopy_d9 lf_5_13 (Or.inr ⟨_, rfl⟩) (ka_11 hM) (ra_11_0 hM) rfl ?_
  refine iq_aload_n hS 13 J_HOrders_addCopy_d12 l0 rfl ?_
  refine iq_getI hS 16 J_HOrders_addCopy_d13 lf_5_26 (Or.inl rfl) (ka_11 hM) rfl ?_
  refine iq_bipush hS 18 J_HOrders_addCopy_d16 (v := 14) (by decide +kernel) rfl ?_
  refine iq_imul hS 19 J_HOrders_addCopy_d18 rfl ?_
  refine iq_bipush hS 21 J_HOrders_addCopy_d19 (v := 14) (by decide +kernel) rfl ?_
  obtain ⟨g21, h⟩ := ed_gd h
  refine iq_cpy hS 24 J_HOrders_addCopy_d21 (ga_of (by decide +kernel)) (ka_13 hM) (ka_21 hM) (by decide) (kl_21 hM) (kl_13 hM) g21 (Nat.le_of_ble_eq_true rfl) rfl ?_
  refine iq_aload_n hS 25 J_HOrders_addCopy_d24 l1 rfl ?_
  refine iq_iload_n hS 26 J_HOrders_addCopy_d25 l2 rfl ?_
  refine iq_bipush hS 28 J_HOrders_addCopy_d26 (v := 13) (by decide +kernel) rfl ?_
  obtain ⟨Q1, hQ1, h⟩ := bd1_ed h
  refine iq_cpI hS 31 J_HOrders_addCopy_d28 rfl (pr_inst (vs := [_, _]) lc_5_36 lT_77 rfl rfl (by decide) (by decide) rfl (Nat.le_of_ble_eq_true rfl) (Nat.le_of_ble_eq_true rfl) (fun _ => Or.inl (pr_b (ka_19 (lw_sA hM)) (by decide) rfl))) (f_HOrders_value_ok (dep := dep + 1) (lw_sA hM) h) rfl ?_
  intro x1 h
  replace h := hQ1 _ h
  refine iq_istore hS 33 J_HOrders_addCopy_d31 (by decide) rfl ?_
  refine iq_aload_n hS 34 J_HOrders_addCopy_d33 (lk_1r l1 (by decide)) rfl ?_
  refine iq_getR hS 37 J_HOrders_addCopy_d34 lf_5_17 (Or.inr ⟨_, rfl⟩) (ka_19 (lw_sA hM)) (ra_19_1 (lw_sA hM)) rfl ?_
  refine iq_aload_n hS 38 J_HOrders_addCopy_d37 (lk_1r l1 (by decide)) rfl ?_
  refine iq_iload_n hS 39 J_HOrders_addCopy_d38 (lk_1i l2 (by decide)) rfl ?_
  refine iq_bipush hS 41 J_HOrders_addCopy_d39 (v := 10) (by decide +kernel) rfl ?_
  obtain ⟨Q2, hQ2, h⟩ := bd1_ed h
  refine iq_cpI hS 44 J_HOrders_addCopy_d41 rfl (pr_inst (vs := [_, _]) lc_5_36 lT_77 rfl rfl (by decide) (by decide) rfl (Nat.le_of_ble_eq_true rfl) (Nat.le_of_ble_eq_true rfl) (fun _ => Or.inl (pr_b (ka_19 (lw_sA hM)) (by decide) rfl))) (f_HOrders_value_ok (dep := dep + 1) (lw_sA hM) h) rfl ?_
  intro x2 h
  replace h := hQ2 _ h
  refine iq_sipush hS 47 J_HOrders_addCopy_d44 (v := 200) (by decide +kernel) rfl ?_
  refine iq_imul hS 48 J_HOrders_addCopy_d47 rfl ?_
  refine iq_aload_n hS 49 J_HOrders_addCopy_d48 (lk_1r l0 (by decide)) rfl ?_
  refine iq_getR hS 52 J_HOrders_addCopy_d49 lf_5_9 (Or.inr ⟨_, rfl⟩) (ka_11 (lw_sA hM)) (ra_11_2 (lw_sA hM)) rfl ?_
  refine iq_iconst hS 53 J_HOrders_addCopy_d52 (v := 0) (by decide +kernel) rfl ?_
  refine iq_iload hS 55 J_HOrders_addCopy_d53 lk_1s rfl ?_
  obtain ⟨g55, h⟩ := ed_gd h
  refine iq_cpy hS 58 J_HOrders_addCopy_d55 (ga_of (by decide +kernel)) (ka_12 (lw_sA hM)) (ka_22 (lw_sA hM)) (by decide) (kl_22 (lw_sA hM)) (kl_12 (lw_sA hM)) g55 (Nat.le_of_ble_eq_true rfl) rfl ?_
  refine iq_aload_n hS 59 J_HOrders_addCopy_d58 (lk_1r l1 (by decide)) rfl ?_
  refine iq_iload_n hS 60 J_HOrders_addCopy_d59 (lk_1i l2 (by decide)) rfl ?_
  refine iq_bipush hS 62 J_HOrders_addCopy_d60 (v := 11) (by decide +kernel) rfl ?_
  obtain ⟨Q3, hQ3, h⟩ := bd1_ed h
  refine iq_cpI hS 65 J_HOrders_addCopy_d62 rfl (pr_inst (vs := [_, _]) lc_5_36 lT_77 rfl rfl (by decide) (by decide) rfl (Nat.le_of_ble_eq_true rfl) (Nat.le_of_ble_eq_true rfl) (fun _ => Or.inl (pr_b (ka_19 (lw_sA (lw_sA hM))) (by decide) rfl))) (f_HOrders_value_ok (dep := dep + 1) (lw_sA (lw_sA hM)) h) rfl ?_
  intro x3 h
  replace h := hQ3 _ h
  obtain ⟨Q4, hQ4, h⟩ := bd1_ed h
  have J4 : ∀ (M7 : im_M) (L' : List (Nat × Value)), lw_S w M7 → im_lk L' 0 = some (.ref 11) → im_lk L' 1 = some (.ref 19) → im_lk L' 2 = some (.int p1) → Q4 M7 → ia (tb_G L xs) (dep + 2) J_HOrders_addCopy (rwV w Q) (85, L', [], M7) := by
    intro M7 L' hM7 l8 l9 l10 h
    replace h := hQ4 _ h
    refine iq_aload_n hS 86 J_HOrders_addCopy_d85 l9 rfl ?_
    refine iq_iload_n hS 87 J_HOrders_addCopy_d86 l10 rfl ?_
    refine iq_bipush hS 89 J_HOrders_addCopy_d87 (v := 8) (by decide +kernel) rfl ?_
    obtain ⟨Q11, hQ11, h⟩ := bd1_ed h
    refine iq_cpI hS 92 J_HOrders_addCopy_d89 rfl (pr_inst (vs := [_, _]) lc_5_36 lT_77 rfl rfl (by decide) (by decide) rfl (Nat.le_of_ble_eq_true rfl) (Nat.le_of_ble_eq_true rfl) (fun _ => Or.inl (pr_b (ka_19 hM7) (by decide) rfl))) (f_HOrders_value_ok (dep := dep + 1) hM7 h) rfl ?_
    intro x11 h
    replace h := hQ11 _ h
    refine iq_istore hS 94 J_HOrders_addCopy_d92 (by decide) rfl ?_
    refine iq_aload_n hS 95 J_HOrders_addCopy_d94 (lk_1r l8 (by decide)) rfl ?_
    refine iq_getI hS 98 J_HOrders_addCopy_d95 lf_5_26 (Or.inl rfl) (ka_11 hM7) rfl ?_
    refine iq_sipush hS 101 J_HOrders_addCopy_d98 (v := 200) (by decide +kernel) rfl ?_
    refine iq_imul hS 102 J_HOrders_addCopy_d101 rfl ?_
    refine iq_istore hS 104 J_HOrders_addCopy_d102 (by decide) rfl ?_
    refine iq_aload_n hS 105 J_HOrders_addCopy_d104 (lk_1r (lk_1r l9 (by decide)) (by decide)) rfl ?_
    refine iq_iload_n hS 106 J_HOrders_addCopy_d105 (lk_1i (lk_1i l10 (by decide)) (by decide)) rfl ?_
    refine iq_iconst hS 107 J_HOrders_addCopy_d106 (v := 0) (by decide +kernel) rfl ?_
    obtain ⟨Q12, hQ12, h⟩ := bd1_ed h
    refine iq_cpI hS 110 J_HOrders_addCopy_d107 rfl (pr_inst (vs := [_, _]) lc_5_36 lT_77 rfl rfl (by decide) (by decide) rfl (Nat.le_of_ble_eq_true rfl) (Nat.le_of_ble_eq_true rfl) (fun _ => Or.inl (pr_b (ka_19 hM7) (by decide) rfl))) (f_HOrders_value_ok (dep := dep + 1) hM7 h) rfl ?_
    intro x12 h
    replace h := hQ12 _ h
    refine iq_bipush hS 112 J_HOrders_addCopy_d110 (v := 7) (by decide +kernel) rfl ?_
    obtain ⟨Q13, hQ13, h⟩ := bd1_ed h
    have J13 : ∀ (M26 : im_M) (L' : List (Nat × Value)), lw_S w M26 → im_lk L' 0 = some (.ref 11) → Q13 M26 → ia (tb_G L xs) (dep + 2) J_HOrders_addCopy (rwV w Q) (201, L', [], M26) := by
      intro M26 L' hM26 l27 h
      replace h := hQ13 _ h
      refine iq_aload_n hS 202 J_HOrders_addCopy_d201 l27 rfl ?_
      refine iq_dup hS 203 J_HOrders_addCopy_d202 rfl rfl ?_
      refine iq_getI hS 206 J_HOrders_addCopy_d203 lf_5_26 (Or.inl rfl) (ka_11 hM26) rfl ?_
      refine iq_iconst hS 207 J_HOrders_addCopy_d206 (v := 1) (by decide +kernel) rfl ?_
      refine iq_iadd hS 208 J_HOrders_addCopy_d207 rfl ?_
      refine iq_putI hS 211 J_HOrders_addCopy_d208 lf_5_26 (Or.inl rfl) rfl (ka_11 hM26) rfl ?_
      exact iq_ret J_HOrders_addCopy_d211 rfl ⟨rfl, (lw_sI hM26), ed_some h⟩
    refine iq_icmp_ne hS 115 J_HOrders_addCopy_d112 (t := 179) rfl (fun q112 => ?_) rfl (fun q112 => ?_)
    · replace h := ed_pos q112 h
      refine iq_aload_n hS 180 J_HOrders_addCopy_d179 (lk_1r (lk_1r l8 (by decide)) (by decide)) rfl ?_
      refine iq_getR hS 183 J_HOrders_addCopy_d180 lf_5_9 (Or.inr ⟨_, rfl⟩) (ka_11 hM7) (ra_11_2 hM7) rfl ?_
      refine iq_aload_n hS 184 J_HOrders_addCopy_d183 (lk_1r (lk_1r l9 (by decide)) (by decide)) rfl ?_
      refine iq_iload_n hS 185 J_HOrders_addCopy_d184 (lk_1i (lk_1i l10 (by decide)) (by decide)) rfl ?_
      refine iq_bipush hS 187 J_HOrders_addCopy_d185 (v := 9) (by decide +kernel) rfl ?_
      obtain ⟨Q14, hQ14, h⟩ := bd1_ed h
      refine iq_cpI hS 190 J_HOrders_addCopy_d187 rfl (pr_inst (vs := [_, _]) lc_5_36 lT_77 rfl rfl (by decide) (by decide) rfl (Nat.le_of_ble_eq_true rfl) (Nat.le_of_ble_eq_true rfl) (fun _ => Or.inl (pr_b (ka_19 hM7) (by decide) rfl))) (f_HOrders_value_ok (dep := dep + 1) hM7 h) rfl ?_
      intro x14 h
      replace h := hQ14 _ h
      refine iq_aload_n hS 191 J_HOrders_addCopy_d190 (lk_1r (lk_1r l8 (by decide)) (by decide)) rfl ?_
      refine iq_getR hS 194 J_HOrders_addCopy_d191 lf_5_17 (Or.inr ⟨_, rfl⟩) (ka_11 hM7) (ra_11_1 hM7) rfl ?_
      refine iq_iload hS 196 J_HOrders_addCopy_d194 lk_1s rfl ?_
      refine iq_iload hS 198 J_HOrders_addCopy_d196 (lk_1i lk_1s (by decide)) rfl ?_
      obtain ⟨g198, h⟩ := ed_gd h
      refine iq_cpy hS 201 J_HOrders_addCopy_d198 (ga_of (by decide +kernel)) (ka_14 hM7) (ka_12 hM7) (by decide) (kl_12 hM7) (kl_14 hM7) g198 (Nat.le_of_ble_eq_true rfl) rfl ?_
      exact J13 _ _ (lw_sA hM7) (lk_1r (lk_1r l8 (by decide)) (by decide)) (ed_some h)
    · replace h := ed_neg q112 h
      refine iq_iconst hS 116 J_HOrders_addCopy_d115 (v := 0) (by decide +kernel) rfl ?_
      refine iq_istore hS 118 J_HOrders_addCopy_d116 (by decide) rfl ?_
      obtain ⟨Q15, hQ15, h⟩ := bd1_ed h
      have K15 : ∀ (M16 : im_M) (L' : List (Nat × Value)), lw_S w M16 → im_lk L' 0 = some (.ref 11) → Q15 M16 → ia (tb_G L xs) (dep + 2) J_HOrders_addCopy (rwV w Q) (176, L', [], M16) := by
        intro M16 L' hM16 l17 h
        replace h := hQ15 _ h
        refine iq_goto hS J_HOrders_addCopy_d176 (t := 201) rfl ?_
        exact J13 _ _ hM16 l17 (ed_some h)
      obtain ⟨r15, hr15, hq15⟩ := h
      obtain ⟨n15, hn15⟩ := lp_n hr15
      have I15 : ∀ (n : Nat) (x18 : Int32) (M19 : im_M) (L' : List (Nat × Value)), lw_S w M19 → im_lk L' 0 = some (.ref 11) → im_lk L' 5 = some (.int x11) → im_lk L' 6 = some (.int ((im_i M7 11 3) * 200)) → im_lk L' 7 = some (.int x18) → lpn (uc2 (f_HOrders_addCopy_L118 x11 ((im_i M7 11 3) * 200))) n (x18, M19) = some r15 → ia (tb_G L xs) (dep + 2) J_HOrders_addCopy (rwV w Q) (118, L', [], M19) := by
        intro n
        induction n with
        | zero => intro x18 M19 L' hM19 l20 l21 l22 l23 hn; exact (lpn_0 hn).elim
        | succ n ih =>
          intro x18 M19 L' hM19 l20 l21 l22 l23 hn
          have h := lpn_ed2 hn
          unfold f_HOrders_addCopy_L118 at h
          refine iq_iload hS 120 J_HOrders_addCopy_d118 l23 rfl ?_
          refine iq_iload hS 122 J_HOrders_addCopy_d120 l21 rfl ?_
          refine iq_icmp_ge hS 125 J_HOrders_addCopy_d122 (t := 176) rfl (fun q122 => ?_) rfl (fun q122 => ?_)
          · replace h := ed_pos q122 h
            exact K15 _ _ hM19 l20 (lq_r h hq15)
          · replace h := ed_neg q122 h
            refine iq_aload_n hS 126 J_HOrders_addCopy_d125 l20 rfl ?_
            refine iq_getR hS 129 J_HOrders_addCopy_d126 lf_5_9 (Or.inr ⟨_, rfl⟩) (ka_11 hM19) (ra_11_2 hM19) rfl ?_
            refine iq_iconst hS 130 J_HOrders_addCopy_d129 (v := 2) (by decide +kernel) rfl ?_
            refine iq_iload hS 132 J_HOrders_addCopy_d130 l23 rfl ?_
            refine iq_imul hS 133 J_HOrders_addCopy_d132 rfl ?_
            obtain ⟨g133, h⟩ := ed_gd h
            refine iq_baload hS 134 J_HOrders_addCopy_d133 ⟨(ka_12 hM19).1, (ka_12 hM19).2, g133.1, ix_lt (kl_12 hM19) g133.2⟩ rfl ?_
            obtain ⟨Q24, hQ24, h⟩ := bd1_ed h
            refine iq_cpI hS 137 J_HOrders_addCopy_d134 rfl (pr_stat (vs := [_]) lc_5_44 lT_40 rfl rfl (by decide) rfl (Nat.le_of_ble_eq_true rfl) (Nat.le_of_ble_eq_true rfl)) (f_HTape_hexValue_ok (dep := dep + 1) hM19 h) rfl ?_
            intro x24 h
            replace h := hQ24 _ h
            refine iq_istore hS 139 J_HOrders_addCopy_d137 (by decide) rfl ?_
            refine iq_aload_n hS 140 J_HOrders_addCopy_d139 (lk_1r l20 (by decide)) rfl ?_
            refine iq_getR hS 143 J_HOrders_addCopy_d140 lf_5_17 (Or.inr ⟨_, rfl⟩) (ka_11 hM19) (ra_11_1 hM19) rfl ?_
            refine iq_iload hS 145 J_HOrders_addCopy_d143 (lk_1i l22 (by decide)) rfl ?_
            refine iq_iload hS 147 J_HOrders_addCopy_d145 (lk_1i l23 (by decide)) rfl ?_
            refine iq_iadd hS 148 J_HOrders_addCopy_d147 rfl ?_
            refine iq_bipush hS 150 J_HOrders_addCopy_d148 (v := 16) (by decide +kernel) rfl ?_
            refine iq_iload hS 152 J_HOrders_addCopy_d150 lk_1s rfl ?_
            refine iq_imul hS 153 J_HOrders_addCopy_d152 rfl ?_
            refine iq_aload_n hS 154 J_HOrders_addCopy_d153 (lk_1r l20 (by decide)) rfl ?_
            refine iq_getR hS 157 J_HOrders_addCopy_d154 lf_5_9 (Or.inr ⟨_, rfl⟩) (ka_11 hM19) (ra_11_2 hM19) rfl ?_
            refine iq_iconst hS 158 J_HOrders_addCopy_d157 (v := 2) (by decide +kernel) rfl ?_
            refine iq_iload hS 160 J_HOrders_addCopy_d158 (lk_1i l23 (by decide)) rfl ?_
            refine iq_imul hS 161 J_HOrders_addCopy_d160 rfl ?_
            refine iq_iconst hS 162 J_HOrders_addCopy_d161 (v := 1) (by decide +kernel) rfl ?_
            refine iq_iadd hS 163 J_HOrders_addCopy_d162 rfl ?_
            obtain ⟨g163, h⟩ := ed_gd h
            refine iq_baload hS 164 J_HOrders_addCopy_d163 ⟨(ka_12 hM19).1, (ka_12 hM19).2, g163.1, ix_lt (kl_12 hM19) g163.2⟩ rfl ?_
            obtain ⟨Q25, hQ25, h⟩ := bd1_ed h
            refine iq_cpI hS 167 J_HOrders_addCopy_d164 rfl (pr_stat (vs := [_]) lc_5_44 lT_40 rfl rfl (by decide) rfl (Nat.le_of_ble_eq_true rfl) (Nat.le_of_ble_eq_true rfl)) (f_HTape_hexValue_ok (dep := dep + 1) hM19 h) rfl ?_
            intro x25 h
            replace h := hQ25 _ h
            refine iq_iadd hS 168 J_HOrders_addCopy_d167 rfl ?_
            refine iq_i2b hS 169 J_HOrders_addCopy_d168 rfl ?_
            obtain ⟨g169, h⟩ := ed_gd h
            refine iq_bastore hS 170 J_HOrders_addCopy_d169 ⟨(ka_14 hM19).1, (ka_14 hM19).2, g169.1, ix_lt (kl_14 hM19) g169.2⟩ rfl ?_
            refine iq_iincv hS 173 J_HOrders_addCopy_d170 (c := 1) (by decide +kernel) (lk_1i l23 (by decide)) (by decide) rfl ?_
            refine iq_goto hS J_HOrders_addCopy_d173 (t := 118) rfl ?_
            exact ih _ _ _ (lw_sI hM19) (lk_1r (lk_1r l20 (by decide)) (by decide)) (lk_1i (lk_1i l21 (by decide)) (by decide)) (lk_1i (lk_1i l22 (by decide)) (by decide)) lk_1s (lq_l h)
      exact I15 n15 _ _ _ hM7 (lk_1r (lk_1r (lk_1r l8 (by decide)) (by decide)) (by decide)) (lk_1i (lk_1i lk_1s (by decide)) (by decide)) (lk_1i lk_1s (by decide)) lk_1s hn15
  refine iq_if_eq hS 68 J_HOrders_addCopy_d65 (t := 85) rfl (fun q65 => ?_) rfl (fun q65 => ?_)
  · replace h := ed_pos q65 h
    exact J4 _ _ (lw_sA (lw_sA hM)) (lk_1r l0 (by decide)) (lk_1r l1 (by decide)) (lk_1i l2 (by decide)) (ed_some h)
  · replace h := ed_neg q65 h
    refine iq_aload_n hS 69 J_HOrders_addCopy_d68 (lk_1r l0 (by decide)) rfl ?_
    refine iq_iload hS 71 J_HOrders_addCopy_d69 lk_1s rfl ?_
    refine iq_aload_n hS 72 J_HOrders_addCopy_d71 (lk_1r l1 (by decide)) rfl ?_
    refine iq_iload_n hS 73 J_HOrders_addCopy_d72 (lk_1i l2 (by decide)) rfl ?_
    refine iq_bipush hS 75 J_HOrders_addCopy_d73 (v := 12) (by decide +kernel) rfl ?_
    obtain ⟨Q5, hQ5, h⟩ := bd1_ed h
    refine iq_cpI hS 78 J_HOrders_addCopy_d75 rfl (pr_inst (vs := [_, _]) lc_5_36 lT_77 rfl rfl (by decide) (by decide) rfl (Nat.le_of_ble_eq_true rfl) (Nat.le_of_ble_eq_true rfl) (fun _ => Or.inl (pr_b (ka_19 (lw_sA (lw_sA hM))) (by decide) rfl))) (f_HOrders_value_ok (dep := dep + 1) (lw_sA (lw_sA hM)) h) rfl ?_
    intro x5 h
    replace h := hQ5 _ h
    refine iq_i2l hS 79 J_HOrders_addCopy_d78 rfl ?_
    refine iq_iload_n hS 80 J_HOrders_addCopy_d79 (lk_1i l3 (by decide)) rfl ?_
    refine iq_i2l hS 81 J_HOrders_addCopy_d80 rfl ?_
    refine iq_lmul hS 82 J_HOrders_addCopy_d81 rfl ?_
    obtain ⟨Q6, hQ6, h⟩ := bd1_ed h
    refine iq_cwV hS 85 J_HOrders_addCopy_d82 rfl (pr_inst (vs := [_, _]) lc_5_40 lT_78 rfl rfl (by decide) (by decide) rfl (Nat.le_of_ble_eq_true rfl) (Nat.le_of_ble_eq_true rfl) (fun _ => Or.inl (pr_b (ka_11 (lw_sA (lw_sA hM))) (by decide) rfl))) (f_HOrders_countOn_ok (dep := dep + 0) (lw_sA (lw_sA hM)) h) rfl ?_
    intro M6 hM6 h
    replace h := hQ6 _ h
    exact J4 _ _ hM6 (lk_1r l0 (by decide)) (lk_1r l1 (by decide)) (lk_1i l2 (by decide)) (ed_some h)
theorem f_HOrders_addCopy_fr {p1 : Int32} {p2 : Int32} {M : im_M} {r : im_M} (h : f_HOrders_addCopy p1 p2 M = some r) : fr 28672 [(11, 3)] M r := by
  replace h : ed (f_HOrders_addCopy p1 p2 M) (fun x => x = r) := ⟨r, h, rfl⟩
  unfold f_HOrders_addCopy at h
  obtain ⟨g21, h⟩ := ed_gd h
  obtain ⟨Q1, hQ1, h⟩ := bd1_ed h
  obtain ⟨x1, e1, h⟩ := h
  replace h := hQ1 _ h
  obtain ⟨Q2, hQ2, h⟩ := bd1_ed h
  obtain ⟨x2, e2, h⟩ := h
  replace h := hQ2 _ h
  obtain ⟨g55, h⟩ := ed_gd h
  obtain ⟨Q3, hQ3, h⟩ := bd1_ed h
  obtain ⟨x3, e3, h⟩ := h
  replace h := hQ3 _ h
  obtain ⟨Q4, hQ4, h⟩ := bd1_ed h
  have J4 : ∀ (M7 : im_M), fr 28672 [(11, 3)] M M7 → Q4 M7 → fr 28672 [(11, 3)] M r := by
    intro M7 hM7 h
    replace h := hQ4 _ h
    obtain ⟨Q11, hQ11, h⟩ := bd1_ed h
    obtain ⟨x11, e11, h⟩ := h
    replace h := hQ11 _ h
    obtain ⟨Q12, hQ12, h⟩ := bd1_ed h
    obtain ⟨x12, e12, h⟩ := h
    replace h := hQ12 _ h
    obtain ⟨Q13, hQ13, h⟩ := bd1_ed h
    have J13 : ∀ (M21 : im_M), fr 28672 [(11, 3)] M M21 → Q13 M21 → fr 28672 [(11, 3)] M r := by
      intro M21 hM21 h
      replace h := hQ13 _ h
      exact fr_retV h (fr_F (by decide) hM21)
    by_cases q112 : ¬ x12 = 7
    · replace h := ed_pos q112 h
      obtain ⟨Q14, hQ14, h⟩ := bd1_ed h
      obtain ⟨x14, e14, h⟩ := h
      replace h := hQ14 _ h
      obtain ⟨g198, h⟩ := ed_gd h
      exact J13 _ (fr_A (by decide) hM7) (ed_some h)
    · replace h := ed_neg q112 h
      obtain ⟨Q15, hQ15, h⟩ := bd1_ed h
      have K15 : ∀ (M16 : im_M), fr 28672 [(11, 3)] M M16 → Q15 M16 → fr 28672 [(11, 3)] M r := by
        intro M16 hM16 h
        replace h := hQ15 _ h
        exact J13 _ hM16 (ed_some h)
      obtain ⟨r15, hr15, hq15⟩ := h
      obtain ⟨n15, hn15⟩ := lp_n hr15
      have I15 : ∀ (n : Nat) (x17 : Int32) (M18 : im_M), fr 28672 [(11, 3)] M M18 → lpn (uc2 (f_HOrders_addCopy_L118 x11 ((im_i M7 11 3) * 200))) n (x17, M18) = some r15 → fr 28672 [(11, 3)] M r := by
        intro n
        induction n with
        | zero => intro x17 M18 hM18 hn; exact (lpn_0 hn).elim
        | succ n ih =>
          intro x17 M18 hM18 hn
          have h := lpn_ed2 hn
          unfold f_HOrders_addCopy_L118 at h
          by_cases q122 : x11 ≤ x17
          · replace h := ed_pos q122 h
            exact K15 _ hM18 (lq_r h hq15)
          · replace h := ed_neg q122 h
            obtain ⟨g133, h⟩ := ed_gd h
            obtain ⟨Q19, hQ19, h⟩ := bd1_ed h
            obtain ⟨x19, e19, h⟩ := h
            replace h := hQ19 _ h
            obtain ⟨g163, h⟩ := ed_gd h
            obtain ⟨Q20, hQ20, h⟩ := bd1_ed h
            obtain ⟨x20, e20, h⟩ := h
            replace h := hQ20 _ h
            obtain ⟨g169, h⟩ := ed_gd h
            exact ih _ _ (fr_I (by decide) hM18) (lq_l h)
      exact I15 n15 _ _ hM7 hn15
  by_cases q65 : x3 = 0
  · replace h := ed_pos q65 h
    exact J4 _ (fr_A (by decide) (fr_A (by decide) fr_refl)) (ed_some h)
  · replace h := ed_neg q65 h
    obtain ⟨Q5, hQ5, h⟩ := bd1_ed h
    obtain ⟨x5, e5, h⟩ := h
    replace h := hQ5 _ h
    obtain ⟨Q6, hQ6, h⟩ := bd1_ed h
    obtain ⟨M6, e6, h⟩ := h
    replace h := hQ6 _ h
    exact J4 _ (fr_tr (fr_mono (by decide) (by decide +kernel) (f_HOrders_countOn_fr e6)) (fr_A (by decide) (fr_A (by decide) fr_refl))) (ed_some h)
noncomputable def f_HSetter_endLabel_L99 (v5 : Int32) (x6 : Int32) (M7 : im_M) : Option ((Int32 × im_M) ⊕ (im_M)) := if (im_i M7 19 3) ≤ x6 then some (.inr M7) else bd1 (f_HOrders_addCopy x6 v5 M7) fun (M8 : im_M) => some (.inl ((x6 + 1), M8))
noncomputable def f_HSetter_endLabel_L7 (x2 : Int32) (M3 : im_M) : Option ((Int32 × im_M) ⊕ (im_M)) := if (im_i M3 15 12) ≤ x2 then some (.inr M3) else gd (inb ((4 : Int32) * (im_i M3 15 4)) 48) <| gd (inb (((4 : Int32) * (im_i (im_setI M3 16 (Int32.toNatClampNeg ((4 : Int32) * (im_i M3 15 4))) (im_i M3 15 10)) 15 4)) + 1) 48) <| gd (inb (((4 : Int32) * (im_i (im_setI (im_setI M3 16 (Int32.toNatClampNeg ((4 : Int32) * (im_i M3 15 4))) (im_i M3 15 10)) 16 (Int32.toNatClampNeg (((4 : Int32) * (im_i (im_setI M3 16 (Int32.toNatClampNeg ((4 : Int32) * (im_i M3 15 4))) (im_i M3 15 10)) 15 4)) + 1)) (im_i (im_setI M3 16 (Int32.toNatClampNeg ((4 : Int32) * (im_i M3 15 4))) (im_i M3 15 10)) 15 11)) 15 4)) + 2) 48) <| gd (inb (((4 : Int32) * (im_i (im_setI (im_setI (im_setI M3 16 (Int32.toNatClampNeg ((4 : Int32) * (im_i M3 15 4))) (im_i M3 15 10)) 16 (Int32.toNatClampNeg (((4 : Int32) * (im_i (im_setI M3 16 (Int32.toNatClampNeg ((4 : Int32) * (im_i M3 15 4))) (im_i M3 15 10)) 15 4)) + 1)) (im_i (im_setI M3 16 (Int32.toNatClampNeg ((4 : Int32) * (im_i M3 15 4))) (im_i M3 15 10)) 15 11)) 16 (Int32.toNatClampNeg (((4 : Int32) * (im_i (im_setI (im_setI M3 16 (Int32.toNatClampNeg ((4 : Int32) * (im_i M3 15 4))) (im_i M3 15 10)) 16 (Int32.toNatClampNeg (((4 : Int32) * (im_i (im_setI M3 16 (Int32.toNatClampNeg ((4 : Int32) * (im_i M3 15 4))) (im_i M3 15 10)) 15 4)) + 1)) (im_i (im_setI M3 16 (Int32.toNatClampNeg ((4 : Int32) * (im_i M3 15 4))) (im_i M3 15 10)) 15 11)) 15 4)) + 2)) (im_i (im_setI (im_setI M3 16 (Int32.toNatClampNeg ((4 : Int32) * (im_i M3 15 4))) (im_i M3 15 10)) 16 (Int32.toNatClampNeg (((4 : Int32) * (im_i (im_setI M3 16 (Int32.toNatClampNeg ((4 : Int32) * (im_i M3 15 4))) (im_i M3 15 10)) 15 4)) + 1)) (im_i (im_setI M3 16 (Int32.toNatClampNeg ((4 : Int32) * (im_i M3 15 4))) (im_i M3 15 10)) 15 11)) 11 3)) 15 4)) + 3) 48) <| bd1 (lp (uc2 (f_HSetter_endLabel_L99 x2)) (0, (im_setI (im_setI (im_setI (im_setI (im_setI M3 16 (Int32.toNatClampNeg ((4 : Int32) * (im_i M3 15 4))) (im_i M3 15 10)) 16 (Int32.toNatClampNeg (((4 : Int32) * (im_i (im_setI M3 16 (Int32.toNatClampNeg ((4 : Int32) * (im_i M3 15 4))) (im_i M3 15 10)) 15 4)) + 1)) (im_i (im_setI M3 16 (Int32.toNatClampNeg ((4 : Int32) * (im_i M3 15 4))) (im_i M3 15 10)) 15 11)) 16 (Int32.toNatClampNeg (((4 : Int32) * (im_i (im_setI (im_setI M3 16 (Int32.toNatClampNeg ((4 : Int32) * (im_i M3 15 4))) (im_i M3 15 10)) 16 (Int32.toNatClampNeg (((4 : Int32) * (im_i (im_setI M3 16 (Int32.toNatClampNeg ((4 : Int32) * (im_i M3 15 4))) (im_i M3 15 10)) 15 4)) + 1)) (im_i (im_setI M3 16 (Int32.toNatClampNeg ((4 : Int32) * (im_i M3 15 4))) (im_i M3 15 10)) 15 11)) 15 4)) + 2)) (im_i (im_setI (im_setI M3 16 (Int32.toNatClampNeg ((4 : Int32) * (im_i M3 15 4))) (im_i M3 15 10)) 16 (Int32.toNatClampNeg (((4 : Int32) * (im_i (im_setI M3 16 (Int32.toNatClampNeg ((4 : Int32) * (im_i M3 15 4))) (im_i M3 15 10)) 15 4)) + 1)) (im_i (im_setI M3 16 (Int32.toNatClampNeg ((4 : Int32) * (im_i M3 15 4))) (im_i M3 15 10)) 15 11)) 11 3)) 16 (Int32.toNatClampNeg (((4 : Int32) * (im_i (im_setI (im_setI (im_setI M3 16 (Int32.toNatClampNeg ((4 : Int32) * (im_i M3 15 4))) (im_i M3 15 10)) 16 (Int32.toNatClampNeg (((4 : Int32) * (im_i (im_setI M3 16 (Int32.toNatClampNeg ((4 : Int32) * (im_i M3 15 4))) (im_i M3 15 10)) 15 4)) + 1)) (im_i (im_setI M3 16 (Int32.toNatClampNeg ((4 : Int32) * (im_i M3 15 4))) (im_i M3 15 10)) 15 11)) 16 (Int32.toNatClampNeg (((4 : Int32) * (im_i (im_setI (im_setI M3 16 (Int32.toNatClampNeg ((4 : Int32) * (im_i M3 15 4))) (im_i M3 15 10)) 16 (Int32.toNatClampNeg (((4 : Int32) * (im_i (im_setI M3 16 (Int32.toNatClampNeg ((4 : Int32) * (im_i M3 15 4))) (im_i M3 15 10)) 15 4)) + 1)) (im_i (im_setI M3 16 (Int32.toNatClampNeg ((4 : Int32) * (im_i M3 15 4))) (im_i M3 15 10)) 15 11)) 15 4)) + 2)) (im_i (im_setI (im_setI M3 16 (Int32.toNatClampNeg ((4 : Int32) * (im_i M3 15 4))) (im_i M3 15 10)) 16 (Int32.toNatClampNeg (((4 : Int32) * (im_i (im_setI M3 16 (Int32.toNatClampNeg ((4 : Int32) * (im_i M3 15 4))) (im_i M3 15 10)) 15 4)) + 1)) (im_i (im_setI M3 16 (Int32.toNatClampNeg ((4 : Int32) * (im_i M3 15 4))) (im_i M3 15 10)) 15 11)) 11 3)) 15 4)) + 3)) (im_i (im_setI (im_setI (im_setI M3 16 (Int32.toNatClampNeg ((4 : Int32) * (im_i M3 15 4))) (im_i M3 15 10)) 16 (Int32.toNatClampNeg (((4 : Int32) * (im_i (im_setI M3 16 (Int32.toNatClampNeg ((4 : Int32) * (im_i M3 15 4))) (im_i M3 15 10)) 15 4)) + 1)) (im_i (im_setI M3 16 (Int32.toNatClampNeg ((4 : Int32) * (im_i M3 15 4))) (im_i M3 15 10)) 15 11)) 16 (Int32.toNatClampNeg (((4 : Int32) * (im_i (im_setI (im_setI M3 16 (Int32.toNatClampNeg ((4 : Int32) * (im_i M3 15 4))) (im_i M3 15 10)) 16 (Int32.toNatClampNeg (((4 : Int32) * (im_i (im_setI M3 16 (Int32.toNatClampNeg ((4 : Int32) * (im_i M3 15 4))) (im_i M3 15 10)) 15 4)) + 1)) (im_i (im_setI M3 16 (Int32.toNatClampNeg ((4 : Int32) * (im_i M3 15 4))) (im_i M3 15 10)) 15 11)) 15 4)) + 2)) (im_i (im_setI (im_setI M3 16 (Int32.toNatClampNeg ((4 : Int32) * (im_i M3 15 4))) (im_i M3 15 10)) 16 (Int32.toNatClampNeg (((4 : Int32) * (im_i (im_setI M3 16 (Int32.toNatClampNeg ((4 : Int32) * (im_i M3 15 4))) (im_i M3 15 10)) 15 4)) + 1)) (im_i (im_setI M3 16 (Int32.toNatClampNeg ((4 : Int32) * (im_i M3 15 4))) (im_i M3 15 10)) 15 11)) 11 3)) 19 3)) 15 4 ((im_i (im_setI (im_setI (im_setI (im_setI M3 16 (Int32.toNatClampNeg ((4 : Int32) * (im_i M3 15 4))) (im_i M3 15 10)) 16 (Int32.toNatClampNeg (((4 : Int32) * (im_i (im_setI M3 16 (Int32.toNatClampNeg ((4 : Int32) * (im_i M3 15 4))) (im_i M3 15 10)) 15 4)) + 1)) (im_i (im_setI M3 16 (Int32.toNatClampNeg ((4 : Int32) * (im_i M3 15 4))) (im_i M3 15 10)) 15 11)) 16 (Int32.toNatClampNeg (((4 : Int32) * (im_i (im_setI (im_setI M3 16 (Int32.toNatClampNeg ((4 : Int32) * (im_i M3 15 4))) (im_i M3 15 10)) 16 (Int32.toNatClampNeg (((4 : Int32) * (im_i (im_setI M3 16 (Int32.toNatClampNeg ((4 : Int32) * (im_i M3 15 4))) (im_i M3 15 10)) 15 4)) + 1)) (im_i (im_setI M3 16 (Int32.toNatClampNeg ((4 : Int32) * (im_i M3 15 4))) (im_i M3 15 10)) 15 11)) 15 4)) + 2)) (im_i (im_setI (im_setI M3 16 (Int32.toNatClampNeg ((4 : Int32) * (im_i M3 15 4))) (im_i M3 15 10)) 16 (Int32.toNatClampNeg (((4 : Int32) * (im_i (im_setI M3 16 (Int32.toNatClampNeg ((4 : Int32) * (im_i M3 15 4))) (im_i M3 15 10)) 15 4)) + 1)) (im_i (im_setI M3 16 (Int32.toNatClampNeg ((4 : Int32) * (im_i M3 15 4))) (im_i M3 15 10)) 15 11)) 11 3)) 16 (Int32.toNatClampNeg (((4 : Int32) * (im_i (im_setI (im_setI (im_setI M3 16 (Int32.toNatClampNeg ((4 : Int32) * (im_i M3 15 4))) (im_i M3 15 10)) 16 (Int32.toNatClampNeg (((4 : Int32) * (im_i (im_setI M3 16 (Int32.toNatClampNeg ((4 : Int32) * (im_i M3 15 4))) (im_i M3 15 10)) 15 4)) + 1)) (im_i (im_setI M3 16 (Int32.toNatClampNeg ((4 : Int32) * (im_i M3 15 4))) (im_i M3 15 10)) 15 11)) 16 (Int32.toNatClampNeg (((4 : Int32) * (im_i (im_setI (im_setI M3 16 (Int32.toNatClampNeg ((4 : Int32) * (im_i M3 15 4))) (im_i M3 15 10)) 16 (Int32.toNatClampNeg (((4 : Int32) * (im_i (im_setI M3 16 (Int32.toNatClampNeg ((4 : Int32) * (im_i M3 15 4))) (im_i M3 15 10)) 15 4)) + 1)) (im_i (im_setI M3 16 (Int32.toNatClampNeg ((4 : Int32) * (im_i M3 15 4))) (im_i M3 15 10)) 15 11)) 15 4)) + 2)) (im_i (im_setI (im_setI M3 16 (Int32.toNatClampNeg ((4 : Int32) * (im_i M3 15 4))) (im_i M3 15 10)) 16 (Int32.toNatClampNeg (((4 : Int32) * (im_i (im_setI M3 16 (Int32.toNatClampNeg ((4 : Int32) * (im_i M3 15 4))) (im_i M3 15 10)) 15 4)) + 1)) (im_i (im_setI M3 16 (Int32.toNatClampNeg ((4 : Int32) * (im_i M3 15 4))) (im_i M3 15 10)) 15 11)) 11 3)) 15 4)) + 3)) (im_i (im_setI (im_setI (im_setI M3 16 (Int32.toNatClampNeg ((4 : Int32) * (im_i M3 15 4))) (im_i M3 15 10)) 16 (Int32.toNatClampNeg (((4 : Int32) * (im_i (im_setI M3 16 (Int32.toNatClampNeg ((4 : Int32) * (im_i M3 15 4))) (im_i M3 15 10)) 15 4)) + 1)) (im_i (im_setI M3 16 (Int32.toNatClampNeg ((4 : Int32) * (im_i M3 15 4))) (im_i M3 15 10)) 15 11)) 16 (Int32.toNatClampNeg (((4 : Int32) * (im_i (im_setI (im_setI M3 16 (Int32.toNatClampNeg ((4 : Int32) * (im_i M3 15 4))) (im_i M3 15 10)) 16 (Int32.toNatClampNeg (((4 : Int32) * (im_i (im_setI M3 16 (Int32.toNatClampNeg ((4 : Int32) * (im_i M3 15 4))) (im_i M3 15 10)) 15 4)) + 1)) (im_i (im_setI M3 16 (Int32.toNatClampNeg ((4 : Int32) * (im_i M3 15 4))) (im_i M3 15 10)) 15 11)) 15 4)) + 2)) (im_i (im_setI (im_setI M3 16 (Int32.toNatClampNeg ((4 : Int32) * (im_i M3 15 4))) (im_i M3 15 10)) 16 (Int32.toNatClampNeg (((4 : Int32) * (im_i (im_setI M3 16 (Int32.toNatClampNeg ((4 : Int32) * (im_i M3 15 4))) (im_i M3 15 10)) 15 4)) + 1)) (im_i (im_setI M3 16 (Int32.toNatClampNeg ((4 : Int32) * (im_i M3 15 4))) (im_i M3 15 10)) 15 11)) 11 3)) 19 3)) 15 4) + 1)))) fun (M9 : im_M) => some (.inl ((x2 + 1), M9))
noncomputable def f_HSetter_endLabel (M : im_M) : Option (im_M) := bd1 (lp (uc2 (f_HSetter_endLabel_L7)) (0, (im_setI M 15 8 0))) fun (M10 : im_M) => some M10
theorem J_HSetter_endLabel_d0 : decode J_HSetter_endLabel.2.1 0 = .ok (.aload_n 0, 1) := by decide +kernel
theorem J_HSetter_endLabel_d1 : decode J_HSetter_endLabel.2.1 1 = .ok (.iconst 0, 1) := by decide +kernel
theorem J_HSetter_endLabel_d2 : decode J_HSetter_endLabel.2.1 2 = .ok (.putfield 62, 3) := by decide +kernel
theorem J_HSetter_endLabel_d5 : decode J_HSetter_endLabel.2.1 5 = .ok (.iconst 0, 1) := by decide +kernel
theorem J_HSetter_endLabel_d6 : decode J_HSetter_endLabel.2.1 6 = .ok (.istore_n 1, 1) := by decide +kernel
theorem J_HSetter_endLabel_d7 : decode J_HSetter_endLabel.2.1 7 = .ok (.iload_n 1, 1) := by decide +kernel
theorem J_HSetter_endLabel_d8 : decode J_HSetter_endLabel.2.1 8 = .ok (.aload_n 0, 1) := by decide +kernel
theorem J_HSetter_endLabel_d9 : decode J_HSetter_endLabel.2.1 9 = .ok (.getfield 162, 3) := by decide +kernel
theorem J_HSetter_endLabel_d12 : decode J_HSetter_endLabel.2.1 12 = .ok (.if_icmp .ge 123, 3) := by decide +kernel
theorem J_HSetter_endLabel_d15 : decode J_HSetter_endLabel.2.1 15 = .ok (.aload_n 0, 1) := by decide +kernel
theorem J_HSetter_endLabel_d16 : decode J_HSetter_endLabel.2.1 16 = .ok (.getfield 11, 3) := by decide +kernel
theorem J_HSetter_endLabel_d19 : decode J_HSetter_endLabel.2.1 19 = .ok (.iconst 4, 1) := by decide +kernel
theorem J_HSetter_endLabel_d20 : decode J_HSetter_endLabel.2.1 20 = .ok (.aload_n 0, 1) := by decide +kernel
theorem J_HSetter_endLabel_d21 : decode J_HSetter_endLabel.2.1 21 = .ok (.getfield 51, 3) := by decide +kernel
theorem J_HSetter_endLabel_d24 : decode J_HSetter_endLabel.2.1 24 = .ok (.imul, 1) := by decide +kernel
theorem J_HSetter_endLabel_d25 : decode J_HSetter_endLabel.2.1 25 = .ok (.aload_n 0, 1) := by decide +kernel
theorem J_HSetter_endLabel_d26 : decode J_HSetter_endLabel.2.1 26 = .ok (.getfield 232, 3) := by decide +kernel
theorem J_HSetter_endLabel_d29 : decode J_HSetter_endLabel.2.1 29 = .ok (.iastore, 1) := by decide +kernel
theorem J_HSetter_endLabel_d30 : decode J_HSetter_endLabel.2.1 30 = .ok (.aload_n 0, 1) := by decide +kernel
theorem J_HSetter_endLabel_d31 : decode J_HSetter_endLabel.2.1 31 = .ok (.getfield 11, 3) := by decide +kernel
theorem J_HSetter_endLabel_d34 : decode J_HSetter_endLabel.2.1 34 = .ok (.iconst 4, 1) := by decide +kernel
theorem J_HSetter_endLabel_d35 : decode J_HSetter_endLabel.2.1 35 = .ok (.aload_n 0, 1) := by decide +kernel
theorem J_HSetter_endLabel_d36 : decode J_HSetter_endLabel.2.1 36 = .ok (.getfield 51, 3) := by decide +kernel
theorem J_HSetter_endLabel_d39 : decode J_HSetter_endLabel.2.1 39 = .ok (.imul, 1) := by decide +kernel
theorem J_HSetter_endLabel_d40 : decode J_HSetter_endLabel.2.1 40 = .ok (.iconst 1, 1) := by decide +kernel
theorem J_HSetter_endLabel_d41 : decode J_HSetter_endLabel.2.1 41 = .ok (.iadd, 1) := by decide +kernel
theorem J_HSetter_endLabel_d42 : decode J_HSetter_endLabel.2.1 42 = .ok (.aload_n 0, 1) := by decide +kernel
theorem J_HSetter_endLabel_d43 : decode J_HSetter_endLabel.2.1 43 = .ok (.getfield 235, 3) := by decide +kernel
theorem J_HSetter_endLabel_d46 : decode J_HSetter_endLabel.2.1 46 = .ok (.iastore, 1) := by decide +kernel
theorem J_HSetter_endLabel_d47 : decode J_HSetter_endLabel.2.1 47 = .ok (.aload_n 0, 1) := by decide +kernel
theorem J_HSetter_endLabel_d48 : decode J_HSetter_endLabel.2.1 48 = .ok (.getfield 11, 3) := by decide +kernel
theorem J_HSetter_endLabel_d51 : decode J_HSetter_endLabel.2.1 51 = .ok (.iconst 4, 1) := by decide +kernel
theorem J_HSetter_endLabel_d52 : decode J_HSetter_endLabel.2.1 52 = .ok (.aload_n 0, 1) := by decide +kernel
theorem J_HSetter_endLabel_d53 : decode J_HSetter_endLabel.2.1 53 = .ok (.getfield 51, 3) := by decide +kernel
theorem J_HSetter_endLabel_d56 : decode J_HSetter_endLabel.2.1 56 = .ok (.imul, 1) := by decide +kernel
theorem J_HSetter_endLabel_d57 : decode J_HSetter_endLabel.2.1 57 = .ok (.iconst 2, 1) := by decide +kernel
theorem J_HSetter_endLabel_d58 : decode J_HSetter_endLabel.2.1 58 = .ok (.iadd, 1) := by decide +kernel
theorem J_HSetter_endLabel_d59 : decode J_HSetter_endLabel.2.1 59 = .ok (.aload_n 0, 1) := by decide +kernel
theorem J_HSetter_endLabel_d60 : decode J_HSetter_endLabel.2.1 60 = .ok (.getfield 29, 3) := by decide +kernel
theorem J_HSetter_endLabel_d63 : decode J_HSetter_endLabel.2.1 63 = .ok (.getfield 54, 3) := by decide +kernel
theorem J_HSetter_endLabel_d66 : decode J_HSetter_endLabel.2.1 66 = .ok (.iastore, 1) := by decide +kernel
theorem J_HSetter_endLabel_d67 : decode J_HSetter_endLabel.2.1 67 = .ok (.aload_n 0, 1) := by decide +kernel
theorem J_HSetter_endLabel_d68 : decode J_HSetter_endLabel.2.1 68 = .ok (.getfield 11, 3) := by decide +kernel
theorem J_HSetter_endLabel_d71 : decode J_HSetter_endLabel.2.1 71 = .ok (.iconst 4, 1) := by decide +kernel
theorem J_HSetter_endLabel_d72 : decode J_HSetter_endLabel.2.1 72 = .ok (.aload_n 0, 1) := by decide +kernel
theorem J_HSetter_endLabel_d73 : decode J_HSetter_endLabel.2.1 73 = .ok (.getfield 51, 3) := by decide +kernel
theorem J_HSetter_endLabel_d76 : decode J_HSetter_endLabel.2.1 76 = .ok (.imul, 1) := by decide +kernel
theorem J_HSetter_endLabel_d77 : decode J_HSetter_endLabel.2.1 77 = .ok (.iconst 3, 1) := by decide +kernel
theorem J_HSetter_endLabel_d78 : decode J_HSetter_endLabel.2.1 78 = .ok (.iadd, 1) := by decide +kernel
theorem J_HSetter_endLabel_d79 : decode J_HSetter_endLabel.2.1 79 = .ok (.aload_n 0, 1) := by decide +kernel
theorem J_HSetter_endLabel_d80 : decode J_HSetter_endLabel.2.1 80 = .ok (.getfield 40, 3) := by decide +kernel
theorem J_HSetter_endLabel_d83 : decode J_HSetter_endLabel.2.1 83 = .ok (.getfield 54, 3) := by decide +kernel
theorem J_HSetter_endLabel_d86 : decode J_HSetter_endLabel.2.1 86 = .ok (.iastore, 1) := by decide +kernel
theorem J_HSetter_endLabel_d87 : decode J_HSetter_endLabel.2.1 87 = .ok (.aload_n 0, 1) := by decide +kernel
theorem J_HSetter_endLabel_d88 : decode J_HSetter_endLabel.2.1 88 = .ok (.dup, 1) := by decide +kernel
theorem J_HSetter_endLabel_d89 : decode J_HSetter_endLabel.2.1 89 = .ok (.getfield 51, 3) := by decide +kernel
theorem J_HSetter_endLabel_d92 : decode J_HSetter_endLabel.2.1 92 = .ok (.iconst 1, 1) := by decide +kernel
theorem J_HSetter_endLabel_d93 : decode J_HSetter_endLabel.2.1 93 = .ok (.iadd, 1) := by decide +kernel
theorem J_HSetter_endLabel_d94 : decode J_HSetter_endLabel.2.1 94 = .ok (.putfield 51, 3) := by decide +kernel
theorem J_HSetter_endLabel_d97 : decode J_HSetter_endLabel.2.1 97 = .ok (.iconst 0, 1) := by decide +kernel
theorem J_HSetter_endLabel_d98 : decode J_HSetter_endLabel.2.1 98 = .ok (.istore_n 2, 1) := by decide +kernel
theorem J_HSetter_endLabel_d99 : decode J_HSetter_endLabel.2.1 99 = .ok (.iload_n 2, 1) := by decide +kernel
theorem J_HSetter_endLabel_d100 : decode J_HSetter_endLabel.2.1 100 = .ok (.aload_n 0, 1) := by decide +kernel
theorem J_HSetter_endLabel_d101 : decode J_HSetter_endLabel.2.1 101 = .ok (.getfield 40, 3) := by decide +kernel
theorem J_HSetter_endLabel_d104 : decode J_HSetter_endLabel.2.1 104 = .ok (.getfield 54, 3) := by decide +kernel
theorem J_HSetter_endLabel_d107 : decode J_HSetter_endLabel.2.1 107 = .ok (.if_icmp .ge 22, 3) := by decide +kernel
theorem J_HSetter_endLabel_d110 : decode J_HSetter_endLabel.2.1 110 = .ok (.aload_n 0, 1) := by decide +kernel
theorem J_HSetter_endLabel_d111 : decode J_HSetter_endLabel.2.1 111 = .ok (.getfield 29, 3) := by decide +kernel
theorem J_HSetter_endLabel_d114 : decode J_HSetter_endLabel.2.1 114 = .ok (.aload_n 0, 1) := by decide +kernel
theorem J_HSetter_endLabel_d115 : decode J_HSetter_endLabel.2.1 115 = .ok (.getfield 40, 3) := by decide +kernel
theorem J_HSetter_endLabel_d118 : decode J_HSetter_endLabel.2.1 118 = .ok (.iload_n 2, 1) := by decide +kernel
theorem J_HSetter_endLabel_d119 : decode J_HSetter_endLabel.2.1 119 = .ok (.iload_n 1, 1) := by decide +kernel
theorem J_HSetter_endLabel_d120 : decode J_HSetter_endLabel.2.1 120 = .ok (.invokevirtual 238, 3) := by decide +kernel
theorem J_HSetter_endLabel_d123 : decode J_HSetter_endLabel.2.1 123 = .ok (.iinc 2 1, 3) := by decide +kernel
theorem J_HSetter_endLabel_d126 : decode J_HSetter_endLabel.2.1 126 = .ok (.goto (-27), 3) := by decide +kernel
theorem J_HSetter_endLabel_d129 : decode J_HSetter_endLabel.2.1 129 = .ok (.iinc 1 1, 3) := by decide +kernel
theorem J_HSetter_endLabel_d132 : decode J_HSetter_endLabel.2.1 132 = .ok (.goto (-125), 3) := by decide +kernel
theorem J_HSetter_endLabel_d135 : decode J_HSetter_endLabel.2.1 135 = .ok (.return_, 1) := by decide +kernel
theorem f_HSetter_endLabel_ok {L : Nat} {xs : Nat → Int32} {dep : Nat} {w : Bool} {M : im_M} {Q : im_M → Prop} (hM : lw_S w M) (h : ed (f_HSetter_endLabel M) Q) : ia (tb_G L xs) (dep + 3) J_HSetter_endLabel (rwV w Q) (0, lv_args 0 [.ref 15], [], M) := by
  have hS : im_St (tb_G L xs) (dep + 3) J_HSetter_endLabel (ia (tb_G L xs) (dep + 3) J_HSetter_endLabel (rwV w Q)) := ia_St
  unfold f_HSetter_endLabel at h
  have l0 : im_lk (lv_args 0 [.ref 15]) 0 = some (.ref 15) := rfl
  refine iq_aload_n hS 1 J_HSetter_endLabel_d0 l0 rfl ?_
  refine iq_iconst hS 2 J_HSetter_endLabel_d1 (v := 0) (by decide +kernel) rfl ?_
  refine iq_putZ hS 5 J_HSetter_endLabel_d2 lf_8_62 (Or.inl rfl) rfl (ka_15 hM) (Or.inl rfl) rfl ?_
  refine iq_iconst hS 6 J_HSetter_endLabel_d5 (v := 0) (by decide +kernel) rfl ?_
  refine iq_istore_n hS 7 J_HSetter_endLabel_d6 (by decide) rfl ?_
  obtain ⟨Q1, hQ1, h⟩ := bd1_ed h
  have K1 : ∀ (M2 : im_M) (L' : List (Nat × Value)), lw_S w M2 → Q1 M2 → ia (tb_G L xs) (dep + 3) J_HSetter_endLabel (rwV w Q) (135, L', [], M2) := by
    intro M2 L' hM2  h
    replace h := hQ1 _ h
    exact iq_ret J_HSetter_endLabel_d135 rfl ⟨rfl, hM2, ed_some h⟩
  obtain ⟨r1, hr1, hq1⟩ := h
  obtain ⟨n1, hn1⟩ := lp_n hr1
  have I1 : ∀ (n : Nat) (x3 : Int32) (M4 : im_M) (L' : List (Nat × Value)), lw_S w M4 → im_lk L' 0 = some (.ref 15) → im_lk L' 1 = some (.int x3) → lpn (uc2 (f_HSetter_endLabel_L7)) n (x3, M4) = some r1 → ia (tb_G L xs) (dep + 3) J_HSetter_endLabel (rwV w Q) (7, L', [], M4) := by
    intro n
    induction n with
    | zero => intro x3 M4 L' hM4 l5 l6 hn; exact (lpn_0 hn).elim
    | succ n ih =>
      intro x3 M4 L' hM4 l5 l6 hn
      have h := lpn_ed2 hn
      unfold f_HSetter_endLabel_L7 at h
      refine iq_iload_n hS 8 J_HSetter_endLabel_d7 l6 rfl ?_
      refine iq_aload_n hS 9 J_HSetter_endLabel_d8 l5 rfl ?_
      refine iq_getI hS 12 J_HSetter_endLabel_d9 lf_8_162 (Or.inl rfl) (ka_15 hM4) rfl ?_
      refine iq_icmp_ge hS 15 J_HSetter_endLabel_d12 (t := 135) rfl (fun q12 => ?_) rfl (fun q12 => ?_)
      · replace h := ed_pos q12 h
        exact K1 _ _ hM4  (lq_r h hq1)
      · replace h := ed_neg q12 h
        refine iq_aload_n hS 16 J_HSetter_endLabel_d15 l5 rfl ?_
        refine iq_getR hS 19 J_HSetter_endLabel_d16 lf_8_11 (Or.inr ⟨_, rfl⟩) (ka_15 hM4) (ra_15_5 hM4) rfl ?_
        refine iq_iconst hS 20 J_HSetter_endLabel_d19 (v := 4) (by decide +kernel) rfl ?_
        refine iq_aload_n hS 21 J_HSetter_endLabel_d20 l5 rfl ?_
        refine iq_getI hS 24 J_HSetter_endLabel_d21 lf_8_51 (Or.inl rfl) (ka_15 hM4) rfl ?_
        refine iq_imul hS 25 J_HSetter_endLabel_d24 rfl ?_
        refine iq_aload_n hS 26 J_HSetter_endLabel_d25 l5 rfl ?_
        refine iq_getI hS 29 J_HSetter_endLabel_d26 lf_8_232 (Or.inl rfl) (ka_15 hM4) rfl ?_
        obtain ⟨g29, h⟩ := ed_gd h
        refine iq_iastore hS 30 J_HSetter_endLabel_d29 ⟨(ka_16 hM4).1, (ka_16 hM4).2, g29.1, ix_lt (kl_16 hM4) g29.2⟩ rfl ?_
        refine iq_aload_n hS 31 J_HSetter_endLabel_d30 l5 rfl ?_
        refine iq_getR hS 34 J_HSetter_endLabel_d31 lf_8_11 (Or.inr ⟨_, rfl⟩) (ka_15 (lw_sI hM4)) (ra_15_5 (lw_sI hM4)) rfl ?_
        refine iq_iconst hS 35 J_HSetter_endLabel_d34 (v := 4) (by decide +kernel) rfl ?_
        refine iq_aload_n hS 36 J_HSetter_endLabel_d35 l5 rfl ?_
        refine iq_getI hS 39 J_HSetter_endLabel_d36 lf_8_51 (Or.inl rfl) (ka_15 (lw_sI hM4)) rfl ?_
        refine iq_imul hS 40 J_HSetter_endLabel_d39 rfl ?_
        refine iq_iconst hS 41 J_HSetter_endLabel_d40 (v := 1) (by decide +kernel) rfl ?_
        refine iq_iadd hS 42 J_HSetter_endLabel_d41 rfl ?_
        refine iq_aload_n hS 43 J_HSetter_endLabel_d42 l5 rfl ?_
        refine iq_getI hS 46 J_HSetter_endLabel_d43 lf_8_235 (Or.inl rfl) (ka_15 (lw_sI hM4)) rfl ?_
        obtain ⟨g46, h⟩ := ed_gd h
        refine iq_iastore hS 47 J_HSetter_endLabel_d46 ⟨(ka_16 (lw_sI hM4)).1, (ka_16 (lw_sI hM4)).2, g46.1, ix_lt (kl_16 (lw_sI hM4)) g46.2⟩ rfl ?_
        refine iq_aload_n hS 48 J_HSetter_endLabel_d47 l5 rfl ?_
        refine iq_getR hS 51 J_HSetter_endLabel_d48 lf_8_11 (Or.inr ⟨_, rfl⟩) (ka_15 (lw_sI (lw_sI hM4))) (ra_15_5 (lw_sI (lw_sI hM4))) rfl ?_
        refine iq_iconst hS 52 J_HSetter_endLabel_d51 (v := 4) (by decide +kernel) rfl ?_
        refine iq_aload_n hS 53 J_HSetter_endLabel_d52 l5 rfl ?_
        refine iq_getI hS 56 J_HSetter_endLabel_d53 lf_8_51 (Or.inl rfl) (ka_15 (lw_sI (lw_sI hM4))) rfl ?_
        refine iq_imul hS 57 J_HSetter_endLabel_d56 rfl ?_
        refine iq_iconst hS 58 J_HSetter_endLabel_d57 (v := 2) (by decide +kernel) rfl ?_
        refine iq_iadd hS 59 J_HSetter_endLabel_d58 rfl ?_
        refine iq_aload_n hS 60 J_HSetter_endLabel_d59 l5 rfl ?_
        refine iq_getR hS 63 J_HSetter_endLabel_d60 lf_8_29 (Or.inl ⟨_, rfl⟩) (ka_15 (lw_sI (lw_sI hM4))) (ra_15_1 (lw_sI (lw_sI hM4))) rfl ?_
        refine iq_getI hS 66 J_HSetter_endLabel_d63 lf_8_54 (Or.inl rfl) (ka_11 (lw_sI (lw_sI hM4))) rfl ?_
        obtain ⟨g66, h⟩ := ed_gd h
        refine iq_iastore hS 67 J_HSetter_endLabel_d66 ⟨(ka_16 (lw_sI (lw_sI hM4))).1, (ka_16 (lw_sI (lw_sI hM4))).2, g66.1, ix_lt (kl_16 (lw_sI (lw_sI hM4))) g66.2⟩ rfl ?_
        refine iq_aload_n hS 68 J_HSetter_endLabel_d67 l5 rfl ?_
        refine iq_getR hS 71 J_HSetter_endLabel_d68 lf_8_11 (Or.inr ⟨_, rfl⟩) (ka_15 (lw_sI (lw_sI (lw_sI hM4)))) (ra_15_5 (lw_sI (lw_sI (lw_sI hM4)))) rfl ?_
        refine iq_iconst hS 72 J_HSetter_endLabel_d71 (v := 4) (by decide +kernel) rfl ?_
        refine iq_aload_n hS 73 J_HSetter_endLabel_d72 l5 rfl ?_
        refine iq_getI hS 76 J_HSetter_endLabel_d73 lf_8_51 (Or.inl rfl) (ka_15 (lw_sI (lw_sI (lw_sI hM4)))) rfl ?_
        refine iq_imul hS 77 J_HSetter_endLabel_d76 rfl ?_
        refine iq_iconst hS 78 J_HSetter_endLabel_d77 (v := 3) (by decide +kernel) rfl ?_
        refine iq_iadd hS 79 J_HSetter_endLabel_d78 rfl ?_
        refine iq_aload_n hS 80 J_HSetter_endLabel_d79 l5 rfl ?_
        refine iq_getR hS 83 J_HSetter_endLabel_d80 lf_8_40 (Or.inl ⟨_, rfl⟩) (ka_15 (lw_sI (lw_sI (lw_sI hM4)))) (ra_15_2 (lw_sI (lw_sI (lw_sI hM4)))) rfl ?_
        refine iq_getI hS 86 J_HSetter_endLabel_d83 lf_8_54 (Or.inl rfl) (ka_19 (lw_sI (lw_sI (lw_sI hM4)))) rfl ?_
        obtain ⟨g86, h⟩ := ed_gd h
        refine iq_iastore hS 87 J_HSetter_endLabel_d86 ⟨(ka_16 (lw_sI (lw_sI (lw_sI hM4)))).1, (ka_16 (lw_sI (lw_sI (lw_sI hM4)))).2, g86.1, ix_lt (kl_16 (lw_sI (lw_sI (lw_sI hM4)))) g86.2⟩ rfl ?_
        refine iq_aload_n hS 88 J_HSetter_endLabel_d87 l5 rfl ?_
        refine iq_dup hS 89 J_HSetter_endLabel_d88 rfl rfl ?_
        refine iq_getI hS 92 J_HSetter_endLabel_d89 lf_8_51 (Or.inl rfl) (ka_15 (lw_sI (lw_sI (lw_sI (lw_sI hM4))))) rfl ?_
        refine iq_iconst hS 93 J_HSetter_endLabel_d92 (v := 1) (by decide +kernel) rfl ?_
        refine iq_iadd hS 94 J_HSetter_endLabel_d93 rfl ?_
        refine iq_putI hS 97 J_HSetter_endLabel_d94 lf_8_51 (Or.inl rfl) rfl (ka_15 (lw_sI (lw_sI (lw_sI (lw_sI hM4))))) rfl ?_
        refine iq_iconst hS 98 J_HSetter_endLabel_d97 (v := 0) (by decide +kernel) rfl ?_
        refine iq_istore_n hS 99 J_HSetter_endLabel_d98 (by decide) rfl ?_
        obtain ⟨Q7, hQ7, h⟩ := bd1_ed h
        have K7 : ∀ (M8 : im_M) (L' : List (Nat × Value)), lw_S w M8 → im_lk L' 0 = some (.ref 15) → im_lk L' 1 = some (.int x3) → Q7 M8 → ia (tb_G L xs) (dep + 3) J_HSetter_endLabel (rwV w Q) (129, L', [], M8) := by
          intro M8 L' hM8 l9 l10 h
          replace h := hQ7 _ h
          refine iq_iincv hS 132 J_HSetter_endLabel_d129 (c := 1) (by decide +kernel) l10 (by decide) rfl ?_
          refine iq_goto hS J_HSetter_endLabel_d132 (t := 7) rfl ?_
          exact ih _ _ _ hM8 (lk_1r l9 (by decide)) lk_1s (lq_l h)
        obtain ⟨r7, hr7, hq7⟩ := h
        obtain ⟨n7, hn7⟩ := lp_n hr7
        have I7 : ∀ (n : Nat) (x11 : Int32) (M12 : im_M) (L' : List (Nat × Value)), lw_S w M12 → im_lk L' 0 = some (.ref 15) → im_lk L' 1 = some (.int x3) → im_lk L' 2 = some (.int x11) → lpn (uc2 (f_HSetter_endLabel_L99 x3)) n (x11, M12) = some r7 → ia (tb_G L xs) (dep + 3) J_HSetter_endLabel (rwV w Q) (99, L', [], M12) := by
          intro n
          induction n with
          | zero => intro x11 M12 L' hM12 l13 l14 l15 hn; exact (lpn_0 hn).elim
          | succ n ih =>
            intro x11 M12 L' hM12 l13 l14 l15 hn
            have h := lpn_ed2 hn
            unfold f_HSetter_endLabel_L99 at h
            refine iq_iload_n hS 100 J_HSetter_endLabel_d99 l15 rfl ?_
            refine iq_aload_n hS 101 J_HSetter_endLabel_d100 l13 rfl ?_
            refine iq_getR hS 104 J_HSetter_endLabel_d101 lf_8_40 (Or.inl ⟨_, rfl⟩) (ka_15 hM12) (ra_15_2 hM12) rfl ?_
            refine iq_getI hS 107 J_HSetter_endLabel_d104 lf_8_54 (Or.inl rfl) (ka_19 hM12) rfl ?_
            refine iq_icmp_ge hS 110 J_HSetter_endLabel_d107 (t := 129) rfl (fun q107 => ?_) rfl (fun q107 => ?_)
            · replace h := ed_pos q107 h
              exact K7 _ _ hM12 l13 l14 (lq_r h hq7)
            · replace h := ed_neg q107 h
              refine iq_aload_n hS 111 J_HSetter_endLabel_d110 l13 rfl ?_
              refine iq_getR hS 114 J_HSetter_endLabel_d111 lf_8_29 (Or.inl ⟨_, rfl⟩) (ka_15 hM12) (ra_15_1 hM12) rfl ?_
              refine iq_aload_n hS 115 J_HSetter_endLabel_d114 l13 rfl ?_
              refine iq_getR hS 118 J_HSetter_endLabel_d115 lf_8_40 (Or.inl ⟨_, rfl⟩) (ka_15 hM12) (ra_15_2 hM12) rfl ?_
              refine iq_iload_n hS 119 J_HSetter_endLabel_d118 l15 rfl ?_
              refine iq_iload_n hS 120 J_HSetter_endLabel_d119 l14 rfl ?_
              obtain ⟨Q16, hQ16, h⟩ := bd1_ed h
              refine iq_cwV hS 123 J_HSetter_endLabel_d120 rfl (pr_inst (vs := [_, _, _]) lc_8_238 lT_76 rfl rfl (by decide) (by decide) rfl (Nat.le_of_ble_eq_true rfl) (Nat.le_of_ble_eq_true rfl) (fun _ => Or.inl (pr_b (ka_11 hM12) (by decide) rfl))) (f_HOrders_addCopy_ok (dep := dep + 0) hM12 h) rfl ?_
              intro M16 hM16 h
              replace h := hQ16 _ h
              refine iq_iincv hS 126 J_HSetter_endLabel_d123 (c := 1) (by decide +kernel) l15 (by decide) rfl ?_
              refine iq_goto hS J_HSetter_endLabel_d126 (t := 99) rfl ?_
              exact ih _ _ _ hM16 (lk_1r l13 (by decide)) (lk_1i l14 (by decide)) lk_1s (lq_l h)
        exact I7 n7 _ _ _ (lw_sI (lw_sI (lw_sI (lw_sI (lw_sI hM4))))) (lk_1r l5 (by decide)) (lk_1i l6 (by decide)) lk_1s hn7
  exact I1 n1 _ _ _ (lw_sI hM) (lk_1r l0 (by decide)) lk_1s hn1
theorem f_HSetter_endLabel_fr {M : im_M} {r : im_M} (h : f_HSetter_endLabel M = some r) : fr 94208 [(11, 3), (15, 4), (15, 8)] M r := by
  replace h : ed (f_HSetter_endLabel M) (fun x => x = r) := ⟨r, h, rfl⟩
  unfold f_HSetter_endLabel at h
  obtain ⟨Q1, hQ1, h⟩ := bd1_ed h
  have K1 : ∀ (M2 : im_M), fr 94208 [(11, 3), (15, 4), (15, 8)] M M2 → Q1 M2 → fr 94208 [(11, 3), (15, 4), (15, 8)] M r := by
    intro M2 hM2 h
    replace h := hQ1 _ h
    exact fr_retV h hM2
  obtain ⟨r1, hr1, hq1⟩ := h
  obtain ⟨n1, hn1⟩ := lp_n hr1
  have I1 : ∀ (n : Nat) (x3 : Int32) (M4 : im_M), fr 94208 [(11, 3), (15, 4), (15, 8)] M M4 → lpn (uc2 (f_HSetter_endLabel_L7)) n (x3, M4) = some r1 → fr 94208 [(11, 3), (15, 4), (15, 8)] M r := by
    intro n
    induction n with
    | zero => intro x3 M4 hM4 hn; exact (lpn_0 hn).elim
    | succ n ih =>
      intro x3 M4 hM4 hn
      have h := lpn_ed2 hn
      unfold f_HSetter_endLabel_L7 at h
      by_cases q12 : (im_i M4 15 12) ≤ x3
      · replace h := ed_pos q12 h
        exact K1 _ hM4 (lq_r h hq1)
      · replace h := ed_neg q12 h
        obtain ⟨g29, h⟩ := ed_gd h
        obtain ⟨g46, h⟩ := ed_gd h
        obtain ⟨g66, h⟩ := ed_gd h
        obtain ⟨g86, h⟩ := ed_gd h
        obtain ⟨Q5, hQ5, h⟩ := bd1_ed h
        have K5 : ∀ (M6 : im_M), fr 94208 [(11, 3), (15, 4), (15, 8)] M M6 → Q5 M6 → fr 94208 [(11, 3), (15, 4), (15, 8)] M r := by
          intro M6 hM6 h
          replace h := hQ5 _ h
          exact ih _ _ hM6 (lq_l h)
        obtain ⟨r5, hr5, hq5⟩ := h
        obtain ⟨n5, hn5⟩ := lp_n hr5
        have I5 : ∀ (n : Nat) (x7 : Int32) (M8 : im_M), fr 94208 [(11, 3), (15, 4), (15, 8)] M M8 → lpn (uc2 (f_HSetter_endLabel_L99 x3)) n (x7, M8) = some r5 → fr 94208 [(11, 3), (15, 4), (15, 8)] M r := by
          intro n
          induction n with
          | zero => intro x7 M8 hM8 hn; exact (lpn_0 hn).elim
          | succ n ih =>
            intro x7 M8 hM8 hn
            have h := lpn_ed2 hn
            unfold f_HSetter_endLabel_L99 at h
            by_cases q107 : (im_i M8 19 3) ≤ x7
            · replace h := ed_pos q107 h
              exact K5 _ hM8 (lq_r h hq5)
            · replace h := ed_neg q107 h
              obtain ⟨Q9, hQ9, h⟩ := bd1_ed h
              obtain ⟨M9, e9, h⟩ := h
              replace h := hQ9 _ h
              exact ih _ _ (fr_tr (fr_mono (by decide) (by decide +kernel) (f_HOrders_addCopy_fr e9)) hM8) (lq_l h)
        exact I5 n5 _ _ (fr_F (by decide) (fr_I (by decide) (fr_I (by decide) (fr_I (by decide) (fr_I (by decide) hM4))))) hn5
  exact I1 n1 _ _ (fr_F (by decide) fr_refl) hn1
noncomputable def f_HTape_enterForm (p0 : Int32) (M : im_M) : Option (im_M) := gd (inb (im_i (im_setI M 1 6 ((im_i M 1 6) + 1)) 1 6) 5) <| gd (inb (im_i (im_setI (im_setI M 1 6 ((im_i M 1 6) + 1)) 7 (Int32.toNatClampNeg (im_i (im_setI M 1 6 ((im_i M 1 6) + 1)) 1 6)) p0) 1 6) 5) <| some (im_setI (im_setI (im_setI M 1 6 ((im_i M 1 6) + 1)) 7 (Int32.toNatClampNeg (im_i (im_setI M 1 6 ((im_i M 1 6) + 1)) 1 6)) p0) 8 (Int32.toNatClampNeg (im_i (im_setI (im_setI M 1 6 ((im_i M 1 6) + 1)) 7 (Int32.toNatClampNeg (im_i (im_setI M 1 6 ((im_i M 1 6) + 1)) 1 6)) p0) 1 6)) 0)
theorem J_HTape_enterForm_d0 : decode J_HTape_enterForm.2.1 0 = .ok (.aload_n 0, 1) := by decide +kernel
theorem J_HTape_enterForm_d1 : decode J_HTape_enterForm.2.1 1 = .ok (.dup, 1) := by decide +kernel
theorem J_HTape_enterForm_d2 : decode J_HTape_enterForm.2.1 2 = .ok (.getfield 44, 3) := by decide +kernel
theorem J_HTape_enterForm_d5 : decode J_HTape_enterForm.2.1 5 = .ok (.iconst 1, 1) := by decide +kernel
theorem J_HTape_enterForm_d6 : decode J_HTape_enterForm.2.1 6 = .ok (.iadd, 1) := by decide +kernel
theorem J_HTape_enterForm_d7 : decode J_HTape_enterForm.2.1 7 = .ok (.putfield 44, 3) := by decide +kernel
theorem J_HTape_enterForm_d10 : decode J_HTape_enterForm.2.1 10 = .ok (.aload_n 0, 1) := by decide +kernel
theorem J_HTape_enterForm_d11 : decode J_HTape_enterForm.2.1 11 = .ok (.getfield 28, 3) := by decide +kernel
theorem J_HTape_enterForm_d14 : decode J_HTape_enterForm.2.1 14 = .ok (.aload_n 0, 1) := by decide +kernel
theorem J_HTape_enterForm_d15 : decode J_HTape_enterForm.2.1 15 = .ok (.getfield 44, 3) := by decide +kernel
theorem J_HTape_enterForm_d18 : decode J_HTape_enterForm.2.1 18 = .ok (.iload_n 1, 1) := by decide +kernel
theorem J_HTape_enterForm_d19 : decode J_HTape_enterForm.2.1 19 = .ok (.iastore, 1) := by decide +kernel
theorem J_HTape_enterForm_d20 : decode J_HTape_enterForm.2.1 20 = .ok (.aload_n 0, 1) := by decide +kernel
theorem J_HTape_enterForm_d21 : decode J_HTape_enterForm.2.1 21 = .ok (.getfield 31, 3) := by decide +kernel
theorem J_HTape_enterForm_d24 : decode J_HTape_enterForm.2.1 24 = .ok (.aload_n 0, 1) := by decide +kernel
theorem J_HTape_enterForm_d25 : decode J_HTape_enterForm.2.1 25 = .ok (.getfield 44, 3) := by decide +kernel
theorem J_HTape_enterForm_d28 : decode J_HTape_enterForm.2.1 28 = .ok (.iconst 0, 1) := by decide +kernel
theorem J_HTape_enterForm_d29 : decode J_HTape_enterForm.2.1 29 = .ok (.iastore, 1) := by decide +kernel
theorem J_HTape_enterForm_d30 : decode J_HTape_enterForm.2.1 30 = .ok (.return_, 1) := by decide +kernel
theorem f_HTape_enterForm_ok {L : Nat} {xs : Nat → Int32} {dep : Nat} {w : Bool} {p0 : Int32} {M : im_M} {Q : im_M → Prop} (hM : lw_S w M) (h : ed (f_HTape_enterForm p0 M) Q) : ia (tb_G L xs) dep J_HTape_enterForm (rwV w Q) (0, lv_args 0 [.ref 1, .int p0], [], M) := by
  have hS : im_St (tb_G L xs) dep J_HTape_enterForm (ia (tb_G L xs) dep J_HTape_enterForm (rwV w Q)) := ia_St
  unfold f_HTape_enterForm at h
  have l0 : im_lk (lv_args 0 [.ref 1, .int p0]) 0 = some (.ref 1) := rfl
  have l1 : im_lk (lv_args 0 [.ref 1, .int p0]) 1 = some (.int p0) := rfl
  refine iq_aload_n hS 1 J_HTape_enterForm_d0 l0 rfl ?_
  refine iq_dup hS 2 J_HTape_enterForm_d1 rfl rfl ?_
  refine iq_getI hS 5 J_HTape_enterForm_d2 lf_10_44 (Or.inl rfl) (ka_1 hM) rfl ?_
  refine iq_iconst hS 6 J_HTape_enterForm_d5 (v := 1) (by decide +kernel) rfl ?_
  refine iq_iadd hS 7 J_HTape_enterForm_d6 rfl ?_
  refine iq_putI hS 10 J_HTape_enterForm_d7 lf_10_44 (Or.inl rfl) rfl (ka_1 hM) rfl ?_
  refine iq_aload_n hS 11 J_HTape_enterForm_d10 l0 rfl ?_
  refine iq_getR hS 14 J_HTape_enterForm_d11 lf_10_28 (Or.inr ⟨_, rfl⟩) (ka_1 (lw_sI hM)) (ra_1_7 (lw_sI hM)) rfl ?_
  refine iq_aload_n hS 15 J_HTape_enterForm_d14 l0 rfl ?_
  refine iq_getI hS 18 J_HTape_enterForm_d15 lf_10_44 (Or.inl rfl) (ka_1 (lw_sI hM)) rfl ?_
  refine iq_iload_n hS 19 J_HTape_enterForm_d18 l1 rfl ?_
  obtain ⟨g19, h⟩ := ed_gd h
  refine iq_iastore hS 20 J_HTape_enterForm_d19 ⟨(ka_7 (lw_sI hM)).1, (ka_7 (lw_sI hM)).2, g19.1, ix_lt (kl_7 (lw_sI hM)) g19.2⟩ rfl ?_
  refine iq_aload_n hS 21 J_HTape_enterForm_d20 l0 rfl ?_
  refine iq_getR hS 24 J_HTape_enterForm_d21 lf_10_31 (Or.inr ⟨_, rfl⟩) (ka_1 (lw_sI (lw_sI hM))) (ra_1_8 (lw_sI (lw_sI hM))) rfl ?_
  refine iq_aload_n hS 25 J_HTape_enterForm_d24 l0 rfl ?_
  refine iq_getI hS 28 J_HTape_enterForm_d25 lf_10_44 (Or.inl rfl) (ka_1 (lw_sI (lw_sI hM))) rfl ?_
  refine iq_iconst hS 29 J_HTape_enterForm_d28 (v := 0) (by decide +kernel) rfl ?_
  obtain ⟨g29, h⟩ := ed_gd h
  refine iq_iastore hS 30 J_HTape_enterForm_d29 ⟨(ka_8 (lw_sI (lw_sI hM))).1, (ka_8 (lw_sI (lw_sI hM))).2, g29.1, ix_lt (kl_8 (lw_sI (lw_sI hM))) g29.2⟩ rfl ?_
  exact iq_ret J_HTape_enterForm_d30 rfl ⟨rfl, (lw_sI (lw_sI (lw_sI hM))), ed_some h⟩
theorem f_HTape_enterForm_fr {p0 : Int32} {M : im_M} {r : im_M} (h : f_HTape_enterForm p0 M = some r) : fr 384 [(1, 6)] M r := by
  replace h : ed (f_HTape_enterForm p0 M) (fun x => x = r) := ⟨r, h, rfl⟩
  unfold f_HTape_enterForm at h
  obtain ⟨g19, h⟩ := ed_gd h
  obtain ⟨g29, h⟩ := ed_gd h
  exact fr_retV h (fr_I (by decide) (fr_I (by decide) (fr_F (by decide) fr_refl)))
noncomputable def f_HField_hold (p1 : Int32) (p2 : Int32) (M : im_M) : Option (im_M) := gd (cpy p1 200 0 200 p2) <| some (im_setI (im_setA M 25 (va_cpy (im_i M 10) (im_i M 25) (Int32.toNatClampNeg p1) (Int32.toNatClampNeg 0) (Int32.toNatClampNeg p2))) 23 8 p2)
theorem J_HField_hold_d0 : decode J_HField_hold.2.1 0 = .ok (.aload_n 1, 1) := by decide +kernel
theorem J_HField_hold_d1 : decode J_HField_hold.2.1 1 = .ok (.iload_n 2, 1) := by decide +kernel
theorem J_HField_hold_d2 : decode J_HField_hold.2.1 2 = .ok (.aload_n 0, 1) := by decide +kernel
theorem J_HField_hold_d3 : decode J_HField_hold.2.1 3 = .ok (.getfield 17, 3) := by decide +kernel
theorem J_HField_hold_d6 : decode J_HField_hold.2.1 6 = .ok (.iconst 0, 1) := by decide +kernel
theorem J_HField_hold_d7 : decode J_HField_hold.2.1 7 = .ok (.iload_n 3, 1) := by decide +kernel
theorem J_HField_hold_d8 : decode J_HField_hold.2.1 8 = .ok (.invokestatic 50, 3) := by decide +kernel
theorem J_HField_hold_d11 : decode J_HField_hold.2.1 11 = .ok (.aload_n 0, 1) := by decide +kernel
theorem J_HField_hold_d12 : decode J_HField_hold.2.1 12 = .ok (.iload_n 3, 1) := by decide +kernel
theorem J_HField_hold_d13 : decode J_HField_hold.2.1 13 = .ok (.putfield 47, 3) := by decide +kernel
theorem J_HField_hold_d16 : decode J_HField_hold.2.1 16 = .ok (.return_, 1) := by decide +kernel
theorem f_HField_hold_ok {L : Nat} {xs : Nat → Int32} {dep : Nat} {w : Bool} {p1 : Int32} {p2 : Int32} {M : im_M} {Q : im_M → Prop} (hM : lw_S w M) (h : ed (f_HField_hold p1 p2 M) Q) : ia (tb_G L xs) dep J_HField_hold (rwV w Q) (0, lv_args 0 [.ref 23, .ref 10, .int p1, .int p2], [], M) := by
  have hS : im_St (tb_G L xs) dep J_HField_hold (ia (tb_G L xs) dep J_HField_hold (rwV w Q)) := ia_St
  unfold f_HField_hold at h
  have l0 : im_lk (lv_args 0 [.ref 23, .ref 10, .int p1, .int p2]) 0 = some (.ref 23) := rfl
  have l1 : im_lk (lv_args 0 [.ref 23, .ref 10, .int p1, .int p2]) 1 = some (.ref 10) := rfl
  have l2 : im_lk (lv_args 0 [.ref 23, .ref 10, .int p1, .int p2]) 2 = some (.int p1) := rfl
  have l3 : im_lk (lv_args 0 [.ref 23, .ref 10, .int p1, .int p2]) 3 = some (.int p2) := rfl
  refine iq_aload_n hS 1 J_HField_hold_d0 l1 rfl ?_
  refine iq_iload_n hS 2 J_HField_hold_d1 l2 rfl ?_
  refine iq_aload_n hS 3 J_HField_hold_d2 l0 rfl ?_
  refine iq_getR hS 6 J_HField_hold_d3 lf_2_17 (Or.inr ⟨_, rfl⟩) (ka_23 hM) (ra_23_7 hM) rfl ?_
  refine iq_iconst hS 7 J_HField_hold_d6 (v := 0) (by decide +kernel) rfl ?_
  refine iq_iload_n hS 8 J_HField_hold_d7 l3 rfl ?_
  obtain ⟨g8, h⟩ := ed_gd h
  refine iq_cpy hS 11 J_HField_hold_d8 (ga_of (by decide +kernel)) (ka_25 hM) (ka_10 hM) (by decide) (kl_10 hM) (kl_25 hM) g8 (Nat.le_of_ble_eq_true rfl) rfl ?_
  refine iq_aload_n hS 12 J_HField_hold_d11 l0 rfl ?_
  refine iq_iload_n hS 13 J_HField_hold_d12 l3 rfl ?_
  refine iq_putI hS 16 J_HField_hold_d13 lf_2_47 (Or.inl rfl) rfl (ka_23 (lw_sA hM)) rfl ?_
  exact iq_ret J_HField_hold_d16 rfl ⟨rfl, (lw_sI (lw_sA hM)), ed_some h⟩
theorem f_HField_hold_fr {p1 : Int32} {p2 : Int32} {M : im_M} {r : im_M} (h : f_HField_hold p1 p2 M = some r) : fr 33554432 [(23, 8)] M r := by
  replace h : ed (f_HField_hold p1 p2 M) (fun x => x = r) := ⟨r, h, rfl⟩
  unfold f_HField_hold at h
  obtain ⟨g8, h⟩ := ed_gd h
  exact fr_retV h (fr_F (by decide) (fr_A (by decide) fr_refl))
noncomputable def f_HField_hold_1 (p1 : Int32) (p2 : Int32) (M : im_M) : Option (im_M) := gd (cpy p1 2000 0 200 p2) <| some (im_setI (im_setA M 25 (va_cpy (im_i M 5) (im_i M 25) (Int32.toNatClampNeg p1) (Int32.toNatClampNeg 0) (Int32.toNatClampNeg p2))) 23 8 p2)
theorem f_HField_hold_1_ok {L : Nat} {xs : Nat → Int32} {dep : Nat} {w : Bool} {p1 : Int32} {p2 : Int32} {M : im_M} {Q : im_M → Prop} (hM : lw_S w M) (h : ed (f_HField_hold_1 p1 p2 M) Q) : ia (tb_G L xs) dep J_HField_hold (rwV w Q) (0, lv_args 0 [.ref 23, .ref 5, .int p1, .int p2], [], M) := by
  have hS : im_St (tb_G L xs) dep J_HField_hold (ia (tb_G L xs) dep J_HField_hold (rwV w Q)) := ia_St
  unfold f_HField_hold_1 at h
  have l0 : im_lk (lv_args 0 [.ref 23, .ref 5, .int p1, .int p2]) 0 = some (.ref 23) := rfl
  have l1 : im_lk (lv_args 0 [.ref 23, .ref 5, .int p1, .int p2]) 1 = some (.ref 5) := rfl
  have l2 : im_lk (lv_args 0 [.ref 23, .ref 5, .int p1, .int p2]) 2 = some (.int p1) := rfl
  have l3 : im_lk (lv_args 0 [.ref 23, .ref 5, .int p1, .int p2]) 3 = some (.int p2) := rfl
  refine iq_aload_n hS 1 J_HField_hold_d0 l1 rfl ?_
  refine iq_iload_n hS 2 J_HField_hold_d1 l2 rfl ?_
  refine iq_aload_n hS 3 J_HField_hold_d2 l0 rfl ?_
  refine iq_getR hS 6 J_HField_hold_d3 lf_2_17 (Or.inr ⟨_, rfl⟩) (ka_23 hM) (ra_23_7 hM) rfl ?_
  refine iq_iconst hS 7 J_HField_hold_d6 (v := 0) (by decide +kernel) rfl ?_
  refine iq_iload_n hS 8 J_HField_hold_d7 l3 rfl ?_
  obtain ⟨g8, h⟩ := ed_gd h
  refine iq_cpy hS 11 J_HField_hold_d8 (ga_of (by decide +kernel)) (ka_25 hM) (ka_5 hM) (by decide) (kl_5 hM) (kl_25 hM) g8 (Nat.le_of_ble_eq_true rfl) rfl ?_
  refine iq_aload_n hS 12 J_HField_hold_d11 l0 rfl ?_
  refine iq_iload_n hS 13 J_HField_hold_d12 l3 rfl ?_
  refine iq_putI hS 16 J_HField_hold_d13 lf_2_47 (Or.inl rfl) rfl (ka_23 (lw_sA hM)) rfl ?_
  exact iq_ret J_HField_hold_d16 rfl ⟨rfl, (lw_sI (lw_sA hM)), ed_some h⟩
theorem f_HField_hold_1_fr {p1 : Int32} {p2 : Int32} {M : im_M} {r : im_M} (h : f_HField_hold_1 p1 p2 M = some r) : fr 33554432 [(23, 8)] M r := by
  replace h : ed (f_HField_hold_1 p1 p2 M) (fun x => x = r) := ⟨r, h, rfl⟩
  unfold f_HField_hold_1 at h
  obtain ⟨g8, h⟩ := ed_gd h
  exact fr_retV h (fr_F (by decide) (fr_A (by decide) fr_refl))
noncomputable def f_HField_become (p0 : Int32) (M : im_M) : Option (im_M) := gd (cpy 0 4 0 4 4) <| some (im_setA (im_setI M 23 2 p0) 24 (va_cpy (im_i (im_setI M 23 2 p0) 9) (im_i (im_setI M 23 2 p0) 24) (Int32.toNatClampNeg 0) (Int32.toNatClampNeg 0) (Int32.toNatClampNeg 4)))
theorem J_HField_become_d0 : decode J_HField_become.2.1 0 = .ok (.aload_n 0, 1) := by decide +kernel
theorem J_HField_become_d1 : decode J_HField_become.2.1 1 = .ok (.iload_n 1, 1) := by decide +kernel
theorem J_HField_become_d2 : decode J_HField_become.2.1 2 = .ok (.putfield 34, 3) := by decide +kernel
theorem J_HField_become_d5 : decode J_HField_become.2.1 5 = .ok (.aload_n 2, 1) := by decide +kernel
theorem J_HField_become_d6 : decode J_HField_become.2.1 6 = .ok (.iconst 0, 1) := by decide +kernel
theorem J_HField_become_d7 : decode J_HField_become.2.1 7 = .ok (.aload_n 0, 1) := by decide +kernel
theorem J_HField_become_d8 : decode J_HField_become.2.1 8 = .ok (.getfield 9, 3) := by decide +kernel
theorem J_HField_become_d11 : decode J_HField_become.2.1 11 = .ok (.iconst 0, 1) := by decide +kernel
theorem J_HField_become_d12 : decode J_HField_become.2.1 12 = .ok (.iconst 4, 1) := by decide +kernel
theorem J_HField_become_d13 : decode J_HField_become.2.1 13 = .ok (.invokestatic 50, 3) := by decide +kernel
theorem J_HField_become_d16 : decode J_HField_become.2.1 16 = .ok (.return_, 1) := by decide +kernel
theorem f_HField_become_ok {L : Nat} {xs : Nat → Int32} {dep : Nat} {w : Bool} {p0 : Int32} {M : im_M} {Q : im_M → Prop} (hM : lw_S w M) (h : ed (f_HField_become p0 M) Q) : ia (tb_G L xs) dep J_HField_become (rwV w Q) (0, lv_args 0 [.ref 23, .int p0, .ref 9], [], M) := by
  have hS : im_St (tb_G L xs) dep J_HField_become (ia (tb_G L xs) dep J_HField_become (rwV w Q)) := ia_St
  unfold f_HField_become at h
  have l0 : im_lk (lv_args 0 [.ref 23, .int p0, .ref 9]) 0 = some (.ref 23) := rfl
  have l1 : im_lk (lv_args 0 [.ref 23, .int p0, .ref 9]) 1 = some (.int p0) := rfl
  have l2 : im_lk (lv_args 0 [.ref 23, .int p0, .ref 9]) 2 = some (.ref 9) := rfl
  refine iq_aload_n hS 1 J_HField_become_d0 l0 rfl ?_
  refine iq_iload_n hS 2 J_HField_become_d1 l1 rfl ?_
  refine iq_putI hS 5 J_HField_become_d2 lf_2_34 (Or.inl rfl) rfl (ka_23 hM) rfl ?_
  refine iq_aload_n hS 6 J_HField_become_d5 l2 rfl ?_
  refine iq_iconst hS 7 J_HField_become_d6 (v := 0) (by decide +kernel) rfl ?_
  refine iq_aload_n hS 8 J_HField_become_d7 l0 rfl ?_
  refine iq_getR hS 11 J_HField_become_d8 lf_2_9 (Or.inr ⟨_, rfl⟩) (ka_23 (lw_sI hM)) (ra_23_3 (lw_sI hM)) rfl ?_
  refine iq_iconst hS 12 J_HField_become_d11 (v := 0) (by decide +kernel) rfl ?_
  refine iq_iconst hS 13 J_HField_become_d12 (v := 4) (by decide +kernel) rfl ?_
  obtain ⟨g13, h⟩ := ed_gd h
  refine iq_cpy hS 16 J_HField_become_d13 (ga_of (by decide +kernel)) (ka_24 (lw_sI hM)) (ka_9 (lw_sI hM)) (by decide) (kl_9 (lw_sI hM)) (kl_24 (lw_sI hM)) g13 (Nat.le_of_ble_eq_true rfl) rfl ?_
  exact iq_ret J_HField_become_d16 rfl ⟨rfl, (lw_sA (lw_sI hM)), ed_some h⟩
theorem f_HField_become_fr {p0 : Int32} {M : im_M} {r : im_M} (h : f_HField_become p0 M = some r) : fr 16777216 [(23, 2)] M r := by
  replace h : ed (f_HField_become p0 M) (fun x => x = r) := ⟨r, h, rfl⟩
  unfold f_HField_become at h
  obtain ⟨g13, h⟩ := ed_gd h
  exact fr_retV h (fr_A (by decide) (fr_F (by decide) fr_refl))
noncomputable def f_HSetter_performOfField (p0 : Int32) (p1 : Int32) (M : im_M) : Option (im_M) := if p0 = 8 then gd (inb 1 4) <| some (im_setI (im_setI M 23 0 p1) 23 1 (im_i (im_setI M 23 0 p1) 9 (Int32.toNatClampNeg 1))) else if p0 = 9 then some (im_setI M 23 4 1) else if p0 = 10 then bd1 (f_HField_hold 0 (im_i M 1 11) M) fun (M1 : im_M) => some M1 else if p0 = 11 then gd (inb p1 10) <| bd1 (f_HField_hold_1 (p1 * 200) (im_i M 6 (Int32.toNatClampNeg p1)) M) fun (M2 : im_M) => some M2 else if p0 = 12 then some (im_setI (im_setI M 23 5 1) 23 6 p1) else if p0 = 22 then bd1 (f_HField_clear (im_setI M 19 3 ((im_i M 19 3) + (im_i M 15 16)))) fun (M3 : im_M) => some M3 else gd (inb (p0 - 13) 9) <| bd1 (f_HField_become (xa_2 (p0 - 13)) M) fun (M4 : im_M) => some M4
theorem J_HSetter_performOfField_d0 : decode J_HSetter_performOfField.2.1 0 = .ok (.iload_n 1, 1) := by decide +kernel
theorem J_HSetter_performOfField_d1 : decode J_HSetter_performOfField.2.1 1 = .ok (.tableswitch 214 8 22 #[75, 102, 113, 138, 169, 214, 214, 214, 214, 214, 214, 214, 214, 214, 188], 75) := by decide +kernel
theorem J_HSetter_performOfField_d76 : decode J_HSetter_performOfField.2.1 76 = .ok (.aload_n 0, 1) := by decide +kernel
theorem J_HSetter_performOfField_d77 : decode J_HSetter_performOfField.2.1 77 = .ok (.getfield 44, 3) := by decide +kernel
theorem J_HSetter_performOfField_d80 : decode J_HSetter_performOfField.2.1 80 = .ok (.iload_n 2, 1) := by decide +kernel
theorem J_HSetter_performOfField_d81 : decode J_HSetter_performOfField.2.1 81 = .ok (.putfield 190, 3) := by decide +kernel
theorem J_HSetter_performOfField_d84 : decode J_HSetter_performOfField.2.1 84 = .ok (.aload_n 0, 1) := by decide +kernel
theorem J_HSetter_performOfField_d85 : decode J_HSetter_performOfField.2.1 85 = .ok (.getfield 44, 3) := by decide +kernel
theorem J_HSetter_performOfField_d88 : decode J_HSetter_performOfField.2.1 88 = .ok (.aload_n 0, 1) := by decide +kernel
theorem J_HSetter_performOfField_d89 : decode J_HSetter_performOfField.2.1 89 = .ok (.getfield 25, 3) := by decide +kernel
theorem J_HSetter_performOfField_d92 : decode J_HSetter_performOfField.2.1 92 = .ok (.getfield 131, 3) := by decide +kernel
theorem J_HSetter_performOfField_d95 : decode J_HSetter_performOfField.2.1 95 = .ok (.iconst 1, 1) := by decide +kernel
theorem J_HSetter_performOfField_d96 : decode J_HSetter_performOfField.2.1 96 = .ok (.iaload, 1) := by decide +kernel
theorem J_HSetter_performOfField_d97 : decode J_HSetter_performOfField.2.1 97 = .ok (.putfield 193, 3) := by decide +kernel
theorem J_HSetter_performOfField_d100 : decode J_HSetter_performOfField.2.1 100 = .ok (.goto 137, 3) := by decide +kernel
theorem J_HSetter_performOfField_d103 : decode J_HSetter_performOfField.2.1 103 = .ok (.aload_n 0, 1) := by decide +kernel
theorem J_HSetter_performOfField_d104 : decode J_HSetter_performOfField.2.1 104 = .ok (.getfield 44, 3) := by decide +kernel
theorem J_HSetter_performOfField_d107 : decode J_HSetter_performOfField.2.1 107 = .ok (.iconst 1, 1) := by decide +kernel
theorem J_HSetter_performOfField_d108 : decode J_HSetter_performOfField.2.1 108 = .ok (.putfield 196, 3) := by decide +kernel
theorem J_HSetter_performOfField_d111 : decode J_HSetter_performOfField.2.1 111 = .ok (.goto 126, 3) := by decide +kernel
theorem J_HSetter_performOfField_d114 : decode J_HSetter_performOfField.2.1 114 = .ok (.aload_n 0, 1) := by decide +kernel
theorem J_HSetter_performOfField_d115 : decode J_HSetter_performOfField.2.1 115 = .ok (.getfield 44, 3) := by decide +kernel
theorem J_HSetter_performOfField_d118 : decode J_HSetter_performOfField.2.1 118 = .ok (.aload_n 0, 1) := by decide +kernel
theorem J_HSetter_performOfField_d119 : decode J_HSetter_performOfField.2.1 119 = .ok (.getfield 25, 3) := by decide +kernel
theorem J_HSetter_performOfField_d122 : decode J_HSetter_performOfField.2.1 122 = .ok (.getfield 199, 3) := by decide +kernel
theorem J_HSetter_performOfField_d125 : decode J_HSetter_performOfField.2.1 125 = .ok (.iconst 0, 1) := by decide +kernel
theorem J_HSetter_performOfField_d126 : decode J_HSetter_performOfField.2.1 126 = .ok (.aload_n 0, 1) := by decide +kernel
theorem J_HSetter_performOfField_d127 : decode J_HSetter_performOfField.2.1 127 = .ok (.getfield 25, 3) := by decide +kernel
theorem J_HSetter_performOfField_d130 : decode J_HSetter_performOfField.2.1 130 = .ok (.getfield 203, 3) := by decide +kernel
theorem J_HSetter_performOfField_d133 : decode J_HSetter_performOfField.2.1 133 = .ok (.invokevirtual 206, 3) := by decide +kernel
theorem J_HSetter_performOfField_d136 : decode J_HSetter_performOfField.2.1 136 = .ok (.goto 101, 3) := by decide +kernel
theorem J_HSetter_performOfField_d139 : decode J_HSetter_performOfField.2.1 139 = .ok (.aload_n 0, 1) := by decide +kernel
theorem J_HSetter_performOfField_d140 : decode J_HSetter_performOfField.2.1 140 = .ok (.getfield 44, 3) := by decide +kernel
theorem J_HSetter_performOfField_d143 : decode J_HSetter_performOfField.2.1 143 = .ok (.aload_n 0, 1) := by decide +kernel
theorem J_HSetter_performOfField_d144 : decode J_HSetter_performOfField.2.1 144 = .ok (.getfield 25, 3) := by decide +kernel
theorem J_HSetter_performOfField_d147 : decode J_HSetter_performOfField.2.1 147 = .ok (.getfield 210, 3) := by decide +kernel
theorem J_HSetter_performOfField_d150 : decode J_HSetter_performOfField.2.1 150 = .ok (.iload_n 2, 1) := by decide +kernel
theorem J_HSetter_performOfField_d151 : decode J_HSetter_performOfField.2.1 151 = .ok (.sipush 200, 3) := by decide +kernel
theorem J_HSetter_performOfField_d154 : decode J_HSetter_performOfField.2.1 154 = .ok (.imul, 1) := by decide +kernel
theorem J_HSetter_performOfField_d155 : decode J_HSetter_performOfField.2.1 155 = .ok (.aload_n 0, 1) := by decide +kernel
theorem J_HSetter_performOfField_d156 : decode J_HSetter_performOfField.2.1 156 = .ok (.getfield 25, 3) := by decide +kernel
theorem J_HSetter_performOfField_d159 : decode J_HSetter_performOfField.2.1 159 = .ok (.getfield 213, 3) := by decide +kernel
theorem J_HSetter_performOfField_d162 : decode J_HSetter_performOfField.2.1 162 = .ok (.iload_n 2, 1) := by decide +kernel
theorem J_HSetter_performOfField_d163 : decode J_HSetter_performOfField.2.1 163 = .ok (.iaload, 1) := by decide +kernel
theorem J_HSetter_performOfField_d164 : decode J_HSetter_performOfField.2.1 164 = .ok (.invokevirtual 206, 3) := by decide +kernel
theorem J_HSetter_performOfField_d167 : decode J_HSetter_performOfField.2.1 167 = .ok (.goto 70, 3) := by decide +kernel
theorem J_HSetter_performOfField_d170 : decode J_HSetter_performOfField.2.1 170 = .ok (.aload_n 0, 1) := by decide +kernel
theorem J_HSetter_performOfField_d171 : decode J_HSetter_performOfField.2.1 171 = .ok (.getfield 44, 3) := by decide +kernel
theorem J_HSetter_performOfField_d174 : decode J_HSetter_performOfField.2.1 174 = .ok (.iconst 1, 1) := by decide +kernel
theorem J_HSetter_performOfField_d175 : decode J_HSetter_performOfField.2.1 175 = .ok (.putfield 216, 3) := by decide +kernel
theorem J_HSetter_performOfField_d178 : decode J_HSetter_performOfField.2.1 178 = .ok (.aload_n 0, 1) := by decide +kernel
theorem J_HSetter_performOfField_d179 : decode J_HSetter_performOfField.2.1 179 = .ok (.getfield 44, 3) := by decide +kernel
theorem J_HSetter_performOfField_d182 : decode J_HSetter_performOfField.2.1 182 = .ok (.iload_n 2, 1) := by decide +kernel
theorem J_HSetter_performOfField_d183 : decode J_HSetter_performOfField.2.1 183 = .ok (.putfield 219, 3) := by decide +kernel
theorem J_HSetter_performOfField_d186 : decode J_HSetter_performOfField.2.1 186 = .ok (.goto 51, 3) := by decide +kernel
theorem J_HSetter_performOfField_d189 : decode J_HSetter_performOfField.2.1 189 = .ok (.aload_n 0, 1) := by decide +kernel
theorem J_HSetter_performOfField_d190 : decode J_HSetter_performOfField.2.1 190 = .ok (.getfield 40, 3) := by decide +kernel
theorem J_HSetter_performOfField_d193 : decode J_HSetter_performOfField.2.1 193 = .ok (.dup, 1) := by decide +kernel
theorem J_HSetter_performOfField_d194 : decode J_HSetter_performOfField.2.1 194 = .ok (.getfield 54, 3) := by decide +kernel
theorem J_HSetter_performOfField_d197 : decode J_HSetter_performOfField.2.1 197 = .ok (.aload_n 0, 1) := by decide +kernel
theorem J_HSetter_performOfField_d198 : decode J_HSetter_performOfField.2.1 198 = .ok (.getfield 153, 3) := by decide +kernel
theorem J_HSetter_performOfField_d201 : decode J_HSetter_performOfField.2.1 201 = .ok (.iadd, 1) := by decide +kernel
theorem J_HSetter_performOfField_d202 : decode J_HSetter_performOfField.2.1 202 = .ok (.putfield 54, 3) := by decide +kernel
theorem J_HSetter_performOfField_d205 : decode J_HSetter_performOfField.2.1 205 = .ok (.aload_n 0, 1) := by decide +kernel
theorem J_HSetter_performOfField_d206 : decode J_HSetter_performOfField.2.1 206 = .ok (.getfield 44, 3) := by decide +kernel
theorem J_HSetter_performOfField_d209 : decode J_HSetter_performOfField.2.1 209 = .ok (.invokevirtual 222, 3) := by decide +kernel
theorem J_HSetter_performOfField_d212 : decode J_HSetter_performOfField.2.1 212 = .ok (.goto 25, 3) := by decide +kernel
theorem J_HSetter_performOfField_d215 : decode J_HSetter_performOfField.2.1 215 = .ok (.aload_n 0, 1) := by decide +kernel
theorem J_HSetter_performOfField_d216 : decode J_HSetter_performOfField.2.1 216 = .ok (.getfield 44, 3) := by decide +kernel
theorem J_HSetter_performOfField_d219 : decode J_HSetter_performOfField.2.1 219 = .ok (.getstatic 225, 3) := by decide +kernel
theorem J_HSetter_performOfField_d222 : decode J_HSetter_performOfField.2.1 222 = .ok (.iload_n 1, 1) := by decide +kernel
theorem J_HSetter_performOfField_d223 : decode J_HSetter_performOfField.2.1 223 = .ok (.bipush 13, 2) := by decide +kernel
theorem J_HSetter_performOfField_d225 : decode J_HSetter_performOfField.2.1 225 = .ok (.isub, 1) := by decide +kernel
theorem J_HSetter_performOfField_d226 : decode J_HSetter_performOfField.2.1 226 = .ok (.iaload, 1) := by decide +kernel
theorem J_HSetter_performOfField_d227 : decode J_HSetter_performOfField.2.1 227 = .ok (.aload_n 0, 1) := by decide +kernel
theorem J_HSetter_performOfField_d228 : decode J_HSetter_performOfField.2.1 228 = .ok (.getfield 25, 3) := by decide +kernel
theorem J_HSetter_performOfField_d231 : decode J_HSetter_performOfField.2.1 231 = .ok (.getfield 131, 3) := by decide +kernel
theorem J_HSetter_performOfField_d234 : decode J_HSetter_performOfField.2.1 234 = .ok (.invokevirtual 228, 3) := by decide +kernel
theorem J_HSetter_performOfField_d237 : decode J_HSetter_performOfField.2.1 237 = .ok (.return_, 1) := by decide +kernel
theorem f_HSetter_performOfField_ok {L : Nat} {xs : Nat → Int32} {dep : Nat} {w : Bool} {p0 : Int32} {p1 : Int32} {M : im_M} {Q : im_M → Prop} (hM : lw_S w M) (h : ed (f_HSetter_performOfField p0 p1 M) Q) : ia (tb_G L xs) (dep + 1) J_HSetter_performOfField (rwV w Q) (0, lv_args 0 [.ref 15, .int p0, .int p1], [], M) := by
  have hS : im_St (tb_G L xs) (dep + 1) J_HSetter_performOfField (ia (tb_G L xs) (dep + 1) J_HSetter_performOfField (rwV w Q)) := ia_St
  unfold f_HSetter_performOfField at h
  have l0 : im_lk (lv_args 0 [.ref 15, .int p0, .int p1]) 0 = some (.ref 15) := rfl
  have l1 : im_lk (lv_args 0 [.ref 15, .int p0, .int p1]) 1 = some (.int p0) := rfl
  have l2 : im_lk (lv_args 0 [.ref 15, .int p0, .int p1]) 2 = some (.int p1) := rfl
  refine iq_iload_n hS 1 J_HSetter_performOfField_d0 l1 rfl ?_
  by_cases q1_8 : p0 = 8
  · replace h := ed_pos q1_8 h
    refine iq_tsw hS J_HSetter_performOfField_d1 (t := 76) (sw_v q1_8 (by decide +kernel)) ?_
    refine iq_aload_n hS 77 J_HSetter_performOfField_d76 l0 rfl ?_
    refine iq_getR hS 80 J_HSetter_performOfField_d77 lf_8_44 (Or.inl ⟨_, rfl⟩) (ka_15 hM) (ra_15_3 hM) rfl ?_
    refine iq_iload_n hS 81 J_HSetter_performOfField_d80 l2 rfl ?_
    refine iq_putI hS 84 J_HSetter_performOfField_d81 lf_8_190 (Or.inl rfl) rfl (ka_23 hM) rfl ?_
    refine iq_aload_n hS 85 J_HSetter_performOfField_d84 l0 rfl ?_
    refine iq_getR hS 88 J_HSetter_performOfField_d85 lf_8_44 (Or.inl ⟨_, rfl⟩) (ka_15 (lw_sI hM)) (ra_15_3 (lw_sI hM)) rfl ?_
    refine iq_aload_n hS 89 J_HSetter_performOfField_d88 l0 rfl ?_
    refine iq_getR hS 92 J_HSetter_performOfField_d89 lf_8_25 (Or.inl ⟨_, rfl⟩) (ka_15 (lw_sI hM)) (ra_15_0 (lw_sI hM)) rfl ?_
    refine iq_getR hS 95 J_HSetter_performOfField_d92 lf_8_131 (Or.inr ⟨_, rfl⟩) (ka_1 (lw_sI hM)) (ra_1_9 (lw_sI hM)) rfl ?_
    refine iq_iconst hS 96 J_HSetter_performOfField_d95 (v := 1) (by decide +kernel) rfl ?_
    obtain ⟨g96, h⟩ := ed_gd h
    refine iq_iaload hS 97 J_HSetter_performOfField_d96 ⟨(ka_9 (lw_sI hM)).1, (ka_9 (lw_sI hM)).2, g96.1, ix_lt (kl_9 (lw_sI hM)) g96.2⟩ rfl ?_
    refine iq_putI hS 100 J_HSetter_performOfField_d97 lf_8_193 (Or.inl rfl) rfl (ka_23 (lw_sI hM)) rfl ?_
    refine iq_goto hS J_HSetter_performOfField_d100 (t := 237) rfl ?_
    exact iq_ret J_HSetter_performOfField_d237 rfl ⟨rfl, (lw_sI (lw_sI hM)), ed_some h⟩
  replace h := ed_neg q1_8 h
  by_cases q1_9 : p0 = 9
  · replace h := ed_pos q1_9 h
    refine iq_tsw hS J_HSetter_performOfField_d1 (t := 103) (sw_v q1_9 (by decide +kernel)) ?_
    refine iq_aload_n hS 104 J_HSetter_performOfField_d103 l0 rfl ?_
    refine iq_getR hS 107 J_HSetter_performOfField_d104 lf_8_44 (Or.inl ⟨_, rfl⟩) (ka_15 hM) (ra_15_3 hM) rfl ?_
    refine iq_iconst hS 108 J_HSetter_performOfField_d107 (v := 1) (by decide +kernel) rfl ?_
    refine iq_putZ hS 111 J_HSetter_performOfField_d108 lf_8_196 (Or.inl rfl) rfl (ka_23 hM) (Or.inr rfl) rfl ?_
    refine iq_goto hS J_HSetter_performOfField_d111 (t := 237) rfl ?_
    exact iq_ret J_HSetter_performOfField_d237 rfl ⟨rfl, (lw_sI hM), ed_some h⟩
  replace h := ed_neg q1_9 h
  by_cases q1_10 : p0 = 10
  · replace h := ed_pos q1_10 h
    refine iq_tsw hS J_HSetter_performOfField_d1 (t := 114) (sw_v q1_10 (by decide +kernel)) ?_
    refine iq_aload_n hS 115 J_HSetter_performOfField_d114 l0 rfl ?_
    refine iq_getR hS 118 J_HSetter_performOfField_d115 lf_8_44 (Or.inl ⟨_, rfl⟩) (ka_15 hM) (ra_15_3 hM) rfl ?_
    refine iq_aload_n hS 119 J_HSetter_performOfField_d118 l0 rfl ?_
    refine iq_getR hS 122 J_HSetter_performOfField_d119 lf_8_25 (Or.inl ⟨_, rfl⟩) (ka_15 hM) (ra_15_0 hM) rfl ?_
    refine iq_getR hS 125 J_HSetter_performOfField_d122 lf_8_199 (Or.inr ⟨_, rfl⟩) (ka_1 hM) (ra_1_10 hM) rfl ?_
    refine iq_iconst hS 126 J_HSetter_performOfField_d125 (v := 0) (by decide +kernel) rfl ?_
    refine iq_aload_n hS 127 J_HSetter_performOfField_d126 l0 rfl ?_
    refine iq_getR hS 130 J_HSetter_performOfField_d127 lf_8_25 (Or.inl ⟨_, rfl⟩) (ka_15 hM) (ra_15_0 hM) rfl ?_
    refine iq_getI hS 133 J_HSetter_performOfField_d130 lf_8_203 (Or.inl rfl) (ka_1 hM) rfl ?_
    obtain ⟨Q1, hQ1, h⟩ := bd1_ed h
    refine iq_cwV hS 136 J_HSetter_performOfField_d133 rfl (pr_inst (vs := [_, _, _]) lc_8_206 lT_82 rfl rfl (by decide) (by decide) rfl (Nat.le_of_ble_eq_true rfl) (Nat.le_of_ble_eq_true rfl) (fun _ => Or.inl (pr_b (ka_23 hM) (by decide) rfl))) (f_HField_hold_ok (dep := dep + 0) hM h) rfl ?_
    intro M1 hM1 h
    replace h := hQ1 _ h
    refine iq_goto hS J_HSetter_performOfField_d136 (t := 237) rfl ?_
    exact iq_ret J_HSetter_performOfField_d237 rfl ⟨rfl, hM1, ed_some h⟩
  replace h := ed_neg q1_10 h
  by_cases q1_11 : p0 = 11
  · replace h := ed_pos q1_11 h
    refine iq_tsw hS J_HSetter_performOfField_d1 (t := 139) (sw_v q1_11 (by decide +kernel)) ?_
    refine iq_aload_n hS 140 J_HSetter_performOfField_d139 l0 rfl ?_
    refine iq_getR hS 143 J_HSetter_performOfField_d140 lf_8_44 (Or.inl ⟨_, rfl⟩) (ka_15 hM) (ra_15_3 hM) rfl ?_
    refine iq_aload_n hS 144 J_HSetter_performOfField_d143 l0 rfl ?_
    refine iq_getR hS 147 J_HSetter_performOfField_d144 lf_8_25 (Or.inl ⟨_, rfl⟩) (ka_15 hM) (ra_15_0 hM) rfl ?_
    refine iq_getR hS 150 J_HSetter_performOfField_d147 lf_8_210 (Or.inr ⟨_, rfl⟩) (ka_1 hM) (ra_1_4 hM) rfl ?_
    refine iq_iload_n hS 151 J_HSetter_performOfField_d150 l2 rfl ?_
    refine iq_sipush hS 154 J_HSetter_performOfField_d151 (v := 200) (by decide +kernel) rfl ?_
    refine iq_imul hS 155 J_HSetter_performOfField_d154 rfl ?_
    refine iq_aload_n hS 156 J_HSetter_performOfField_d155 l0 rfl ?_
    refine iq_getR hS 159 J_HSetter_performOfField_d156 lf_8_25 (Or.inl ⟨_, rfl⟩) (ka_15 hM) (ra_15_0 hM) rfl ?_
    refine iq_getR hS 162 J_HSetter_performOfField_d159 lf_8_213 (Or.inr ⟨_, rfl⟩) (ka_1 hM) (ra_1_5 hM) rfl ?_
    refine iq_iload_n hS 163 J_HSetter_performOfField_d162 l2 rfl ?_
    obtain ⟨g163, h⟩ := ed_gd h
    refine iq_iaload hS 164 J_HSetter_performOfField_d163 ⟨(ka_6 hM).1, (ka_6 hM).2, g163.1, ix_lt (kl_6 hM) g163.2⟩ rfl ?_
    obtain ⟨Q2, hQ2, h⟩ := bd1_ed h
    refine iq_cwV hS 167 J_HSetter_performOfField_d164 rfl (pr_inst (vs := [_, _, _]) lc_8_206 lT_82 rfl rfl (by decide) (by decide) rfl (Nat.le_of_ble_eq_true rfl) (Nat.le_of_ble_eq_true rfl) (fun _ => Or.inl (pr_b (ka_23 hM) (by decide) rfl))) (f_HField_hold_1_ok (dep := dep + 0) hM h) rfl ?_
    intro M2 hM2 h
    replace h := hQ2 _ h
    refine iq_goto hS J_HSetter_performOfField_d167 (t := 237) rfl ?_
    exact iq_ret J_HSetter_performOfField_d237 rfl ⟨rfl, hM2, ed_some h⟩
  replace h := ed_neg q1_11 h
  by_cases q1_12 : p0 = 12
  · replace h := ed_pos q1_12 h
    refine iq_tsw hS J_HSetter_performOfField_d1 (t := 170) (sw_v q1_12 (by decide +kernel)) ?_
    refine iq_aload_n hS 171 J_HSetter_performOfField_d170 l0 rfl ?_
    refine iq_getR hS 174 J_HSetter_performOfField_d171 lf_8_44 (Or.inl ⟨_, rfl⟩) (ka_15 hM) (ra_15_3 hM) rfl ?_
    refine iq_iconst hS 175 J_HSetter_performOfField_d174 (v := 1) (by decide +kernel) rfl ?_
    refine iq_putZ hS 178 J_HSetter_performOfField_d175 lf_8_216 (Or.inl rfl) rfl (ka_23 hM) (Or.inr rfl) rfl ?_
    refine iq_aload_n hS 179 J_HSetter_performOfField_d178 l0 rfl ?_
    refine iq_getR hS 182 J_HSetter_performOfField_d179 lf_8_44 (Or.inl ⟨_, rfl⟩) (ka_15 (lw_sI hM)) (ra_15_3 (lw_sI hM)) rfl ?_
    refine iq_iload_n hS 183 J_HSetter_performOfField_d182 l2 rfl ?_
    refine iq_putI hS 186 J_HSetter_performOfField_d183 lf_8_219 (Or.inl rfl) rfl (ka_23 (lw_sI hM)) rfl ?_
    refine iq_goto hS J_HSetter_performOfField_d186 (t := 237) rfl ?_
    exact iq_ret J_HSetter_performOfField_d237 rfl ⟨rfl, (lw_sI (lw_sI hM)), ed_some h⟩
  replace h := ed_neg q1_12 h
  by_cases q1_22 : p0 = 22
  · replace h := ed_pos q1_22 h
    refine iq_tsw hS J_HSetter_performOfField_d1 (t := 189) (sw_v q1_22 (by decide +kernel)) ?_
    refine iq_aload_n hS 190 J_HSetter_performOfField_d189 l0 rfl ?_
    refine iq_getR hS 193 J_HSetter_performOfField_d190 lf_8_40 (Or.inl ⟨_, rfl⟩) (ka_15 hM) (ra_15_2 hM) rfl ?_
    refine iq_dup hS 194 J_HSetter_performOfField_d193 rfl rfl ?_
    refine iq_getI hS 197 J_HSetter_performOfField_d194 lf_8_54 (Or.inl rfl) (ka_19 hM) rfl ?_
    refine iq_aload_n hS 198 J_HSetter_performOfField_d197 l0 rfl ?_
    refine iq_getI hS 201 J_HSetter_performOfField_d198 lf_8_153 (Or.inl rfl) (ka_15 hM) rfl ?_
    refine iq_iadd hS 202 J_HSetter_performOfField_d201 rfl ?_
    refine iq_putI hS 205 J_HSetter_performOfField_d202 lf_8_54 (Or.inl rfl) rfl (ka_19 hM) rfl ?_
    refine iq_aload_n hS 206 J_HSetter_performOfField_d205 l0 rfl ?_
    refine iq_getR hS 209 J_HSetter_performOfField_d206 lf_8_44 (Or.inl ⟨_, rfl⟩) (ka_15 (lw_sI hM)) (ra_15_3 (lw_sI hM)) rfl ?_
    obtain ⟨Q3, hQ3, h⟩ := bd1_ed h
    refine iq_cwV hS 212 J_HSetter_performOfField_d209 rfl (pr_inst (vs := []) lc_8_222 lT_73 rfl rfl (by decide) (by decide) rfl (Nat.le_of_ble_eq_true rfl) (Nat.le_of_ble_eq_true rfl) (fun _ => Or.inl (pr_b (ka_23 (lw_sI hM)) (by decide) rfl))) (f_HField_clear_ok (dep := dep + 0) (lw_sI hM) h) rfl ?_
    intro M3 hM3 h
    replace h := hQ3 _ h
    refine iq_goto hS J_HSetter_performOfField_d212 (t := 237) rfl ?_
    exact iq_ret J_HSetter_performOfField_d237 rfl ⟨rfl, hM3, ed_some h⟩
  replace h := ed_neg q1_22 h
  refine iq_tsw hS J_HSetter_performOfField_d1 (t := 215) (sw_d [8, 9, 10, 11, 12, 22] (by decide) (by decide) (by decide +kernel) (sw_nc q1_8 (sw_nc q1_9 (sw_nc q1_10 (sw_nc q1_11 (sw_nc q1_12 (sw_nc q1_22 sw_nn))))))) ?_
  refine iq_aload_n hS 216 J_HSetter_performOfField_d215 l0 rfl ?_
  refine iq_getR hS 219 J_HSetter_performOfField_d216 lf_8_44 (Or.inl ⟨_, rfl⟩) (ka_15 hM) (ra_15_3 hM) rfl ?_
  refine iq_getstatic hS 222 J_HSetter_performOfField_d219 gs_8_225 rfl ?_
  refine iq_iload_n hS 223 J_HSetter_performOfField_d222 l1 rfl ?_
  refine iq_bipush hS 225 J_HSetter_performOfField_d223 (v := 13) (by decide +kernel) rfl ?_
  refine iq_isub hS 226 J_HSetter_performOfField_d225 rfl ?_
  obtain ⟨g226, h⟩ := ed_gd h
  refine iq_xl_2 hS 227 J_HSetter_performOfField_d226 hM g226 rfl ?_
  refine iq_aload_n hS 228 J_HSetter_performOfField_d227 l0 rfl ?_
  refine iq_getR hS 231 J_HSetter_performOfField_d228 lf_8_25 (Or.inl ⟨_, rfl⟩) (ka_15 hM) (ra_15_0 hM) rfl ?_
  refine iq_getR hS 234 J_HSetter_performOfField_d231 lf_8_131 (Or.inr ⟨_, rfl⟩) (ka_1 hM) (ra_1_9 hM) rfl ?_
  obtain ⟨Q4, hQ4, h⟩ := bd1_ed h
  refine iq_cwV hS 237 J_HSetter_performOfField_d234 rfl (pr_inst (vs := [_, _]) lc_8_228 lT_83 rfl rfl (by decide) (by decide) rfl (Nat.le_of_ble_eq_true rfl) (Nat.le_of_ble_eq_true rfl) (fun _ => Or.inl (pr_b (ka_23 hM) (by decide) rfl))) (f_HField_become_ok (dep := dep + 0) hM h) rfl ?_
  intro M4 hM4 h
  replace h := hQ4 _ h
  exact iq_ret J_HSetter_performOfField_d237 rfl ⟨rfl, hM4, ed_some h⟩
theorem f_HSetter_performOfField_fr {p0 : Int32} {p1 : Int32} {M : im_M} {r : im_M} (h : f_HSetter_performOfField p0 p1 M = some r) : fr 50331648 [(19, 3), (23, 0), (23, 1), (23, 2), (23, 4), (23, 5), (23, 6), (23, 8)] M r := by
  replace h : ed (f_HSetter_performOfField p0 p1 M) (fun x => x = r) := ⟨r, h, rfl⟩
  unfold f_HSetter_performOfField at h
  by_cases q1_8 : p0 = 8
  · replace h := ed_pos q1_8 h
    obtain ⟨g96, h⟩ := ed_gd h
    exact fr_retV h (fr_F (by decide) (fr_F (by decide) fr_refl))
  replace h := ed_neg q1_8 h
  by_cases q1_9 : p0 = 9
  · replace h := ed_pos q1_9 h
    exact fr_retV h (fr_F (by decide) fr_refl)
  replace h := ed_neg q1_9 h
  by_cases q1_10 : p0 = 10
  · replace h := ed_pos q1_10 h
    obtain ⟨Q1, hQ1, h⟩ := bd1_ed h
    obtain ⟨M1, e1, h⟩ := h
    replace h := hQ1 _ h
    exact fr_retV h (fr_tr (fr_mono (by decide) (by decide +kernel) (f_HField_hold_fr e1)) fr_refl)
  replace h := ed_neg q1_10 h
  by_cases q1_11 : p0 = 11
  · replace h := ed_pos q1_11 h
    obtain ⟨g163, h⟩ := ed_gd h
    obtain ⟨Q2, hQ2, h⟩ := bd1_ed h
    obtain ⟨M2, e2, h⟩ := h
    replace h := hQ2 _ h
    exact fr_retV h (fr_tr (fr_mono (by decide) (by decide +kernel) (f_HField_hold_1_fr e2)) fr_refl)
  replace h := ed_neg q1_11 h
  by_cases q1_12 : p0 = 12
  · replace h := ed_pos q1_12 h
    exact fr_retV h (fr_F (by decide) (fr_F (by decide) fr_refl))
  replace h := ed_neg q1_12 h
  by_cases q1_22 : p0 = 22
  · replace h := ed_pos q1_22 h
    obtain ⟨Q3, hQ3, h⟩ := bd1_ed h
    obtain ⟨M3, e3, h⟩ := h
    replace h := hQ3 _ h
    exact fr_retV h (fr_tr (fr_mono (by decide) (by decide +kernel) (f_HField_clear_fr e3)) (fr_F (by decide) fr_refl))
  replace h := ed_neg q1_22 h
  obtain ⟨g226, h⟩ := ed_gd h
  obtain ⟨Q4, hQ4, h⟩ := bd1_ed h
  obtain ⟨M4, e4, h⟩ := h
  replace h := hQ4 _ h
  exact fr_retV h (fr_tr (fr_mono (by decide) (by decide +kernel) (f_HField_become_fr e4)) fr_refl)
noncomputable def f_HSetter_perform (p0 : Int32) (M : im_M) : Option (im_M) := gd (inb 0 4) <| if p0 = 0 then bd1 (f_HTape_keepForm (im_i M 9 (Int32.toNatClampNeg 0)) (im_i M 15 15) M) fun (M1 : im_M) => some M1 else if p0 = 1 then bd1 (f_HSetter_beginLabel M) fun (M2 : im_M) => some M2 else if p0 = 2 then bd1 (f_HTape_keepVariable (im_i M 9 (Int32.toNatClampNeg 0)) M) fun (M3 : im_M) => some M3 else if p0 = 3 then bd1 (f_HSetter_endLabel M) fun (M4 : im_M) => some M4 else if p0 = 4 then gd (inb 0 2) <| gd (inb 1 4) <| gd (inb 1 2) <| some (im_setI (im_setI M 17 (Int32.toNatClampNeg 0) (im_i M 9 (Int32.toNatClampNeg 0))) 17 (Int32.toNatClampNeg 1) (im_i (im_setI M 17 (Int32.toNatClampNeg 0) (im_i M 9 (Int32.toNatClampNeg 0))) 9 (Int32.toNatClampNeg 1))) else if p0 = 5 then some (im_setI M 15 12 (im_i M 9 (Int32.toNatClampNeg 0))) else if p0 = 6 then gd (cpy 0 4 0 4 4) <| some (im_setA M 18 (va_cpy (im_i M 9) (im_i M 18) (Int32.toNatClampNeg 0) (Int32.toNatClampNeg 0) (Int32.toNatClampNeg 4))) else if p0 = 7 then bd1 (f_HTape_enterForm (im_i M 9 (Int32.toNatClampNeg 0)) M) fun (M5 : im_M) => some M5 else bd1 (f_HSetter_performOfField p0 (im_i M 9 (Int32.toNatClampNeg 0)) M) fun (M6 : im_M) => some M6
theorem J_HSetter_perform_d0 : decode J_HSetter_perform.2.1 0 = .ok (.aload_n 0, 1) := by decide +kernel
theorem J_HSetter_perform_d1 : decode J_HSetter_perform.2.1 1 = .ok (.getfield 25, 3) := by decide +kernel
theorem J_HSetter_perform_d4 : decode J_HSetter_perform.2.1 4 = .ok (.getfield 131, 3) := by decide +kernel
theorem J_HSetter_perform_d7 : decode J_HSetter_perform.2.1 7 = .ok (.iconst 0, 1) := by decide +kernel
theorem J_HSetter_perform_d8 : decode J_HSetter_perform.2.1 8 = .ok (.iaload, 1) := by decide +kernel
theorem J_HSetter_perform_d9 : decode J_HSetter_perform.2.1 9 = .ok (.istore_n 2, 1) := by decide +kernel
theorem J_HSetter_perform_d10 : decode J_HSetter_perform.2.1 10 = .ok (.iload_n 1, 1) := by decide +kernel
theorem J_HSetter_perform_d11 : decode J_HSetter_perform.2.1 11 = .ok (.tableswitch 149 0 7 #[45, 60, 67, 78, 85, 110, 118, 138], 45) := by decide +kernel
theorem J_HSetter_perform_d56 : decode J_HSetter_perform.2.1 56 = .ok (.aload_n 0, 1) := by decide +kernel
theorem J_HSetter_perform_d57 : decode J_HSetter_perform.2.1 57 = .ok (.getfield 25, 3) := by decide +kernel
theorem J_HSetter_perform_d60 : decode J_HSetter_perform.2.1 60 = .ok (.iload_n 2, 1) := by decide +kernel
theorem J_HSetter_perform_d61 : decode J_HSetter_perform.2.1 61 = .ok (.aload_n 0, 1) := by decide +kernel
theorem J_HSetter_perform_d62 : decode J_HSetter_perform.2.1 62 = .ok (.getfield 140, 3) := by decide +kernel
theorem J_HSetter_perform_d65 : decode J_HSetter_perform.2.1 65 = .ok (.invokevirtual 165, 3) := by decide +kernel
theorem J_HSetter_perform_d68 : decode J_HSetter_perform.2.1 68 = .ok (.goto 98, 3) := by decide +kernel
theorem J_HSetter_perform_d71 : decode J_HSetter_perform.2.1 71 = .ok (.aload_n 0, 1) := by decide +kernel
theorem J_HSetter_perform_d72 : decode J_HSetter_perform.2.1 72 = .ok (.invokevirtual 169, 3) := by decide +kernel
theorem J_HSetter_perform_d75 : decode J_HSetter_perform.2.1 75 = .ok (.goto 91, 3) := by decide +kernel
theorem J_HSetter_perform_d78 : decode J_HSetter_perform.2.1 78 = .ok (.aload_n 0, 1) := by decide +kernel
theorem J_HSetter_perform_d79 : decode J_HSetter_perform.2.1 79 = .ok (.getfield 25, 3) := by decide +kernel
theorem J_HSetter_perform_d82 : decode J_HSetter_perform.2.1 82 = .ok (.iload_n 2, 1) := by decide +kernel
theorem J_HSetter_perform_d83 : decode J_HSetter_perform.2.1 83 = .ok (.invokevirtual 172, 3) := by decide +kernel
theorem J_HSetter_perform_d86 : decode J_HSetter_perform.2.1 86 = .ok (.goto 80, 3) := by decide +kernel
theorem J_HSetter_perform_d89 : decode J_HSetter_perform.2.1 89 = .ok (.aload_n 0, 1) := by decide +kernel
theorem J_HSetter_perform_d90 : decode J_HSetter_perform.2.1 90 = .ok (.invokevirtual 175, 3) := by decide +kernel
theorem J_HSetter_perform_d93 : decode J_HSetter_perform.2.1 93 = .ok (.goto 73, 3) := by decide +kernel
theorem J_HSetter_perform_d96 : decode J_HSetter_perform.2.1 96 = .ok (.aload_n 0, 1) := by decide +kernel
theorem J_HSetter_perform_d97 : decode J_HSetter_perform.2.1 97 = .ok (.getfield 19, 3) := by decide +kernel
theorem J_HSetter_perform_d100 : decode J_HSetter_perform.2.1 100 = .ok (.iconst 0, 1) := by decide +kernel
theorem J_HSetter_perform_d101 : decode J_HSetter_perform.2.1 101 = .ok (.iload_n 2, 1) := by decide +kernel
theorem J_HSetter_perform_d102 : decode J_HSetter_perform.2.1 102 = .ok (.iastore, 1) := by decide +kernel
theorem J_HSetter_perform_d103 : decode J_HSetter_perform.2.1 103 = .ok (.aload_n 0, 1) := by decide +kernel
theorem J_HSetter_perform_d104 : decode J_HSetter_perform.2.1 104 = .ok (.getfield 19, 3) := by decide +kernel
theorem J_HSetter_perform_d107 : decode J_HSetter_perform.2.1 107 = .ok (.iconst 1, 1) := by decide +kernel
theorem J_HSetter_perform_d108 : decode J_HSetter_perform.2.1 108 = .ok (.aload_n 0, 1) := by decide +kernel
theorem J_HSetter_perform_d109 : decode J_HSetter_perform.2.1 109 = .ok (.getfield 25, 3) := by decide +kernel
theorem J_HSetter_perform_d112 : decode J_HSetter_perform.2.1 112 = .ok (.getfield 131, 3) := by decide +kernel
theorem J_HSetter_perform_d115 : decode J_HSetter_perform.2.1 115 = .ok (.iconst 1, 1) := by decide +kernel
theorem J_HSetter_perform_d116 : decode J_HSetter_perform.2.1 116 = .ok (.iaload, 1) := by decide +kernel
theorem J_HSetter_perform_d117 : decode J_HSetter_perform.2.1 117 = .ok (.iastore, 1) := by decide +kernel
theorem J_HSetter_perform_d118 : decode J_HSetter_perform.2.1 118 = .ok (.goto 48, 3) := by decide +kernel
theorem J_HSetter_perform_d121 : decode J_HSetter_perform.2.1 121 = .ok (.aload_n 0, 1) := by decide +kernel
theorem J_HSetter_perform_d122 : decode J_HSetter_perform.2.1 122 = .ok (.iload_n 2, 1) := by decide +kernel
theorem J_HSetter_perform_d123 : decode J_HSetter_perform.2.1 123 = .ok (.putfield 162, 3) := by decide +kernel
theorem J_HSetter_perform_d126 : decode J_HSetter_perform.2.1 126 = .ok (.goto 40, 3) := by decide +kernel
theorem J_HSetter_perform_d129 : decode J_HSetter_perform.2.1 129 = .ok (.aload_n 0, 1) := by decide +kernel
theorem J_HSetter_perform_d130 : decode J_HSetter_perform.2.1 130 = .ok (.getfield 25, 3) := by decide +kernel
theorem J_HSetter_perform_d133 : decode J_HSetter_perform.2.1 133 = .ok (.getfield 131, 3) := by decide +kernel
theorem J_HSetter_perform_d136 : decode J_HSetter_perform.2.1 136 = .ok (.iconst 0, 1) := by decide +kernel
theorem J_HSetter_perform_d137 : decode J_HSetter_perform.2.1 137 = .ok (.aload_n 0, 1) := by decide +kernel
theorem J_HSetter_perform_d138 : decode J_HSetter_perform.2.1 138 = .ok (.getfield 22, 3) := by decide +kernel
theorem J_HSetter_perform_d141 : decode J_HSetter_perform.2.1 141 = .ok (.iconst 0, 1) := by decide +kernel
theorem J_HSetter_perform_d142 : decode J_HSetter_perform.2.1 142 = .ok (.iconst 4, 1) := by decide +kernel
theorem J_HSetter_perform_d143 : decode J_HSetter_perform.2.1 143 = .ok (.invokestatic 178, 3) := by decide +kernel
theorem J_HSetter_perform_d146 : decode J_HSetter_perform.2.1 146 = .ok (.goto 20, 3) := by decide +kernel
theorem J_HSetter_perform_d149 : decode J_HSetter_perform.2.1 149 = .ok (.aload_n 0, 1) := by decide +kernel
theorem J_HSetter_perform_d150 : decode J_HSetter_perform.2.1 150 = .ok (.getfield 25, 3) := by decide +kernel
theorem J_HSetter_perform_d153 : decode J_HSetter_perform.2.1 153 = .ok (.iload_n 2, 1) := by decide +kernel
theorem J_HSetter_perform_d154 : decode J_HSetter_perform.2.1 154 = .ok (.invokevirtual 184, 3) := by decide +kernel
theorem J_HSetter_perform_d157 : decode J_HSetter_perform.2.1 157 = .ok (.goto 9, 3) := by decide +kernel
theorem J_HSetter_perform_d160 : decode J_HSetter_perform.2.1 160 = .ok (.aload_n 0, 1) := by decide +kernel
theorem J_HSetter_perform_d161 : decode J_HSetter_perform.2.1 161 = .ok (.iload_n 1, 1) := by decide +kernel
theorem J_HSetter_perform_d162 : decode J_HSetter_perform.2.1 162 = .ok (.iload_n 2, 1) := by decide +kernel
theorem J_HSetter_perform_d163 : decode J_HSetter_perform.2.1 163 = .ok (.invokevirtual 187, 3) := by decide +kernel
theorem J_HSetter_perform_d166 : decode J_HSetter_perform.2.1 166 = .ok (.return_, 1) := by decide +kernel
theorem f_HSetter_perform_ok {L : Nat} {xs : Nat → Int32} {dep : Nat} {w : Bool} {p0 : Int32} {M : im_M} {Q : im_M → Prop} (hM : lw_S w M) (h : ed (f_HSetter_perform p0 M) Q) : ia (tb_G L xs) (dep + 4) J_HSetter_perform (rwV w Q) (0, lv_args 0 [.ref 15, .int p0], [], M) := by
  have hS : im_St (tb_G L xs) (dep + 4) J_HSetter_perform (ia (tb_G L xs) (dep + 4) J_HSetter_perform (rwV w Q)) := ia_St
  unfold f_HSetter_perform at h
  have l0 : im_lk (lv_args 0 [.ref 15, .int p0]) 0 = some (.ref 15) := rfl
  have l1 : im_lk (lv_args 0 [.ref 15, .int p0]) 1 = some (.int p0) := rfl
  refine iq_aload_n hS 1 J_HSetter_perform_d0 l0 rfl ?_
  refine iq_getR hS 4 J_HSetter_perform_d1 lf_8_25 (Or.inl ⟨_, rfl⟩) (ka_15 hM) (ra_15_0 hM) rfl ?_
  refine iq_getR hS 7 J_HSetter_perform_d4 lf_8_131 (Or.inr ⟨_, rfl⟩) (ka_1 hM) (ra_1_9 hM) rfl ?_
  refine iq_iconst hS 8 J_HSetter_perform_d7 (v := 0) (by decide +kernel) rfl ?_
  obtain ⟨g8, h⟩ := ed_gd h
  refine iq_iaload hS 9 J_HSetter_perform_d8 ⟨(ka_9 hM).1, (ka_9 hM).2, g8.1, ix_lt (kl_9 hM) g8.2⟩ rfl ?_
  refine iq_istore_n hS 10 J_HSetter_perform_d9 (by decide) rfl ?_
  refine iq_iload_n hS 11 J_HSetter_perform_d10 (lk_1i l1 (by decide)) rfl ?_
  by_cases q11_0 : p0 = 0
  · replace h := ed_pos q11_0 h
    refine iq_tsw hS J_HSetter_perform_d11 (t := 56) (sw_v q11_0 (by decide +kernel)) ?_
    refine iq_aload_n hS 57 J_HSetter_perform_d56 (lk_1r l0 (by decide)) rfl ?_
    refine iq_getR hS 60 J_HSetter_perform_d57 lf_8_25 (Or.inl ⟨_, rfl⟩) (ka_15 hM) (ra_15_0 hM) rfl ?_
    refine iq_iload_n hS 61 J_HSetter_perform_d60 lk_1s rfl ?_
    refine iq_aload_n hS 62 J_HSetter_perform_d61 (lk_1r l0 (by decide)) rfl ?_
    refine iq_getI hS 65 J_HSetter_perform_d62 lf_8_140 (Or.inl rfl) (ka_15 hM) rfl ?_
    obtain ⟨Q1, hQ1, h⟩ := bd1_ed h
    refine iq_cwV hS 68 J_HSetter_perform_d65 rfl (pr_inst (vs := [_, _]) lc_8_165 lT_71 rfl rfl (by decide) (by decide) rfl (Nat.le_of_ble_eq_true rfl) (Nat.le_of_ble_eq_true rfl) (fun _ => Or.inl (pr_b (ka_1 hM) (by decide) rfl))) (f_HTape_keepForm_ok (dep := dep + 3) hM h) rfl ?_
    intro M1 hM1 h
    replace h := hQ1 _ h
    refine iq_goto hS J_HSetter_perform_d68 (t := 166) rfl ?_
    exact iq_ret J_HSetter_perform_d166 rfl ⟨rfl, hM1, ed_some h⟩
  replace h := ed_neg q11_0 h
  by_cases q11_1 : p0 = 1
  · replace h := ed_pos q11_1 h
    refine iq_tsw hS J_HSetter_perform_d11 (t := 71) (sw_v q11_1 (by decide +kernel)) ?_
    refine iq_aload_n hS 72 J_HSetter_perform_d71 (lk_1r l0 (by decide)) rfl ?_
    obtain ⟨Q2, hQ2, h⟩ := bd1_ed h
    refine iq_cwV hS 75 J_HSetter_perform_d72 rfl (pr_inst (vs := []) lc_8_169 lT_72 rfl rfl (by decide) (by decide) rfl (Nat.le_of_ble_eq_true rfl) (Nat.le_of_ble_eq_true rfl) (fun _ => Or.inl (pr_b (ka_15 hM) (by decide) rfl))) (f_HSetter_beginLabel_ok (dep := dep + 2) hM h) rfl ?_
    intro M2 hM2 h
    replace h := hQ2 _ h
    refine iq_goto hS J_HSetter_perform_d75 (t := 166) rfl ?_
    exact iq_ret J_HSetter_perform_d166 rfl ⟨rfl, hM2, ed_some h⟩
  replace h := ed_neg q11_1 h
  by_cases q11_2 : p0 = 2
  · replace h := ed_pos q11_2 h
    refine iq_tsw hS J_HSetter_perform_d11 (t := 78) (sw_v q11_2 (by decide +kernel)) ?_
    refine iq_aload_n hS 79 J_HSetter_perform_d78 (lk_1r l0 (by decide)) rfl ?_
    refine iq_getR hS 82 J_HSetter_perform_d79 lf_8_25 (Or.inl ⟨_, rfl⟩) (ka_15 hM) (ra_15_0 hM) rfl ?_
    refine iq_iload_n hS 83 J_HSetter_perform_d82 lk_1s rfl ?_
    obtain ⟨Q3, hQ3, h⟩ := bd1_ed h
    refine iq_cwV hS 86 J_HSetter_perform_d83 rfl (pr_inst (vs := [_]) lc_8_172 lT_74 rfl rfl (by decide) (by decide) rfl (Nat.le_of_ble_eq_true rfl) (Nat.le_of_ble_eq_true rfl) (fun _ => Or.inl (pr_b (ka_1 hM) (by decide) rfl))) (f_HTape_keepVariable_ok (dep := dep + 3) hM h) rfl ?_
    intro M3 hM3 h
    replace h := hQ3 _ h
    refine iq_goto hS J_HSetter_perform_d86 (t := 166) rfl ?_
    exact iq_ret J_HSetter_perform_d166 rfl ⟨rfl, hM3, ed_some h⟩
  replace h := ed_neg q11_2 h
  by_cases q11_3 : p0 = 3
  · replace h := ed_pos q11_3 h
    refine iq_tsw hS J_HSetter_perform_d11 (t := 89) (sw_v q11_3 (by decide +kernel)) ?_
    refine iq_aload_n hS 90 J_HSetter_perform_d89 (lk_1r l0 (by decide)) rfl ?_
    obtain ⟨Q4, hQ4, h⟩ := bd1_ed h
    refine iq_cwV hS 93 J_HSetter_perform_d90 rfl (pr_inst (vs := []) lc_8_175 lT_75 rfl rfl (by decide) (by decide) rfl (Nat.le_of_ble_eq_true rfl) (Nat.le_of_ble_eq_true rfl) (fun _ => Or.inl (pr_b (ka_15 hM) (by decide) rfl))) (f_HSetter_endLabel_ok (dep := dep + 0) hM h) rfl ?_
    intro M4 hM4 h
    replace h := hQ4 _ h
    refine iq_goto hS J_HSetter_perform_d93 (t := 166) rfl ?_
    exact iq_ret J_HSetter_perform_d166 rfl ⟨rfl, hM4, ed_some h⟩
  replace h := ed_neg q11_3 h
  by_cases q11_4 : p0 = 4
  · replace h := ed_pos q11_4 h
    refine iq_tsw hS J_HSetter_perform_d11 (t := 96) (sw_v q11_4 (by decide +kernel)) ?_
    refine iq_aload_n hS 97 J_HSetter_perform_d96 (lk_1r l0 (by decide)) rfl ?_
    refine iq_getR hS 100 J_HSetter_perform_d97 lf_8_19 (Or.inr ⟨_, rfl⟩) (ka_15 hM) (ra_15_13 hM) rfl ?_
    refine iq_iconst hS 101 J_HSetter_perform_d100 (v := 0) (by decide +kernel) rfl ?_
    refine iq_iload_n hS 102 J_HSetter_perform_d101 lk_1s rfl ?_
    obtain ⟨g102, h⟩ := ed_gd h
    refine iq_iastore hS 103 J_HSetter_perform_d102 ⟨(ka_17 hM).1, (ka_17 hM).2, g102.1, ix_lt (kl_17 hM) g102.2⟩ rfl ?_
    refine iq_aload_n hS 104 J_HSetter_perform_d103 (lk_1r l0 (by decide)) rfl ?_
    refine iq_getR hS 107 J_HSetter_perform_d104 lf_8_19 (Or.inr ⟨_, rfl⟩) (ka_15 (lw_sI hM)) (ra_15_13 (lw_sI hM)) rfl ?_
    refine iq_iconst hS 108 J_HSetter_perform_d107 (v := 1) (by decide +kernel) rfl ?_
    refine iq_aload_n hS 109 J_HSetter_perform_d108 (lk_1r l0 (by decide)) rfl ?_
    refine iq_getR hS 112 J_HSetter_perform_d109 lf_8_25 (Or.inl ⟨_, rfl⟩) (ka_15 (lw_sI hM)) (ra_15_0 (lw_sI hM)) rfl ?_
    refine iq_getR hS 115 J_HSetter_perform_d112 lf_8_131 (Or.inr ⟨_, rfl⟩) (ka_1 (lw_sI hM)) (ra_1_9 (lw_sI hM)) rfl ?_
    refine iq_iconst hS 116 J_HSetter_perform_d115 (v := 1) (by decide +kernel) rfl ?_
    obtain ⟨g116, h⟩ := ed_gd h
    refine iq_iaload hS 117 J_HSetter_perform_d116 ⟨(ka_9 (lw_sI hM)).1, (ka_9 (lw_sI hM)).2, g116.1, ix_lt (kl_9 (lw_sI hM)) g116.2⟩ rfl ?_
    obtain ⟨g117, h⟩ := ed_gd h
    refine iq_iastore hS 118 J_HSetter_perform_d117 ⟨(ka_17 (lw_sI hM)).1, (ka_17 (lw_sI hM)).2, g117.1, ix_lt (kl_17 (lw_sI hM)) g117.2⟩ rfl ?_
    refine iq_goto hS J_HSetter_perform_d118 (t := 166) rfl ?_
    exact iq_ret J_HSetter_perform_d166 rfl ⟨rfl, (lw_sI (lw_sI hM)), ed_some h⟩
  replace h := ed_neg q11_4 h
  by_cases q11_5 : p0 = 5
  · replace h := ed_pos q11_5 h
    refine iq_tsw hS J_HSetter_perform_d11 (t := 121) (sw_v q11_5 (by decide +kernel)) ?_
    refine iq_aload_n hS 122 J_HSetter_perform_d121 (lk_1r l0 (by decide)) rfl ?_
    refine iq_iload_n hS 123 J_HSetter_perform_d122 lk_1s rfl ?_
    refine iq_putI hS 126 J_HSetter_perform_d123 lf_8_162 (Or.inl rfl) rfl (ka_15 hM) rfl ?_
    refine iq_goto hS J_HSetter_perform_d126 (t := 166) rfl ?_
    exact iq_ret J_HSetter_perform_d166 rfl ⟨rfl, (lw_sI hM), ed_some h⟩
  replace h := ed_neg q11_5 h
  by_cases q11_6 : p0 = 6
  · replace h := ed_pos q11_6 h
    refine iq_tsw hS J_HSetter_perform_d11 (t := 129) (sw_v q11_6 (by decide +kernel)) ?_
    refine iq_aload_n hS 130 J_HSetter_perform_d129 (lk_1r l0 (by decide)) rfl ?_
    refine iq_getR hS 133 J_HSetter_perform_d130 lf_8_25 (Or.inl ⟨_, rfl⟩) (ka_15 hM) (ra_15_0 hM) rfl ?_
    refine iq_getR hS 136 J_HSetter_perform_d133 lf_8_131 (Or.inr ⟨_, rfl⟩) (ka_1 hM) (ra_1_9 hM) rfl ?_
    refine iq_iconst hS 137 J_HSetter_perform_d136 (v := 0) (by decide +kernel) rfl ?_
    refine iq_aload_n hS 138 J_HSetter_perform_d137 (lk_1r l0 (by decide)) rfl ?_
    refine iq_getR hS 141 J_HSetter_perform_d138 lf_8_22 (Or.inr ⟨_, rfl⟩) (ka_15 hM) (ra_15_14 hM) rfl ?_
    refine iq_iconst hS 142 J_HSetter_perform_d141 (v := 0) (by decide +kernel) rfl ?_
    refine iq_iconst hS 143 J_HSetter_perform_d142 (v := 4) (by decide +kernel) rfl ?_
    obtain ⟨g143, h⟩ := ed_gd h
    refine iq_cpy hS 146 J_HSetter_perform_d143 (ga_of (by decide +kernel)) (ka_18 hM) (ka_9 hM) (by decide) (kl_9 hM) (kl_18 hM) g143 (Nat.le_of_ble_eq_true rfl) rfl ?_
    refine iq_goto hS J_HSetter_perform_d146 (t := 166) rfl ?_
    exact iq_ret J_HSetter_perform_d166 rfl ⟨rfl, (lw_sA hM), ed_some h⟩
  replace h := ed_neg q11_6 h
  by_cases q11_7 : p0 = 7
  · replace h := ed_pos q11_7 h
    refine iq_tsw hS J_HSetter_perform_d11 (t := 149) (sw_v q11_7 (by decide +kernel)) ?_
    refine iq_aload_n hS 150 J_HSetter_perform_d149 (lk_1r l0 (by decide)) rfl ?_
    refine iq_getR hS 153 J_HSetter_perform_d150 lf_8_25 (Or.inl ⟨_, rfl⟩) (ka_15 hM) (ra_15_0 hM) rfl ?_
    refine iq_iload_n hS 154 J_HSetter_perform_d153 lk_1s rfl ?_
    obtain ⟨Q5, hQ5, h⟩ := bd1_ed h
    refine iq_cwV hS 157 J_HSetter_perform_d154 rfl (pr_inst (vs := [_]) lc_8_184 lT_80 rfl rfl (by decide) (by decide) rfl (Nat.le_of_ble_eq_true rfl) (Nat.le_of_ble_eq_true rfl) (fun _ => Or.inl (pr_b (ka_1 hM) (by decide) rfl))) (f_HTape_enterForm_ok (dep := dep + 3) hM h) rfl ?_
    intro M5 hM5 h
    replace h := hQ5 _ h
    refine iq_goto hS J_HSetter_perform_d157 (t := 166) rfl ?_
    exact iq_ret J_HSetter_perform_d166 rfl ⟨rfl, hM5, ed_some h⟩
  replace h := ed_neg q11_7 h
  refine iq_tsw hS J_HSetter_perform_d11 (t := 160) (sw_d [0, 1, 2, 3, 4, 5, 6, 7] (by decide) (by decide) (by decide +kernel) (sw_nc q11_0 (sw_nc q11_1 (sw_nc q11_2 (sw_nc q11_3 (sw_nc q11_4 (sw_nc q11_5 (sw_nc q11_6 (sw_nc q11_7 sw_nn))))))))) ?_
  refine iq_aload_n hS 161 J_HSetter_perform_d160 (lk_1r l0 (by decide)) rfl ?_
  refine iq_iload_n hS 162 J_HSetter_perform_d161 (lk_1i l1 (by decide)) rfl ?_
  refine iq_iload_n hS 163 J_HSetter_perform_d162 lk_1s rfl ?_
  obtain ⟨Q6, hQ6, h⟩ := bd1_ed h
  refine iq_cwV hS 166 J_HSetter_perform_d163 rfl (pr_inst (vs := [_, _]) lc_8_187 lT_81 rfl rfl (by decide) (by decide) rfl (Nat.le_of_ble_eq_true rfl) (Nat.le_of_ble_eq_true rfl) (fun _ => Or.inl (pr_b (ka_15 hM) (by decide) rfl))) (f_HSetter_performOfField_ok (dep := dep + 2) hM h) rfl ?_
  intro M6 hM6 h
  replace h := hQ6 _ h
  exact iq_ret J_HSetter_perform_d166 rfl ⟨rfl, hM6, ed_some h⟩
theorem f_HSetter_perform_fr {p0 : Int32} {M : im_M} {r : im_M} (h : f_HSetter_perform p0 M = some r) : fr 50819576 [(1, 6), (11, 3), (15, 4), (15, 8), (15, 10), (15, 11), (15, 12), (19, 3), (23, 0), (23, 1), (23, 2), (23, 4), (23, 5), (23, 6), (23, 8)] M r := by
  replace h : ed (f_HSetter_perform p0 M) (fun x => x = r) := ⟨r, h, rfl⟩
  unfold f_HSetter_perform at h
  obtain ⟨g8, h⟩ := ed_gd h
  by_cases q11_0 : p0 = 0
  · replace h := ed_pos q11_0 h
    obtain ⟨Q1, hQ1, h⟩ := bd1_ed h
    obtain ⟨M1, e1, h⟩ := h
    replace h := hQ1 _ h
    exact fr_retV h (fr_tr (fr_mono (by decide) (by decide +kernel) (f_HTape_keepForm_fr e1)) fr_refl)
  replace h := ed_neg q11_0 h
  by_cases q11_1 : p0 = 1
  · replace h := ed_pos q11_1 h
    obtain ⟨Q2, hQ2, h⟩ := bd1_ed h
    obtain ⟨M2, e2, h⟩ := h
    replace h := hQ2 _ h
    exact fr_retV h (fr_tr (fr_mono (by decide) (by decide +kernel) (f_HSetter_beginLabel_fr e2)) fr_refl)
  replace h := ed_neg q11_1 h
  by_cases q11_2 : p0 = 2
  · replace h := ed_pos q11_2 h
    obtain ⟨Q3, hQ3, h⟩ := bd1_ed h
    obtain ⟨M3, e3, h⟩ := h
    replace h := hQ3 _ h
    exact fr_retV h (fr_tr (fr_mono (by decide) (by decide +kernel) (f_HTape_keepVariable_fr e3)) fr_refl)
  replace h := ed_neg q11_2 h
  by_cases q11_3 : p0 = 3
  · replace h := ed_pos q11_3 h
    obtain ⟨Q4, hQ4, h⟩ := bd1_ed h
    obtain ⟨M4, e4, h⟩ := h
    replace h := hQ4 _ h
    exact fr_retV h (fr_tr (fr_mono (by decide) (by decide +kernel) (f_HSetter_endLabel_fr e4)) fr_refl)
  replace h := ed_neg q11_3 h
  by_cases q11_4 : p0 = 4
  · replace h := ed_pos q11_4 h
    obtain ⟨g102, h⟩ := ed_gd h
    obtain ⟨g116, h⟩ := ed_gd h
    obtain ⟨g117, h⟩ := ed_gd h
    exact fr_retV h (fr_I (by decide) (fr_I (by decide) fr_refl))
  replace h := ed_neg q11_4 h
  by_cases q11_5 : p0 = 5
  · replace h := ed_pos q11_5 h
    exact fr_retV h (fr_F (by decide) fr_refl)
  replace h := ed_neg q11_5 h
  by_cases q11_6 : p0 = 6
  · replace h := ed_pos q11_6 h
    obtain ⟨g143, h⟩ := ed_gd h
    exact fr_retV h (fr_A (by decide) fr_refl)
  replace h := ed_neg q11_6 h
  by_cases q11_7 : p0 = 7
  · replace h := ed_pos q11_7 h
    obtain ⟨Q5, hQ5, h⟩ := bd1_ed h
    obtain ⟨M5, e5, h⟩ := h
    replace h := hQ5 _ h
    exact fr_retV h (fr_tr (fr_mono (by decide) (by decide +kernel) (f_HTape_enterForm_fr e5)) fr_refl)
  replace h := ed_neg q11_7 h
  obtain ⟨Q6, hQ6, h⟩ := bd1_ed h
  obtain ⟨M6, e6, h⟩ := h
  replace h := hQ6 _ h
  exact fr_retV h (fr_tr (fr_mono (by decide) (by decide +kernel) (f_HSetter_performOfField_fr e6)) fr_refl)
noncomputable def f_HSetter_follow (M : im_M) : Option (Int32 × im_M) := bd1 (f_HTape_next M) fun (x1 : Int32) => bd1 (if ¬ x1 = (-1) then bd1 (f_String_indexOf (((Int32.toUInt32 x1) % 65536).toInt32) M) fun (x3 : Int32) => some x3 else some (-1)) fun (y4 : Int32) => if 0 ≤ y4 then bd1 (f_HTape_pass M) fun (M6 : im_M) => bd1 (f_HSetter_canStand y4 M6) fun (x7 : Int32) => if ¬ x7 = 0 then bd1 (f_HSetter_leaveOut y4 M6) fun (M8 : im_M) => jn1 (fun (M12 : im_M) => bd1 (f_HSetter_inRanges y4 M12) fun (x15 : Int32) => if ¬ x15 = 0 then jn1 (fun (M21 : im_M) => bd2 (f_HSetter_laterFault y4 M21) fun (x24 : Int32) (M24 : im_M) => if ¬ x24 = 0 then some (x24, M24) else bd1 (f_HSetter_perform y4 M24) fun (M25 : im_M) => some (x24, M25)) fun k16 => jn0 (fun (_ : Unit) => bd2 (f_HTape_takeData M12) fun (x20 : Int32) (M20 : im_M) => if ¬ x20 = 0 then k16 M20 else some (6, M20)) fun k17 => if y4 = 2 then k17 () else if ¬ y4 = 10 then k16 M12 else k17 () else some (5, M12)) fun k9 => if ¬ y4 = 2 then gd (inb y4 23) <| bd2 (f_HTape_takeNumbers (xa_1 y4) M8) fun (x10 : Int32) (M10 : im_M) => if ¬ x10 = 0 then k9 M10 else some (4, M10) else bd2 (f_HTape_takeNumberAndComma M8) fun (x11 : Int32) (M11 : im_M) => if x11 = 0 then some (4, M11) else k9 M11 else some (3, M6) else some (2, M)
theorem J_HSetter_follow_d0 : decode J_HSetter_follow.2.1 0 = .ok (.aload_n 0, 1) := by decide +kernel
theorem J_HSetter_follow_d1 : decode J_HSetter_follow.2.1 1 = .ok (.getfield 25, 3) := by decide +kernel
theorem J_HSetter_follow_d4 : decode J_HSetter_follow.2.1 4 = .ok (.invokevirtual 75, 3) := by decide +kernel
theorem J_HSetter_follow_d7 : decode J_HSetter_follow.2.1 7 = .ok (.istore_n 1, 1) := by decide +kernel
theorem J_HSetter_follow_d8 : decode J_HSetter_follow.2.1 8 = .ok (.iload_n 1, 1) := by decide +kernel
theorem J_HSetter_follow_d9 : decode J_HSetter_follow.2.1 9 = .ok (.iconst (-1), 1) := by decide +kernel
theorem J_HSetter_follow_d10 : decode J_HSetter_follow.2.1 10 = .ok (.if_icmp .ne 7, 3) := by decide +kernel
theorem J_HSetter_follow_d13 : decode J_HSetter_follow.2.1 13 = .ok (.iconst (-1), 1) := by decide +kernel
theorem J_HSetter_follow_d14 : decode J_HSetter_follow.2.1 14 = .ok (.goto 10, 3) := by decide +kernel
theorem J_HSetter_follow_d17 : decode J_HSetter_follow.2.1 17 = .ok (.ldc 91, 2) := by decide +kernel
theorem J_HSetter_follow_d19 : decode J_HSetter_follow.2.1 19 = .ok (.iload_n 1, 1) := by decide +kernel
theorem J_HSetter_follow_d20 : decode J_HSetter_follow.2.1 20 = .ok (.i2c, 1) := by decide +kernel
theorem J_HSetter_follow_d21 : decode J_HSetter_follow.2.1 21 = .ok (.invokevirtual 93, 3) := by decide +kernel
theorem J_HSetter_follow_d24 : decode J_HSetter_follow.2.1 24 = .ok (.istore_n 2, 1) := by decide +kernel
theorem J_HSetter_follow_d25 : decode J_HSetter_follow.2.1 25 = .ok (.iload_n 2, 1) := by decide +kernel
theorem J_HSetter_follow_d26 : decode J_HSetter_follow.2.1 26 = .ok (.ifCond .ge 5, 3) := by decide +kernel
theorem J_HSetter_follow_d29 : decode J_HSetter_follow.2.1 29 = .ok (.iconst 2, 1) := by decide +kernel
theorem J_HSetter_follow_d30 : decode J_HSetter_follow.2.1 30 = .ok (.ireturn, 1) := by decide +kernel
theorem J_HSetter_follow_d31 : decode J_HSetter_follow.2.1 31 = .ok (.aload_n 0, 1) := by decide +kernel
theorem J_HSetter_follow_d32 : decode J_HSetter_follow.2.1 32 = .ok (.getfield 25, 3) := by decide +kernel
theorem J_HSetter_follow_d35 : decode J_HSetter_follow.2.1 35 = .ok (.invokevirtual 85, 3) := by decide +kernel
theorem J_HSetter_follow_d38 : decode J_HSetter_follow.2.1 38 = .ok (.aload_n 0, 1) := by decide +kernel
theorem J_HSetter_follow_d39 : decode J_HSetter_follow.2.1 39 = .ok (.iload_n 2, 1) := by decide +kernel
theorem J_HSetter_follow_d40 : decode J_HSetter_follow.2.1 40 = .ok (.invokevirtual 99, 3) := by decide +kernel
theorem J_HSetter_follow_d43 : decode J_HSetter_follow.2.1 43 = .ok (.ifCond .ne 5, 3) := by decide +kernel
theorem J_HSetter_follow_d46 : decode J_HSetter_follow.2.1 46 = .ok (.iconst 3, 1) := by decide +kernel
theorem J_HSetter_follow_d47 : decode J_HSetter_follow.2.1 47 = .ok (.ireturn, 1) := by decide +kernel
theorem J_HSetter_follow_d48 : decode J_HSetter_follow.2.1 48 = .ok (.aload_n 0, 1) := by decide +kernel
theorem J_HSetter_follow_d49 : decode J_HSetter_follow.2.1 49 = .ok (.iload_n 2, 1) := by decide +kernel
theorem J_HSetter_follow_d50 : decode J_HSetter_follow.2.1 50 = .ok (.invokevirtual 103, 3) := by decide +kernel
theorem J_HSetter_follow_d53 : decode J_HSetter_follow.2.1 53 = .ok (.iload_n 2, 1) := by decide +kernel
theorem J_HSetter_follow_d54 : decode J_HSetter_follow.2.1 54 = .ok (.iconst 2, 1) := by decide +kernel
theorem J_HSetter_follow_d55 : decode J_HSetter_follow.2.1 55 = .ok (.if_icmp .ne 16, 3) := by decide +kernel
theorem J_HSetter_follow_d58 : decode J_HSetter_follow.2.1 58 = .ok (.aload_n 0, 1) := by decide +kernel
theorem J_HSetter_follow_d59 : decode J_HSetter_follow.2.1 59 = .ok (.getfield 25, 3) := by decide +kernel
theorem J_HSetter_follow_d62 : decode J_HSetter_follow.2.1 62 = .ok (.invokevirtual 106, 3) := by decide +kernel
theorem J_HSetter_follow_d65 : decode J_HSetter_follow.2.1 65 = .ok (.ifCond .eq 21, 3) := by decide +kernel
theorem J_HSetter_follow_d68 : decode J_HSetter_follow.2.1 68 = .ok (.goto 20, 3) := by decide +kernel
theorem J_HSetter_follow_d71 : decode J_HSetter_follow.2.1 71 = .ok (.aload_n 0, 1) := by decide +kernel
theorem J_HSetter_follow_d72 : decode J_HSetter_follow.2.1 72 = .ok (.getfield 25, 3) := by decide +kernel
theorem J_HSetter_follow_d75 : decode J_HSetter_follow.2.1 75 = .ok (.getstatic 110, 3) := by decide +kernel
theorem J_HSetter_follow_d78 : decode J_HSetter_follow.2.1 78 = .ok (.iload_n 2, 1) := by decide +kernel
theorem J_HSetter_follow_d79 : decode J_HSetter_follow.2.1 79 = .ok (.iaload, 1) := by decide +kernel
theorem J_HSetter_follow_d80 : decode J_HSetter_follow.2.1 80 = .ok (.invokevirtual 113, 3) := by decide +kernel
theorem J_HSetter_follow_d83 : decode J_HSetter_follow.2.1 83 = .ok (.ifCond .ne 5, 3) := by decide +kernel
theorem J_HSetter_follow_d86 : decode J_HSetter_follow.2.1 86 = .ok (.iconst 4, 1) := by decide +kernel
theorem J_HSetter_follow_d87 : decode J_HSetter_follow.2.1 87 = .ok (.ireturn, 1) := by decide +kernel
theorem J_HSetter_follow_d88 : decode J_HSetter_follow.2.1 88 = .ok (.aload_n 0, 1) := by decide +kernel
theorem J_HSetter_follow_d89 : decode J_HSetter_follow.2.1 89 = .ok (.iload_n 2, 1) := by decide +kernel
theorem J_HSetter_follow_d90 : decode J_HSetter_follow.2.1 90 = .ok (.invokevirtual 116, 3) := by decide +kernel
theorem J_HSetter_follow_d93 : decode J_HSetter_follow.2.1 93 = .ok (.ifCond .ne 5, 3) := by decide +kernel
theorem J_HSetter_follow_d96 : decode J_HSetter_follow.2.1 96 = .ok (.iconst 5, 1) := by decide +kernel
theorem J_HSetter_follow_d97 : decode J_HSetter_follow.2.1 97 = .ok (.ireturn, 1) := by decide +kernel
theorem J_HSetter_follow_d98 : decode J_HSetter_follow.2.1 98 = .ok (.iload_n 2, 1) := by decide +kernel
theorem J_HSetter_follow_d99 : decode J_HSetter_follow.2.1 99 = .ok (.iconst 2, 1) := by decide +kernel
theorem J_HSetter_follow_d100 : decode J_HSetter_follow.2.1 100 = .ok (.if_icmp .eq 9, 3) := by decide +kernel
theorem J_HSetter_follow_d103 : decode J_HSetter_follow.2.1 103 = .ok (.iload_n 2, 1) := by decide +kernel
theorem J_HSetter_follow_d104 : decode J_HSetter_follow.2.1 104 = .ok (.bipush 10, 2) := by decide +kernel
theorem J_HSetter_follow_d106 : decode J_HSetter_follow.2.1 106 = .ok (.if_icmp .ne 16, 3) := by decide +kernel
theorem J_HSetter_follow_d109 : decode J_HSetter_follow.2.1 109 = .ok (.aload_n 0, 1) := by decide +kernel
theorem J_HSetter_follow_d110 : decode J_HSetter_follow.2.1 110 = .ok (.getfield 25, 3) := by decide +kernel
theorem J_HSetter_follow_d113 : decode J_HSetter_follow.2.1 113 = .ok (.invokevirtual 119, 3) := by decide +kernel
theorem J_HSetter_follow_d116 : decode J_HSetter_follow.2.1 116 = .ok (.ifCond .ne 6, 3) := by decide +kernel
theorem J_HSetter_follow_d119 : decode J_HSetter_follow.2.1 119 = .ok (.bipush 6, 2) := by decide +kernel
theorem J_HSetter_follow_d121 : decode J_HSetter_follow.2.1 121 = .ok (.ireturn, 1) := by decide +kernel
theorem J_HSetter_follow_d122 : decode J_HSetter_follow.2.1 122 = .ok (.aload_n 0, 1) := by decide +kernel
theorem J_HSetter_follow_d123 : decode J_HSetter_follow.2.1 123 = .ok (.iload_n 2, 1) := by decide +kernel
theorem J_HSetter_follow_d124 : decode J_HSetter_follow.2.1 124 = .ok (.invokevirtual 122, 3) := by decide +kernel
theorem J_HSetter_follow_d127 : decode J_HSetter_follow.2.1 127 = .ok (.istore_n 3, 1) := by decide +kernel
theorem J_HSetter_follow_d128 : decode J_HSetter_follow.2.1 128 = .ok (.iload_n 3, 1) := by decide +kernel
theorem J_HSetter_follow_d129 : decode J_HSetter_follow.2.1 129 = .ok (.ifCond .ne 8, 3) := by decide +kernel
theorem J_HSetter_follow_d132 : decode J_HSetter_follow.2.1 132 = .ok (.aload_n 0, 1) := by decide +kernel
theorem J_HSetter_follow_d133 : decode J_HSetter_follow.2.1 133 = .ok (.iload_n 2, 1) := by decide +kernel
theorem J_HSetter_follow_d134 : decode J_HSetter_follow.2.1 134 = .ok (.invokevirtual 125, 3) := by decide +kernel
theorem J_HSetter_follow_d137 : decode J_HSetter_follow.2.1 137 = .ok (.iload_n 3, 1) := by decide +kernel
theorem J_HSetter_follow_d138 : decode J_HSetter_follow.2.1 138 = .ok (.ireturn, 1) := by decide +kernel
theorem f_HSetter_follow_ok {L : Nat} {xs : Nat → Int32} {dep : Nat} {w : Bool} {M : im_M} {Q : Int32 × im_M → Prop} (hM : lw_S w M) (h : ed (f_HSetter_follow M) Q) : ia (tb_G L xs) (dep + 6) J_HSetter_follow (rwI w Q) (0, lv_args 0 [.ref 15], [], M) := by
  have hS : im_St (tb_G L xs) (dep + 6) J_HSetter_follow (ia (tb_G L xs) (dep + 6) J_HSetter_follow (rwI w Q)) := ia_St
  unfold f_HSetter_follow at h
  have l0 : im_lk (lv_args 0 [.ref 15]) 0 = some (.ref 15) := rfl
  refine iq_aload_n hS 1 J_HSetter_follow_d0 l0 rfl ?_
  refine iq_getR hS 4 J_HSetter_follow_d1 lf_8_25 (Or.inl ⟨_, rfl⟩) (ka_15 hM) (ra_15_0 hM) rfl ?_
  obtain ⟨Q1, hQ1, h⟩ := bd1_ed h
  refine iq_cpI hS 7 J_HSetter_follow_d4 rfl (pr_inst (vs := []) lc_8_75 lT_17 rfl rfl (by decide) (by decide) rfl (Nat.le_of_ble_eq_true rfl) (Nat.le_of_ble_eq_true rfl) (fun _ => Or.inl (pr_b (ka_1 hM) (by decide) rfl))) (f_HTape_next_ok (dep := dep + 5) hM h) rfl ?_
  intro x1 h
  replace h := hQ1 _ h
  refine iq_istore_n hS 8 J_HSetter_follow_d7 (by decide) rfl ?_
  refine iq_iload_n hS 9 J_HSetter_follow_d8 lk_1s rfl ?_
  refine iq_iconst hS 10 J_HSetter_follow_d9 (v := (-1)) (by decide +kernel) rfl ?_
  obtain ⟨Q2, hQ2, h⟩ := bd1_ed h
  have J2 : ∀ (y4 : Int32) (L' : List (Nat × Value)), im_lk L' 0 = some (.ref 15) → Q2 y4 → ia (tb_G L xs) (dep + 6) J_HSetter_follow (rwI w Q) (24, L', [.int y4], M) := by
    intro y4 L' l5 h
    replace h := hQ2 _ h
    refine iq_istore_n hS 25 J_HSetter_follow_d24 (by decide) rfl ?_
    refine iq_iload_n hS 26 J_HSetter_follow_d25 lk_1s rfl ?_
    refine iq_if_ge hS 29 J_HSetter_follow_d26 (t := 31) rfl (fun q26 => ?_) rfl (fun q26 => ?_)
    · replace h := ed_pos q26 h
      refine iq_aload_n hS 32 J_HSetter_follow_d31 (lk_1r l5 (by decide)) rfl ?_
      refine iq_getR hS 35 J_HSetter_follow_d32 lf_8_25 (Or.inl ⟨_, rfl⟩) (ka_15 hM) (ra_15_0 hM) rfl ?_
      obtain ⟨Q6, hQ6, h⟩ := bd1_ed h
      refine iq_cwV hS 38 J_HSetter_follow_d35 rfl (pr_inst (vs := []) lc_8_85 lT_18 rfl rfl (by decide) (by decide) rfl (Nat.le_of_ble_eq_true rfl) (Nat.le_of_ble_eq_true rfl) (fun _ => Or.inl (pr_b (ka_1 hM) (by decide) rfl))) (f_HTape_pass_ok (dep := dep + 5) hM h) rfl ?_
      intro M6 hM6 h
      replace h := hQ6 _ h
      refine iq_aload_n hS 39 J_HSetter_follow_d38 (lk_1r l5 (by decide)) rfl ?_
      refine iq_iload_n hS 40 J_HSetter_follow_d39 lk_1s rfl ?_
      obtain ⟨Q7, hQ7, h⟩ := bd1_ed h
      refine iq_cpI hS 43 J_HSetter_follow_d40 rfl (pr_inst (vs := [_]) lc_8_99 lT_31 rfl rfl (by decide) (by decide) rfl (Nat.le_of_ble_eq_true rfl) (Nat.le_of_ble_eq_true rfl) (fun _ => Or.inl (pr_b (ka_15 hM6) (by decide) rfl))) (f_HSetter_canStand_ok (dep := dep + 5) hM6 h) rfl ?_
      intro x7 h
      replace h := hQ7 _ h
      refine iq_if_ne hS 46 J_HSetter_follow_d43 (t := 48) rfl (fun q43 => ?_) rfl (fun q43 => ?_)
      · replace h := ed_pos q43 h
        refine iq_aload_n hS 49 J_HSetter_follow_d48 (lk_1r l5 (by decide)) rfl ?_
        refine iq_iload_n hS 50 J_HSetter_follow_d49 lk_1s rfl ?_
        obtain ⟨Q8, hQ8, h⟩ := bd1_ed h
        refine iq_cwV hS 53 J_HSetter_follow_d50 rfl (pr_inst (vs := [_]) lc_8_103 lT_32 rfl rfl (by decide) (by decide) rfl (Nat.le_of_ble_eq_true rfl) (Nat.le_of_ble_eq_true rfl) (fun _ => Or.inl (pr_b (ka_15 hM6) (by decide) rfl))) (f_HSetter_leaveOut_ok (dep := dep + 5) hM6 h) rfl ?_
        intro M8 hM8 h
        replace h := hQ8 _ h
        refine iq_iload_n hS 54 J_HSetter_follow_d53 lk_1s rfl ?_
        refine iq_iconst hS 55 J_HSetter_follow_d54 (v := 2) (by decide +kernel) rfl ?_
        obtain ⟨k9, Q9, hQ9, hk9, h⟩ := jn1_ed h
        have J9 : ∀ (M12 : im_M) (L' : List (Nat × Value)), lw_S w M12 → im_lk L' 0 = some (.ref 15) → im_lk L' 2 = some (.int y4) → Q9 M12 → ia (tb_G L xs) (dep + 6) J_HSetter_follow (rwI w Q) (88, L', [], M12) := by
          intro M12 L' hM12 l13 l14 h
          replace h := hQ9 _ h
          refine iq_aload_n hS 89 J_HSetter_follow_d88 l13 rfl ?_
          refine iq_iload_n hS 90 J_HSetter_follow_d89 l14 rfl ?_
          obtain ⟨Q15, hQ15, h⟩ := bd1_ed h
          refine iq_cpI hS 93 J_HSetter_follow_d90 rfl (pr_inst (vs := [_]) lc_8_116 lT_37 rfl rfl (by decide) (by decide) rfl (Nat.le_of_ble_eq_true rfl) (Nat.le_of_ble_eq_true rfl) (fun _ => Or.inl (pr_b (ka_15 hM12) (by decide) rfl))) (f_HSetter_inRanges_ok (dep := dep + 5) hM12 h) rfl ?_
          intro x15 h
          replace h := hQ15 _ h
          refine iq_if_ne hS 96 J_HSetter_follow_d93 (t := 98) rfl (fun q93 => ?_) rfl (fun q93 => ?_)
          · replace h := ed_pos q93 h
            refine iq_iload_n hS 99 J_HSetter_follow_d98 l14 rfl ?_
            refine iq_iconst hS 100 J_HSetter_follow_d99 (v := 2) (by decide +kernel) rfl ?_
            obtain ⟨k16, Q16, hQ16, hk16, h⟩ := jn1_ed h
            have J16 : ∀ (M21 : im_M) (L' : List (Nat × Value)), lw_S w M21 → im_lk L' 0 = some (.ref 15) → im_lk L' 2 = some (.int y4) → Q16 M21 → ia (tb_G L xs) (dep + 6) J_HSetter_follow (rwI w Q) (122, L', [], M21) := by
              intro M21 L' hM21 l22 l23 h
              replace h := hQ16 _ h
              refine iq_aload_n hS 123 J_HSetter_follow_d122 l22 rfl ?_
              refine iq_iload_n hS 124 J_HSetter_follow_d123 l23 rfl ?_
              obtain ⟨Q24, hQ24, h⟩ := bd2_ed h
              refine iq_cwI hS 127 J_HSetter_follow_d124 rfl (pr_inst (vs := [_]) lc_8_122 lT_41 rfl rfl (by decide) (by decide) rfl (Nat.le_of_ble_eq_true rfl) (Nat.le_of_ble_eq_true rfl) (fun _ => Or.inl (pr_b (ka_15 hM21) (by decide) rfl))) (f_HSetter_laterFault_ok (dep := dep + 0) hM21 h) rfl ?_
              intro x24 M24 hM24 h
              replace h := hQ24 _ _ h
              refine iq_istore_n hS 128 J_HSetter_follow_d127 (by decide) rfl ?_
              refine iq_iload_n hS 129 J_HSetter_follow_d128 lk_1s rfl ?_
              refine iq_if_ne hS 132 J_HSetter_follow_d129 (t := 137) rfl (fun q129 => ?_) rfl (fun q129 => ?_)
              · replace h := ed_pos q129 h
                refine iq_iload_n hS 138 J_HSetter_follow_d137 lk_1s rfl ?_
                exact iq_iret J_HSetter_follow_d138 rfl rfl ⟨_, rfl, hM24, ed_some h⟩
              · replace h := ed_neg q129 h
                refine iq_aload_n hS 133 J_HSetter_follow_d132 (lk_1r l22 (by decide)) rfl ?_
                refine iq_iload_n hS 134 J_HSetter_follow_d133 (lk_1i l23 (by decide)) rfl ?_
                obtain ⟨Q25, hQ25, h⟩ := bd1_ed h
                refine iq_cwV hS 137 J_HSetter_follow_d134 rfl (pr_inst (vs := [_]) lc_8_125 lT_70 rfl rfl (by decide) (by decide) rfl (Nat.le_of_ble_eq_true rfl) (Nat.le_of_ble_eq_true rfl) (fun _ => Or.inl (pr_b (ka_15 hM24) (by decide) rfl))) (f_HSetter_perform_ok (dep := dep + 1) hM24 h) rfl ?_
                intro M25 hM25 h
                replace h := hQ25 _ h
                refine iq_iload_n hS 138 J_HSetter_follow_d137 lk_1s rfl ?_
                exact iq_iret J_HSetter_follow_d138 rfl rfl ⟨_, rfl, hM25, ed_some h⟩
            obtain ⟨k17, Q17, hQ17, hk17, h⟩ := jn0_ed h
            have J17 : ∀  (L' : List (Nat × Value)), im_lk L' 0 = some (.ref 15) → im_lk L' 2 = some (.int y4) → Q17 () → ia (tb_G L xs) (dep + 6) J_HSetter_follow (rwI w Q) (109, L', [], M12) := by
              intro  L' l18 l19 h
              replace h := hQ17  h
              refine iq_aload_n hS 110 J_HSetter_follow_d109 l18 rfl ?_
              refine iq_getR hS 113 J_HSetter_follow_d110 lf_8_25 (Or.inl ⟨_, rfl⟩) (ka_15 hM12) (ra_15_0 hM12) rfl ?_
              obtain ⟨Q20, hQ20, h⟩ := bd2_ed h
              refine iq_cwI hS 116 J_HSetter_follow_d113 rfl (pr_inst (vs := []) lc_8_119 lT_38 rfl rfl (by decide) (by decide) rfl (Nat.le_of_ble_eq_true rfl) (Nat.le_of_ble_eq_true rfl) (fun _ => Or.inl (pr_b (ka_1 hM12) (by decide) rfl))) (f_HTape_takeData_ok (dep := dep + 3) hM12 h) rfl ?_
              intro x20 M20 hM20 h
              replace h := hQ20 _ _ h
              refine iq_if_ne hS 119 J_HSetter_follow_d116 (t := 122) rfl (fun q116 => ?_) rfl (fun q116 => ?_)
              · replace h := ed_pos q116 h
                exact J16 _ _ hM20 l18 l19 (hk16 _ h)
              · replace h := ed_neg q116 h
                refine iq_bipush hS 121 J_HSetter_follow_d119 (v := 6) (by decide +kernel) rfl ?_
                exact iq_iret J_HSetter_follow_d121 rfl rfl ⟨_, rfl, hM20, ed_some h⟩
            refine iq_icmp_eq hS 103 J_HSetter_follow_d100 (t := 109) rfl (fun q100 => ?_) rfl (fun q100 => ?_)
            · replace h := ed_pos q100 h
              exact J17  _ l13 l14 (hk17  h)
            · replace h := ed_neg q100 h
              refine iq_iload_n hS 104 J_HSetter_follow_d103 l14 rfl ?_
              refine iq_bipush hS 106 J_HSetter_follow_d104 (v := 10) (by decide +kernel) rfl ?_
              refine iq_icmp_ne hS 109 J_HSetter_follow_d106 (t := 122) rfl (fun q106 => ?_) rfl (fun q106 => ?_)
              · replace h := ed_pos q106 h
                exact J16 _ _ hM12 l13 l14 (hk16 _ h)
              · replace h := ed_neg q106 h
                exact J17  _ l13 l14 (hk17  h)
          · replace h := ed_neg q93 h
            refine iq_iconst hS 97 J_HSetter_follow_d96 (v := 5) (by decide +kernel) rfl ?_
            exact iq_iret J_HSetter_follow_d97 rfl rfl ⟨_, rfl, hM12, ed_some h⟩
        refine iq_icmp_ne hS 58 J_HSetter_follow_d55 (t := 71) rfl (fun q55 => ?_) rfl (fun q55 => ?_)
        · replace h := ed_pos q55 h
          refine iq_aload_n hS 72 J_HSetter_follow_d71 (lk_1r l5 (by decide)) rfl ?_
          refine iq_getR hS 75 J_HSetter_follow_d72 lf_8_25 (Or.inl ⟨_, rfl⟩) (ka_15 hM8) (ra_15_0 hM8) rfl ?_
          refine iq_getstatic hS 78 J_HSetter_follow_d75 gs_8_110 rfl ?_
          refine iq_iload_n hS 79 J_HSetter_follow_d78 lk_1s rfl ?_
          obtain ⟨g79, h⟩ := ed_gd h
          refine iq_xl_1 hS 80 J_HSetter_follow_d79 hM8 g79 rfl ?_
          obtain ⟨Q10, hQ10, h⟩ := bd2_ed h
          refine iq_cwI hS 83 J_HSetter_follow_d80 rfl (pr_inst (vs := [_]) lc_8_113 lT_36 rfl rfl (by decide) (by decide) rfl (Nat.le_of_ble_eq_true rfl) (Nat.le_of_ble_eq_true rfl) (fun _ => Or.inl (pr_b (ka_1 hM8) (by decide) rfl))) (f_HTape_takeNumbers_ok (dep := dep + 3) hM8 h) rfl ?_
          intro x10 M10 hM10 h
          replace h := hQ10 _ _ h
          refine iq_if_ne hS 86 J_HSetter_follow_d83 (t := 88) rfl (fun q83 => ?_) rfl (fun q83 => ?_)
          · replace h := ed_pos q83 h
            exact J9 _ _ hM10 (lk_1r l5 (by decide)) lk_1s (hk9 _ h)
          · replace h := ed_neg q83 h
            refine iq_iconst hS 87 J_HSetter_follow_d86 (v := 4) (by decide +kernel) rfl ?_
            exact iq_iret J_HSetter_follow_d87 rfl rfl ⟨_, rfl, hM10, ed_some h⟩
        · replace h := ed_neg q55 h
          refine iq_aload_n hS 59 J_HSetter_follow_d58 (lk_1r l5 (by decide)) rfl ?_
          refine iq_getR hS 62 J_HSetter_follow_d59 lf_8_25 (Or.inl ⟨_, rfl⟩) (ka_15 hM8) (ra_15_0 hM8) rfl ?_
          obtain ⟨Q11, hQ11, h⟩ := bd2_ed h
          refine iq_cwI hS 65 J_HSetter_follow_d62 rfl (pr_inst (vs := []) lc_8_106 lT_33 rfl rfl (by decide) (by decide) rfl (Nat.le_of_ble_eq_true rfl) (Nat.le_of_ble_eq_true rfl) (fun _ => Or.inl (pr_b (ka_1 hM8) (by decide) rfl))) (f_HTape_takeNumberAndComma_ok (dep := dep + 3) hM8 h) rfl ?_
          intro x11 M11 hM11 h
          replace h := hQ11 _ _ h
          refine iq_if_eq hS 68 J_HSetter_follow_d65 (t := 86) rfl (fun q65 => ?_) rfl (fun q65 => ?_)
          · replace h := ed_pos q65 h
            refine iq_iconst hS 87 J_HSetter_follow_d86 (v := 4) (by decide +kernel) rfl ?_
            exact iq_iret J_HSetter_follow_d87 rfl rfl ⟨_, rfl, hM11, ed_some h⟩
          · replace h := ed_neg q65 h
            refine iq_goto hS J_HSetter_follow_d68 (t := 88) rfl ?_
            exact J9 _ _ hM11 (lk_1r l5 (by decide)) lk_1s (hk9 _ h)
      · replace h := ed_neg q43 h
        refine iq_iconst hS 47 J_HSetter_follow_d46 (v := 3) (by decide +kernel) rfl ?_
        exact iq_iret J_HSetter_follow_d47 rfl rfl ⟨_, rfl, hM6, ed_some h⟩
    · replace h := ed_neg q26 h
      refine iq_iconst hS 30 J_HSetter_follow_d29 (v := 2) (by decide +kernel) rfl ?_
      exact iq_iret J_HSetter_follow_d30 rfl rfl ⟨_, rfl, hM, ed_some h⟩
  refine iq_icmp_ne hS 13 J_HSetter_follow_d10 (t := 17) rfl (fun q10 => ?_) rfl (fun q10 => ?_)
  · replace h := ed_pos q10 h
    refine iq_ldcs hS 19 J_HSetter_follow_d17 (a := 2000000) (gk_of (by decide +kernel)) (gsT_of (by decide +kernel)) rfl ?_
    refine iq_iload_n hS 20 J_HSetter_follow_d19 lk_1s rfl ?_
    refine iq_i2c hS 21 J_HSetter_follow_d20 rfl ?_
    obtain ⟨Q3, hQ3, h⟩ := bd1_ed h
    refine iq_cpI hS 24 J_HSetter_follow_d21 rfl (pr_inst (vs := [_]) lc_8_93 lT_20 rfl rfl (by decide) (by decide) rfl (Nat.le_of_ble_eq_true rfl) (Nat.le_of_ble_eq_true rfl) (fun _ => Or.inr ⟨xks_0, rfl⟩)) (f_String_indexOf_ok (dep := dep + 2) hM h) rfl ?_
    intro x3 h
    replace h := hQ3 _ h
    exact J2 _ _ (lk_1r l0 (by decide)) (ed_some h)
  · replace h := ed_neg q10 h
    refine iq_iconst hS 14 J_HSetter_follow_d13 (v := (-1)) (by decide +kernel) rfl ?_
    refine iq_goto hS J_HSetter_follow_d14 (t := 24) rfl ?_
    exact J2 _ _ (lk_1r l0 (by decide)) (ed_some h)
theorem f_HSetter_follow_fr {M : im_M} {r : Int32 × im_M} (h : f_HSetter_follow M = some r) : fr 258439160 [(1, 6), (1, 11), (11, 3), (15, 4), (15, 8), (15, 9), (15, 10), (15, 11), (15, 12), (15, 15), (15, 16), (19, 3), (23, 0), (23, 1), (23, 2), (23, 4), (23, 5), (23, 6), (23, 8), (23, 9)] M r.2 := by
  replace h : ed (f_HSetter_follow M) (fun x => x = r) := ⟨r, h, rfl⟩
  unfold f_HSetter_follow at h
  obtain ⟨Q1, hQ1, h⟩ := bd1_ed h
  obtain ⟨x1, e1, h⟩ := h
  replace h := hQ1 _ h
  obtain ⟨Q2, hQ2, h⟩ := bd1_ed h
  have J2 : ∀ (y4 : Int32), Q2 y4 → fr 258439160 [(1, 6), (1, 11), (11, 3), (15, 4), (15, 8), (15, 9), (15, 10), (15, 11), (15, 12), (15, 15), (15, 16), (19, 3), (23, 0), (23, 1), (23, 2), (23, 4), (23, 5), (23, 6), (23, 8), (23, 9)] M r.2 := by
    intro y4 h
    replace h := hQ2 _ h
    by_cases q26 : 0 ≤ y4
    · replace h := ed_pos q26 h
      obtain ⟨Q6, hQ6, h⟩ := bd1_ed h
      obtain ⟨M6, e6, h⟩ := h
      replace h := hQ6 _ h
      obtain ⟨Q7, hQ7, h⟩ := bd1_ed h
      obtain ⟨x7, e7, h⟩ := h
      replace h := hQ7 _ h
      by_cases q43 : ¬ x7 = 0
      · replace h := ed_pos q43 h
        obtain ⟨Q8, hQ8, h⟩ := bd1_ed h
        obtain ⟨M8, e8, h⟩ := h
        replace h := hQ8 _ h
        obtain ⟨k9, Q9, hQ9, hk9, h⟩ := jn1_ed h
        have J9 : ∀ (M12 : im_M), fr 258439160 [(1, 6), (1, 11), (11, 3), (15, 4), (15, 8), (15, 9), (15, 10), (15, 11), (15, 12), (15, 15), (15, 16), (19, 3), (23, 0), (23, 1), (23, 2), (23, 4), (23, 5), (23, 6), (23, 8), (23, 9)] M M12 → Q9 M12 → fr 258439160 [(1, 6), (1, 11), (11, 3), (15, 4), (15, 8), (15, 9), (15, 10), (15, 11), (15, 12), (15, 15), (15, 16), (19, 3), (23, 0), (23, 1), (23, 2), (23, 4), (23, 5), (23, 6), (23, 8), (23, 9)] M r.2 := by
          intro M12 hM12 h
          replace h := hQ9 _ h
          obtain ⟨Q15, hQ15, h⟩ := bd1_ed h
          obtain ⟨x15, e15, h⟩ := h
          replace h := hQ15 _ h
          by_cases q93 : ¬ x15 = 0
          · replace h := ed_pos q93 h
            obtain ⟨k16, Q16, hQ16, hk16, h⟩ := jn1_ed h
            have J16 : ∀ (M21 : im_M), fr 258439160 [(1, 6), (1, 11), (11, 3), (15, 4), (15, 8), (15, 9), (15, 10), (15, 11), (15, 12), (15, 15), (15, 16), (19, 3), (23, 0), (23, 1), (23, 2), (23, 4), (23, 5), (23, 6), (23, 8), (23, 9)] M M21 → Q16 M21 → fr 258439160 [(1, 6), (1, 11), (11, 3), (15, 4), (15, 8), (15, 9), (15, 10), (15, 11), (15, 12), (15, 15), (15, 16), (19, 3), (23, 0), (23, 1), (23, 2), (23, 4), (23, 5), (23, 6), (23, 8), (23, 9)] M r.2 := by
              intro M21 hM21 h
              replace h := hQ16 _ h
              obtain ⟨Q24, hQ24, h⟩ := bd2_ed h
              obtain ⟨⟨x24, M24⟩, e24, h⟩ := h
              replace h := hQ24 _ _ h
              by_cases q129 : ¬ x24 = 0
              · replace h := ed_pos q129 h
                exact fr_ret h (fr_tr (fr_mono (by decide) (by decide +kernel) (f_HSetter_laterFault_fr e24)) hM21)
              · replace h := ed_neg q129 h
                obtain ⟨Q25, hQ25, h⟩ := bd1_ed h
                obtain ⟨M25, e25, h⟩ := h
                replace h := hQ25 _ h
                exact fr_ret h (fr_tr (fr_mono (by decide) (by decide +kernel) (f_HSetter_perform_fr e25)) (fr_tr (fr_mono (by decide) (by decide +kernel) (f_HSetter_laterFault_fr e24)) hM21))
            obtain ⟨k17, Q17, hQ17, hk17, h⟩ := jn0_ed h
            have J17 : Q17 () → fr 258439160 [(1, 6), (1, 11), (11, 3), (15, 4), (15, 8), (15, 9), (15, 10), (15, 11), (15, 12), (15, 15), (15, 16), (19, 3), (23, 0), (23, 1), (23, 2), (23, 4), (23, 5), (23, 6), (23, 8), (23, 9)] M r.2 := by
              intro  h
              replace h := hQ17  h
              obtain ⟨Q20, hQ20, h⟩ := bd2_ed h
              obtain ⟨⟨x20, M20⟩, e20, h⟩ := h
              replace h := hQ20 _ _ h
              by_cases q116 : ¬ x20 = 0
              · replace h := ed_pos q116 h
                exact J16 _ (fr_tr (fr_mono (by decide) (by decide +kernel) (f_HTape_takeData_fr e20)) hM12) (hk16 _ h)
              · replace h := ed_neg q116 h
                exact fr_ret h (fr_tr (fr_mono (by decide) (by decide +kernel) (f_HTape_takeData_fr e20)) hM12)
            by_cases q100 : y4 = 2
            · replace h := ed_pos q100 h
              exact J17  (hk17  h)
            · replace h := ed_neg q100 h
              by_cases q106 : ¬ y4 = 10
              · replace h := ed_pos q106 h
                exact J16 _ hM12 (hk16 _ h)
              · replace h := ed_neg q106 h
                exact J17  (hk17  h)
          · replace h := ed_neg q93 h
            exact fr_ret h hM12
        by_cases q55 : ¬ y4 = 2
        · replace h := ed_pos q55 h
          obtain ⟨g79, h⟩ := ed_gd h
          obtain ⟨Q10, hQ10, h⟩ := bd2_ed h
          obtain ⟨⟨x10, M10⟩, e10, h⟩ := h
          replace h := hQ10 _ _ h
          by_cases q83 : ¬ x10 = 0
          · replace h := ed_pos q83 h
            exact J9 _ (fr_tr (fr_mono (by decide) (by decide +kernel) (f_HTape_takeNumbers_fr e10)) (fr_tr (fr_mono (by decide) (by decide +kernel) (f_HSetter_leaveOut_fr e8)) (fr_tr (fr_mono (by decide) (by decide +kernel) (f_HTape_pass_fr e6)) fr_refl))) (hk9 _ h)
          · replace h := ed_neg q83 h
            exact fr_ret h (fr_tr (fr_mono (by decide) (by decide +kernel) (f_HTape_takeNumbers_fr e10)) (fr_tr (fr_mono (by decide) (by decide +kernel) (f_HSetter_leaveOut_fr e8)) (fr_tr (fr_mono (by decide) (by decide +kernel) (f_HTape_pass_fr e6)) fr_refl)))
        · replace h := ed_neg q55 h
          obtain ⟨Q11, hQ11, h⟩ := bd2_ed h
          obtain ⟨⟨x11, M11⟩, e11, h⟩ := h
          replace h := hQ11 _ _ h
          by_cases q65 : x11 = 0
          · replace h := ed_pos q65 h
            exact fr_ret h (fr_tr (fr_mono (by decide) (by decide +kernel) (f_HTape_takeNumberAndComma_fr e11)) (fr_tr (fr_mono (by decide) (by decide +kernel) (f_HSetter_leaveOut_fr e8)) (fr_tr (fr_mono (by decide) (by decide +kernel) (f_HTape_pass_fr e6)) fr_refl)))
          · replace h := ed_neg q65 h
            exact J9 _ (fr_tr (fr_mono (by decide) (by decide +kernel) (f_HTape_takeNumberAndComma_fr e11)) (fr_tr (fr_mono (by decide) (by decide +kernel) (f_HSetter_leaveOut_fr e8)) (fr_tr (fr_mono (by decide) (by decide +kernel) (f_HTape_pass_fr e6)) fr_refl))) (hk9 _ h)
      · replace h := ed_neg q43 h
        exact fr_ret h (fr_tr (fr_mono (by decide) (by decide +kernel) (f_HTape_pass_fr e6)) fr_refl)
    · replace h := ed_neg q26 h
      exact fr_ret h fr_refl
  by_cases q10 : ¬ x1 = (-1)
  · replace h := ed_pos q10 h
    obtain ⟨Q3, hQ3, h⟩ := bd1_ed h
    obtain ⟨x3, e3, h⟩ := h
    replace h := hQ3 _ h
    exact J2 _ (ed_some h)
  · replace h := ed_neg q10 h
    exact J2 _ (ed_some h)
noncomputable def f_HSetter_followAll_L32 (x3 : Int32) (M4 : im_M) : Option ((Int32 × im_M) ⊕ ((im_M) ⊕ (Int32 × im_M))) := if 6000 ≤ x3 then some (.inr (.inl M4)) else bd1 (f_HTape_passBlanks M4) fun (M5 : im_M) => bd1 (f_HTape_next M5) fun (x6 : Int32) => bd1 (if ¬ (im_i M5 1 6) = 0 then some M5 else gd (inb 0 5) <| some (im_setI M5 15 7 (im_i M5 8 (Int32.toNatClampNeg 0)))) fun (M8 : im_M) => jn0 (fun (_ : Unit) => jn1 (fun (M19 : im_M) => some (.inl ((x3 + 1), M19))) fun k16 => if ¬ x6 = (-1) then if x6 = 94 then bd1 (f_HTape_pass M8) fun (M17 : im_M) => bd2 (f_HSetter_follow M17) fun (x18 : Int32) (M18 : im_M) => if x18 = 0 then k16 M18 else some (.inr (.inr (x18, M18))) else some (.inr (.inr (1, M8))) else k16 (im_setI M8 1 6 ((im_i M8 1 6) - 1))) fun k12 => if ¬ x6 = (-1) then k12 () else if ¬ (im_i M8 1 6) = 0 then k12 () else if (im_i M8 15 8) = 0 then some (.inr (.inr (0, M8))) else some (.inr (.inr (11, M8)))
noncomputable def f_HSetter_followAll (M : im_M) : Option (Int32 × im_M) := bd1 (f_HTape_rewind (im_setI (im_setI (im_setI (im_setI M 15 4 0) 11 3 0) 15 8 0) 15 9 0)) fun (M1 : im_M) => bs1 (lp (uc2 (f_HSetter_followAll_L32)) (0, M1)) (fun (M22 : im_M) => some (10, M22)) (fun t => some t)
theorem J_HSetter_followAll_d0 : decode J_HSetter_followAll.2.1 0 = .ok (.aload_n 0, 1) := by decide +kernel
theorem J_HSetter_followAll_d1 : decode J_HSetter_followAll.2.1 1 = .ok (.iconst 0, 1) := by decide +kernel
theorem J_HSetter_followAll_d2 : decode J_HSetter_followAll.2.1 2 = .ok (.putfield 51, 3) := by decide +kernel
theorem J_HSetter_followAll_d5 : decode J_HSetter_followAll.2.1 5 = .ok (.aload_n 0, 1) := by decide +kernel
theorem J_HSetter_followAll_d6 : decode J_HSetter_followAll.2.1 6 = .ok (.getfield 29, 3) := by decide +kernel
theorem J_HSetter_followAll_d9 : decode J_HSetter_followAll.2.1 9 = .ok (.iconst 0, 1) := by decide +kernel
theorem J_HSetter_followAll_d10 : decode J_HSetter_followAll.2.1 10 = .ok (.putfield 54, 3) := by decide +kernel
theorem J_HSetter_followAll_d13 : decode J_HSetter_followAll.2.1 13 = .ok (.aload_n 0, 1) := by decide +kernel
theorem J_HSetter_followAll_d14 : decode J_HSetter_followAll.2.1 14 = .ok (.iconst 0, 1) := by decide +kernel
theorem J_HSetter_followAll_d15 : decode J_HSetter_followAll.2.1 15 = .ok (.putfield 62, 3) := by decide +kernel
theorem J_HSetter_followAll_d18 : decode J_HSetter_followAll.2.1 18 = .ok (.aload_n 0, 1) := by decide +kernel
theorem J_HSetter_followAll_d19 : decode J_HSetter_followAll.2.1 19 = .ok (.iconst 0, 1) := by decide +kernel
theorem J_HSetter_followAll_d20 : decode J_HSetter_followAll.2.1 20 = .ok (.putfield 66, 3) := by decide +kernel
theorem J_HSetter_followAll_d23 : decode J_HSetter_followAll.2.1 23 = .ok (.aload_n 0, 1) := by decide +kernel
theorem J_HSetter_followAll_d24 : decode J_HSetter_followAll.2.1 24 = .ok (.getfield 25, 3) := by decide +kernel
theorem J_HSetter_followAll_d27 : decode J_HSetter_followAll.2.1 27 = .ok (.invokevirtual 69, 3) := by decide +kernel
theorem J_HSetter_followAll_d30 : decode J_HSetter_followAll.2.1 30 = .ok (.iconst 0, 1) := by decide +kernel
theorem J_HSetter_followAll_d31 : decode J_HSetter_followAll.2.1 31 = .ok (.istore_n 1, 1) := by decide +kernel
theorem J_HSetter_followAll_d32 : decode J_HSetter_followAll.2.1 32 = .ok (.iload_n 1, 1) := by decide +kernel
theorem J_HSetter_followAll_d33 : decode J_HSetter_followAll.2.1 33 = .ok (.sipush 6000, 3) := by decide +kernel
theorem J_HSetter_followAll_d36 : decode J_HSetter_followAll.2.1 36 = .ok (.if_icmp .ge 123, 3) := by decide +kernel
theorem J_HSetter_followAll_d39 : decode J_HSetter_followAll.2.1 39 = .ok (.aload_n 0, 1) := by decide +kernel
theorem J_HSetter_followAll_d40 : decode J_HSetter_followAll.2.1 40 = .ok (.getfield 25, 3) := by decide +kernel
theorem J_HSetter_followAll_d43 : decode J_HSetter_followAll.2.1 43 = .ok (.invokevirtual 72, 3) := by decide +kernel
theorem J_HSetter_followAll_d46 : decode J_HSetter_followAll.2.1 46 = .ok (.aload_n 0, 1) := by decide +kernel
theorem J_HSetter_followAll_d47 : decode J_HSetter_followAll.2.1 47 = .ok (.getfield 25, 3) := by decide +kernel
theorem J_HSetter_followAll_d50 : decode J_HSetter_followAll.2.1 50 = .ok (.invokevirtual 75, 3) := by decide +kernel
theorem J_HSetter_followAll_d53 : decode J_HSetter_followAll.2.1 53 = .ok (.istore_n 2, 1) := by decide +kernel
theorem J_HSetter_followAll_d54 : decode J_HSetter_followAll.2.1 54 = .ok (.aload_n 0, 1) := by decide +kernel
theorem J_HSetter_followAll_d55 : decode J_HSetter_followAll.2.1 55 = .ok (.getfield 25, 3) := by decide +kernel
theorem J_HSetter_followAll_d58 : decode J_HSetter_followAll.2.1 58 = .ok (.getfield 79, 3) := by decide +kernel
theorem J_HSetter_followAll_d61 : decode J_HSetter_followAll.2.1 61 = .ok (.ifCond .ne 16, 3) := by decide +kernel
theorem J_HSetter_followAll_d64 : decode J_HSetter_followAll.2.1 64 = .ok (.aload_n 0, 1) := by decide +kernel
theorem J_HSetter_followAll_d65 : decode J_HSetter_followAll.2.1 65 = .ok (.aload_n 0, 1) := by decide +kernel
theorem J_HSetter_followAll_d66 : decode J_HSetter_followAll.2.1 66 = .ok (.getfield 25, 3) := by decide +kernel
theorem J_HSetter_followAll_d69 : decode J_HSetter_followAll.2.1 69 = .ok (.getfield 82, 3) := by decide +kernel
theorem J_HSetter_followAll_d72 : decode J_HSetter_followAll.2.1 72 = .ok (.iconst 0, 1) := by decide +kernel
theorem J_HSetter_followAll_d73 : decode J_HSetter_followAll.2.1 73 = .ok (.iaload, 1) := by decide +kernel
theorem J_HSetter_followAll_d74 : decode J_HSetter_followAll.2.1 74 = .ok (.putfield 15, 3) := by decide +kernel
theorem J_HSetter_followAll_d77 : decode J_HSetter_followAll.2.1 77 = .ok (.iload_n 2, 1) := by decide +kernel
theorem J_HSetter_followAll_d78 : decode J_HSetter_followAll.2.1 78 = .ok (.iconst (-1), 1) := by decide +kernel
theorem J_HSetter_followAll_d79 : decode J_HSetter_followAll.2.1 79 = .ok (.if_icmp .ne 27, 3) := by decide +kernel
theorem J_HSetter_followAll_d82 : decode J_HSetter_followAll.2.1 82 = .ok (.aload_n 0, 1) := by decide +kernel
theorem J_HSetter_followAll_d83 : decode J_HSetter_followAll.2.1 83 = .ok (.getfield 25, 3) := by decide +kernel
theorem J_HSetter_followAll_d86 : decode J_HSetter_followAll.2.1 86 = .ok (.getfield 79, 3) := by decide +kernel
theorem J_HSetter_followAll_d89 : decode J_HSetter_followAll.2.1 89 = .ok (.ifCond .ne 17, 3) := by decide +kernel
theorem J_HSetter_followAll_d92 : decode J_HSetter_followAll.2.1 92 = .ok (.aload_n 0, 1) := by decide +kernel
theorem J_HSetter_followAll_d93 : decode J_HSetter_followAll.2.1 93 = .ok (.getfield 62, 3) := by decide +kernel
theorem J_HSetter_followAll_d96 : decode J_HSetter_followAll.2.1 96 = .ok (.ifCond .eq 8, 3) := by decide +kernel
theorem J_HSetter_followAll_d99 : decode J_HSetter_followAll.2.1 99 = .ok (.bipush 11, 2) := by decide +kernel
theorem J_HSetter_followAll_d101 : decode J_HSetter_followAll.2.1 101 = .ok (.goto 4, 3) := by decide +kernel
theorem J_HSetter_followAll_d104 : decode J_HSetter_followAll.2.1 104 = .ok (.iconst 0, 1) := by decide +kernel
theorem J_HSetter_followAll_d105 : decode J_HSetter_followAll.2.1 105 = .ok (.ireturn, 1) := by decide +kernel
theorem J_HSetter_followAll_d106 : decode J_HSetter_followAll.2.1 106 = .ok (.iload_n 2, 1) := by decide +kernel
theorem J_HSetter_followAll_d107 : decode J_HSetter_followAll.2.1 107 = .ok (.iconst (-1), 1) := by decide +kernel
theorem J_HSetter_followAll_d108 : decode J_HSetter_followAll.2.1 108 = .ok (.if_icmp .ne 19, 3) := by decide +kernel
theorem J_HSetter_followAll_d111 : decode J_HSetter_followAll.2.1 111 = .ok (.aload_n 0, 1) := by decide +kernel
theorem J_HSetter_followAll_d112 : decode J_HSetter_followAll.2.1 112 = .ok (.getfield 25, 3) := by decide +kernel
theorem J_HSetter_followAll_d115 : decode J_HSetter_followAll.2.1 115 = .ok (.dup, 1) := by decide +kernel
theorem J_HSetter_followAll_d116 : decode J_HSetter_followAll.2.1 116 = .ok (.getfield 79, 3) := by decide +kernel
theorem J_HSetter_followAll_d119 : decode J_HSetter_followAll.2.1 119 = .ok (.iconst 1, 1) := by decide +kernel
theorem J_HSetter_followAll_d120 : decode J_HSetter_followAll.2.1 120 = .ok (.isub, 1) := by decide +kernel
theorem J_HSetter_followAll_d121 : decode J_HSetter_followAll.2.1 121 = .ok (.putfield 79, 3) := by decide +kernel
theorem J_HSetter_followAll_d124 : decode J_HSetter_followAll.2.1 124 = .ok (.goto 29, 3) := by decide +kernel
theorem J_HSetter_followAll_d127 : decode J_HSetter_followAll.2.1 127 = .ok (.iload_n 2, 1) := by decide +kernel
theorem J_HSetter_followAll_d128 : decode J_HSetter_followAll.2.1 128 = .ok (.bipush 94, 2) := by decide +kernel
theorem J_HSetter_followAll_d130 : decode J_HSetter_followAll.2.1 130 = .ok (.if_icmp .eq 5, 3) := by decide +kernel
theorem J_HSetter_followAll_d133 : decode J_HSetter_followAll.2.1 133 = .ok (.iconst 1, 1) := by decide +kernel
theorem J_HSetter_followAll_d134 : decode J_HSetter_followAll.2.1 134 = .ok (.ireturn, 1) := by decide +kernel
theorem J_HSetter_followAll_d135 : decode J_HSetter_followAll.2.1 135 = .ok (.aload_n 0, 1) := by decide +kernel
theorem J_HSetter_followAll_d136 : decode J_HSetter_followAll.2.1 136 = .ok (.getfield 25, 3) := by decide +kernel
theorem J_HSetter_followAll_d139 : decode J_HSetter_followAll.2.1 139 = .ok (.invokevirtual 85, 3) := by decide +kernel
theorem J_HSetter_followAll_d142 : decode J_HSetter_followAll.2.1 142 = .ok (.aload_n 0, 1) := by decide +kernel
theorem J_HSetter_followAll_d143 : decode J_HSetter_followAll.2.1 143 = .ok (.invokevirtual 88, 3) := by decide +kernel
theorem J_HSetter_followAll_d146 : decode J_HSetter_followAll.2.1 146 = .ok (.istore_n 3, 1) := by decide +kernel
theorem J_HSetter_followAll_d147 : decode J_HSetter_followAll.2.1 147 = .ok (.iload_n 3, 1) := by decide +kernel
theorem J_HSetter_followAll_d148 : decode J_HSetter_followAll.2.1 148 = .ok (.ifCond .eq 5, 3) := by decide +kernel
theorem J_HSetter_followAll_d151 : decode J_HSetter_followAll.2.1 151 = .ok (.iload_n 3, 1) := by decide +kernel
theorem J_HSetter_followAll_d152 : decode J_HSetter_followAll.2.1 152 = .ok (.ireturn, 1) := by decide +kernel
theorem J_HSetter_followAll_d153 : decode J_HSetter_followAll.2.1 153 = .ok (.iinc 1 1, 3) := by decide +kernel
theorem J_HSetter_followAll_d156 : decode J_HSetter_followAll.2.1 156 = .ok (.goto (-124), 3) := by decide +kernel
theorem J_HSetter_followAll_d159 : decode J_HSetter_followAll.2.1 159 = .ok (.bipush 10, 2) := by decide +kernel
theorem J_HSetter_followAll_d161 : decode J_HSetter_followAll.2.1 161 = .ok (.ireturn, 1) := by decide +kernel
theorem f_HSetter_followAll_ok {L : Nat} {xs : Nat → Int32} {dep : Nat} {w : Bool} {M : im_M} {Q : Int32 × im_M → Prop} (hM : lw_S w M) (h : ed (f_HSetter_followAll M) Q) : ia (tb_G L xs) (dep + 7) J_HSetter_followAll (rwI w Q) (0, lv_args 0 [.ref 15], [], M) := by
  have hS : im_St (tb_G L xs) (dep + 7) J_HSetter_followAll (ia (tb_G L xs) (dep + 7) J_HSetter_followAll (rwI w Q)) := ia_St
  unfold f_HSetter_followAll at h
  have l0 : im_lk (lv_args 0 [.ref 15]) 0 = some (.ref 15) := rfl
  refine iq_aload_n hS 1 J_HSetter_followAll_d0 l0 rfl ?_
  refine iq_iconst hS 2 J_HSetter_followAll_d1 (v := 0) (by decide +kernel) rfl ?_
  refine iq_putI hS 5 J_HSetter_followAll_d2 lf_8_51 (Or.inl rfl) rfl (ka_15 hM) rfl ?_
  refine iq_aload_n hS 6 J_HSetter_followAll_d5 l0 rfl ?_
  refine iq_getR hS 9 J_HSetter_followAll_d6 lf_8_29 (Or.inl ⟨_, rfl⟩) (ka_15 (lw_sI hM)) (ra_15_1 (lw_sI hM)) rfl ?_
  refine iq_iconst hS 10 J_HSetter_followAll_d9 (v := 0) (by decide +kernel) rfl ?_
  refine iq_putI hS 13 J_HSetter_followAll_d10 lf_8_54 (Or.inl rfl) rfl (ka_11 (lw_sI hM)) rfl ?_
  refine iq_aload_n hS 14 J_HSetter_followAll_d13 l0 rfl ?_
  refine iq_iconst hS 15 J_HSetter_followAll_d14 (v := 0) (by decide +kernel) rfl ?_
  refine iq_putZ hS 18 J_HSetter_followAll_d15 lf_8_62 (Or.inl rfl) rfl (ka_15 (lw_sI (lw_sI hM))) (Or.inl rfl) rfl ?_
  refine iq_aload_n hS 19 J_HSetter_followAll_d18 l0 rfl ?_
  refine iq_iconst hS 20 J_HSetter_followAll_d19 (v := 0) (by decide +kernel) rfl ?_
  refine iq_putI hS 23 J_HSetter_followAll_d20 lf_8_66 (Or.inl rfl) rfl (ka_15 (lw_sI (lw_sI (lw_sI hM)))) rfl ?_
  refine iq_aload_n hS 24 J_HSetter_followAll_d23 l0 rfl ?_
  refine iq_getR hS 27 J_HSetter_followAll_d24 lf_8_25 (Or.inl ⟨_, rfl⟩) (ka_15 (lw_sI (lw_sI (lw_sI (lw_sI hM))))) (ra_15_0 (lw_sI (lw_sI (lw_sI (lw_sI hM))))) rfl ?_
  obtain ⟨Q1, hQ1, h⟩ := bd1_ed h
  refine iq_cwV hS 30 J_HSetter_followAll_d27 rfl (pr_inst (vs := []) lc_8_69 lT_15 rfl rfl (by decide) (by decide) rfl (Nat.le_of_ble_eq_true rfl) (Nat.le_of_ble_eq_true rfl) (fun _ => Or.inl (pr_b (ka_1 (lw_sI (lw_sI (lw_sI (lw_sI hM))))) (by decide) rfl))) (f_HTape_rewind_ok (dep := dep + 6) (lw_sI (lw_sI (lw_sI (lw_sI hM)))) h) rfl ?_
  intro M1 hM1 h
  replace h := hQ1 _ h
  refine iq_iconst hS 31 J_HSetter_followAll_d30 (v := 0) (by decide +kernel) rfl ?_
  refine iq_istore_n hS 32 J_HSetter_followAll_d31 (by decide) rfl ?_
  obtain ⟨Q2, hQ2, hR2, h⟩ := bs1_ed h
  have K2 : ∀ (M3 : im_M) (L' : List (Nat × Value)), lw_S w M3 → Q2 (.inl M3) → ia (tb_G L xs) (dep + 7) J_HSetter_followAll (rwI w Q) (159, L', [], M3) := by
    intro M3 L' hM3  h
    replace h := hQ2 _ h
    refine iq_bipush hS 161 J_HSetter_followAll_d159 (v := 10) (by decide +kernel) rfl ?_
    exact iq_iret J_HSetter_followAll_d161 rfl rfl ⟨_, rfl, hM3, ed_some h⟩
  obtain ⟨r2, hr2, hq2⟩ := h
  obtain ⟨n2, hn2⟩ := lp_n hr2
  have I2 : ∀ (n : Nat) (x4 : Int32) (M5 : im_M) (L' : List (Nat × Value)), lw_S w M5 → im_lk L' 0 = some (.ref 15) → im_lk L' 1 = some (.int x4) → lpn (uc2 (f_HSetter_followAll_L32)) n (x4, M5) = some r2 → ia (tb_G L xs) (dep + 7) J_HSetter_followAll (rwI w Q) (32, L', [], M5) := by
    intro n
    induction n with
    | zero => intro x4 M5 L' hM5 l6 l7 hn; exact (lpn_0 hn).elim
    | succ n ih =>
      intro x4 M5 L' hM5 l6 l7 hn
      have h := lpn_ed2 hn
      unfold f_HSetter_followAll_L32 at h
      refine iq_iload_n hS 33 J_HSetter_followAll_d32 l7 rfl ?_
      refine iq_sipush hS 36 J_HSetter_followAll_d33 (v := 6000) (by decide +kernel) rfl ?_
      refine iq_icmp_ge hS 39 J_HSetter_followAll_d36 (t := 159) rfl (fun q36 => ?_) rfl (fun q36 => ?_)
      · replace h := ed_pos q36 h
        exact K2 _ _ hM5  (lq_r h hq2)
      · replace h := ed_neg q36 h
        refine iq_aload_n hS 40 J_HSetter_followAll_d39 l6 rfl ?_
        refine iq_getR hS 43 J_HSetter_followAll_d40 lf_8_25 (Or.inl ⟨_, rfl⟩) (ka_15 hM5) (ra_15_0 hM5) rfl ?_
        obtain ⟨Q8, hQ8, h⟩ := bd1_ed h
        refine iq_cwV hS 46 J_HSetter_followAll_d43 rfl (pr_inst (vs := []) lc_8_72 lT_16 rfl rfl (by decide) (by decide) rfl (Nat.le_of_ble_eq_true rfl) (Nat.le_of_ble_eq_true rfl) (fun _ => Or.inl (pr_b (ka_1 hM5) (by decide) rfl))) (f_HTape_passBlanks_ok (dep := dep + 5) hM5 h) rfl ?_
        intro M8 hM8 h
        replace h := hQ8 _ h
        refine iq_aload_n hS 47 J_HSetter_followAll_d46 l6 rfl ?_
        refine iq_getR hS 50 J_HSetter_followAll_d47 lf_8_25 (Or.inl ⟨_, rfl⟩) (ka_15 hM8) (ra_15_0 hM8) rfl ?_
        obtain ⟨Q9, hQ9, h⟩ := bd1_ed h
        refine iq_cpI hS 53 J_HSetter_followAll_d50 rfl (pr_inst (vs := []) lc_8_75 lT_17 rfl rfl (by decide) (by decide) rfl (Nat.le_of_ble_eq_true rfl) (Nat.le_of_ble_eq_true rfl) (fun _ => Or.inl (pr_b (ka_1 hM8) (by decide) rfl))) (f_HTape_next_ok (dep := dep + 6) hM8 h) rfl ?_
        intro x9 h
        replace h := hQ9 _ h
        refine iq_istore_n hS 54 J_HSetter_followAll_d53 (by decide) rfl ?_
        refine iq_aload_n hS 55 J_HSetter_followAll_d54 (lk_1r l6 (by decide)) rfl ?_
        refine iq_getR hS 58 J_HSetter_followAll_d55 lf_8_25 (Or.inl ⟨_, rfl⟩) (ka_15 hM8) (ra_15_0 hM8) rfl ?_
        refine iq_getI hS 61 J_HSetter_followAll_d58 lf_8_79 (Or.inl rfl) (ka_1 hM8) rfl ?_
        obtain ⟨Q10, hQ10, h⟩ := bd1_ed h
        have J10 : ∀ (M11 : im_M) (L' : List (Nat × Value)), lw_S w M11 → im_lk L' 0 = some (.ref 15) → im_lk L' 1 = some (.int x4) → im_lk L' 2 = some (.int x9) → Q10 M11 → ia (tb_G L xs) (dep + 7) J_HSetter_followAll (rwI w Q) (77, L', [], M11) := by
          intro M11 L' hM11 l12 l13 l14 h
          replace h := hQ10 _ h
          refine iq_iload_n hS 78 J_HSetter_followAll_d77 l14 rfl ?_
          refine iq_iconst hS 79 J_HSetter_followAll_d78 (v := (-1)) (by decide +kernel) rfl ?_
          obtain ⟨k15, Q15, hQ15, hk15, h⟩ := jn0_ed h
          have J15 : ∀  (L' : List (Nat × Value)), im_lk L' 0 = some (.ref 15) → im_lk L' 1 = some (.int x4) → im_lk L' 2 = some (.int x9) → Q15 () → ia (tb_G L xs) (dep + 7) J_HSetter_followAll (rwI w Q) (106, L', [], M11) := by
            intro  L' l16 l17 l18 h
            replace h := hQ15  h
            refine iq_iload_n hS 107 J_HSetter_followAll_d106 l18 rfl ?_
            refine iq_iconst hS 108 J_HSetter_followAll_d107 (v := (-1)) (by decide +kernel) rfl ?_
            obtain ⟨k19, Q19, hQ19, hk19, h⟩ := jn1_ed h
            have J19 : ∀ (M22 : im_M) (L' : List (Nat × Value)), lw_S w M22 → im_lk L' 0 = some (.ref 15) → im_lk L' 1 = some (.int x4) → Q19 M22 → ia (tb_G L xs) (dep + 7) J_HSetter_followAll (rwI w Q) (153, L', [], M22) := by
              intro M22 L' hM22 l23 l24 h
              replace h := hQ19 _ h
              refine iq_iincv hS 156 J_HSetter_followAll_d153 (c := 1) (by decide +kernel) l24 (by decide) rfl ?_
              refine iq_goto hS J_HSetter_followAll_d156 (t := 32) rfl ?_
              exact ih _ _ _ hM22 (lk_1r l23 (by decide)) lk_1s (lq_l h)
            refine iq_icmp_ne hS 111 J_HSetter_followAll_d108 (t := 127) rfl (fun q108 => ?_) rfl (fun q108 => ?_)
            · replace h := ed_pos q108 h
              refine iq_iload_n hS 128 J_HSetter_followAll_d127 l18 rfl ?_
              refine iq_bipush hS 130 J_HSetter_followAll_d128 (v := 94) (by decide +kernel) rfl ?_
              refine iq_icmp_eq hS 133 J_HSetter_followAll_d130 (t := 135) rfl (fun q130 => ?_) rfl (fun q130 => ?_)
              · replace h := ed_pos q130 h
                refine iq_aload_n hS 136 J_HSetter_followAll_d135 l16 rfl ?_
                refine iq_getR hS 139 J_HSetter_followAll_d136 lf_8_25 (Or.inl ⟨_, rfl⟩) (ka_15 hM11) (ra_15_0 hM11) rfl ?_
                obtain ⟨Q20, hQ20, h⟩ := bd1_ed h
                refine iq_cwV hS 142 J_HSetter_followAll_d139 rfl (pr_inst (vs := []) lc_8_85 lT_18 rfl rfl (by decide) (by decide) rfl (Nat.le_of_ble_eq_true rfl) (Nat.le_of_ble_eq_true rfl) (fun _ => Or.inl (pr_b (ka_1 hM11) (by decide) rfl))) (f_HTape_pass_ok (dep := dep + 6) hM11 h) rfl ?_
                intro M20 hM20 h
                replace h := hQ20 _ h
                refine iq_aload_n hS 143 J_HSetter_followAll_d142 l16 rfl ?_
                obtain ⟨Q21, hQ21, h⟩ := bd2_ed h
                refine iq_cwI hS 146 J_HSetter_followAll_d143 rfl (pr_inst (vs := []) lc_8_88 lT_19 rfl rfl (by decide) (by decide) rfl (Nat.le_of_ble_eq_true rfl) (Nat.le_of_ble_eq_true rfl) (fun _ => Or.inl (pr_b (ka_15 hM20) (by decide) rfl))) (f_HSetter_follow_ok (dep := dep + 0) hM20 h) rfl ?_
                intro x21 M21 hM21 h
                replace h := hQ21 _ _ h
                refine iq_istore_n hS 147 J_HSetter_followAll_d146 (by decide) rfl ?_
                refine iq_iload_n hS 148 J_HSetter_followAll_d147 lk_1s rfl ?_
                refine iq_if_eq hS 151 J_HSetter_followAll_d148 (t := 153) rfl (fun q148 => ?_) rfl (fun q148 => ?_)
                · replace h := ed_pos q148 h
                  exact J19 _ _ hM21 (lk_1r l16 (by decide)) (lk_1i l17 (by decide)) (hk19 _ h)
                · replace h := ed_neg q148 h
                  refine iq_iload_n hS 152 J_HSetter_followAll_d151 lk_1s rfl ?_
                  exact iq_iret J_HSetter_followAll_d152 rfl rfl ⟨_, rfl, hM21, ed_some (hR2 _ (lq_r h hq2))⟩
              · replace h := ed_neg q130 h
                refine iq_iconst hS 134 J_HSetter_followAll_d133 (v := 1) (by decide +kernel) rfl ?_
                exact iq_iret J_HSetter_followAll_d134 rfl rfl ⟨_, rfl, hM11, ed_some (hR2 _ (lq_r h hq2))⟩
            · replace h := ed_neg q108 h
              refine iq_aload_n hS 112 J_HSetter_followAll_d111 l16 rfl ?_
              refine iq_getR hS 115 J_HSetter_followAll_d112 lf_8_25 (Or.inl ⟨_, rfl⟩) (ka_15 hM11) (ra_15_0 hM11) rfl ?_
              refine iq_dup hS 116 J_HSetter_followAll_d115 rfl rfl ?_
              refine iq_getI hS 119 J_HSetter_followAll_d116 lf_8_79 (Or.inl rfl) (ka_1 hM11) rfl ?_
              refine iq_iconst hS 120 J_HSetter_followAll_d119 (v := 1) (by decide +kernel) rfl ?_
              refine iq_isub hS 121 J_HSetter_followAll_d120 rfl ?_
              refine iq_putI hS 124 J_HSetter_followAll_d121 lf_8_79 (Or.inl rfl) rfl (ka_1 hM11) rfl ?_
              refine iq_goto hS J_HSetter_followAll_d124 (t := 153) rfl ?_
              exact J19 _ _ (lw_sI hM11) l16 l17 (hk19 _ h)
          refine iq_icmp_ne hS 82 J_HSetter_followAll_d79 (t := 106) rfl (fun q79 => ?_) rfl (fun q79 => ?_)
          · replace h := ed_pos q79 h
            exact J15  _ l12 l13 l14 (hk15  h)
          · replace h := ed_neg q79 h
            refine iq_aload_n hS 83 J_HSetter_followAll_d82 l12 rfl ?_
            refine iq_getR hS 86 J_HSetter_followAll_d83 lf_8_25 (Or.inl ⟨_, rfl⟩) (ka_15 hM11) (ra_15_0 hM11) rfl ?_
            refine iq_getI hS 89 J_HSetter_followAll_d86 lf_8_79 (Or.inl rfl) (ka_1 hM11) rfl ?_
            refine iq_if_ne hS 92 J_HSetter_followAll_d89 (t := 106) rfl (fun q89 => ?_) rfl (fun q89 => ?_)
            · replace h := ed_pos q89 h
              exact J15  _ l12 l13 l14 (hk15  h)
            · replace h := ed_neg q89 h
              refine iq_aload_n hS 93 J_HSetter_followAll_d92 l12 rfl ?_
              refine iq_getI hS 96 J_HSetter_followAll_d93 lf_8_62 (Or.inr rfl) (ka_15 hM11) rfl ?_
              refine iq_if_eq hS 99 J_HSetter_followAll_d96 (t := 104) rfl (fun q96 => ?_) rfl (fun q96 => ?_)
              · replace h := ed_pos q96 h
                refine iq_iconst hS 105 J_HSetter_followAll_d104 (v := 0) (by decide +kernel) rfl ?_
                exact iq_iret J_HSetter_followAll_d105 rfl rfl ⟨_, rfl, hM11, ed_some (hR2 _ (lq_r h hq2))⟩
              · replace h := ed_neg q96 h
                refine iq_bipush hS 101 J_HSetter_followAll_d99 (v := 11) (by decide +kernel) rfl ?_
                refine iq_goto hS J_HSetter_followAll_d101 (t := 105) rfl ?_
                exact iq_iret J_HSetter_followAll_d105 rfl rfl ⟨_, rfl, hM11, ed_some (hR2 _ (lq_r h hq2))⟩
        refine iq_if_ne hS 64 J_HSetter_followAll_d61 (t := 77) rfl (fun q61 => ?_) rfl (fun q61 => ?_)
        · replace h := ed_pos q61 h
          exact J10 _ _ hM8 (lk_1r l6 (by decide)) (lk_1i l7 (by decide)) lk_1s (ed_some h)
        · replace h := ed_neg q61 h
          refine iq_aload_n hS 65 J_HSetter_followAll_d64 (lk_1r l6 (by decide)) rfl ?_
          refine iq_aload_n hS 66 J_HSetter_followAll_d65 (lk_1r l6 (by decide)) rfl ?_
          refine iq_getR hS 69 J_HSetter_followAll_d66 lf_8_25 (Or.inl ⟨_, rfl⟩) (ka_15 hM8) (ra_15_0 hM8) rfl ?_
          refine iq_getR hS 72 J_HSetter_followAll_d69 lf_8_82 (Or.inr ⟨_, rfl⟩) (ka_1 hM8) (ra_1_8 hM8) rfl ?_
          refine iq_iconst hS 73 J_HSetter_followAll_d72 (v := 0) (by decide +kernel) rfl ?_
          obtain ⟨g73, h⟩ := ed_gd h
          refine iq_iaload hS 74 J_HSetter_followAll_d73 ⟨(ka_8 hM8).1, (ka_8 hM8).2, g73.1, ix_lt (kl_8 hM8) g73.2⟩ rfl ?_
          refine iq_putI hS 77 J_HSetter_followAll_d74 lf_8_15 (Or.inl rfl) rfl (ka_15 hM8) rfl ?_
          exact J10 _ _ (lw_sI hM8) (lk_1r l6 (by decide)) (lk_1i l7 (by decide)) lk_1s (ed_some h)
  exact I2 n2 _ _ _ hM1 (lk_1r l0 (by decide)) lk_1s hn2
theorem f_HSetter_followAll_fr {M : im_M} {r : Int32 × im_M} (h : f_HSetter_followAll M = some r) : fr 258439160 [(1, 6), (1, 11), (11, 3), (15, 4), (15, 7), (15, 8), (15, 9), (15, 10), (15, 11), (15, 12), (15, 15), (15, 16), (19, 3), (23, 0), (23, 1), (23, 2), (23, 4), (23, 5), (23, 6), (23, 8), (23, 9)] M r.2 := by
  replace h : ed (f_HSetter_followAll M) (fun x => x = r) := ⟨r, h, rfl⟩
  unfold f_HSetter_followAll at h
  obtain ⟨Q1, hQ1, h⟩ := bd1_ed h
  obtain ⟨M1, e1, h⟩ := h
  replace h := hQ1 _ h
  obtain ⟨Q2, hQ2, hR2, h⟩ := bs1_ed h
  have K2 : ∀ (M3 : im_M), fr 258439160 [(1, 6), (1, 11), (11, 3), (15, 4), (15, 7), (15, 8), (15, 9), (15, 10), (15, 11), (15, 12), (15, 15), (15, 16), (19, 3), (23, 0), (23, 1), (23, 2), (23, 4), (23, 5), (23, 6), (23, 8), (23, 9)] M M3 → Q2 (.inl M3) → fr 258439160 [(1, 6), (1, 11), (11, 3), (15, 4), (15, 7), (15, 8), (15, 9), (15, 10), (15, 11), (15, 12), (15, 15), (15, 16), (19, 3), (23, 0), (23, 1), (23, 2), (23, 4), (23, 5), (23, 6), (23, 8), (23, 9)] M r.2 := by
    intro M3 hM3 h
    replace h := hQ2 _ h
    exact fr_ret h hM3
  obtain ⟨r2, hr2, hq2⟩ := h
  obtain ⟨n2, hn2⟩ := lp_n hr2
  have I2 : ∀ (n : Nat) (x4 : Int32) (M5 : im_M), fr 258439160 [(1, 6), (1, 11), (11, 3), (15, 4), (15, 7), (15, 8), (15, 9), (15, 10), (15, 11), (15, 12), (15, 15), (15, 16), (19, 3), (23, 0), (23, 1), (23, 2), (23, 4), (23, 5), (23, 6), (23, 8), (23, 9)] M M5 → lpn (uc2 (f_HSetter_followAll_L32)) n (x4, M5) = some r2 → fr 258439160 [(1, 6), (1, 11), (11, 3), (15, 4), (15, 7), (15, 8), (15, 9), (15, 10), (15, 11), (15, 12), (15, 15), (15, 16), (19, 3), (23, 0), (23, 1), (23, 2), (23, 4), (23, 5), (23, 6), (23, 8), (23, 9)] M r.2 := by
    intro n
    induction n with
    | zero => intro x4 M5 hM5 hn; exact (lpn_0 hn).elim
    | succ n ih =>
      intro x4 M5 hM5 hn
      have h := lpn_ed2 hn
      unfold f_HSetter_followAll_L32 at h
      by_cases q36 : 6000 ≤ x4
      · replace h := ed_pos q36 h
        exact K2 _ hM5 (lq_r h hq2)
      · replace h := ed_neg q36 h
        obtain ⟨Q6, hQ6, h⟩ := bd1_ed h
        obtain ⟨M6, e6, h⟩ := h
        replace h := hQ6 _ h
        obtain ⟨Q7, hQ7, h⟩ := bd1_ed h
        obtain ⟨x7, e7, h⟩ := h
        replace h := hQ7 _ h
        obtain ⟨Q8, hQ8, h⟩ := bd1_ed h
        have J8 : ∀ (M9 : im_M), fr 258439160 [(1, 6), (1, 11), (11, 3), (15, 4), (15, 7), (15, 8), (15, 9), (15, 10), (15, 11), (15, 12), (15, 15), (15, 16), (19, 3), (23, 0), (23, 1), (23, 2), (23, 4), (23, 5), (23, 6), (23, 8), (23, 9)] M M9 → Q8 M9 → fr 258439160 [(1, 6), (1, 11), (11, 3), (15, 4), (15, 7), (15, 8), (15, 9), (15, 10), (15, 11), (15, 12), (15, 15), (15, 16), (19, 3), (23, 0), (23, 1), (23, 2), (23, 4), (23, 5), (23, 6), (23, 8), (23, 9)] M r.2 := by
          intro M9 hM9 h
          replace h := hQ8 _ h
          obtain ⟨k13, Q13, hQ13, hk13, h⟩ := jn0_ed h
          have J13 : Q13 () → fr 258439160 [(1, 6), (1, 11), (11, 3), (15, 4), (15, 7), (15, 8), (15, 9), (15, 10), (15, 11), (15, 12), (15, 15), (15, 16), (19, 3), (23, 0), (23, 1), (23, 2), (23, 4), (23, 5), (23, 6), (23, 8), (23, 9)] M r.2 := by
            intro  h
            replace h := hQ13  h
            obtain ⟨k17, Q17, hQ17, hk17, h⟩ := jn1_ed h
            have J17 : ∀ (M20 : im_M), fr 258439160 [(1, 6), (1, 11), (11, 3), (15, 4), (15, 7), (15, 8), (15, 9), (15, 10), (15, 11), (15, 12), (15, 15), (15, 16), (19, 3), (23, 0), (23, 1), (23, 2), (23, 4), (23, 5), (23, 6), (23, 8), (23, 9)] M M20 → Q17 M20 → fr 258439160 [(1, 6), (1, 11), (11, 3), (15, 4), (15, 7), (15, 8), (15, 9), (15, 10), (15, 11), (15, 12), (15, 15), (15, 16), (19, 3), (23, 0), (23, 1), (23, 2), (23, 4), (23, 5), (23, 6), (23, 8), (23, 9)] M r.2 := by
              intro M20 hM20 h
              replace h := hQ17 _ h
              exact ih _ _ hM20 (lq_l h)
            by_cases q108 : ¬ x7 = (-1)
            · replace h := ed_pos q108 h
              by_cases q130 : x7 = 94
              · replace h := ed_pos q130 h
                obtain ⟨Q18, hQ18, h⟩ := bd1_ed h
                obtain ⟨M18, e18, h⟩ := h
                replace h := hQ18 _ h
                obtain ⟨Q19, hQ19, h⟩ := bd2_ed h
                obtain ⟨⟨x19, M19⟩, e19, h⟩ := h
                replace h := hQ19 _ _ h
                by_cases q148 : x19 = 0
                · replace h := ed_pos q148 h
                  exact J17 _ (fr_tr (fr_mono (by decide) (by decide +kernel) (f_HSetter_follow_fr e19)) (fr_tr (fr_mono (by decide) (by decide +kernel) (f_HTape_pass_fr e18)) hM9)) (hk17 _ h)
                · replace h := ed_neg q148 h
                  exact fr_ret (hR2 _ (lq_r h hq2)) (fr_tr (fr_mono (by decide) (by decide +kernel) (f_HSetter_follow_fr e19)) (fr_tr (fr_mono (by decide) (by decide +kernel) (f_HTape_pass_fr e18)) hM9))
              · replace h := ed_neg q130 h
                exact fr_ret (hR2 _ (lq_r h hq2)) hM9
            · replace h := ed_neg q108 h
              exact J17 _ (fr_F (by decide) hM9) (hk17 _ h)
          by_cases q79 : ¬ x7 = (-1)
          · replace h := ed_pos q79 h
            exact J13  (hk13  h)
          · replace h := ed_neg q79 h
            by_cases q89 : ¬ (im_i M9 1 6) = 0
            · replace h := ed_pos q89 h
              exact J13  (hk13  h)
            · replace h := ed_neg q89 h
              by_cases q96 : (im_i M9 15 8) = 0
              · replace h := ed_pos q96 h
                exact fr_ret (hR2 _ (lq_r h hq2)) hM9
              · replace h := ed_neg q96 h
                exact fr_ret (hR2 _ (lq_r h hq2)) hM9
        by_cases q61 : ¬ (im_i M6 1 6) = 0
        · replace h := ed_pos q61 h
          exact J8 _ (fr_tr (fr_mono (by decide) (by decide +kernel) (f_HTape_passBlanks_fr e6)) hM5) (ed_some h)
        · replace h := ed_neg q61 h
          obtain ⟨g73, h⟩ := ed_gd h
          exact J8 _ (fr_F (by decide) (fr_tr (fr_mono (by decide) (by decide +kernel) (f_HTape_passBlanks_fr e6)) hM5)) (ed_some h)
  exact I2 n2 _ _ (fr_tr (fr_mono (by decide) (by decide +kernel) (f_HTape_rewind_fr e1)) (fr_F (by decide) (fr_F (by decide) (fr_F (by decide) (fr_F (by decide) fr_refl))))) hn2
noncomputable def f_HSetter_finish (p0 : Int32) (M : im_M) : Option (Int32 × im_M) := if p0 = 0 then some ((im_i (im_setI (im_setI (im_setI M 15 6 p0) 15 7 (-1)) 1 1 0) 15 4), (im_setI (im_setI (im_setI M 15 6 p0) 15 7 (-1)) 1 1 0)) else some ((-1), (im_setI (im_setI (im_setI M 15 6 p0) 15 4 0) 11 3 0))
theorem J_HSetter_finish_d0 : decode J_HSetter_finish.2.1 0 = .ok (.aload_n 0, 1) := by decide +kernel
theorem J_HSetter_finish_d1 : decode J_HSetter_finish.2.1 1 = .ok (.iload_n 1, 1) := by decide +kernel
theorem J_HSetter_finish_d2 : decode J_HSetter_finish.2.1 2 = .ok (.putfield 48, 3) := by decide +kernel
theorem J_HSetter_finish_d5 : decode J_HSetter_finish.2.1 5 = .ok (.iload_n 1, 1) := by decide +kernel
theorem J_HSetter_finish_d6 : decode J_HSetter_finish.2.1 6 = .ok (.ifCond .eq 18, 3) := by decide +kernel
theorem J_HSetter_finish_d9 : decode J_HSetter_finish.2.1 9 = .ok (.aload_n 0, 1) := by decide +kernel
theorem J_HSetter_finish_d10 : decode J_HSetter_finish.2.1 10 = .ok (.iconst 0, 1) := by decide +kernel
theorem J_HSetter_finish_d11 : decode J_HSetter_finish.2.1 11 = .ok (.putfield 51, 3) := by decide +kernel
theorem J_HSetter_finish_d14 : decode J_HSetter_finish.2.1 14 = .ok (.aload_n 0, 1) := by decide +kernel
theorem J_HSetter_finish_d15 : decode J_HSetter_finish.2.1 15 = .ok (.getfield 29, 3) := by decide +kernel
theorem J_HSetter_finish_d18 : decode J_HSetter_finish.2.1 18 = .ok (.iconst 0, 1) := by decide +kernel
theorem J_HSetter_finish_d19 : decode J_HSetter_finish.2.1 19 = .ok (.putfield 54, 3) := by decide +kernel
theorem J_HSetter_finish_d22 : decode J_HSetter_finish.2.1 22 = .ok (.iconst (-1), 1) := by decide +kernel
theorem J_HSetter_finish_d23 : decode J_HSetter_finish.2.1 23 = .ok (.ireturn, 1) := by decide +kernel
theorem J_HSetter_finish_d24 : decode J_HSetter_finish.2.1 24 = .ok (.aload_n 0, 1) := by decide +kernel
theorem J_HSetter_finish_d25 : decode J_HSetter_finish.2.1 25 = .ok (.iconst (-1), 1) := by decide +kernel
theorem J_HSetter_finish_d26 : decode J_HSetter_finish.2.1 26 = .ok (.putfield 15, 3) := by decide +kernel
theorem J_HSetter_finish_d29 : decode J_HSetter_finish.2.1 29 = .ok (.aload_n 0, 1) := by decide +kernel
theorem J_HSetter_finish_d30 : decode J_HSetter_finish.2.1 30 = .ok (.getfield 25, 3) := by decide +kernel
theorem J_HSetter_finish_d33 : decode J_HSetter_finish.2.1 33 = .ok (.iconst 0, 1) := by decide +kernel
theorem J_HSetter_finish_d34 : decode J_HSetter_finish.2.1 34 = .ok (.putfield 57, 3) := by decide +kernel
theorem J_HSetter_finish_d37 : decode J_HSetter_finish.2.1 37 = .ok (.aload_n 0, 1) := by decide +kernel
theorem J_HSetter_finish_d38 : decode J_HSetter_finish.2.1 38 = .ok (.getfield 51, 3) := by decide +kernel
theorem J_HSetter_finish_d41 : decode J_HSetter_finish.2.1 41 = .ok (.ireturn, 1) := by decide +kernel
theorem f_HSetter_finish_ok {L : Nat} {xs : Nat → Int32} {dep : Nat} {w : Bool} {p0 : Int32} {M : im_M} {Q : Int32 × im_M → Prop} (hM : lw_S w M) (h : ed (f_HSetter_finish p0 M) Q) : ia (tb_G L xs) dep J_HSetter_finish (rwI w Q) (0, lv_args 0 [.ref 15, .int p0], [], M) := by
  have hS : im_St (tb_G L xs) dep J_HSetter_finish (ia (tb_G L xs) dep J_HSetter_finish (rwI w Q)) := ia_St
  unfold f_HSetter_finish at h
  have l0 : im_lk (lv_args 0 [.ref 15, .int p0]) 0 = some (.ref 15) := rfl
  have l1 : im_lk (lv_args 0 [.ref 15, .int p0]) 1 = some (.int p0) := rfl
  refine iq_aload_n hS 1 J_HSetter_finish_d0 l0 rfl ?_
  refine iq_iload_n hS 2 J_HSetter_finish_d1 l1 rfl ?_
  refine iq_putI hS 5 J_HSetter_finish_d2 lf_8_48 (Or.inl rfl) rfl (ka_15 hM) rfl ?_
  refine iq_iload_n hS 6 J_HSetter_finish_d5 l1 rfl ?_
  refine iq_if_eq hS 9 J_HSetter_finish_d6 (t := 24) rfl (fun q6 => ?_) rfl (fun q6 => ?_)
  · replace h := ed_pos q6 h
    refine iq_aload_n hS 25 J_HSetter_finish_d24 l0 rfl ?_
    refine iq_iconst hS 26 J_HSetter_finish_d25 (v := (-1)) (by decide +kernel) rfl ?_
    refine iq_putI hS 29 J_HSetter_finish_d26 lf_8_15 (Or.inl rfl) rfl (ka_15 (lw_sI hM)) rfl ?_
    refine iq_aload_n hS 30 J_HSetter_finish_d29 l0 rfl ?_
    refine iq_getR hS 33 J_HSetter_finish_d30 lf_8_25 (Or.inl ⟨_, rfl⟩) (ka_15 (lw_sI (lw_sI hM))) (ra_15_0 (lw_sI (lw_sI hM))) rfl ?_
    refine iq_iconst hS 34 J_HSetter_finish_d33 (v := 0) (by decide +kernel) rfl ?_
    refine iq_putI hS 37 J_HSetter_finish_d34 lf_8_57 (Or.inl rfl) rfl (ka_1 (lw_sI (lw_sI hM))) rfl ?_
    refine iq_aload_n hS 38 J_HSetter_finish_d37 l0 rfl ?_
    refine iq_getI hS 41 J_HSetter_finish_d38 lf_8_51 (Or.inl rfl) (ka_15 (lw_sI (lw_sI (lw_sI hM)))) rfl ?_
    exact iq_iret J_HSetter_finish_d41 rfl rfl ⟨_, rfl, (lw_sI (lw_sI (lw_sI hM))), ed_some h⟩
  · replace h := ed_neg q6 h
    refine iq_aload_n hS 10 J_HSetter_finish_d9 l0 rfl ?_
    refine iq_iconst hS 11 J_HSetter_finish_d10 (v := 0) (by decide +kernel) rfl ?_
    refine iq_putI hS 14 J_HSetter_finish_d11 lf_8_51 (Or.inl rfl) rfl (ka_15 (lw_sI hM)) rfl ?_
    refine iq_aload_n hS 15 J_HSetter_finish_d14 l0 rfl ?_
    refine iq_getR hS 18 J_HSetter_finish_d15 lf_8_29 (Or.inl ⟨_, rfl⟩) (ka_15 (lw_sI (lw_sI hM))) (ra_15_1 (lw_sI (lw_sI hM))) rfl ?_
    refine iq_iconst hS 19 J_HSetter_finish_d18 (v := 0) (by decide +kernel) rfl ?_
    refine iq_putI hS 22 J_HSetter_finish_d19 lf_8_54 (Or.inl rfl) rfl (ka_11 (lw_sI (lw_sI hM))) rfl ?_
    refine iq_iconst hS 23 J_HSetter_finish_d22 (v := (-1)) (by decide +kernel) rfl ?_
    exact iq_iret J_HSetter_finish_d23 rfl rfl ⟨_, rfl, (lw_sI (lw_sI (lw_sI hM))), ed_some h⟩
theorem f_HSetter_finish_fr {p0 : Int32} {M : im_M} {r : Int32 × im_M} (h : f_HSetter_finish p0 M = some r) : fr 0 [(1, 1), (11, 3), (15, 4), (15, 6), (15, 7)] M r.2 := by
  replace h : ed (f_HSetter_finish p0 M) (fun x => x = r) := ⟨r, h, rfl⟩
  unfold f_HSetter_finish at h
  by_cases q6 : p0 = 0
  · replace h := ed_pos q6 h
    exact fr_ret h (fr_F (by decide) (fr_F (by decide) (fr_F (by decide) fr_refl)))
  · replace h := ed_neg q6 h
    exact fr_ret h (fr_F (by decide) (fr_F (by decide) (fr_F (by decide) fr_refl)))
noncomputable def f_H_read (M : im_M) : Option (Int32 × im_M) := bd2 (f_HSetter_followAll M) fun (x1 : Int32) (M1 : im_M) => bd2 (f_HSetter_finish x1 M1) fun (x2 : Int32) (M2 : im_M) => some (x2, M2)
theorem J_H_read_d0 : decode J_H_read.2.1 0 = .ok (.aload_n 0, 1) := by decide +kernel
theorem J_H_read_d1 : decode J_H_read.2.1 1 = .ok (.getfield 30, 3) := by decide +kernel
theorem J_H_read_d4 : decode J_H_read.2.1 4 = .ok (.aload_n 0, 1) := by decide +kernel
theorem J_H_read_d5 : decode J_H_read.2.1 5 = .ok (.getfield 30, 3) := by decide +kernel
theorem J_H_read_d8 : decode J_H_read.2.1 8 = .ok (.invokevirtual 109, 3) := by decide +kernel
theorem J_H_read_d11 : decode J_H_read.2.1 11 = .ok (.invokevirtual 113, 3) := by decide +kernel
theorem J_H_read_d14 : decode J_H_read.2.1 14 = .ok (.ireturn, 1) := by decide +kernel
theorem f_H_read_ok {L : Nat} {xs : Nat → Int32} {dep : Nat} {w : Bool} {M : im_M} {Q : Int32 × im_M → Prop} (hM : lw_S w M) (h : ed (f_H_read M) Q) : ia (tb_G L xs) (dep + 8) J_H_read (rwI w Q) (0, lv_args 0 [.ref 0], [], M) := by
  have hS : im_St (tb_G L xs) (dep + 8) J_H_read (ia (tb_G L xs) (dep + 8) J_H_read (rwI w Q)) := ia_St
  unfold f_H_read at h
  have l0 : im_lk (lv_args 0 [.ref 0]) 0 = some (.ref 0) := rfl
  refine iq_aload_n hS 1 J_H_read_d0 l0 rfl ?_
  refine iq_getR hS 4 J_H_read_d1 lf_11_30 (Or.inl ⟨_, rfl⟩) (ka_0 hM) (ra_0_2 hM) rfl ?_
  refine iq_aload_n hS 5 J_H_read_d4 l0 rfl ?_
  refine iq_getR hS 8 J_H_read_d5 lf_11_30 (Or.inl ⟨_, rfl⟩) (ka_0 hM) (ra_0_2 hM) rfl ?_
  obtain ⟨Q1, hQ1, h⟩ := bd2_ed h
  refine iq_cwI hS 11 J_H_read_d8 rfl (pr_inst (vs := []) lc_11_109 lT_14 rfl rfl (by decide) (by decide) rfl (Nat.le_of_ble_eq_true rfl) (Nat.le_of_ble_eq_true rfl) (fun _ => Or.inl (pr_b (ka_15 hM) (by decide) rfl))) (f_HSetter_followAll_ok (dep := dep + 0) hM h) rfl ?_
  intro x1 M1 hM1 h
  replace h := hQ1 _ _ h
  obtain ⟨Q2, hQ2, h⟩ := bd2_ed h
  refine iq_cwI hS 14 J_H_read_d11 rfl (pr_inst (vs := [_]) lc_11_113 lT_84 rfl rfl (by decide) (by decide) rfl (Nat.le_of_ble_eq_true rfl) (Nat.le_of_ble_eq_true rfl) (fun _ => Or.inl (pr_b (ka_15 hM1) (by decide) rfl))) (f_HSetter_finish_ok (dep := dep + 7) hM1 h) rfl ?_
  intro x2 M2 hM2 h
  replace h := hQ2 _ _ h
  exact iq_iret J_H_read_d14 rfl rfl ⟨_, rfl, hM2, ed_some h⟩
theorem f_H_read_fr {M : im_M} {r : Int32 × im_M} (h : f_H_read M = some r) : fr 258439160 [(1, 1), (1, 6), (1, 11), (11, 3), (15, 4), (15, 6), (15, 7), (15, 8), (15, 9), (15, 10), (15, 11), (15, 12), (15, 15), (15, 16), (19, 3), (23, 0), (23, 1), (23, 2), (23, 4), (23, 5), (23, 6), (23, 8), (23, 9)] M r.2 := by
  replace h : ed (f_H_read M) (fun x => x = r) := ⟨r, h, rfl⟩
  unfold f_H_read at h
  obtain ⟨Q1, hQ1, h⟩ := bd2_ed h
  obtain ⟨⟨x1, M1⟩, e1, h⟩ := h
  replace h := hQ1 _ _ h
  obtain ⟨Q2, hQ2, h⟩ := bd2_ed h
  obtain ⟨⟨x2, M2⟩, e2, h⟩ := h
  replace h := hQ2 _ _ h
  exact fr_ret h (fr_tr (fr_mono (by decide) (by decide +kernel) (f_HSetter_finish_fr e2)) (fr_tr (fr_mono (by decide) (by decide +kernel) (f_HSetter_followAll_fr e1)) fr_refl))
noncomputable def f_H_fault (M : im_M) : Option (Int32) := some (im_i M 15 6)
theorem f_H_fault_ok {L : Nat} {xs : Nat → Int32} {dep : Nat} {w : Bool} {M : im_M} {Q : Int32 → Prop} (hM : lw_S w M) (h : ed (f_H_fault M) Q) : ia (tb_G L xs) dep J_H_fault (rpI M Q) (0, lv_args 0 [.ref 0], [], M) := by
  have hS : im_St (tb_G L xs) dep J_H_fault (ia (tb_G L xs) dep J_H_fault (rpI M Q)) := ia_St
  unfold f_H_fault at h
  have l0 : im_lk (lv_args 0 [.ref 0]) 0 = some (.ref 0) := rfl
  refine iq_aload_n hS 1 J_H_fault_d0 l0 rfl ?_
  refine iq_getR hS 4 J_H_fault_d1 lf_11_30 (Or.inl ⟨_, rfl⟩) (ka_0 hM) (ra_0_2 hM) rfl ?_
  refine iq_getI hS 7 J_H_fault_d4 lf_11_116 (Or.inl rfl) (ka_15 hM) rfl ?_
  exact iq_iret J_H_fault_d7 rfl rfl ⟨_, rfl, rfl, ed_some h⟩
noncomputable def f_H_place (M : im_M) : Option (Int32) := some (im_i M 15 7)
theorem f_H_place_ok {L : Nat} {xs : Nat → Int32} {dep : Nat} {w : Bool} {M : im_M} {Q : Int32 → Prop} (hM : lw_S w M) (h : ed (f_H_place M) Q) : ia (tb_G L xs) dep J_H_place (rpI M Q) (0, lv_args 0 [.ref 0], [], M) := by
  have hS : im_St (tb_G L xs) dep J_H_place (ia (tb_G L xs) dep J_H_place (rpI M Q)) := ia_St
  unfold f_H_place at h
  have l0 : im_lk (lv_args 0 [.ref 0]) 0 = some (.ref 0) := rfl
  refine iq_aload_n hS 1 J_H_place_d0 l0 rfl ?_
  refine iq_getR hS 4 J_H_place_d1 lf_11_30 (Or.inl ⟨_, rfl⟩) (ka_0 hM) (ra_0_2 hM) rfl ?_
  refine iq_getI hS 7 J_H_place_d4 lf_11_119 (Or.inl rfl) (ka_15 hM) rfl ?_
  exact iq_iret J_H_place_d7 rfl rfl ⟨_, rfl, rfl, ed_some h⟩
noncomputable def f_H_drawn (p0 : Int32) (M : im_M) : Option (Int32) := jn0 (fun (_ : Unit) => some (-1)) fun k1 => if p0 < 0 then k1 () else if p0 < (im_i M 0 9) then gd (inb p0 120) <| some (im_i M 66 (Int32.toNatClampNeg p0)) else k1 ()
theorem f_H_drawn_ok {L : Nat} {xs : Nat → Int32} {dep : Nat} {w : Bool} {p0 : Int32} {M : im_M} {Q : Int32 → Prop} (hM : lw_S w M) (h : ed (f_H_drawn p0 M) Q) : ia (tb_G L xs) dep J_H_drawn (rpI M Q) (0, lv_args 0 [.ref 0, .int p0], [], M) := by
  have hS : im_St (tb_G L xs) dep J_H_drawn (ia (tb_G L xs) dep J_H_drawn (rpI M Q)) := ia_St
  unfold f_H_drawn at h
  have l0 : im_lk (lv_args 0 [.ref 0, .int p0]) 0 = some (.ref 0) := rfl
  have l1 : im_lk (lv_args 0 [.ref 0, .int p0]) 1 = some (.int p0) := rfl
  refine iq_iload_n hS 1 J_H_drawn_d0 l1 rfl ?_
  obtain ⟨k1, Q1, hQ1, hk1, h⟩ := jn0_ed h
  have J1 : ∀  (L' : List (Nat × Value)), Q1 () → ia (tb_G L xs) dep J_H_drawn (rpI M Q) (12, L', [], M) := by
    intro  L'  h
    replace h := hQ1  h
    refine iq_iconst hS 13 J_H_drawn_d12 (v := (-1)) (by decide +kernel) rfl ?_
    refine iq_goto hS J_H_drawn_d13 (t := 22) rfl ?_
    exact iq_iret J_H_drawn_d22 rfl rfl ⟨_, rfl, rfl, ed_some h⟩
  refine iq_if_lt hS 4 J_H_drawn_d1 (t := 12) rfl (fun q1 => ?_) rfl (fun q1 => ?_)
  · replace h := ed_pos q1 h
    exact J1  _  (hk1  h)
  · replace h := ed_neg q1 h
    refine iq_iload_n hS 5 J_H_drawn_d4 l1 rfl ?_
    refine iq_aload_n hS 6 J_H_drawn_d5 l0 rfl ?_
    refine iq_getI hS 9 J_H_drawn_d6 lf_11_149 (Or.inl rfl) (ka_0 hM) rfl ?_
    refine iq_icmp_lt hS 12 J_H_drawn_d9 (t := 16) rfl (fun q9 => ?_) rfl (fun q9 => ?_)
    · replace h := ed_pos q9 h
      refine iq_aload_n hS 17 J_H_drawn_d16 l0 rfl ?_
      refine iq_getR hS 20 J_H_drawn_d17 lf_11_73 (Or.inr ⟨_, rfl⟩) (ka_0 hM) (ra_0_8 hM) rfl ?_
      refine iq_iload_n hS 21 J_H_drawn_d20 l1 rfl ?_
      obtain ⟨g21, h⟩ := ed_gd h
      refine iq_iaload hS 22 J_H_drawn_d21 ⟨(ka_66 hM).1, (ka_66 hM).2, g21.1, ix_lt (kl_66 hM) g21.2⟩ rfl ?_
      exact iq_iret J_H_drawn_d22 rfl rfl ⟨_, rfl, rfl, ed_some h⟩
    · replace h := ed_neg q9 h
      exact J1  _  (hk1  h)
noncomputable def f_HSheet_flip_L20 (w : Bool) (v2 : Int32) (v3 : Int32) (v4 : Int64) (x5 : Int32) (x6 : Int32) (M7 : im_M) : Option ((Int32 × Int32 × im_M) ⊕ (Int32 × im_M)) := if 64 ≤ x6 then some (.inr (x5, M7)) else bd2 (if (lg_cmp ((Int64.toUInt64 v4 >>> ((Int32.toInt64 x6).toUInt64 &&& Int64.toUInt64 63)).toInt64 &&& 1) 0) = 0 then some (x5, M7) else if (lg_cmp ((Int32.toInt64 v2) + (Int32.toInt64 x6)) 0) < 0 then some (x5, M7) else if 0 ≤ (lg_cmp ((Int32.toInt64 v2) + (Int32.toInt64 x6)) (Int32.toInt64 (im_i M7 28 0))) then some (x5, M7) else gd (inb ((v3 * 8) + (Int64.toInt32 (((Int32.toInt64 v2) + (Int32.toInt64 x6)) >>> (Int32.toInt64 6 &&& 63) : Int64))) 4096) <| gd (inb ((v3 * 8) + (Int64.toInt32 (((Int32.toInt64 v2) + (Int32.toInt64 x6)) >>> (Int32.toInt64 6 &&& 63) : Int64))) 4096) <| some ((x5 + 1), (im_setL M7 (sw w) (Int32.toNatClampNeg ((v3 * 8) + (Int64.toInt32 (((Int32.toInt64 v2) + (Int32.toInt64 x6)) >>> (Int32.toInt64 6 &&& 63) : Int64)))) ((im_l M7 (sw w) (Int32.toNatClampNeg ((v3 * 8) + (Int64.toInt32 (((Int32.toInt64 v2) + (Int32.toInt64 x6)) >>> (Int32.toInt64 6 &&& 63) : Int64))))) ^^^ ((1 : Int64) <<< (Int32.toInt64 (Int64.toInt32 (((Int32.toInt64 v2) + (Int32.toInt64 x6)) &&& 63)) &&& 63) : Int64))))) fun (y9 : Int32) (M10 : im_M) => some (.inl (y9, (x6 + 1), M10))
noncomputable def f_HSheet_flip (w : Bool) (p0 : Int32) (p1 : Int32) (p2 : Int64) (M : im_M) : Option (Int32 × im_M) := if p1 < 0 then some (0, M) else if p1 < (im_i M 28 1) then bd2 (lp (uc3 (f_HSheet_flip_L20 w p0 p1 p2)) (0, 0, M)) fun (y17 : Int32) (M18 : im_M) => some (y17, M18) else some (0, M)
theorem J_HSheet_flip_d0 : decode J_HSheet_flip.2.1 0 = .ok (.iload_n 2, 1) := by decide +kernel
theorem J_HSheet_flip_d1 : decode J_HSheet_flip.2.1 1 = .ok (.ifCond .lt 11, 3) := by decide +kernel
theorem J_HSheet_flip_d4 : decode J_HSheet_flip.2.1 4 = .ok (.iload_n 2, 1) := by decide +kernel
theorem J_HSheet_flip_d5 : decode J_HSheet_flip.2.1 5 = .ok (.aload_n 0, 1) := by decide +kernel
theorem J_HSheet_flip_d6 : decode J_HSheet_flip.2.1 6 = .ok (.getfield 15, 3) := by decide +kernel
theorem J_HSheet_flip_d9 : decode J_HSheet_flip.2.1 9 = .ok (.if_icmp .lt 5, 3) := by decide +kernel
theorem J_HSheet_flip_d12 : decode J_HSheet_flip.2.1 12 = .ok (.iconst 0, 1) := by decide +kernel
theorem J_HSheet_flip_d13 : decode J_HSheet_flip.2.1 13 = .ok (.ireturn, 1) := by decide +kernel
theorem J_HSheet_flip_d14 : decode J_HSheet_flip.2.1 14 = .ok (.iconst 0, 1) := by decide +kernel
theorem J_HSheet_flip_d15 : decode J_HSheet_flip.2.1 15 = .ok (.istore 5, 2) := by decide +kernel
theorem J_HSheet_flip_d17 : decode J_HSheet_flip.2.1 17 = .ok (.iconst 0, 1) := by decide +kernel
theorem J_HSheet_flip_d18 : decode J_HSheet_flip.2.1 18 = .ok (.istore 6, 2) := by decide +kernel
theorem J_HSheet_flip_d20 : decode J_HSheet_flip.2.1 20 = .ok (.iload 6, 2) := by decide +kernel
theorem J_HSheet_flip_d22 : decode J_HSheet_flip.2.1 22 = .ok (.bipush 64, 2) := by decide +kernel
theorem J_HSheet_flip_d24 : decode J_HSheet_flip.2.1 24 = .ok (.if_icmp .ge 77, 3) := by decide +kernel
theorem J_HSheet_flip_d27 : decode J_HSheet_flip.2.1 27 = .ok (.iload_n 1, 1) := by decide +kernel
theorem J_HSheet_flip_d28 : decode J_HSheet_flip.2.1 28 = .ok (.i2l, 1) := by decide +kernel
theorem J_HSheet_flip_d29 : decode J_HSheet_flip.2.1 29 = .ok (.iload 6, 2) := by decide +kernel
theorem J_HSheet_flip_d31 : decode J_HSheet_flip.2.1 31 = .ok (.i2l, 1) := by decide +kernel
theorem J_HSheet_flip_d32 : decode J_HSheet_flip.2.1 32 = .ok (.ladd, 1) := by decide +kernel
theorem J_HSheet_flip_d33 : decode J_HSheet_flip.2.1 33 = .ok (.lstore 7, 2) := by decide +kernel
theorem J_HSheet_flip_d35 : decode J_HSheet_flip.2.1 35 = .ok (.lload_n 3, 1) := by decide +kernel
theorem J_HSheet_flip_d36 : decode J_HSheet_flip.2.1 36 = .ok (.iload 6, 2) := by decide +kernel
theorem J_HSheet_flip_d38 : decode J_HSheet_flip.2.1 38 = .ok (.lushr, 1) := by decide +kernel
theorem J_HSheet_flip_d39 : decode J_HSheet_flip.2.1 39 = .ok (.lconst 1, 1) := by decide +kernel
theorem J_HSheet_flip_d40 : decode J_HSheet_flip.2.1 40 = .ok (.land, 1) := by decide +kernel
theorem J_HSheet_flip_d41 : decode J_HSheet_flip.2.1 41 = .ok (.lconst 0, 1) := by decide +kernel
theorem J_HSheet_flip_d42 : decode J_HSheet_flip.2.1 42 = .ok (.lcmp, 1) := by decide +kernel
theorem J_HSheet_flip_d43 : decode J_HSheet_flip.2.1 43 = .ok (.ifCond .eq 52, 3) := by decide +kernel
theorem J_HSheet_flip_d46 : decode J_HSheet_flip.2.1 46 = .ok (.lload 7, 2) := by decide +kernel
theorem J_HSheet_flip_d48 : decode J_HSheet_flip.2.1 48 = .ok (.lconst 0, 1) := by decide +kernel
theorem J_HSheet_flip_d49 : decode J_HSheet_flip.2.1 49 = .ok (.lcmp, 1) := by decide +kernel
theorem J_HSheet_flip_d50 : decode J_HSheet_flip.2.1 50 = .ok (.ifCond .lt 45, 3) := by decide +kernel
theorem J_HSheet_flip_d53 : decode J_HSheet_flip.2.1 53 = .ok (.lload 7, 2) := by decide +kernel
theorem J_HSheet_flip_d55 : decode J_HSheet_flip.2.1 55 = .ok (.aload_n 0, 1) := by decide +kernel
theorem J_HSheet_flip_d56 : decode J_HSheet_flip.2.1 56 = .ok (.getfield 9, 3) := by decide +kernel
theorem J_HSheet_flip_d59 : decode J_HSheet_flip.2.1 59 = .ok (.i2l, 1) := by decide +kernel
theorem J_HSheet_flip_d60 : decode J_HSheet_flip.2.1 60 = .ok (.lcmp, 1) := by decide +kernel
theorem J_HSheet_flip_d61 : decode J_HSheet_flip.2.1 61 = .ok (.ifCond .ge 34, 3) := by decide +kernel
theorem J_HSheet_flip_d64 : decode J_HSheet_flip.2.1 64 = .ok (.aload_n 0, 1) := by decide +kernel
theorem J_HSheet_flip_d65 : decode J_HSheet_flip.2.1 65 = .ok (.getfield 18, 3) := by decide +kernel
theorem J_HSheet_flip_d68 : decode J_HSheet_flip.2.1 68 = .ok (.iload_n 2, 1) := by decide +kernel
theorem J_HSheet_flip_d69 : decode J_HSheet_flip.2.1 69 = .ok (.bipush 8, 2) := by decide +kernel
theorem J_HSheet_flip_d71 : decode J_HSheet_flip.2.1 71 = .ok (.imul, 1) := by decide +kernel
theorem J_HSheet_flip_d72 : decode J_HSheet_flip.2.1 72 = .ok (.lload 7, 2) := by decide +kernel
theorem J_HSheet_flip_d74 : decode J_HSheet_flip.2.1 74 = .ok (.bipush 6, 2) := by decide +kernel
theorem J_HSheet_flip_d76 : decode J_HSheet_flip.2.1 76 = .ok (.lshr, 1) := by decide +kernel
theorem J_HSheet_flip_d77 : decode J_HSheet_flip.2.1 77 = .ok (.l2i, 1) := by decide +kernel
theorem J_HSheet_flip_d78 : decode J_HSheet_flip.2.1 78 = .ok (.iadd, 1) := by decide +kernel
theorem J_HSheet_flip_d79 : decode J_HSheet_flip.2.1 79 = .ok (.dup2, 1) := by decide +kernel
theorem J_HSheet_flip_d80 : decode J_HSheet_flip.2.1 80 = .ok (.laload, 1) := by decide +kernel
theorem J_HSheet_flip_d81 : decode J_HSheet_flip.2.1 81 = .ok (.lconst 1, 1) := by decide +kernel
theorem J_HSheet_flip_d82 : decode J_HSheet_flip.2.1 82 = .ok (.lload 7, 2) := by decide +kernel
theorem J_HSheet_flip_d84 : decode J_HSheet_flip.2.1 84 = .ok (.ldc2_w 53, 3) := by decide +kernel
theorem J_HSheet_flip_d87 : decode J_HSheet_flip.2.1 87 = .ok (.land, 1) := by decide +kernel
theorem J_HSheet_flip_d88 : decode J_HSheet_flip.2.1 88 = .ok (.l2i, 1) := by decide +kernel
theorem J_HSheet_flip_d89 : decode J_HSheet_flip.2.1 89 = .ok (.lshl, 1) := by decide +kernel
theorem J_HSheet_flip_d90 : decode J_HSheet_flip.2.1 90 = .ok (.lxor, 1) := by decide +kernel
theorem J_HSheet_flip_d91 : decode J_HSheet_flip.2.1 91 = .ok (.lastore, 1) := by decide +kernel
theorem J_HSheet_flip_d92 : decode J_HSheet_flip.2.1 92 = .ok (.iinc 5 1, 3) := by decide +kernel
theorem J_HSheet_flip_d95 : decode J_HSheet_flip.2.1 95 = .ok (.iinc 6 1, 3) := by decide +kernel
theorem J_HSheet_flip_d98 : decode J_HSheet_flip.2.1 98 = .ok (.goto (-78), 3) := by decide +kernel
theorem J_HSheet_flip_d101 : decode J_HSheet_flip.2.1 101 = .ok (.iload 5, 2) := by decide +kernel
theorem J_HSheet_flip_d103 : decode J_HSheet_flip.2.1 103 = .ok (.ireturn, 1) := by decide +kernel
theorem f_HSheet_flip_ok {L : Nat} {xs : Nat → Int32} {dep : Nat} {w : Bool} {p0 : Int32} {p1 : Int32} {p2 : Int64} {M : im_M} {Q : Int32 × im_M → Prop} (hM : lw_S w M) (h : ed (f_HSheet_flip w p0 p1 p2 M) Q) : ia (tb_G L xs) dep J_HSheet_flip (rwI w Q) (0, lv_args 0 [.ref 28, .int p0, .int p1, .long p2], [], M) := by
  have hS : im_St (tb_G L xs) dep J_HSheet_flip (ia (tb_G L xs) dep J_HSheet_flip (rwI w Q)) := ia_St
  unfold f_HSheet_flip at h
  have l0 : im_lk (lv_args 0 [.ref 28, .int p0, .int p1, .long p2]) 0 = some (.ref 28) := rfl
  have l1 : im_lk (lv_args 0 [.ref 28, .int p0, .int p1, .long p2]) 1 = some (.int p0) := rfl
  have l2 : im_lk (lv_args 0 [.ref 28, .int p0, .int p1, .long p2]) 2 = some (.int p1) := rfl
  have l3 : im_lk (lv_args 0 [.ref 28, .int p0, .int p1, .long p2]) 3 = some (.long p2) := rfl
  refine iq_iload_n hS 1 J_HSheet_flip_d0 l2 rfl ?_
  refine iq_if_lt hS 4 J_HSheet_flip_d1 (t := 12) rfl (fun q1 => ?_) rfl (fun q1 => ?_)
  · replace h := ed_pos q1 h
    refine iq_iconst hS 13 J_HSheet_flip_d12 (v := 0) (by decide +kernel) rfl ?_
    exact iq_iret J_HSheet_flip_d13 rfl rfl ⟨_, rfl, hM, ed_some h⟩
  · replace h := ed_neg q1 h
    refine iq_iload_n hS 5 J_HSheet_flip_d4 l2 rfl ?_
    refine iq_aload_n hS 6 J_HSheet_flip_d5 l0 rfl ?_
    refine iq_getI hS 9 J_HSheet_flip_d6 lf_9_15 (Or.inl rfl) (ka_28 hM) rfl ?_
    refine iq_icmp_lt hS 12 J_HSheet_flip_d9 (t := 14) rfl (fun q9 => ?_) rfl (fun q9 => ?_)
    · replace h := ed_pos q9 h
      refine iq_iconst hS 15 J_HSheet_flip_d14 (v := 0) (by decide +kernel) rfl ?_
      refine iq_istore hS 17 J_HSheet_flip_d15 (by decide) rfl ?_
      refine iq_iconst hS 18 J_HSheet_flip_d17 (v := 0) (by decide +kernel) rfl ?_
      refine iq_istore hS 20 J_HSheet_flip_d18 (by decide) rfl ?_
      obtain ⟨Q1, hQ1, h⟩ := bd2_ed h
      have K1 : ∀ (y2 : Int32) (M3 : im_M) (L' : List (Nat × Value)), lw_S w M3 → im_lk L' 5 = some (.int y2) → Q1 (y2, M3) → ia (tb_G L xs) dep J_HSheet_flip (rwI w Q) (101, L', [], M3) := by
        intro y2 M3 L' hM3 l4 h
        replace h := hQ1 _ _ h
        refine iq_iload hS 103 J_HSheet_flip_d101 l4 rfl ?_
        exact iq_iret J_HSheet_flip_d103 rfl rfl ⟨_, rfl, hM3, ed_some h⟩
      obtain ⟨r1, hr1, hq1⟩ := h
      obtain ⟨n1, hn1⟩ := lp_n hr1
      have I1 : ∀ (n : Nat) (x5 : Int32) (x6 : Int32) (M7 : im_M) (L' : List (Nat × Value)), lw_S w M7 → im_lk L' 0 = some (.ref 28) → im_lk L' 1 = some (.int p0) → im_lk L' 2 = some (.int p1) → im_lk L' 3 = some (.long p2) → im_lk L' 5 = some (.int x5) → im_lk L' 6 = some (.int x6) → lpn (uc3 (f_HSheet_flip_L20 w p0 p1 p2)) n (x5, x6, M7) = some r1 → ia (tb_G L xs) dep J_HSheet_flip (rwI w Q) (20, L', [], M7) := by
        intro n
        induction n with
        | zero => intro x5 x6 M7 L' hM7 l8 l9 l10 l11 l12 l13 hn; exact (lpn_0 hn).elim
        | succ n ih =>
          intro x5 x6 M7 L' hM7 l8 l9 l10 l11 l12 l13 hn
          have h := lpn_ed3 hn
          unfold f_HSheet_flip_L20 at h
          refine iq_iload hS 22 J_HSheet_flip_d20 l13 rfl ?_
          refine iq_bipush hS 24 J_HSheet_flip_d22 (v := 64) (by decide +kernel) rfl ?_
          refine iq_icmp_ge hS 27 J_HSheet_flip_d24 (t := 101) rfl (fun q24 => ?_) rfl (fun q24 => ?_)
          · replace h := ed_pos q24 h
            exact K1 _ _ _ hM7 l12 (lq_r h hq1)
          · replace h := ed_neg q24 h
            refine iq_iload_n hS 28 J_HSheet_flip_d27 l9 rfl ?_
            refine iq_i2l hS 29 J_HSheet_flip_d28 rfl ?_
            refine iq_iload hS 31 J_HSheet_flip_d29 l13 rfl ?_
            refine iq_i2l hS 32 J_HSheet_flip_d31 rfl ?_
            refine iq_ladd hS 33 J_HSheet_flip_d32 rfl ?_
            refine iq_lstore hS 35 J_HSheet_flip_d33 (by decide) rfl ?_
            refine iq_lload_n hS 36 J_HSheet_flip_d35 (lk_2l l11 (by decide) (by decide) (by decide)) rfl ?_
            refine iq_iload hS 38 J_HSheet_flip_d36 (lk_2i l13 (by decide) (by decide)) rfl ?_
            refine iq_lushr hS 39 J_HSheet_flip_d38 rfl ?_
            refine iq_lconst hS 40 J_HSheet_flip_d39 (v := 1) (by decide +kernel) rfl ?_
            refine iq_land hS 41 J_HSheet_flip_d40 rfl ?_
            refine iq_lconst hS 42 J_HSheet_flip_d41 (v := 0) (by decide +kernel) rfl ?_
            refine iq_lcmp hS 43 J_HSheet_flip_d42 rfl ?_
            obtain ⟨Q14, hQ14, h⟩ := bd2_ed h
            have J14 : ∀ (y15 : Int32) (M16 : im_M) (L' : List (Nat × Value)), lw_S w M16 → im_lk L' 0 = some (.ref 28) → im_lk L' 1 = some (.int p0) → im_lk L' 2 = some (.int p1) → im_lk L' 3 = some (.long p2) → im_lk L' 5 = some (.int y15) → im_lk L' 6 = some (.int x6) → Q14 (y15, M16) → ia (tb_G L xs) dep J_HSheet_flip (rwI w Q) (95, L', [], M16) := by
              intro y15 M16 L' hM16 l17 l18 l19 l20 l21 l22 h
              replace h := hQ14 _ _ h
              refine iq_iincv hS 98 J_HSheet_flip_d95 (c := 1) (by decide +kernel) l22 (by decide) rfl ?_
              refine iq_goto hS J_HSheet_flip_d98 (t := 20) rfl ?_
              exact ih _ _ _ _ hM16 (lk_1r l17 (by decide)) (lk_1i l18 (by decide)) (lk_1i l19 (by decide)) (lk_1l l20 (by decide) (by decide)) (lk_1i l21 (by decide)) lk_1s (lq_l h)
            refine iq_if_eq hS 46 J_HSheet_flip_d43 (t := 95) rfl (fun q43 => ?_) rfl (fun q43 => ?_)
            · replace h := ed_pos q43 h
              exact J14 _ _ _ hM7 (lk_2r l8 (by decide) (by decide)) (lk_2i l9 (by decide) (by decide)) (lk_2i l10 (by decide) (by decide)) (lk_2l l11 (by decide) (by decide) (by decide)) (lk_2i l12 (by decide) (by decide)) (lk_2i l13 (by decide) (by decide)) (ed_some h)
            · replace h := ed_neg q43 h
              refine iq_lload hS 48 J_HSheet_flip_d46 lk_2s rfl ?_
              refine iq_lconst hS 49 J_HSheet_flip_d48 (v := 0) (by decide +kernel) rfl ?_
              refine iq_lcmp hS 50 J_HSheet_flip_d49 rfl ?_
              refine iq_if_lt hS 53 J_HSheet_flip_d50 (t := 95) rfl (fun q50 => ?_) rfl (fun q50 => ?_)
              · replace h := ed_pos q50 h
                exact J14 _ _ _ hM7 (lk_2r l8 (by decide) (by decide)) (lk_2i l9 (by decide) (by decide)) (lk_2i l10 (by decide) (by decide)) (lk_2l l11 (by decide) (by decide) (by decide)) (lk_2i l12 (by decide) (by decide)) (lk_2i l13 (by decide) (by decide)) (ed_some h)
              · replace h := ed_neg q50 h
                refine iq_lload hS 55 J_HSheet_flip_d53 lk_2s rfl ?_
                refine iq_aload_n hS 56 J_HSheet_flip_d55 (lk_2r l8 (by decide) (by decide)) rfl ?_
                refine iq_getI hS 59 J_HSheet_flip_d56 lf_9_9 (Or.inl rfl) (ka_28 hM7) rfl ?_
                refine iq_i2l hS 60 J_HSheet_flip_d59 rfl ?_
                refine iq_lcmp hS 61 J_HSheet_flip_d60 rfl ?_
                refine iq_if_ge hS 64 J_HSheet_flip_d61 (t := 95) rfl (fun q61 => ?_) rfl (fun q61 => ?_)
                · replace h := ed_pos q61 h
                  exact J14 _ _ _ hM7 (lk_2r l8 (by decide) (by decide)) (lk_2i l9 (by decide) (by decide)) (lk_2i l10 (by decide) (by decide)) (lk_2l l11 (by decide) (by decide) (by decide)) (lk_2i l12 (by decide) (by decide)) (lk_2i l13 (by decide) (by decide)) (ed_some h)
                · replace h := ed_neg q61 h
                  refine iq_aload_n hS 65 J_HSheet_flip_d64 (lk_2r l8 (by decide) (by decide)) rfl ?_
                  refine iq_getR hS 68 J_HSheet_flip_d65 lf_9_18 (Or.inr ⟨_, rfl⟩) (ka_28 hM7) (ra_28_sw hM7) rfl ?_
                  refine iq_iload_n hS 69 J_HSheet_flip_d68 (lk_2i l10 (by decide) (by decide)) rfl ?_
                  refine iq_bipush hS 71 J_HSheet_flip_d69 (v := 8) (by decide +kernel) rfl ?_
                  refine iq_imul hS 72 J_HSheet_flip_d71 rfl ?_
                  refine iq_lload hS 74 J_HSheet_flip_d72 lk_2s rfl ?_
                  refine iq_bipush hS 76 J_HSheet_flip_d74 (v := 6) (by decide +kernel) rfl ?_
                  refine iq_lshr hS 77 J_HSheet_flip_d76 rfl ?_
                  refine iq_l2i hS 78 J_HSheet_flip_d77 rfl ?_
                  refine iq_iadd hS 79 J_HSheet_flip_d78 rfl ?_
                  refine iq_dup2 hS 80 J_HSheet_flip_d79 rfl rfl rfl ?_
                  obtain ⟨g80, h⟩ := ed_gd h
                  refine iq_laload hS 81 J_HSheet_flip_d80 ⟨(ka_sw hM7).1, (ka_sw hM7).2, g80.1, ix_lt (kl_sw hM7) g80.2⟩ rfl ?_
                  refine iq_lconst hS 82 J_HSheet_flip_d81 (v := 1) (by decide +kernel) rfl ?_
                  refine iq_lload hS 84 J_HSheet_flip_d82 lk_2s rfl ?_
                  refine iq_ldc2_w hS 87 J_HSheet_flip_d84 lk_9_53 rfl ?_
                  refine iq_land hS 88 J_HSheet_flip_d87 rfl ?_
                  refine iq_l2i hS 89 J_HSheet_flip_d88 rfl ?_
                  refine iq_lshl hS 90 J_HSheet_flip_d89 rfl ?_
                  refine iq_lxor hS 91 J_HSheet_flip_d90 rfl ?_
                  obtain ⟨g91, h⟩ := ed_gd h
                  refine iq_lastore hS 92 J_HSheet_flip_d91 ⟨(ka_sw hM7).1, (ka_sw hM7).2, g91.1, ix_lt (kl_sw hM7) g91.2⟩ rfl ?_
                  refine iq_iincv hS 95 J_HSheet_flip_d92 (c := 1) (by decide +kernel) (lk_2i l12 (by decide) (by decide)) (by decide) rfl ?_
                  exact J14 _ _ _ (lw_sL hM7) (lk_1r (lk_2r l8 (by decide) (by decide)) (by decide)) (lk_1i (lk_2i l9 (by decide) (by decide)) (by decide)) (lk_1i (lk_2i l10 (by decide) (by decide)) (by decide)) (lk_1l (lk_2l l11 (by decide) (by decide) (by decide)) (by decide) (by decide)) lk_1s (lk_1i (lk_2i l13 (by decide) (by decide)) (by decide)) (ed_some h)
      exact I1 n1 _ _ _ _ hM (lk_1r (lk_1r l0 (by decide)) (by decide)) (lk_1i (lk_1i l1 (by decide)) (by decide)) (lk_1i (lk_1i l2 (by decide)) (by decide)) (lk_1l (lk_1l l3 (by decide) (by decide)) (by decide) (by decide)) (lk_1i lk_1s (by decide)) lk_1s hn1
    · replace h := ed_neg q9 h
      refine iq_iconst hS 13 J_HSheet_flip_d12 (v := 0) (by decide +kernel) rfl ?_
      exact iq_iret J_HSheet_flip_d13 rfl rfl ⟨_, rfl, hM, ed_some h⟩
theorem f_HSheet_flip_fr {w : Bool} {p0 : Int32} {p1 : Int32} {p2 : Int64} {M : im_M} {r : Int32 × im_M} (h : f_HSheet_flip w p0 p1 p2 M = some r) : fr 1610612736 [] M r.2 := by
  replace h : ed (f_HSheet_flip w p0 p1 p2 M) (fun x => x = r) := ⟨r, h, rfl⟩
  unfold f_HSheet_flip at h
  by_cases q1 : p1 < 0
  · replace h := ed_pos q1 h
    exact fr_ret h fr_refl
  · replace h := ed_neg q1 h
    by_cases q9 : p1 < (im_i M 28 1)
    · replace h := ed_pos q9 h
      obtain ⟨Q1, hQ1, h⟩ := bd2_ed h
      have K1 : ∀ (y2 : Int32) (M3 : im_M), fr 1610612736 [] M M3 → Q1 (y2, M3) → fr 1610612736 [] M r.2 := by
        intro y2 M3 hM3 h
        replace h := hQ1 _ _ h
        exact fr_ret h hM3
      obtain ⟨r1, hr1, hq1⟩ := h
      obtain ⟨n1, hn1⟩ := lp_n hr1
      have I1 : ∀ (n : Nat) (x4 : Int32) (x5 : Int32) (M6 : im_M), fr 1610612736 [] M M6 → lpn (uc3 (f_HSheet_flip_L20 w p0 p1 p2)) n (x4, x5, M6) = some r1 → fr 1610612736 [] M r.2 := by
        intro n
        induction n with
        | zero => intro x4 x5 M6 hM6 hn; exact (lpn_0 hn).elim
        | succ n ih =>
          intro x4 x5 M6 hM6 hn
          have h := lpn_ed3 hn
          unfold f_HSheet_flip_L20 at h
          by_cases q24 : 64 ≤ x5
          · replace h := ed_pos q24 h
            exact K1 _ _ hM6 (lq_r h hq1)
          · replace h := ed_neg q24 h
            obtain ⟨Q7, hQ7, h⟩ := bd2_ed h
            have J7 : ∀ (y8 : Int32) (M9 : im_M), fr 1610612736 [] M M9 → Q7 (y8, M9) → fr 1610612736 [] M r.2 := by
              intro y8 M9 hM9 h
              replace h := hQ7 _ _ h
              exact ih _ _ _ hM9 (lq_l h)
            by_cases q43 : (lg_cmp ((Int64.toUInt64 p2 >>> ((Int32.toInt64 x5).toUInt64 &&& Int64.toUInt64 63)).toInt64 &&& 1) 0) = 0
            · replace h := ed_pos q43 h
              exact J7 _ _ hM6 (ed_some h)
            · replace h := ed_neg q43 h
              by_cases q50 : (lg_cmp ((Int32.toInt64 p0) + (Int32.toInt64 x5)) 0) < 0
              · replace h := ed_pos q50 h
                exact J7 _ _ hM6 (ed_some h)
              · replace h := ed_neg q50 h
                by_cases q61 : 0 ≤ (lg_cmp ((Int32.toInt64 p0) + (Int32.toInt64 x5)) (Int32.toInt64 (im_i M6 28 0)))
                · replace h := ed_pos q61 h
                  exact J7 _ _ hM6 (ed_some h)
                · replace h := ed_neg q61 h
                  obtain ⟨g80, h⟩ := ed_gd h
                  obtain ⟨g91, h⟩ := ed_gd h
                  exact J7 _ _ (fr_L (by cases w <;> decide) hM6) (ed_some h)
      exact I1 n1 _ _ _ fr_refl hn1
    · replace h := ed_neg q9 h
      exact fr_ret h fr_refl
noncomputable def f_H_spoil (w : Bool) (p0 : Int32) (p1 : Int32) (p2 : Int64) (M : im_M) : Option (Int32 × im_M) := bd2 (f_HSheet_flip w p0 p1 p2 M) fun (x1 : Int32) (M1 : im_M) => some (x1, M1)
theorem J_H_spoil_d0 : decode J_H_spoil.2.1 0 = .ok (.aload_n 0, 1) := by decide +kernel
theorem J_H_spoil_d1 : decode J_H_spoil.2.1 1 = .ok (.getfield 37, 3) := by decide +kernel
theorem J_H_spoil_d4 : decode J_H_spoil.2.1 4 = .ok (.iload_n 1, 1) := by decide +kernel
theorem J_H_spoil_d5 : decode J_H_spoil.2.1 5 = .ok (.iload_n 2, 1) := by decide +kernel
theorem J_H_spoil_d6 : decode J_H_spoil.2.1 6 = .ok (.lload_n 3, 1) := by decide +kernel
theorem J_H_spoil_d7 : decode J_H_spoil.2.1 7 = .ok (.invokevirtual 156, 3) := by decide +kernel
theorem J_H_spoil_d10 : decode J_H_spoil.2.1 10 = .ok (.ireturn, 1) := by decide +kernel
theorem f_H_spoil_ok {L : Nat} {xs : Nat → Int32} {dep : Nat} {w : Bool} {p0 : Int32} {p1 : Int32} {p2 : Int64} {M : im_M} {Q : Int32 × im_M → Prop} (hM : lw_S w M) (h : ed (f_H_spoil w p0 p1 p2 M) Q) : ia (tb_G L xs) (dep + 1) J_H_spoil (rwI w Q) (0, lv_args 0 [.ref 0, .int p0, .int p1, .long p2], [], M) := by
  have hS : im_St (tb_G L xs) (dep + 1) J_H_spoil (ia (tb_G L xs) (dep + 1) J_H_spoil (rwI w Q)) := ia_St
  unfold f_H_spoil at h
  have l0 : im_lk (lv_args 0 [.ref 0, .int p0, .int p1, .long p2]) 0 = some (.ref 0) := rfl
  have l1 : im_lk (lv_args 0 [.ref 0, .int p0, .int p1, .long p2]) 1 = some (.int p0) := rfl
  have l2 : im_lk (lv_args 0 [.ref 0, .int p0, .int p1, .long p2]) 2 = some (.int p1) := rfl
  have l3 : im_lk (lv_args 0 [.ref 0, .int p0, .int p1, .long p2]) 3 = some (.long p2) := rfl
  refine iq_aload_n hS 1 J_H_spoil_d0 l0 rfl ?_
  refine iq_getR hS 4 J_H_spoil_d1 lf_11_37 (Or.inl ⟨_, rfl⟩) (ka_0 hM) (ra_0_3 hM) rfl ?_
  refine iq_iload_n hS 5 J_H_spoil_d4 l1 rfl ?_
  refine iq_iload_n hS 6 J_H_spoil_d5 l2 rfl ?_
  refine iq_lload_n hS 7 J_H_spoil_d6 l3 rfl ?_
  obtain ⟨Q1, hQ1, h⟩ := bd2_ed h
  refine iq_cwI hS 10 J_H_spoil_d7 rfl (pr_inst (vs := [_, _, _]) lc_11_156 lT_89 rfl rfl (by decide) (by decide) rfl (Nat.le_of_ble_eq_true rfl) (Nat.le_of_ble_eq_true rfl) (fun _ => Or.inl (pr_b (ka_28 hM) (by decide) rfl))) (f_HSheet_flip_ok (dep := dep + 0) hM h) rfl ?_
  intro x1 M1 hM1 h
  replace h := hQ1 _ _ h
  exact iq_iret J_H_spoil_d10 rfl rfl ⟨_, rfl, hM1, ed_some h⟩
theorem f_H_spoil_fr {w : Bool} {p0 : Int32} {p1 : Int32} {p2 : Int64} {M : im_M} {r : Int32 × im_M} (h : f_H_spoil w p0 p1 p2 M = some r) : fr 1610612736 [] M r.2 := by
  replace h : ed (f_H_spoil w p0 p1 p2 M) (fun x => x = r) := ⟨r, h, rfl⟩
  unfold f_H_spoil at h
  obtain ⟨Q1, hQ1, h⟩ := bd2_ed h
  obtain ⟨⟨x1, M1⟩, e1, h⟩ := h
  replace h := hQ1 _ _ h
  exact fr_ret h (fr_tr (fr_mono (by decide) (by decide +kernel) (f_HSheet_flip_fr e1)) fr_refl)
noncomputable def f_HSheet_word (w : Bool) (p0 : Int32) (p1 : Int32) (M : im_M) : Option (Int64) := jn0 (fun (_ : Unit) => some 0) fun k1 => if p0 < 0 then k1 () else if p0 < 8 then gd (inb ((p1 * 8) + p0) 4096) <| some (im_l M (sw w) (Int32.toNatClampNeg ((p1 * 8) + p0))) else k1 ()
theorem J_HSheet_word_d0 : decode J_HSheet_word.2.1 0 = .ok (.iload_n 1, 1) := by decide +kernel
theorem J_HSheet_word_d1 : decode J_HSheet_word.2.1 1 = .ok (.ifCond .lt 9, 3) := by decide +kernel
theorem J_HSheet_word_d4 : decode J_HSheet_word.2.1 4 = .ok (.iload_n 1, 1) := by decide +kernel
theorem J_HSheet_word_d5 : decode J_HSheet_word.2.1 5 = .ok (.bipush 8, 2) := by decide +kernel
theorem J_HSheet_word_d7 : decode J_HSheet_word.2.1 7 = .ok (.if_icmp .lt 7, 3) := by decide +kernel
theorem J_HSheet_word_d10 : decode J_HSheet_word.2.1 10 = .ok (.lconst 0, 1) := by decide +kernel
theorem J_HSheet_word_d11 : decode J_HSheet_word.2.1 11 = .ok (.goto 14, 3) := by decide +kernel
theorem J_HSheet_word_d14 : decode J_HSheet_word.2.1 14 = .ok (.aload_n 0, 1) := by decide +kernel
theorem J_HSheet_word_d15 : decode J_HSheet_word.2.1 15 = .ok (.getfield 18, 3) := by decide +kernel
theorem J_HSheet_word_d18 : decode J_HSheet_word.2.1 18 = .ok (.iload_n 2, 1) := by decide +kernel
theorem J_HSheet_word_d19 : decode J_HSheet_word.2.1 19 = .ok (.bipush 8, 2) := by decide +kernel
theorem J_HSheet_word_d21 : decode J_HSheet_word.2.1 21 = .ok (.imul, 1) := by decide +kernel
theorem J_HSheet_word_d22 : decode J_HSheet_word.2.1 22 = .ok (.iload_n 1, 1) := by decide +kernel
theorem J_HSheet_word_d23 : decode J_HSheet_word.2.1 23 = .ok (.iadd, 1) := by decide +kernel
theorem J_HSheet_word_d24 : decode J_HSheet_word.2.1 24 = .ok (.laload, 1) := by decide +kernel
theorem J_HSheet_word_d25 : decode J_HSheet_word.2.1 25 = .ok (.lreturn, 1) := by decide +kernel
theorem f_HSheet_word_ok {L : Nat} {xs : Nat → Int32} {dep : Nat} {w : Bool} {p0 : Int32} {p1 : Int32} {M : im_M} {Q : Int64 → Prop} (hM : lw_S w M) (h : ed (f_HSheet_word w p0 p1 M) Q) : ia (tb_G L xs) dep J_HSheet_word (rpL M Q) (0, lv_args 0 [.ref 28, .int p0, .int p1], [], M) := by
  have hS : im_St (tb_G L xs) dep J_HSheet_word (ia (tb_G L xs) dep J_HSheet_word (rpL M Q)) := ia_St
  unfold f_HSheet_word at h
  have l0 : im_lk (lv_args 0 [.ref 28, .int p0, .int p1]) 0 = some (.ref 28) := rfl
  have l1 : im_lk (lv_args 0 [.ref 28, .int p0, .int p1]) 1 = some (.int p0) := rfl
  have l2 : im_lk (lv_args 0 [.ref 28, .int p0, .int p1]) 2 = some (.int p1) := rfl
  refine iq_iload_n hS 1 J_HSheet_word_d0 l1 rfl ?_
  obtain ⟨k1, Q1, hQ1, hk1, h⟩ := jn0_ed h
  have J1 : ∀  (L' : List (Nat × Value)), Q1 () → ia (tb_G L xs) dep J_HSheet_word (rpL M Q) (10, L', [], M) := by
    intro  L'  h
    replace h := hQ1  h
    refine iq_lconst hS 11 J_HSheet_word_d10 (v := 0) (by decide +kernel) rfl ?_
    refine iq_goto hS J_HSheet_word_d11 (t := 25) rfl ?_
    exact iq_lret J_HSheet_word_d25 rfl ⟨_, rfl, rfl, ed_some h⟩
  refine iq_if_lt hS 4 J_HSheet_word_d1 (t := 10) rfl (fun q1 => ?_) rfl (fun q1 => ?_)
  · replace h := ed_pos q1 h
    exact J1  _  (hk1  h)
  · replace h := ed_neg q1 h
    refine iq_iload_n hS 5 J_HSheet_word_d4 l1 rfl ?_
    refine iq_bipush hS 7 J_HSheet_word_d5 (v := 8) (by decide +kernel) rfl ?_
    refine iq_icmp_lt hS 10 J_HSheet_word_d7 (t := 14) rfl (fun q7 => ?_) rfl (fun q7 => ?_)
    · replace h := ed_pos q7 h
      refine iq_aload_n hS 15 J_HSheet_word_d14 l0 rfl ?_
      refine iq_getR hS 18 J_HSheet_word_d15 lf_9_18 (Or.inr ⟨_, rfl⟩) (ka_28 hM) (ra_28_sw hM) rfl ?_
      refine iq_iload_n hS 19 J_HSheet_word_d18 l2 rfl ?_
      refine iq_bipush hS 21 J_HSheet_word_d19 (v := 8) (by decide +kernel) rfl ?_
      refine iq_imul hS 22 J_HSheet_word_d21 rfl ?_
      refine iq_iload_n hS 23 J_HSheet_word_d22 l1 rfl ?_
      refine iq_iadd hS 24 J_HSheet_word_d23 rfl ?_
      obtain ⟨g24, h⟩ := ed_gd h
      refine iq_laload hS 25 J_HSheet_word_d24 ⟨(ka_sw hM).1, (ka_sw hM).2, g24.1, ix_lt (kl_sw hM) g24.2⟩ rfl ?_
      exact iq_lret J_HSheet_word_d25 rfl ⟨_, rfl, rfl, ed_some h⟩
    · replace h := ed_neg q7 h
      exact J1  _  (hk1  h)
noncomputable def f_HSheet_wordFrom (w : Bool) (p0 : Int32) (p1 : Int32) (M : im_M) : Option (Int64) := if p1 < 0 then some 0 else if p1 < (im_i M 28 1) then bd1 (f_HSheet_word w (p0 >>> (6 &&& 31 : Int32) : Int32) p1 M) fun (x1 : Int64) => if ¬ (p0 &&& 63) = 0 then bd1 (f_HSheet_word w ((p0 >>> (6 &&& 31 : Int32) : Int32) + 1) p1 M) fun (x2 : Int64) => some ((Int64.toUInt64 x1 >>> ((Int32.toInt64 (p0 &&& 63)).toUInt64 &&& Int64.toUInt64 63)).toInt64 ||| (x2 <<< (Int32.toInt64 ((64 : Int32) - (p0 &&& 63)) &&& 63) : Int64)) else some ((Int64.toUInt64 x1 >>> ((Int32.toInt64 (p0 &&& 63)).toUInt64 &&& Int64.toUInt64 63)).toInt64) else some 0
theorem J_HSheet_wordFrom_d0 : decode J_HSheet_wordFrom.2.1 0 = .ok (.iload_n 2, 1) := by decide +kernel
theorem J_HSheet_wordFrom_d1 : decode J_HSheet_wordFrom.2.1 1 = .ok (.ifCond .lt 11, 3) := by decide +kernel
theorem J_HSheet_wordFrom_d4 : decode J_HSheet_wordFrom.2.1 4 = .ok (.iload_n 2, 1) := by decide +kernel
theorem J_HSheet_wordFrom_d5 : decode J_HSheet_wordFrom.2.1 5 = .ok (.aload_n 0, 1) := by decide +kernel
theorem J_HSheet_wordFrom_d6 : decode J_HSheet_wordFrom.2.1 6 = .ok (.getfield 15, 3) := by decide +kernel
theorem J_HSheet_wordFrom_d9 : decode J_HSheet_wordFrom.2.1 9 = .ok (.if_icmp .lt 5, 3) := by decide +kernel
theorem J_HSheet_wordFrom_d12 : decode J_HSheet_wordFrom.2.1 12 = .ok (.lconst 0, 1) := by decide +kernel
theorem J_HSheet_wordFrom_d13 : decode J_HSheet_wordFrom.2.1 13 = .ok (.lreturn, 1) := by decide +kernel
theorem J_HSheet_wordFrom_d14 : decode J_HSheet_wordFrom.2.1 14 = .ok (.iload_n 1, 1) := by decide +kernel
theorem J_HSheet_wordFrom_d15 : decode J_HSheet_wordFrom.2.1 15 = .ok (.bipush 6, 2) := by decide +kernel
theorem J_HSheet_wordFrom_d17 : decode J_HSheet_wordFrom.2.1 17 = .ok (.ishr, 1) := by decide +kernel
theorem J_HSheet_wordFrom_d18 : decode J_HSheet_wordFrom.2.1 18 = .ok (.istore_n 3, 1) := by decide +kernel
theorem J_HSheet_wordFrom_d19 : decode J_HSheet_wordFrom.2.1 19 = .ok (.iload_n 1, 1) := by decide +kernel
theorem J_HSheet_wordFrom_d20 : decode J_HSheet_wordFrom.2.1 20 = .ok (.bipush 63, 2) := by decide +kernel
theorem J_HSheet_wordFrom_d22 : decode J_HSheet_wordFrom.2.1 22 = .ok (.iand, 1) := by decide +kernel
theorem J_HSheet_wordFrom_d23 : decode J_HSheet_wordFrom.2.1 23 = .ok (.istore 4, 2) := by decide +kernel
theorem J_HSheet_wordFrom_d25 : decode J_HSheet_wordFrom.2.1 25 = .ok (.aload_n 0, 1) := by decide +kernel
theorem J_HSheet_wordFrom_d26 : decode J_HSheet_wordFrom.2.1 26 = .ok (.iload_n 3, 1) := by decide +kernel
theorem J_HSheet_wordFrom_d27 : decode J_HSheet_wordFrom.2.1 27 = .ok (.iload_n 2, 1) := by decide +kernel
theorem J_HSheet_wordFrom_d28 : decode J_HSheet_wordFrom.2.1 28 = .ok (.invokevirtual 55, 3) := by decide +kernel
theorem J_HSheet_wordFrom_d31 : decode J_HSheet_wordFrom.2.1 31 = .ok (.iload 4, 2) := by decide +kernel
theorem J_HSheet_wordFrom_d33 : decode J_HSheet_wordFrom.2.1 33 = .ok (.lushr, 1) := by decide +kernel
theorem J_HSheet_wordFrom_d34 : decode J_HSheet_wordFrom.2.1 34 = .ok (.lstore 5, 2) := by decide +kernel
theorem J_HSheet_wordFrom_d36 : decode J_HSheet_wordFrom.2.1 36 = .ok (.iload 4, 2) := by decide +kernel
theorem J_HSheet_wordFrom_d38 : decode J_HSheet_wordFrom.2.1 38 = .ok (.ifCond .ne 8, 3) := by decide +kernel
theorem J_HSheet_wordFrom_d41 : decode J_HSheet_wordFrom.2.1 41 = .ok (.lload 5, 2) := by decide +kernel
theorem J_HSheet_wordFrom_d43 : decode J_HSheet_wordFrom.2.1 43 = .ok (.goto 20, 3) := by decide +kernel
theorem J_HSheet_wordFrom_d46 : decode J_HSheet_wordFrom.2.1 46 = .ok (.lload 5, 2) := by decide +kernel
theorem J_HSheet_wordFrom_d48 : decode J_HSheet_wordFrom.2.1 48 = .ok (.aload_n 0, 1) := by decide +kernel
theorem J_HSheet_wordFrom_d49 : decode J_HSheet_wordFrom.2.1 49 = .ok (.iload_n 3, 1) := by decide +kernel
theorem J_HSheet_wordFrom_d50 : decode J_HSheet_wordFrom.2.1 50 = .ok (.iconst 1, 1) := by decide +kernel
theorem J_HSheet_wordFrom_d51 : decode J_HSheet_wordFrom.2.1 51 = .ok (.iadd, 1) := by decide +kernel
theorem J_HSheet_wordFrom_d52 : decode J_HSheet_wordFrom.2.1 52 = .ok (.iload_n 2, 1) := by decide +kernel
theorem J_HSheet_wordFrom_d53 : decode J_HSheet_wordFrom.2.1 53 = .ok (.invokevirtual 55, 3) := by decide +kernel
theorem J_HSheet_wordFrom_d56 : decode J_HSheet_wordFrom.2.1 56 = .ok (.bipush 64, 2) := by decide +kernel
theorem J_HSheet_wordFrom_d58 : decode J_HSheet_wordFrom.2.1 58 = .ok (.iload 4, 2) := by decide +kernel
theorem J_HSheet_wordFrom_d60 : decode J_HSheet_wordFrom.2.1 60 = .ok (.isub, 1) := by decide +kernel
theorem J_HSheet_wordFrom_d61 : decode J_HSheet_wordFrom.2.1 61 = .ok (.lshl, 1) := by decide +kernel
theorem J_HSheet_wordFrom_d62 : decode J_HSheet_wordFrom.2.1 62 = .ok (.lor, 1) := by decide +kernel
theorem J_HSheet_wordFrom_d63 : decode J_HSheet_wordFrom.2.1 63 = .ok (.lreturn, 1) := by decide +kernel
theorem f_HSheet_wordFrom_ok {L : Nat} {xs : Nat → Int32} {dep : Nat} {w : Bool} {p0 : Int32} {p1 : Int32} {M : im_M} {Q : Int64 → Prop} (hM : lw_S w M) (h : ed (f_HSheet_wordFrom w p0 p1 M) Q) : ia (tb_G L xs) (dep + 1) J_HSheet_wordFrom (rpL M Q) (0, lv_args 0 [.ref 28, .int p0, .int p1], [], M) := by
  have hS : im_St (tb_G L xs) (dep + 1) J_HSheet_wordFrom (ia (tb_G L xs) (dep + 1) J_HSheet_wordFrom (rpL M Q)) := ia_St
  unfold f_HSheet_wordFrom at h
  have l0 : im_lk (lv_args 0 [.ref 28, .int p0, .int p1]) 0 = some (.ref 28) := rfl
  have l1 : im_lk (lv_args 0 [.ref 28, .int p0, .int p1]) 1 = some (.int p0) := rfl
  have l2 : im_lk (lv_args 0 [.ref 28, .int p0, .int p1]) 2 = some (.int p1) := rfl
  refine iq_iload_n hS 1 J_HSheet_wordFrom_d0 l2 rfl ?_
  refine iq_if_lt hS 4 J_HSheet_wordFrom_d1 (t := 12) rfl (fun q1 => ?_) rfl (fun q1 => ?_)
  · replace h := ed_pos q1 h
    refine iq_lconst hS 13 J_HSheet_wordFrom_d12 (v := 0) (by decide +kernel) rfl ?_
    exact iq_lret J_HSheet_wordFrom_d13 rfl ⟨_, rfl, rfl, ed_some h⟩
  · replace h := ed_neg q1 h
    refine iq_iload_n hS 5 J_HSheet_wordFrom_d4 l2 rfl ?_
    refine iq_aload_n hS 6 J_HSheet_wordFrom_d5 l0 rfl ?_
    refine iq_getI hS 9 J_HSheet_wordFrom_d6 lf_9_15 (Or.inl rfl) (ka_28 hM) rfl ?_
    refine iq_icmp_lt hS 12 J_HSheet_wordFrom_d9 (t := 14) rfl (fun q9 => ?_) rfl (fun q9 => ?_)
    · replace h := ed_pos q9 h
      refine iq_iload_n hS 15 J_HSheet_wordFrom_d14 l1 rfl ?_
      refine iq_bipush hS 17 J_HSheet_wordFrom_d15 (v := 6) (by decide +kernel) rfl ?_
      refine iq_ishr hS 18 J_HSheet_wordFrom_d17 rfl ?_
      refine iq_istore_n hS 19 J_HSheet_wordFrom_d18 (by decide) rfl ?_
      refine iq_iload_n hS 20 J_HSheet_wordFrom_d19 (lk_1i l1 (by decide)) rfl ?_
      refine iq_bipush hS 22 J_HSheet_wordFrom_d20 (v := 63) (by decide +kernel) rfl ?_
      refine iq_iand hS 23 J_HSheet_wordFrom_d22 rfl ?_
      refine iq_istore hS 25 J_HSheet_wordFrom_d23 (by decide) rfl ?_
      refine iq_aload_n hS 26 J_HSheet_wordFrom_d25 (lk_1r (lk_1r l0 (by decide)) (by decide)) rfl ?_
      refine iq_iload_n hS 27 J_HSheet_wordFrom_d26 (lk_1i lk_1s (by decide)) rfl ?_
      refine iq_iload_n hS 28 J_HSheet_wordFrom_d27 (lk_1i (lk_1i l2 (by decide)) (by decide)) rfl ?_
      obtain ⟨Q1, hQ1, h⟩ := bd1_ed h
      refine iq_cpL hS 31 J_HSheet_wordFrom_d28 rfl (pr_inst (vs := [_, _]) lc_9_55 lT_92 rfl rfl (by decide) (by decide) rfl (Nat.le_of_ble_eq_true rfl) (Nat.le_of_ble_eq_true rfl) (fun _ => Or.inl (pr_b (ka_28 hM) (by decide) rfl))) (f_HSheet_word_ok (dep := dep + 0) hM h) rfl ?_
      intro x1 h
      replace h := hQ1 _ h
      refine iq_iload hS 33 J_HSheet_wordFrom_d31 lk_1s rfl ?_
      refine iq_lushr hS 34 J_HSheet_wordFrom_d33 rfl ?_
      refine iq_lstore hS 36 J_HSheet_wordFrom_d34 (by decide) rfl ?_
      refine iq_iload hS 38 J_HSheet_wordFrom_d36 (lk_2i lk_1s (by decide) (by decide)) rfl ?_
      refine iq_if_ne hS 41 J_HSheet_wordFrom_d38 (t := 46) rfl (fun q38 => ?_) rfl (fun q38 => ?_)
      · replace h := ed_pos q38 h
        refine iq_lload hS 48 J_HSheet_wordFrom_d46 lk_2s rfl ?_
        refine iq_aload_n hS 49 J_HSheet_wordFrom_d48 (lk_2r (lk_1r (lk_1r l0 (by decide)) (by decide)) (by decide) (by decide)) rfl ?_
        refine iq_iload_n hS 50 J_HSheet_wordFrom_d49 (lk_2i (lk_1i lk_1s (by decide)) (by decide) (by decide)) rfl ?_
        refine iq_iconst hS 51 J_HSheet_wordFrom_d50 (v := 1) (by decide +kernel) rfl ?_
        refine iq_iadd hS 52 J_HSheet_wordFrom_d51 rfl ?_
        refine iq_iload_n hS 53 J_HSheet_wordFrom_d52 (lk_2i (lk_1i (lk_1i l2 (by decide)) (by decide)) (by decide) (by decide)) rfl ?_
        obtain ⟨Q2, hQ2, h⟩ := bd1_ed h
        refine iq_cpL hS 56 J_HSheet_wordFrom_d53 rfl (pr_inst (vs := [_, _]) lc_9_55 lT_92 rfl rfl (by decide) (by decide) rfl (Nat.le_of_ble_eq_true rfl) (Nat.le_of_ble_eq_true rfl) (fun _ => Or.inl (pr_b (ka_28 hM) (by decide) rfl))) (f_HSheet_word_ok (dep := dep + 0) hM h) rfl ?_
        intro x2 h
        replace h := hQ2 _ h
        refine iq_bipush hS 58 J_HSheet_wordFrom_d56 (v := 64) (by decide +kernel) rfl ?_
        refine iq_iload hS 60 J_HSheet_wordFrom_d58 (lk_2i lk_1s (by decide) (by decide)) rfl ?_
        refine iq_isub hS 61 J_HSheet_wordFrom_d60 rfl ?_
        refine iq_lshl hS 62 J_HSheet_wordFrom_d61 rfl ?_
        refine iq_lor hS 63 J_HSheet_wordFrom_d62 rfl ?_
        exact iq_lret J_HSheet_wordFrom_d63 rfl ⟨_, rfl, rfl, ed_some h⟩
      · replace h := ed_neg q38 h
        refine iq_lload hS 43 J_HSheet_wordFrom_d41 lk_2s rfl ?_
        refine iq_goto hS J_HSheet_wordFrom_d43 (t := 63) rfl ?_
        exact iq_lret J_HSheet_wordFrom_d63 rfl ⟨_, rfl, rfl, ed_some h⟩
    · replace h := ed_neg q9 h
      refine iq_lconst hS 13 J_HSheet_wordFrom_d12 (v := 0) (by decide +kernel) rfl ?_
      exact iq_lret J_HSheet_wordFrom_d13 rfl ⟨_, rfl, rfl, ed_some h⟩
noncomputable def f_H_dots (w : Bool) (p0 : Int32) (p1 : Int32) (M : im_M) : Option (Int64) := bd1 (f_HSheet_wordFrom w p0 p1 M) fun (x1 : Int64) => some x1
theorem J_H_dots_d0 : decode J_H_dots.2.1 0 = .ok (.aload_n 0, 1) := by decide +kernel
theorem J_H_dots_d1 : decode J_H_dots.2.1 1 = .ok (.getfield 37, 3) := by decide +kernel
theorem J_H_dots_d4 : decode J_H_dots.2.1 4 = .ok (.iload_n 1, 1) := by decide +kernel
theorem J_H_dots_d5 : decode J_H_dots.2.1 5 = .ok (.iload_n 2, 1) := by decide +kernel
theorem J_H_dots_d6 : decode J_H_dots.2.1 6 = .ok (.invokevirtual 178, 3) := by decide +kernel
theorem J_H_dots_d9 : decode J_H_dots.2.1 9 = .ok (.lreturn, 1) := by decide +kernel
theorem f_H_dots_ok {L : Nat} {xs : Nat → Int32} {dep : Nat} {w : Bool} {p0 : Int32} {p1 : Int32} {M : im_M} {Q : Int64 → Prop} (hM : lw_S w M) (h : ed (f_H_dots w p0 p1 M) Q) : ia (tb_G L xs) (dep + 2) J_H_dots (rpL M Q) (0, lv_args 0 [.ref 0, .int p0, .int p1], [], M) := by
  have hS : im_St (tb_G L xs) (dep + 2) J_H_dots (ia (tb_G L xs) (dep + 2) J_H_dots (rpL M Q)) := ia_St
  unfold f_H_dots at h
  have l0 : im_lk (lv_args 0 [.ref 0, .int p0, .int p1]) 0 = some (.ref 0) := rfl
  have l1 : im_lk (lv_args 0 [.ref 0, .int p0, .int p1]) 1 = some (.int p0) := rfl
  have l2 : im_lk (lv_args 0 [.ref 0, .int p0, .int p1]) 2 = some (.int p1) := rfl
  refine iq_aload_n hS 1 J_H_dots_d0 l0 rfl ?_
  refine iq_getR hS 4 J_H_dots_d1 lf_11_37 (Or.inl ⟨_, rfl⟩) (ka_0 hM) (ra_0_3 hM) rfl ?_
  refine iq_iload_n hS 5 J_H_dots_d4 l1 rfl ?_
  refine iq_iload_n hS 6 J_H_dots_d5 l2 rfl ?_
  obtain ⟨Q1, hQ1, h⟩ := bd1_ed h
  refine iq_cpL hS 9 J_H_dots_d6 rfl (pr_inst (vs := [_, _]) lc_11_178 lT_91 rfl rfl (by decide) (by decide) rfl (Nat.le_of_ble_eq_true rfl) (Nat.le_of_ble_eq_true rfl) (fun _ => Or.inl (pr_b (ka_28 hM) (by decide) rfl))) (f_HSheet_wordFrom_ok (dep := dep + 0) hM h) rfl ?_
  intro x1 h
  replace h := hQ1 _ h
  exact iq_lret J_H_dots_d9 rfl ⟨_, rfl, rfl, ed_some h⟩
noncomputable def f_H_eightBytes_L6 (v2 : Int32) (v3 : Int32) (v4 : Int32) (M7 : im_M) (x5 : Int64) (x6 : Int32) : Option ((Int64 × Int32) ⊕ (Int64)) := if 8 ≤ x6 then some (.inr x5) else bd1 (if (lg_cmp ((Int32.toInt64 v4) + (Int32.toInt64 x6)) 0) < 0 then some x5 else if 0 ≤ (lg_cmp ((Int32.toInt64 v4) + (Int32.toInt64 x6)) (Int32.toInt64 v3)) then some x5 else gd (inb (v2 + (Int64.toInt32 ((Int32.toInt64 v4) + (Int32.toInt64 x6)))) 3000) <| some (x5 ||| ((Int32.toInt64 ((im_i M7 68 (Int32.toNatClampNeg (v2 + (Int64.toInt32 ((Int32.toInt64 v4) + (Int32.toInt64 x6)))))) &&& 255)) <<< (Int32.toInt64 ((8 : Int32) * x6) &&& 63) : Int64))) fun (y9 : Int64) => some (.inl (y9, (x6 + 1)))
noncomputable def f_H_eightBytes (p1 : Int32) (p2 : Int32) (p3 : Int32) (M : im_M) : Option (Int64) := bd1 (lp (uc2 (f_H_eightBytes_L6 p1 p2 p3 M)) (0, 0)) fun (y16 : Int64) => some y16
theorem J_H_eightBytes_d0 : decode J_H_eightBytes.2.1 0 = .ok (.lconst 0, 1) := by decide +kernel
theorem J_H_eightBytes_d1 : decode J_H_eightBytes.2.1 1 = .ok (.lstore 4, 2) := by decide +kernel
theorem J_H_eightBytes_d3 : decode J_H_eightBytes.2.1 3 = .ok (.iconst 0, 1) := by decide +kernel
theorem J_H_eightBytes_d4 : decode J_H_eightBytes.2.1 4 = .ok (.istore 6, 2) := by decide +kernel
theorem J_H_eightBytes_d6 : decode J_H_eightBytes.2.1 6 = .ok (.iload 6, 2) := by decide +kernel
theorem J_H_eightBytes_d8 : decode J_H_eightBytes.2.1 8 = .ok (.bipush 8, 2) := by decide +kernel
theorem J_H_eightBytes_d10 : decode J_H_eightBytes.2.1 10 = .ok (.if_icmp .ge 55, 3) := by decide +kernel
theorem J_H_eightBytes_d13 : decode J_H_eightBytes.2.1 13 = .ok (.iload_n 3, 1) := by decide +kernel
theorem J_H_eightBytes_d14 : decode J_H_eightBytes.2.1 14 = .ok (.i2l, 1) := by decide +kernel
theorem J_H_eightBytes_d15 : decode J_H_eightBytes.2.1 15 = .ok (.iload 6, 2) := by decide +kernel
theorem J_H_eightBytes_d17 : decode J_H_eightBytes.2.1 17 = .ok (.i2l, 1) := by decide +kernel
theorem J_H_eightBytes_d18 : decode J_H_eightBytes.2.1 18 = .ok (.ladd, 1) := by decide +kernel
theorem J_H_eightBytes_d19 : decode J_H_eightBytes.2.1 19 = .ok (.lstore 7, 2) := by decide +kernel
theorem J_H_eightBytes_d21 : decode J_H_eightBytes.2.1 21 = .ok (.lload 7, 2) := by decide +kernel
theorem J_H_eightBytes_d23 : decode J_H_eightBytes.2.1 23 = .ok (.lconst 0, 1) := by decide +kernel
theorem J_H_eightBytes_d24 : decode J_H_eightBytes.2.1 24 = .ok (.lcmp, 1) := by decide +kernel
theorem J_H_eightBytes_d25 : decode J_H_eightBytes.2.1 25 = .ok (.ifCond .lt 34, 3) := by decide +kernel
theorem J_H_eightBytes_d28 : decode J_H_eightBytes.2.1 28 = .ok (.lload 7, 2) := by decide +kernel
theorem J_H_eightBytes_d30 : decode J_H_eightBytes.2.1 30 = .ok (.iload_n 2, 1) := by decide +kernel
theorem J_H_eightBytes_d31 : decode J_H_eightBytes.2.1 31 = .ok (.i2l, 1) := by decide +kernel
theorem J_H_eightBytes_d32 : decode J_H_eightBytes.2.1 32 = .ok (.lcmp, 1) := by decide +kernel
theorem J_H_eightBytes_d33 : decode J_H_eightBytes.2.1 33 = .ok (.ifCond .ge 26, 3) := by decide +kernel
theorem J_H_eightBytes_d36 : decode J_H_eightBytes.2.1 36 = .ok (.lload 4, 2) := by decide +kernel
theorem J_H_eightBytes_d38 : decode J_H_eightBytes.2.1 38 = .ok (.aload_n 0, 1) := by decide +kernel
theorem J_H_eightBytes_d39 : decode J_H_eightBytes.2.1 39 = .ok (.iload_n 1, 1) := by decide +kernel
theorem J_H_eightBytes_d40 : decode J_H_eightBytes.2.1 40 = .ok (.lload 7, 2) := by decide +kernel
theorem J_H_eightBytes_d42 : decode J_H_eightBytes.2.1 42 = .ok (.l2i, 1) := by decide +kernel
theorem J_H_eightBytes_d43 : decode J_H_eightBytes.2.1 43 = .ok (.iadd, 1) := by decide +kernel
theorem J_H_eightBytes_d44 : decode J_H_eightBytes.2.1 44 = .ok (.baload, 1) := by decide +kernel
theorem J_H_eightBytes_d45 : decode J_H_eightBytes.2.1 45 = .ok (.sipush 255, 3) := by decide +kernel
theorem J_H_eightBytes_d48 : decode J_H_eightBytes.2.1 48 = .ok (.iand, 1) := by decide +kernel
theorem J_H_eightBytes_d49 : decode J_H_eightBytes.2.1 49 = .ok (.i2l, 1) := by decide +kernel
theorem J_H_eightBytes_d50 : decode J_H_eightBytes.2.1 50 = .ok (.bipush 8, 2) := by decide +kernel
theorem J_H_eightBytes_d52 : decode J_H_eightBytes.2.1 52 = .ok (.iload 6, 2) := by decide +kernel
theorem J_H_eightBytes_d54 : decode J_H_eightBytes.2.1 54 = .ok (.imul, 1) := by decide +kernel
theorem J_H_eightBytes_d55 : decode J_H_eightBytes.2.1 55 = .ok (.lshl, 1) := by decide +kernel
theorem J_H_eightBytes_d56 : decode J_H_eightBytes.2.1 56 = .ok (.lor, 1) := by decide +kernel
theorem J_H_eightBytes_d57 : decode J_H_eightBytes.2.1 57 = .ok (.lstore 4, 2) := by decide +kernel
theorem J_H_eightBytes_d59 : decode J_H_eightBytes.2.1 59 = .ok (.iinc 6 1, 3) := by decide +kernel
theorem J_H_eightBytes_d62 : decode J_H_eightBytes.2.1 62 = .ok (.goto (-56), 3) := by decide +kernel
theorem J_H_eightBytes_d65 : decode J_H_eightBytes.2.1 65 = .ok (.lload 4, 2) := by decide +kernel
theorem J_H_eightBytes_d67 : decode J_H_eightBytes.2.1 67 = .ok (.lreturn, 1) := by decide +kernel
theorem f_H_eightBytes_ok {L : Nat} {xs : Nat → Int32} {dep : Nat} {w : Bool} {p1 : Int32} {p2 : Int32} {p3 : Int32} {M : im_M} {Q : Int64 → Prop} (hM : lw_S w M) (h : ed (f_H_eightBytes p1 p2 p3 M) Q) : ia (tb_G L xs) dep J_H_eightBytes (rpL M Q) (0, lv_args 0 [.ref 68, .int p1, .int p2, .int p3], [], M) := by
  have hS : im_St (tb_G L xs) dep J_H_eightBytes (ia (tb_G L xs) dep J_H_eightBytes (rpL M Q)) := ia_St
  unfold f_H_eightBytes at h
  have l0 : im_lk (lv_args 0 [.ref 68, .int p1, .int p2, .int p3]) 0 = some (.ref 68) := rfl
  have l1 : im_lk (lv_args 0 [.ref 68, .int p1, .int p2, .int p3]) 1 = some (.int p1) := rfl
  have l2 : im_lk (lv_args 0 [.ref 68, .int p1, .int p2, .int p3]) 2 = some (.int p2) := rfl
  have l3 : im_lk (lv_args 0 [.ref 68, .int p1, .int p2, .int p3]) 3 = some (.int p3) := rfl
  refine iq_lconst hS 1 J_H_eightBytes_d0 (v := 0) (by decide +kernel) rfl ?_
  refine iq_lstore hS 3 J_H_eightBytes_d1 (by decide) rfl ?_
  refine iq_iconst hS 4 J_H_eightBytes_d3 (v := 0) (by decide +kernel) rfl ?_
  refine iq_istore hS 6 J_H_eightBytes_d4 (by decide) rfl ?_
  obtain ⟨Q1, hQ1, h⟩ := bd1_ed h
  have K1 : ∀ (y2 : Int64) (L' : List (Nat × Value)), im_lk L' 4 = some (.long y2) → Q1 y2 → ia (tb_G L xs) dep J_H_eightBytes (rpL M Q) (65, L', [], M) := by
    intro y2 L' l3 h
    replace h := hQ1 _ h
    refine iq_lload hS 67 J_H_eightBytes_d65 l3 rfl ?_
    exact iq_lret J_H_eightBytes_d67 rfl ⟨_, rfl, rfl, ed_some h⟩
  obtain ⟨r1, hr1, hq1⟩ := h
  obtain ⟨n1, hn1⟩ := lp_n hr1
  have I1 : ∀ (n : Nat) (x4 : Int64) (x5 : Int32) (L' : List (Nat × Value)), im_lk L' 0 = some (.ref 68) → im_lk L' 1 = some (.int p1) → im_lk L' 2 = some (.int p2) → im_lk L' 3 = some (.int p3) → im_lk L' 4 = some (.long x4) → im_lk L' 6 = some (.int x5) → lpn (uc2 (f_H_eightBytes_L6 p1 p2 p3 M)) n (x4, x5) = some r1 → ia (tb_G L xs) dep J_H_eightBytes (rpL M Q) (6, L', [], M) := by
    intro n
    induction n with
    | zero => intro x4 x5 L' l6 l7 l8 l9 l10 l11 hn; exact (lpn_0 hn).elim
    | succ n ih =>
      intro x4 x5 L' l6 l7 l8 l9 l10 l11 hn
      have h := lpn_ed2 hn
      unfold f_H_eightBytes_L6 at h
      refine iq_iload hS 8 J_H_eightBytes_d6 l11 rfl ?_
      refine iq_bipush hS 10 J_H_eightBytes_d8 (v := 8) (by decide +kernel) rfl ?_
      refine iq_icmp_ge hS 13 J_H_eightBytes_d10 (t := 65) rfl (fun q10 => ?_) rfl (fun q10 => ?_)
      · replace h := ed_pos q10 h
        exact K1 _ _ l10 (lq_r h hq1)
      · replace h := ed_neg q10 h
        refine iq_iload_n hS 14 J_H_eightBytes_d13 l9 rfl ?_
        refine iq_i2l hS 15 J_H_eightBytes_d14 rfl ?_
        refine iq_iload hS 17 J_H_eightBytes_d15 l11 rfl ?_
        refine iq_i2l hS 18 J_H_eightBytes_d17 rfl ?_
        refine iq_ladd hS 19 J_H_eightBytes_d18 rfl ?_
        refine iq_lstore hS 21 J_H_eightBytes_d19 (by decide) rfl ?_
        refine iq_lload hS 23 J_H_eightBytes_d21 lk_2s rfl ?_
        refine iq_lconst hS 24 J_H_eightBytes_d23 (v := 0) (by decide +kernel) rfl ?_
        refine iq_lcmp hS 25 J_H_eightBytes_d24 rfl ?_
        obtain ⟨Q12, hQ12, h⟩ := bd1_ed h
        have J12 : ∀ (y13 : Int64) (L' : List (Nat × Value)), im_lk L' 0 = some (.ref 68) → im_lk L' 1 = some (.int p1) → im_lk L' 2 = some (.int p2) → im_lk L' 3 = some (.int p3) → im_lk L' 4 = some (.long y13) → im_lk L' 6 = some (.int x5) → Q12 y13 → ia (tb_G L xs) dep J_H_eightBytes (rpL M Q) (59, L', [], M) := by
          intro y13 L' l14 l15 l16 l17 l18 l19 h
          replace h := hQ12 _ h
          refine iq_iincv hS 62 J_H_eightBytes_d59 (c := 1) (by decide +kernel) l19 (by decide) rfl ?_
          refine iq_goto hS J_H_eightBytes_d62 (t := 6) rfl ?_
          exact ih _ _ _ (lk_1r l14 (by decide)) (lk_1i l15 (by decide)) (lk_1i l16 (by decide)) (lk_1i l17 (by decide)) (lk_1l l18 (by decide) (by decide)) lk_1s (lq_l h)
        refine iq_if_lt hS 28 J_H_eightBytes_d25 (t := 59) rfl (fun q25 => ?_) rfl (fun q25 => ?_)
        · replace h := ed_pos q25 h
          exact J12 _ _ (lk_2r l6 (by decide) (by decide)) (lk_2i l7 (by decide) (by decide)) (lk_2i l8 (by decide) (by decide)) (lk_2i l9 (by decide) (by decide)) (lk_2l l10 (by decide) (by decide) (by decide)) (lk_2i l11 (by decide) (by decide)) (ed_some h)
        · replace h := ed_neg q25 h
          refine iq_lload hS 30 J_H_eightBytes_d28 lk_2s rfl ?_
          refine iq_iload_n hS 31 J_H_eightBytes_d30 (lk_2i l8 (by decide) (by decide)) rfl ?_
          refine iq_i2l hS 32 J_H_eightBytes_d31 rfl ?_
          refine iq_lcmp hS 33 J_H_eightBytes_d32 rfl ?_
          refine iq_if_ge hS 36 J_H_eightBytes_d33 (t := 59) rfl (fun q33 => ?_) rfl (fun q33 => ?_)
          · replace h := ed_pos q33 h
            exact J12 _ _ (lk_2r l6 (by decide) (by decide)) (lk_2i l7 (by decide) (by decide)) (lk_2i l8 (by decide) (by decide)) (lk_2i l9 (by decide) (by decide)) (lk_2l l10 (by decide) (by decide) (by decide)) (lk_2i l11 (by decide) (by decide)) (ed_some h)
          · replace h := ed_neg q33 h
            refine iq_lload hS 38 J_H_eightBytes_d36 (lk_2l l10 (by decide) (by decide) (by decide)) rfl ?_
            refine iq_aload_n hS 39 J_H_eightBytes_d38 (lk_2r l6 (by decide) (by decide)) rfl ?_
            refine iq_iload_n hS 40 J_H_eightBytes_d39 (lk_2i l7 (by decide) (by decide)) rfl ?_
            refine iq_lload hS 42 J_H_eightBytes_d40 lk_2s rfl ?_
            refine iq_l2i hS 43 J_H_eightBytes_d42 rfl ?_
            refine iq_iadd hS 44 J_H_eightBytes_d43 rfl ?_
            obtain ⟨g44, h⟩ := ed_gd h
            refine iq_baload hS 45 J_H_eightBytes_d44 ⟨(ka_68 hM).1, (ka_68 hM).2, g44.1, ix_lt (kl_68 hM) g44.2⟩ rfl ?_
            refine iq_sipush hS 48 J_H_eightBytes_d45 (v := 255) (by decide +kernel) rfl ?_
            refine iq_iand hS 49 J_H_eightBytes_d48 rfl ?_
            refine iq_i2l hS 50 J_H_eightBytes_d49 rfl ?_
            refine iq_bipush hS 52 J_H_eightBytes_d50 (v := 8) (by decide +kernel) rfl ?_
            refine iq_iload hS 54 J_H_eightBytes_d52 (lk_2i l11 (by decide) (by decide)) rfl ?_
            refine iq_imul hS 55 J_H_eightBytes_d54 rfl ?_
            refine iq_lshl hS 56 J_H_eightBytes_d55 rfl ?_
            refine iq_lor hS 57 J_H_eightBytes_d56 rfl ?_
            refine iq_lstore hS 59 J_H_eightBytes_d57 (by decide) rfl ?_
            exact J12 _ _ (lk_2r (lk_2r l6 (by decide) (by decide)) (by decide) (by decide)) (lk_2i (lk_2i l7 (by decide) (by decide)) (by decide) (by decide)) (lk_2i (lk_2i l8 (by decide) (by decide)) (by decide) (by decide)) (lk_2i (lk_2i l9 (by decide) (by decide)) (by decide) (by decide)) lk_2s (lk_2i (lk_2i l11 (by decide) (by decide)) (by decide) (by decide)) (ed_some h)
  exact I1 n1 _ _ _ (lk_1r (lk_2r l0 (by decide) (by decide)) (by decide)) (lk_1i (lk_2i l1 (by decide) (by decide)) (by decide)) (lk_1i (lk_2i l2 (by decide) (by decide)) (by decide)) (lk_1i (lk_2i l3 (by decide) (by decide)) (by decide)) (lk_1l lk_2s (by decide) (by decide)) lk_1s hn1
noncomputable def f_H_got (p0 : Int32) (M : im_M) : Option (Int64) := bd1 (f_H_eightBytes 0 (im_i M 0 12) p0 M) fun (x1 : Int64) => some x1
theorem J_H_got_d0 : decode J_H_got.2.1 0 = .ok (.aload_n 0, 1) := by decide +kernel
theorem J_H_got_d1 : decode J_H_got.2.1 1 = .ok (.getfield 80, 3) := by decide +kernel
theorem J_H_got_d4 : decode J_H_got.2.1 4 = .ok (.iconst 0, 1) := by decide +kernel
theorem J_H_got_d5 : decode J_H_got.2.1 5 = .ok (.aload_n 0, 1) := by decide +kernel
theorem J_H_got_d6 : decode J_H_got.2.1 6 = .ok (.getfield 231, 3) := by decide +kernel
theorem J_H_got_d9 : decode J_H_got.2.1 9 = .ok (.iload_n 1, 1) := by decide +kernel
theorem J_H_got_d10 : decode J_H_got.2.1 10 = .ok (.invokestatic 138, 3) := by decide +kernel
theorem J_H_got_d13 : decode J_H_got.2.1 13 = .ok (.lreturn, 1) := by decide +kernel
theorem f_H_got_ok {L : Nat} {xs : Nat → Int32} {dep : Nat} {w : Bool} {p0 : Int32} {M : im_M} {Q : Int64 → Prop} (hM : lw_S w M) (h : ed (f_H_got p0 M) Q) : ia (tb_G L xs) (dep + 1) J_H_got (rpL M Q) (0, lv_args 0 [.ref 0, .int p0], [], M) := by
  have hS : im_St (tb_G L xs) (dep + 1) J_H_got (ia (tb_G L xs) (dep + 1) J_H_got (rpL M Q)) := ia_St
  unfold f_H_got at h
  have l0 : im_lk (lv_args 0 [.ref 0, .int p0]) 0 = some (.ref 0) := rfl
  have l1 : im_lk (lv_args 0 [.ref 0, .int p0]) 1 = some (.int p0) := rfl
  refine iq_aload_n hS 1 J_H_got_d0 l0 rfl ?_
  refine iq_getR hS 4 J_H_got_d1 lf_11_80 (Or.inr ⟨_, rfl⟩) (ka_0 hM) (ra_0_11 hM) rfl ?_
  refine iq_iconst hS 5 J_H_got_d4 (v := 0) (by decide +kernel) rfl ?_
  refine iq_aload_n hS 6 J_H_got_d5 l0 rfl ?_
  refine iq_getI hS 9 J_H_got_d6 lf_11_231 (Or.inl rfl) (ka_0 hM) rfl ?_
  refine iq_iload_n hS 10 J_H_got_d9 l1 rfl ?_
  obtain ⟨Q1, hQ1, h⟩ := bd1_ed h
  refine iq_cpL hS 13 J_H_got_d10 rfl (pr_stat (vs := [_, _, _, _]) lc_11_138 lT_94 rfl rfl (by decide) rfl (Nat.le_of_ble_eq_true rfl) (Nat.le_of_ble_eq_true rfl)) (f_H_eightBytes_ok (dep := dep + 0) hM h) rfl ?_
  intro x1 h
  replace h := hQ1 _ h
  exact iq_lret J_H_got_d13 rfl ⟨_, rfl, rfl, ed_some h⟩
noncomputable def f_HTape_append_L17 (v2 : Int32) (v3 : Int64) (x4 : Int32) (M5 : im_M) : Option ((Int32 × im_M) ⊕ (im_M)) := if v2 ≤ x4 then some (.inr M5) else gd (inb ((im_i M5 1 1) + x4) 4096) <| some (.inl ((x4 + 1), (im_setI M5 2 (Int32.toNatClampNeg ((im_i M5 1 1) + x4)) (vp_nar .byte ((Int32.toInt8 (Int64.toInt32 ((Int64.toUInt64 v3 >>> ((Int32.toInt64 ((8 : Int32) * x4)).toUInt64 &&& Int64.toUInt64 63)).toInt64))).toInt32)))))
noncomputable def f_HTape_append (p0 : Int32) (p1 : Int64) (M : im_M) : Option (Int32 × im_M) := if ((im_i M 1 1) + p0) ≤ 4096 then bd1 (lp (uc2 (f_HTape_append_L17 p0 p1)) (0, M)) fun (M6 : im_M) => some ((im_i (im_setI M6 1 1 ((im_i M6 1 1) + p0)) 1 1), (im_setI M6 1 1 ((im_i M6 1 1) + p0))) else some ((-1), M)
theorem f_HTape_append_ok {L : Nat} {xs : Nat → Int32} {dep : Nat} {w : Bool} {p0 : Int32} {p1 : Int64} {M : im_M} {Q : Int32 × im_M → Prop} (hM : lw_S w M) (h : ed (f_HTape_append p0 p1 M) Q) : ia (tb_G L xs) dep J_HTape_append (rwI w Q) (0, lv_args 0 [.ref 1, .int p0, .long p1], [], M) := by
  have hS : im_St (tb_G L xs) dep J_HTape_append (ia (tb_G L xs) dep J_HTape_append (rwI w Q)) := ia_St
  unfold f_HTape_append at h
  have l0 : im_lk (lv_args 0 [.ref 1, .int p0, .long p1]) 0 = some (.ref 1) := rfl
  have l1 : im_lk (lv_args 0 [.ref 1, .int p0, .long p1]) 1 = some (.int p0) := rfl
  have l2 : im_lk (lv_args 0 [.ref 1, .int p0, .long p1]) 2 = some (.long p1) := rfl
  refine iq_aload_n hS 1 J_HTape_append_d0 l0 rfl ?_
  refine iq_getI hS 4 J_HTape_append_d1 lf_10_40 (Or.inl rfl) (ka_1 hM) rfl ?_
  refine iq_iload_n hS 5 J_HTape_append_d4 l1 rfl ?_
  refine iq_iadd hS 6 J_HTape_append_d5 rfl ?_
  refine iq_sipush hS 9 J_HTape_append_d6 (v := 4096) (by decide +kernel) rfl ?_
  refine iq_icmp_le hS 12 J_HTape_append_d9 (t := 14) rfl (fun q9 => ?_) rfl (fun q9 => ?_)
  · replace h := ed_pos q9 h
    refine iq_iconst hS 15 J_HTape_append_d14 (v := 0) (by decide +kernel) rfl ?_
    refine iq_istore hS 17 J_HTape_append_d15 (by decide) rfl ?_
    obtain ⟨Q1, hQ1, h⟩ := bd1_ed h
    have K1 : ∀ (M2 : im_M) (L' : List (Nat × Value)), lw_S w M2 → im_lk L' 0 = some (.ref 1) → im_lk L' 1 = some (.int p0) → Q1 M2 → ia (tb_G L xs) dep J_HTape_append (rwI w Q) (50, L', [], M2) := by
      intro M2 L' hM2 l3 l4 h
      replace h := hQ1 _ h
      refine iq_aload_n hS 51 J_HTape_append_d50 l3 rfl ?_
      refine iq_dup hS 52 J_HTape_append_d51 rfl rfl ?_
      refine iq_getI hS 55 J_HTape_append_d52 lf_10_40 (Or.inl rfl) (ka_1 hM2) rfl ?_
      refine iq_iload_n hS 56 J_HTape_append_d55 l4 rfl ?_
      refine iq_iadd hS 57 J_HTape_append_d56 rfl ?_
      refine iq_putI hS 60 J_HTape_append_d57 lf_10_40 (Or.inl rfl) rfl (ka_1 hM2) rfl ?_
      refine iq_aload_n hS 61 J_HTape_append_d60 l3 rfl ?_
      refine iq_getI hS 64 J_HTape_append_d61 lf_10_40 (Or.inl rfl) (ka_1 (lw_sI hM2)) rfl ?_
      exact iq_iret J_HTape_append_d64 rfl rfl ⟨_, rfl, (lw_sI hM2), ed_some h⟩
    obtain ⟨r1, hr1, hq1⟩ := h
    obtain ⟨n1, hn1⟩ := lp_n hr1
    have I1 : ∀ (n : Nat) (x5 : Int32) (M6 : im_M) (L' : List (Nat × Value)), lw_S w M6 → im_lk L' 0 = some (.ref 1) → im_lk L' 1 = some (.int p0) → im_lk L' 2 = some (.long p1) → im_lk L' 4 = some (.int x5) → lpn (uc2 (f_HTape_append_L17 p0 p1)) n (x5, M6) = some r1 → ia (tb_G L xs) dep J_HTape_append (rwI w Q) (17, L', [], M6) := by
      intro n
      induction n with
      | zero => intro x5 M6 L' hM6 l7 l8 l9 l10 hn; exact (lpn_0 hn).elim
      | succ n ih =>
        intro x5 M6 L' hM6 l7 l8 l9 l10 hn
        have h := lpn_ed2 hn
        unfold f_HTape_append_L17 at h
        refine iq_iload hS 19 J_HTape_append_d17 l10 rfl ?_
        refine iq_iload_n hS 20 J_HTape_append_d19 l8 rfl ?_
        refine iq_icmp_ge hS 23 J_HTape_append_d20 (t := 50) rfl (fun q20 => ?_) rfl (fun q20 => ?_)
        · replace h := ed_pos q20 h
          exact K1 _ _ hM6 l7 l8 (lq_r h hq1)
        · replace h := ed_neg q20 h
          refine iq_aload_n hS 24 J_HTape_append_d23 l7 rfl ?_
          refine iq_getR hS 27 J_HTape_append_d24 lf_10_11 (Or.inr ⟨_, rfl⟩) (ka_1 hM6) (ra_1_0 hM6) rfl ?_
          refine iq_aload_n hS 28 J_HTape_append_d27 l7 rfl ?_
          refine iq_getI hS 31 J_HTape_append_d28 lf_10_40 (Or.inl rfl) (ka_1 hM6) rfl ?_
          refine iq_iload hS 33 J_HTape_append_d31 l10 rfl ?_
          refine iq_iadd hS 34 J_HTape_append_d33 rfl ?_
          refine iq_lload_n hS 35 J_HTape_append_d34 l9 rfl ?_
          refine iq_bipush hS 37 J_HTape_append_d35 (v := 8) (by decide +kernel) rfl ?_
          refine iq_iload hS 39 J_HTape_append_d37 l10 rfl ?_
          refine iq_imul hS 40 J_HTape_append_d39 rfl ?_
          refine iq_lushr hS 41 J_HTape_append_d40 rfl ?_
          refine iq_l2i hS 42 J_HTape_append_d41 rfl ?_
          refine iq_i2b hS 43 J_HTape_append_d42 rfl ?_
          obtain ⟨g43, h⟩ := ed_gd h
          refine iq_bastore hS 44 J_HTape_append_d43 ⟨(ka_2 hM6).1, (ka_2 hM6).2, g43.1, ix_lt (kl_2 hM6) g43.2⟩ rfl ?_
          refine iq_iincv hS 47 J_HTape_append_d44 (c := 1) (by decide +kernel) l10 (by decide) rfl ?_
          refine iq_goto hS J_HTape_append_d47 (t := 17) rfl ?_
          exact ih _ _ _ (lw_sI hM6) (lk_1r l7 (by decide)) (lk_1i l8 (by decide)) (lk_1l l9 (by decide) (by decide)) lk_1s (lq_l h)
    exact I1 n1 _ _ _ hM (lk_1r l0 (by decide)) (lk_1i l1 (by decide)) (lk_1l l2 (by decide) (by decide)) lk_1s hn1
  · replace h := ed_neg q9 h
    refine iq_iconst hS 13 J_HTape_append_d12 (v := (-1)) (by decide +kernel) rfl ?_
    exact iq_iret J_HTape_append_d13 rfl rfl ⟨_, rfl, hM, ed_some h⟩
theorem f_HTape_append_fr {p0 : Int32} {p1 : Int64} {M : im_M} {r : Int32 × im_M} (h : f_HTape_append p0 p1 M = some r) : fr 4 [(1, 1)] M r.2 := by
  replace h : ed (f_HTape_append p0 p1 M) (fun x => x = r) := ⟨r, h, rfl⟩
  unfold f_HTape_append at h
  by_cases q9 : ((im_i M 1 1) + p0) ≤ 4096
  · replace h := ed_pos q9 h
    obtain ⟨Q1, hQ1, h⟩ := bd1_ed h
    have K1 : ∀ (M2 : im_M), fr 4 [(1, 1)] M M2 → Q1 M2 → fr 4 [(1, 1)] M r.2 := by
      intro M2 hM2 h
      replace h := hQ1 _ h
      exact fr_ret h (fr_F (by decide) hM2)
    obtain ⟨r1, hr1, hq1⟩ := h
    obtain ⟨n1, hn1⟩ := lp_n hr1
    have I1 : ∀ (n : Nat) (x3 : Int32) (M4 : im_M), fr 4 [(1, 1)] M M4 → lpn (uc2 (f_HTape_append_L17 p0 p1)) n (x3, M4) = some r1 → fr 4 [(1, 1)] M r.2 := by
      intro n
      induction n with
      | zero => intro x3 M4 hM4 hn; exact (lpn_0 hn).elim
      | succ n ih =>
        intro x3 M4 hM4 hn
        have h := lpn_ed2 hn
        unfold f_HTape_append_L17 at h
        by_cases q20 : p0 ≤ x3
        · replace h := ed_pos q20 h
          exact K1 _ hM4 (lq_r h hq1)
        · replace h := ed_neg q20 h
          obtain ⟨g43, h⟩ := ed_gd h
          exact ih _ _ (fr_I (by decide) hM4) (lq_l h)
    exact I1 n1 _ _ fr_refl hn1
  · replace h := ed_neg q9 h
    exact fr_ret h fr_refl
noncomputable def f_H_feed (p0 : Int32) (p1 : Int64) (M : im_M) : Option (Int32 × im_M) := if p0 < 1 then none else if p0 ≤ 8 then bd2 (f_HTape_append p0 p1 M) fun (x1 : Int32) (M1 : im_M) => some (x1, M1) else none
theorem f_H_feed_ok {L : Nat} {xs : Nat → Int32} {dep : Nat} {w : Bool} {p0 : Int32} {p1 : Int64} {M : im_M} {Q : Int32 × im_M → Prop} (hM : lw_S w M) (h : ed (f_H_feed p0 p1 M) Q) : ia (tb_G L xs) (dep + 1) J_H_feed (rwI w Q) (0, lv_args 0 [.ref 0, .int p0, .long p1], [], M) := by
  have hS : im_St (tb_G L xs) (dep + 1) J_H_feed (ia (tb_G L xs) (dep + 1) J_H_feed (rwI w Q)) := ia_St
  unfold f_H_feed at h
  have l0 : im_lk (lv_args 0 [.ref 0, .int p0, .long p1]) 0 = some (.ref 0) := rfl
  have l1 : im_lk (lv_args 0 [.ref 0, .int p0, .long p1]) 1 = some (.int p0) := rfl
  have l2 : im_lk (lv_args 0 [.ref 0, .int p0, .long p1]) 2 = some (.long p1) := rfl
  refine iq_iload_n hS 1 J_H_feed_d0 l1 rfl ?_
  refine iq_iconst hS 2 J_H_feed_d1 (v := 1) (by decide +kernel) rfl ?_
  refine iq_icmp_lt hS 5 J_H_feed_d2 (t := 11) rfl (fun q2 => ?_) rfl (fun q2 => ?_)
  · replace h := ed_pos q2 h
    exact (ed_none h).elim
  · replace h := ed_neg q2 h
    refine iq_iload_n hS 6 J_H_feed_d5 l1 rfl ?_
    refine iq_bipush hS 8 J_H_feed_d6 (v := 8) (by decide +kernel) rfl ?_
    refine iq_icmp_le hS 11 J_H_feed_d8 (t := 19) rfl (fun q8 => ?_) rfl (fun q8 => ?_)
    · replace h := ed_pos q8 h
      refine iq_aload_n hS 20 J_H_feed_d19 l0 rfl ?_
      refine iq_getR hS 23 J_H_feed_d20 lf_11_10 (Or.inl ⟨_, rfl⟩) (ka_0 hM) (ra_0_0 hM) rfl ?_
      refine iq_iload_n hS 24 J_H_feed_d23 l1 rfl ?_
      refine iq_lload_n hS 25 J_H_feed_d24 l2 rfl ?_
      obtain ⟨Q1, hQ1, h⟩ := bd2_ed h
      refine iq_cwI hS 28 J_H_feed_d25 rfl (pr_inst (vs := [_, _]) lc_11_87 lT_96 rfl rfl (by decide) (by decide) rfl (Nat.le_of_ble_eq_true rfl) (Nat.le_of_ble_eq_true rfl) (fun _ => Or.inl (pr_b (ka_1 hM) (by decide) rfl))) (f_HTape_append_ok (dep := dep + 0) hM h) rfl ?_
      intro x1 M1 hM1 h
      replace h := hQ1 _ _ h
      exact iq_iret J_H_feed_d28 rfl rfl ⟨_, rfl, hM1, ed_some h⟩
    · replace h := ed_neg q8 h
      exact (ed_none h).elim
theorem f_H_feed_fr {p0 : Int32} {p1 : Int64} {M : im_M} {r : Int32 × im_M} (h : f_H_feed p0 p1 M = some r) : fr 4 [(1, 1)] M r.2 := by
  replace h : ed (f_H_feed p0 p1 M) (fun x => x = r) := ⟨r, h, rfl⟩
  unfold f_H_feed at h
  by_cases q2 : p0 < 1
  · replace h := ed_pos q2 h
    exact (ed_none h).elim
  · replace h := ed_neg q2 h
    by_cases q8 : p0 ≤ 8
    · replace h := ed_pos q8 h
      obtain ⟨Q1, hQ1, h⟩ := bd2_ed h
      obtain ⟨⟨x1, M1⟩, e1, h⟩ := h
      replace h := hQ1 _ _ h
      exact fr_ret h (fr_tr (fr_mono (by decide) (by decide +kernel) (f_HTape_append_fr e1)) fr_refl)
    · replace h := ed_neg q8 h
      exact (ed_none h).elim
noncomputable def f_Arrays_fill_1_L10 (v3 : Int32) (v4 : Int32) (x5 : Int32) (M6 : im_M) : Option ((Int32 × im_M) ⊕ (im_M)) := if v3 ≤ x5 then some (.inr M6) else gd (inb x5 32768) <| some (.inl ((x5 + 1), (im_setI M6 58 (Int32.toNatClampNeg x5) v4)))
noncomputable def f_Arrays_fill_1 (p1 : Int32) (p2 : Int32) (p3 : Int32) (M : im_M) : Option (im_M) := bd0 (f_Arrays_rangeCheck 32768 p1 p2 M) fun (_ : Unit) => bd1 (lp (uc2 (f_Arrays_fill_1_L10 p2 p3)) (p1, M)) fun (M7 : im_M) => some M7
theorem f_Arrays_fill_1_ok {L : Nat} {xs : Nat → Int32} {dep : Nat} {w : Bool} {p1 : Int32} {p2 : Int32} {p3 : Int32} {M : im_M} {Q : im_M → Prop} (hM : lw_S w M) (h : ed (f_Arrays_fill_1 p1 p2 p3 M) Q) : ia (tb_G L xs) (dep + 1) J_Arrays_fill (rwV w Q) (0, lv_args 0 [.ref 58, .int p1, .int p2, .int p3], [], M) := by
  have hS : im_St (tb_G L xs) (dep + 1) J_Arrays_fill (ia (tb_G L xs) (dep + 1) J_Arrays_fill (rwV w Q)) := ia_St
  unfold f_Arrays_fill_1 at h
  have l0 : im_lk (lv_args 0 [.ref 58, .int p1, .int p2, .int p3]) 0 = some (.ref 58) := rfl
  have l1 : im_lk (lv_args 0 [.ref 58, .int p1, .int p2, .int p3]) 1 = some (.int p1) := rfl
  have l2 : im_lk (lv_args 0 [.ref 58, .int p1, .int p2, .int p3]) 2 = some (.int p2) := rfl
  have l3 : im_lk (lv_args 0 [.ref 58, .int p1, .int p2, .int p3]) 3 = some (.int p3) := rfl
  refine iq_aload_n hS 1 J_Arrays_fill_d0 l0 rfl ?_
  refine iq_alenv hS 2 J_Arrays_fill_d1 (v := 32768) (ka_58 hM) (by decide) (by decide) (kl_58 hM) (by decide +kernel) rfl ?_
  refine iq_iload_n hS 3 J_Arrays_fill_d2 l1 rfl ?_
  refine iq_iload_n hS 4 J_Arrays_fill_d3 l2 rfl ?_
  obtain ⟨Q1, hQ1, h⟩ := bd0_ed h
  refine iq_cpV hS 7 J_Arrays_fill_d4 rfl (pr_stat (vs := [_, _, _]) lc_22_13 lT_54 rfl rfl (by decide) rfl (Nat.le_of_ble_eq_true rfl) (Nat.le_of_ble_eq_true rfl)) (f_Arrays_rangeCheck_ok (dep := dep + 0) hM h) rfl ?_
  intro h
  replace h := hQ1  h
  refine iq_iload_n hS 8 J_Arrays_fill_d7 l1 rfl ?_
  refine iq_istore hS 10 J_Arrays_fill_d8 (by decide) rfl ?_
  obtain ⟨Q2, hQ2, h⟩ := bd1_ed h
  have K2 : ∀ (M3 : im_M) (L' : List (Nat × Value)), lw_S w M3 → Q2 M3 → ia (tb_G L xs) (dep + 1) J_Arrays_fill (rwV w Q) (27, L', [], M3) := by
    intro M3 L' hM3  h
    replace h := hQ2 _ h
    exact iq_ret J_Arrays_fill_d27 rfl ⟨rfl, hM3, ed_some h⟩
  obtain ⟨r2, hr2, hq2⟩ := h
  obtain ⟨n2, hn2⟩ := lp_n hr2
  have I2 : ∀ (n : Nat) (x4 : Int32) (M5 : im_M) (L' : List (Nat × Value)), lw_S w M5 → im_lk L' 0 = some (.ref 58) → im_lk L' 2 = some (.int p2) → im_lk L' 3 = some (.int p3) → im_lk L' 4 = some (.int x4) → lpn (uc2 (f_Arrays_fill_1_L10 p2 p3)) n (x4, M5) = some r2 → ia (tb_G L xs) (dep + 1) J_Arrays_fill (rwV w Q) (10, L', [], M5) := by
    intro n
    induction n with
    | zero => intro x4 M5 L' hM5 l6 l7 l8 l9 hn; exact (lpn_0 hn).elim
    | succ n ih =>
      intro x4 M5 L' hM5 l6 l7 l8 l9 hn
      have h := lpn_ed2 hn
      unfold f_Arrays_fill_1_L10 at h
      refine iq_iload hS 12 J_Arrays_fill_d10 l9 rfl ?_
      refine iq_iload_n hS 13 J_Arrays_fill_d12 l7 rfl ?_
      refine iq_icmp_ge hS 16 J_Arrays_fill_d13 (t := 27) rfl (fun q13 => ?_) rfl (fun q13 => ?_)
      · replace h := ed_pos q13 h
        exact K2 _ _ hM5  (lq_r h hq2)
      · replace h := ed_neg q13 h
        refine iq_aload_n hS 17 J_Arrays_fill_d16 l6 rfl ?_
        refine iq_iload hS 19 J_Arrays_fill_d17 l9 rfl ?_
        refine iq_iload_n hS 20 J_Arrays_fill_d19 l8 rfl ?_
        obtain ⟨g20, h⟩ := ed_gd h
        refine iq_iastore hS 21 J_Arrays_fill_d20 ⟨(ka_58 hM5).1, (ka_58 hM5).2, g20.1, ix_lt (kl_58 hM5) g20.2⟩ rfl ?_
        refine iq_iincv hS 24 J_Arrays_fill_d21 (c := 1) (by decide +kernel) l9 (by decide) rfl ?_
        refine iq_goto hS J_Arrays_fill_d24 (t := 10) rfl ?_
        exact ih _ _ _ (lw_sI hM5) (lk_1r l6 (by decide)) (lk_1i l7 (by decide)) (lk_1i l8 (by decide)) lk_1s (lq_l h)
  exact I2 n2 _ _ _ hM (lk_1r l0 (by decide)) (lk_1i l2 (by decide)) (lk_1i l3 (by decide)) lk_1s hn2
theorem f_Arrays_fill_1_fr {p1 : Int32} {p2 : Int32} {p3 : Int32} {M : im_M} {r : im_M} (h : f_Arrays_fill_1 p1 p2 p3 M = some r) : fr 288230376151711744 [] M r := by
  replace h : ed (f_Arrays_fill_1 p1 p2 p3 M) (fun x => x = r) := ⟨r, h, rfl⟩
  unfold f_Arrays_fill_1 at h
  obtain ⟨Q1, hQ1, h⟩ := bd0_ed h
  obtain ⟨_, e1, h⟩ := h
  replace h := hQ1  h
  obtain ⟨Q2, hQ2, h⟩ := bd1_ed h
  have K2 : ∀ (M3 : im_M), fr 288230376151711744 [] M M3 → Q2 M3 → fr 288230376151711744 [] M r := by
    intro M3 hM3 h
    replace h := hQ2 _ h
    exact fr_retV h hM3
  obtain ⟨r2, hr2, hq2⟩ := h
  obtain ⟨n2, hn2⟩ := lp_n hr2
  have I2 : ∀ (n : Nat) (x4 : Int32) (M5 : im_M), fr 288230376151711744 [] M M5 → lpn (uc2 (f_Arrays_fill_1_L10 p2 p3)) n (x4, M5) = some r2 → fr 288230376151711744 [] M r := by
    intro n
    induction n with
    | zero => intro x4 M5 hM5 hn; exact (lpn_0 hn).elim
    | succ n ih =>
      intro x4 M5 hM5 hn
      have h := lpn_ed2 hn
      unfold f_Arrays_fill_1_L10 at h
      by_cases q13 : p2 ≤ x4
      · replace h := ed_pos q13 h
        exact K2 _ hM5 (lq_r h hq2)
      · replace h := ed_neg q13 h
        obtain ⟨g20, h⟩ := ed_gd h
        exact ih _ _ (fr_I (by decide) hM5) (lq_l h)
  exact I2 n2 _ _ fr_refl hn2
noncomputable def f_HPen_newFont (p0 : Int32) (p1 : Int32) (p2 : Int32) (p3 : Int32) (M : im_M) : Option (im_M) := gd (inb ((3 : Int32) * p0) 12) <| gd (inb (((3 : Int32) * p0) + 1) 12) <| gd (inb (((3 : Int32) * p0) + 2) 12) <| bd1 (f_Arrays_fill_1 ((p0 * 256) * 32) (((p0 + 1) * 256) * 32) 0 (im_setI (im_setI (im_setI M 57 (Int32.toNatClampNeg ((3 : Int32) * p0)) p1) 57 (Int32.toNatClampNeg (((3 : Int32) * p0) + 1)) p2) 57 (Int32.toNatClampNeg (((3 : Int32) * p0) + 2)) p3)) fun (M1 : im_M) => some M1
theorem f_HPen_newFont_ok {L : Nat} {xs : Nat → Int32} {dep : Nat} {w : Bool} {p0 : Int32} {p1 : Int32} {p2 : Int32} {p3 : Int32} {M : im_M} {Q : im_M → Prop} (hM : lw_S w M) (h : ed (f_HPen_newFont p0 p1 p2 p3 M) Q) : ia (tb_G L xs) (dep + 2) J_HPen_newFont (rwV w Q) (0, lv_args 0 [.ref 56, .int p0, .int p1, .int p2, .int p3], [], M) := by
  have hS : im_St (tb_G L xs) (dep + 2) J_HPen_newFont (ia (tb_G L xs) (dep + 2) J_HPen_newFont (rwV w Q)) := ia_St
  unfold f_HPen_newFont at h
  have l0 : im_lk (lv_args 0 [.ref 56, .int p0, .int p1, .int p2, .int p3]) 0 = some (.ref 56) := rfl
  have l1 : im_lk (lv_args 0 [.ref 56, .int p0, .int p1, .int p2, .int p3]) 1 = some (.int p0) := rfl
  have l2 : im_lk (lv_args 0 [.ref 56, .int p0, .int p1, .int p2, .int p3]) 2 = some (.int p1) := rfl
  have l3 : im_lk (lv_args 0 [.ref 56, .int p0, .int p1, .int p2, .int p3]) 3 = some (.int p2) := rfl
  have l4 : im_lk (lv_args 0 [.ref 56, .int p0, .int p1, .int p2, .int p3]) 4 = some (.int p3) := rfl
  refine iq_aload_n hS 1 J_HPen_newFont_d0 l0 rfl ?_
  refine iq_getR hS 4 J_HPen_newFont_d1 lf_6_9 (Or.inr ⟨_, rfl⟩) (ka_56 hM) (ra_56_3 hM) rfl ?_
  refine iq_iconst hS 5 J_HPen_newFont_d4 (v := 3) (by decide +kernel) rfl ?_
  refine iq_iload_n hS 6 J_HPen_newFont_d5 l1 rfl ?_
  refine iq_imul hS 7 J_HPen_newFont_d6 rfl ?_
  refine iq_iload_n hS 8 J_HPen_newFont_d7 l2 rfl ?_
  obtain ⟨g8, h⟩ := ed_gd h
  refine iq_iastore hS 9 J_HPen_newFont_d8 ⟨(ka_57 hM).1, (ka_57 hM).2, g8.1, ix_lt (kl_57 hM) g8.2⟩ rfl ?_
  refine iq_aload_n hS 10 J_HPen_newFont_d9 l0 rfl ?_
  refine iq_getR hS 13 J_HPen_newFont_d10 lf_6_9 (Or.inr ⟨_, rfl⟩) (ka_56 (lw_sI hM)) (ra_56_3 (lw_sI hM)) rfl ?_
  refine iq_iconst hS 14 J_HPen_newFont_d13 (v := 3) (by decide +kernel) rfl ?_
  refine iq_iload_n hS 15 J_HPen_newFont_d14 l1 rfl ?_
  refine iq_imul hS 16 J_HPen_newFont_d15 rfl ?_
  refine iq_iconst hS 17 J_HPen_newFont_d16 (v := 1) (by decide +kernel) rfl ?_
  refine iq_iadd hS 18 J_HPen_newFont_d17 rfl ?_
  refine iq_iload_n hS 19 J_HPen_newFont_d18 l3 rfl ?_
  obtain ⟨g19, h⟩ := ed_gd h
  refine iq_iastore hS 20 J_HPen_newFont_d19 ⟨(ka_57 (lw_sI hM)).1, (ka_57 (lw_sI hM)).2, g19.1, ix_lt (kl_57 (lw_sI hM)) g19.2⟩ rfl ?_
  refine iq_aload_n hS 21 J_HPen_newFont_d20 l0 rfl ?_
  refine iq_getR hS 24 J_HPen_newFont_d21 lf_6_9 (Or.inr ⟨_, rfl⟩) (ka_56 (lw_sI (lw_sI hM))) (ra_56_3 (lw_sI (lw_sI hM))) rfl ?_
  refine iq_iconst hS 25 J_HPen_newFont_d24 (v := 3) (by decide +kernel) rfl ?_
  refine iq_iload_n hS 26 J_HPen_newFont_d25 l1 rfl ?_
  refine iq_imul hS 27 J_HPen_newFont_d26 rfl ?_
  refine iq_iconst hS 28 J_HPen_newFont_d27 (v := 2) (by decide +kernel) rfl ?_
  refine iq_iadd hS 29 J_HPen_newFont_d28 rfl ?_
  refine iq_iload hS 31 J_HPen_newFont_d29 l4 rfl ?_
  obtain ⟨g31, h⟩ := ed_gd h
  refine iq_iastore hS 32 J_HPen_newFont_d31 ⟨(ka_57 (lw_sI (lw_sI hM))).1, (ka_57 (lw_sI (lw_sI hM))).2, g31.1, ix_lt (kl_57 (lw_sI (lw_sI hM))) g31.2⟩ rfl ?_
  refine iq_aload_n hS 33 J_HPen_newFont_d32 l0 rfl ?_
  refine iq_getR hS 36 J_HPen_newFont_d33 lf_6_16 (Or.inr ⟨_, rfl⟩) (ka_56 (lw_sI (lw_sI (lw_sI hM)))) (ra_56_4 (lw_sI (lw_sI (lw_sI hM)))) rfl ?_
  refine iq_iload_n hS 37 J_HPen_newFont_d36 l1 rfl ?_
  refine iq_sipush hS 40 J_HPen_newFont_d37 (v := 256) (by decide +kernel) rfl ?_
  refine iq_imul hS 41 J_HPen_newFont_d40 rfl ?_
  refine iq_bipush hS 43 J_HPen_newFont_d41 (v := 32) (by decide +kernel) rfl ?_
  refine iq_imul hS 44 J_HPen_newFont_d43 rfl ?_
  refine iq_iload_n hS 45 J_HPen_newFont_d44 l1 rfl ?_
  refine iq_iconst hS 46 J_HPen_newFont_d45 (v := 1) (by decide +kernel) rfl ?_
  refine iq_iadd hS 47 J_HPen_newFont_d46 rfl ?_
  refine iq_sipush hS 50 J_HPen_newFont_d47 (v := 256) (by decide +kernel) rfl ?_
  refine iq_imul hS 51 J_HPen_newFont_d50 rfl ?_
  refine iq_bipush hS 53 J_HPen_newFont_d51 (v := 32) (by decide +kernel) rfl ?_
  refine iq_imul hS 54 J_HPen_newFont_d53 rfl ?_
  refine iq_iconst hS 55 J_HPen_newFont_d54 (v := 0) (by decide +kernel) rfl ?_
  obtain ⟨Q1, hQ1, h⟩ := bd1_ed h
  refine iq_cwV hS 58 J_HPen_newFont_d55 rfl (pr_stat (vs := [_, _, _, _]) lc_6_31 lT_53 rfl rfl (by decide) rfl (Nat.le_of_ble_eq_true rfl) (Nat.le_of_ble_eq_true rfl)) (f_Arrays_fill_1_ok (dep := dep + 0) (lw_sI (lw_sI (lw_sI hM))) h) rfl ?_
  intro M1 hM1 h
  replace h := hQ1 _ h
  exact iq_ret J_HPen_newFont_d58 rfl ⟨rfl, hM1, ed_some h⟩
theorem f_HPen_newFont_fr {p0 : Int32} {p1 : Int32} {p2 : Int32} {p3 : Int32} {M : im_M} {r : im_M} (h : f_HPen_newFont p0 p1 p2 p3 M = some r) : fr 432345564227567616 [] M r := by
  replace h : ed (f_HPen_newFont p0 p1 p2 p3 M) (fun x => x = r) := ⟨r, h, rfl⟩
  unfold f_HPen_newFont at h
  obtain ⟨g8, h⟩ := ed_gd h
  obtain ⟨g19, h⟩ := ed_gd h
  obtain ⟨g31, h⟩ := ed_gd h
  obtain ⟨Q1, hQ1, h⟩ := bd1_ed h
  obtain ⟨M1, e1, h⟩ := h
  replace h := hQ1 _ h
  exact fr_retV h (fr_tr (fr_mono (by decide) (by decide +kernel) (f_Arrays_fill_1_fr e1)) (fr_I (by decide) (fr_I (by decide) (fr_I (by decide) fr_refl))))
noncomputable def f_H_font (p0 : Int32) (p1 : Int32) (p2 : Int32) (p3 : Int32) (M : im_M) : Option (im_M) := if p0 < 0 then none else if 3 < p0 then none else if p1 < 1 then none else if 32 < p1 then none else if p2 < 1 then none else if 32 < p2 then none else if p3 < 0 then none else if p3 ≤ 32 then bd1 (f_HPen_newFont p0 p1 p2 p3 M) fun (M1 : im_M) => some M1 else none
theorem f_H_font_ok {L : Nat} {xs : Nat → Int32} {dep : Nat} {w : Bool} {p0 : Int32} {p1 : Int32} {p2 : Int32} {p3 : Int32} {M : im_M} {Q : im_M → Prop} (hM : lw_S w M) (h : ed (f_H_font p0 p1 p2 p3 M) Q) : ia (tb_G L xs) (dep + 3) J_H_font (rwV w Q) (0, lv_args 0 [.ref 0, .int p0, .int p1, .int p2, .int p3], [], M) := by
  have hS : im_St (tb_G L xs) (dep + 3) J_H_font (ia (tb_G L xs) (dep + 3) J_H_font (rwV w Q)) := ia_St
  unfold f_H_font at h
  have l0 : im_lk (lv_args 0 [.ref 0, .int p0, .int p1, .int p2, .int p3]) 0 = some (.ref 0) := rfl
  have l1 : im_lk (lv_args 0 [.ref 0, .int p0, .int p1, .int p2, .int p3]) 1 = some (.int p0) := rfl
  have l2 : im_lk (lv_args 0 [.ref 0, .int p0, .int p1, .int p2, .int p3]) 2 = some (.int p1) := rfl
  have l3 : im_lk (lv_args 0 [.ref 0, .int p0, .int p1, .int p2, .int p3]) 3 = some (.int p2) := rfl
  have l4 : im_lk (lv_args 0 [.ref 0, .int p0, .int p1, .int p2, .int p3]) 4 = some (.int p3) := rfl
  refine iq_iload_n hS 1 J_H_font_d0 l1 rfl ?_
  refine iq_if_lt hS 4 J_H_font_d1 (t := 43) rfl (fun q1 => ?_) rfl (fun q1 => ?_)
  · replace h := ed_pos q1 h
    exact (ed_none h).elim
  · replace h := ed_neg q1 h
    refine iq_iload_n hS 5 J_H_font_d4 l1 rfl ?_
    refine iq_iconst hS 6 J_H_font_d5 (v := 3) (by decide +kernel) rfl ?_
    refine iq_icmp_gt hS 9 J_H_font_d6 (t := 43) rfl (fun q6 => ?_) rfl (fun q6 => ?_)
    · replace h := ed_pos q6 h
      exact (ed_none h).elim
    · replace h := ed_neg q6 h
      refine iq_iload_n hS 10 J_H_font_d9 l2 rfl ?_
      refine iq_iconst hS 11 J_H_font_d10 (v := 1) (by decide +kernel) rfl ?_
      refine iq_icmp_lt hS 14 J_H_font_d11 (t := 43) rfl (fun q11 => ?_) rfl (fun q11 => ?_)
      · replace h := ed_pos q11 h
        exact (ed_none h).elim
      · replace h := ed_neg q11 h
        refine iq_iload_n hS 15 J_H_font_d14 l2 rfl ?_
        refine iq_bipush hS 17 J_H_font_d15 (v := 32) (by decide +kernel) rfl ?_
        refine iq_icmp_gt hS 20 J_H_font_d17 (t := 43) rfl (fun q17 => ?_) rfl (fun q17 => ?_)
        · replace h := ed_pos q17 h
          exact (ed_none h).elim
        · replace h := ed_neg q17 h
          refine iq_iload_n hS 21 J_H_font_d20 l3 rfl ?_
          refine iq_iconst hS 22 J_H_font_d21 (v := 1) (by decide +kernel) rfl ?_
          refine iq_icmp_lt hS 25 J_H_font_d22 (t := 43) rfl (fun q22 => ?_) rfl (fun q22 => ?_)
          · replace h := ed_pos q22 h
            exact (ed_none h).elim
          · replace h := ed_neg q22 h
            refine iq_iload_n hS 26 J_H_font_d25 l3 rfl ?_
            refine iq_bipush hS 28 J_H_font_d26 (v := 32) (by decide +kernel) rfl ?_
            refine iq_icmp_gt hS 31 J_H_font_d28 (t := 43) rfl (fun q28 => ?_) rfl (fun q28 => ?_)
            · replace h := ed_pos q28 h
              exact (ed_none h).elim
            · replace h := ed_neg q28 h
              refine iq_iload hS 33 J_H_font_d31 l4 rfl ?_
              refine iq_if_lt hS 36 J_H_font_d33 (t := 43) rfl (fun q33 => ?_) rfl (fun q33 => ?_)
              · replace h := ed_pos q33 h
                exact (ed_none h).elim
              · replace h := ed_neg q33 h
                refine iq_iload hS 38 J_H_font_d36 l4 rfl ?_
                refine iq_bipush hS 40 J_H_font_d38 (v := 32) (by decide +kernel) rfl ?_
                refine iq_icmp_le hS 43 J_H_font_d40 (t := 51) rfl (fun q40 => ?_) rfl (fun q40 => ?_)
                · replace h := ed_pos q40 h
                  refine iq_aload_n hS 52 J_H_font_d51 l0 rfl ?_
                  refine iq_getR hS 55 J_H_font_d52 lf_11_60 (Or.inl ⟨_, rfl⟩) (ka_0 hM) (ra_0_4 hM) rfl ?_
                  refine iq_iload_n hS 56 J_H_font_d55 l1 rfl ?_
                  refine iq_iload_n hS 57 J_H_font_d56 l2 rfl ?_
                  refine iq_iload_n hS 58 J_H_font_d57 l3 rfl ?_
                  refine iq_iload hS 60 J_H_font_d58 l4 rfl ?_
                  obtain ⟨Q1, hQ1, h⟩ := bd1_ed h
                  refine iq_cwV hS 63 J_H_font_d60 rfl (pr_inst (vs := [_, _, _, _]) lc_11_95 lT_98 rfl rfl (by decide) (by decide) rfl (Nat.le_of_ble_eq_true rfl) (Nat.le_of_ble_eq_true rfl) (fun _ => Or.inl (pr_b (ka_56 hM) (by decide) rfl))) (f_HPen_newFont_ok (dep := dep + 0) hM h) rfl ?_
                  intro M1 hM1 h
                  replace h := hQ1 _ h
                  exact iq_ret J_H_font_d63 rfl ⟨rfl, hM1, ed_some h⟩
                · replace h := ed_neg q40 h
                  exact (ed_none h).elim
theorem f_H_font_fr {p0 : Int32} {p1 : Int32} {p2 : Int32} {p3 : Int32} {M : im_M} {r : im_M} (h : f_H_font p0 p1 p2 p3 M = some r) : fr 432345564227567616 [] M r := by
  replace h : ed (f_H_font p0 p1 p2 p3 M) (fun x => x = r) := ⟨r, h, rfl⟩
  unfold f_H_font at h
  by_cases q1 : p0 < 0
  · replace h := ed_pos q1 h
    exact (ed_none h).elim
  · replace h := ed_neg q1 h
    by_cases q6 : 3 < p0
    · replace h := ed_pos q6 h
      exact (ed_none h).elim
    · replace h := ed_neg q6 h
      by_cases q11 : p1 < 1
      · replace h := ed_pos q11 h
        exact (ed_none h).elim
      · replace h := ed_neg q11 h
        by_cases q17 : 32 < p1
        · replace h := ed_pos q17 h
          exact (ed_none h).elim
        · replace h := ed_neg q17 h
          by_cases q22 : p2 < 1
          · replace h := ed_pos q22 h
            exact (ed_none h).elim
          · replace h := ed_neg q22 h
            by_cases q28 : 32 < p2
            · replace h := ed_pos q28 h
              exact (ed_none h).elim
            · replace h := ed_neg q28 h
              by_cases q33 : p3 < 0
              · replace h := ed_pos q33 h
                exact (ed_none h).elim
              · replace h := ed_neg q33 h
                by_cases q40 : p3 ≤ 32
                · replace h := ed_pos q40 h
                  obtain ⟨Q1, hQ1, h⟩ := bd1_ed h
                  obtain ⟨M1, e1, h⟩ := h
                  replace h := hQ1 _ h
                  exact fr_retV h (fr_tr (fr_mono (by decide) (by decide +kernel) (f_HPen_newFont_fr e1)) fr_refl)
                · replace h := ed_neg q40 h
                  exact (ed_none h).elim
noncomputable def f_HPen_rowsOf (p0 : Int32) (M : im_M) : Option (Int32) := gd (inb (((3 : Int32) * p0) + 1) 12) <| some (im_i M 57 (Int32.toNatClampNeg (((3 : Int32) * p0) + 1)))
theorem f_HPen_rowsOf_ok {L : Nat} {xs : Nat → Int32} {dep : Nat} {w : Bool} {p0 : Int32} {M : im_M} {Q : Int32 → Prop} (hM : lw_S w M) (h : ed (f_HPen_rowsOf p0 M) Q) : ia (tb_G L xs) dep J_HPen_rowsOf (rpI M Q) (0, lv_args 0 [.ref 56, .int p0], [], M) := by
  have hS : im_St (tb_G L xs) dep J_HPen_rowsOf (ia (tb_G L xs) dep J_HPen_rowsOf (rpI M Q)) := ia_St
  unfold f_HPen_rowsOf at h
  have l0 : im_lk (lv_args 0 [.ref 56, .int p0]) 0 = some (.ref 56) := rfl
  have l1 : im_lk (lv_args 0 [.ref 56, .int p0]) 1 = some (.int p0) := rfl
  refine iq_aload_n hS 1 J_HPen_rowsOf_d0 l0 rfl ?_
  refine iq_getR hS 4 J_HPen_rowsOf_d1 lf_6_9 (Or.inr ⟨_, rfl⟩) (ka_56 hM) (ra_56_3 hM) rfl ?_
  refine iq_iconst hS 5 J_HPen_rowsOf_d4 (v := 3) (by decide +kernel) rfl ?_
  refine iq_iload_n hS 6 J_HPen_rowsOf_d5 l1 rfl ?_
  refine iq_imul hS 7 J_HPen_rowsOf_d6 rfl ?_
  refine iq_iconst hS 8 J_HPen_rowsOf_d7 (v := 1) (by decide +kernel) rfl ?_
  refine iq_iadd hS 9 J_HPen_rowsOf_d8 rfl ?_
  obtain ⟨g9, h⟩ := ed_gd h
  refine iq_iaload hS 10 J_HPen_rowsOf_d9 ⟨(ka_57 hM).1, (ka_57 hM).2, g9.1, ix_lt (kl_57 hM) g9.2⟩ rfl ?_
  exact iq_iret J_HPen_rowsOf_d10 rfl rfl ⟨_, rfl, rfl, ed_some h⟩
noncomputable def f_HPen_newRow (p0 : Int32) (p1 : Int32) (p2 : Int32) (p3 : Int32) (M : im_M) : Option (im_M) := gd (inb ((((p0 * 256) + p1) * 32) + p2) 32768) <| some (im_setI M 58 (Int32.toNatClampNeg ((((p0 * 256) + p1) * 32) + p2)) p3)
theorem f_HPen_newRow_ok {L : Nat} {xs : Nat → Int32} {dep : Nat} {w : Bool} {p0 : Int32} {p1 : Int32} {p2 : Int32} {p3 : Int32} {M : im_M} {Q : im_M → Prop} (hM : lw_S w M) (h : ed (f_HPen_newRow p0 p1 p2 p3 M) Q) : ia (tb_G L xs) dep J_HPen_newRow (rwV w Q) (0, lv_args 0 [.ref 56, .int p0, .int p1, .int p2, .int p3], [], M) := by
  have hS : im_St (tb_G L xs) dep J_HPen_newRow (ia (tb_G L xs) dep J_HPen_newRow (rwV w Q)) := ia_St
  unfold f_HPen_newRow at h
  have l0 : im_lk (lv_args 0 [.ref 56, .int p0, .int p1, .int p2, .int p3]) 0 = some (.ref 56) := rfl
  have l1 : im_lk (lv_args 0 [.ref 56, .int p0, .int p1, .int p2, .int p3]) 1 = some (.int p0) := rfl
  have l2 : im_lk (lv_args 0 [.ref 56, .int p0, .int p1, .int p2, .int p3]) 2 = some (.int p1) := rfl
  have l3 : im_lk (lv_args 0 [.ref 56, .int p0, .int p1, .int p2, .int p3]) 3 = some (.int p2) := rfl
  have l4 : im_lk (lv_args 0 [.ref 56, .int p0, .int p1, .int p2, .int p3]) 4 = some (.int p3) := rfl
  refine iq_aload_n hS 1 J_HPen_newRow_d0 l0 rfl ?_
  refine iq_getR hS 4 J_HPen_newRow_d1 lf_6_16 (Or.inr ⟨_, rfl⟩) (ka_56 hM) (ra_56_4 hM) rfl ?_
  refine iq_iload_n hS 5 J_HPen_newRow_d4 l1 rfl ?_
  refine iq_sipush hS 8 J_HPen_newRow_d5 (v := 256) (by decide +kernel) rfl ?_
  refine iq_imul hS 9 J_HPen_newRow_d8 rfl ?_
  refine iq_iload_n hS 10 J_HPen_newRow_d9 l2 rfl ?_
  refine iq_iadd hS 11 J_HPen_newRow_d10 rfl ?_
  refine iq_bipush hS 13 J_HPen_newRow_d11 (v := 32) (by decide +kernel) rfl ?_
  refine iq_imul hS 14 J_HPen_newRow_d13 rfl ?_
  refine iq_iload_n hS 15 J_HPen_newRow_d14 l3 rfl ?_
  refine iq_iadd hS 16 J_HPen_newRow_d15 rfl ?_
  refine iq_iload hS 18 J_HPen_newRow_d16 l4 rfl ?_
  obtain ⟨g18, h⟩ := ed_gd h
  refine iq_iastore hS 19 J_HPen_newRow_d18 ⟨(ka_58 hM).1, (ka_58 hM).2, g18.1, ix_lt (kl_58 hM) g18.2⟩ rfl ?_
  exact iq_ret J_HPen_newRow_d19 rfl ⟨rfl, (lw_sI hM), ed_some h⟩
theorem f_HPen_newRow_fr {p0 : Int32} {p1 : Int32} {p2 : Int32} {p3 : Int32} {M : im_M} {r : im_M} (h : f_HPen_newRow p0 p1 p2 p3 M = some r) : fr 288230376151711744 [] M r := by
  replace h : ed (f_HPen_newRow p0 p1 p2 p3 M) (fun x => x = r) := ⟨r, h, rfl⟩
  unfold f_HPen_newRow at h
  obtain ⟨g18, h⟩ := ed_gd h
  exact fr_retV h (fr_I (by decide) fr_refl)
noncomputable def f_H_cell (p0 : Int32) (p1 : Int32) (p2 : Int32) (p3 : Int32) (M : im_M) : Option (im_M) := if p0 < 0 then none else if 3 < p0 then none else if p1 < 0 then none else if p1 ≤ 255 then if p2 < 0 then none else bd1 (f_HPen_rowsOf p0 M) fun (x1 : Int32) => if p2 < x1 then bd1 (f_HPen_newRow p0 p1 p2 p3 M) fun (M2 : im_M) => some M2 else none else none
theorem f_H_cell_ok {L : Nat} {xs : Nat → Int32} {dep : Nat} {w : Bool} {p0 : Int32} {p1 : Int32} {p2 : Int32} {p3 : Int32} {M : im_M} {Q : im_M → Prop} (hM : lw_S w M) (h : ed (f_H_cell p0 p1 p2 p3 M) Q) : ia (tb_G L xs) (dep + 1) J_H_cell (rwV w Q) (0, lv_args 0 [.ref 0, .int p0, .int p1, .int p2, .int p3], [], M) := by
  have hS : im_St (tb_G L xs) (dep + 1) J_H_cell (ia (tb_G L xs) (dep + 1) J_H_cell (rwV w Q)) := ia_St
  unfold f_H_cell at h
  have l0 : im_lk (lv_args 0 [.ref 0, .int p0, .int p1, .int p2, .int p3]) 0 = some (.ref 0) := rfl
  have l1 : im_lk (lv_args 0 [.ref 0, .int p0, .int p1, .int p2, .int p3]) 1 = some (.int p0) := rfl
  have l2 : im_lk (lv_args 0 [.ref 0, .int p0, .int p1, .int p2, .int p3]) 2 = some (.int p1) := rfl
  have l3 : im_lk (lv_args 0 [.ref 0, .int p0, .int p1, .int p2, .int p3]) 3 = some (.int p2) := rfl
  have l4 : im_lk (lv_args 0 [.ref 0, .int p0, .int p1, .int p2, .int p3]) 4 = some (.int p3) := rfl
  refine iq_iload_n hS 1 J_H_cell_d0 l1 rfl ?_
  refine iq_if_lt hS 4 J_H_cell_d1 (t := 20) rfl (fun q1 => ?_) rfl (fun q1 => ?_)
  · replace h := ed_pos q1 h
    exact (ed_none h).elim
  · replace h := ed_neg q1 h
    refine iq_iload_n hS 5 J_H_cell_d4 l1 rfl ?_
    refine iq_iconst hS 6 J_H_cell_d5 (v := 3) (by decide +kernel) rfl ?_
    refine iq_icmp_gt hS 9 J_H_cell_d6 (t := 20) rfl (fun q6 => ?_) rfl (fun q6 => ?_)
    · replace h := ed_pos q6 h
      exact (ed_none h).elim
    · replace h := ed_neg q6 h
      refine iq_iload_n hS 10 J_H_cell_d9 l2 rfl ?_
      refine iq_if_lt hS 13 J_H_cell_d10 (t := 20) rfl (fun q10 => ?_) rfl (fun q10 => ?_)
      · replace h := ed_pos q10 h
        exact (ed_none h).elim
      · replace h := ed_neg q10 h
        refine iq_iload_n hS 14 J_H_cell_d13 l2 rfl ?_
        refine iq_sipush hS 17 J_H_cell_d14 (v := 255) (by decide +kernel) rfl ?_
        refine iq_icmp_le hS 20 J_H_cell_d17 (t := 28) rfl (fun q17 => ?_) rfl (fun q17 => ?_)
        · replace h := ed_pos q17 h
          refine iq_iload_n hS 29 J_H_cell_d28 l3 rfl ?_
          refine iq_if_lt hS 32 J_H_cell_d29 (t := 44) rfl (fun q29 => ?_) rfl (fun q29 => ?_)
          · replace h := ed_pos q29 h
            exact (ed_none h).elim
          · replace h := ed_neg q29 h
            refine iq_iload_n hS 33 J_H_cell_d32 l3 rfl ?_
            refine iq_aload_n hS 34 J_H_cell_d33 l0 rfl ?_
            refine iq_getR hS 37 J_H_cell_d34 lf_11_60 (Or.inl ⟨_, rfl⟩) (ka_0 hM) (ra_0_4 hM) rfl ?_
            refine iq_iload_n hS 38 J_H_cell_d37 l1 rfl ?_
            obtain ⟨Q1, hQ1, h⟩ := bd1_ed h
            refine iq_cpI hS 41 J_H_cell_d38 rfl (pr_inst (vs := [_]) lc_11_99 lT_100 rfl rfl (by decide) (by decide) rfl (Nat.le_of_ble_eq_true rfl) (Nat.le_of_ble_eq_true rfl) (fun _ => Or.inl (pr_b (ka_56 hM) (by decide) rfl))) (f_HPen_rowsOf_ok (dep := dep + 0) hM h) rfl ?_
            intro x1 h
            replace h := hQ1 _ h
            refine iq_icmp_lt hS 44 J_H_cell_d41 (t := 52) rfl (fun q41 => ?_) rfl (fun q41 => ?_)
            · replace h := ed_pos q41 h
              refine iq_aload_n hS 53 J_H_cell_d52 l0 rfl ?_
              refine iq_getR hS 56 J_H_cell_d53 lf_11_60 (Or.inl ⟨_, rfl⟩) (ka_0 hM) (ra_0_4 hM) rfl ?_
              refine iq_iload_n hS 57 J_H_cell_d56 l1 rfl ?_
              refine iq_iload_n hS 58 J_H_cell_d57 l2 rfl ?_
              refine iq_iload_n hS 59 J_H_cell_d58 l3 rfl ?_
              refine iq_iload hS 61 J_H_cell_d59 l4 rfl ?_
              obtain ⟨Q2, hQ2, h⟩ := bd1_ed h
              refine iq_cwV hS 64 J_H_cell_d61 rfl (pr_inst (vs := [_, _, _, _]) lc_11_106 lT_101 rfl rfl (by decide) (by decide) rfl (Nat.le_of_ble_eq_true rfl) (Nat.le_of_ble_eq_true rfl) (fun _ => Or.inl (pr_b (ka_56 hM) (by decide) rfl))) (f_HPen_newRow_ok (dep := dep + 0) hM h) rfl ?_
              intro M2 hM2 h
              replace h := hQ2 _ h
              exact iq_ret J_H_cell_d64 rfl ⟨rfl, hM2, ed_some h⟩
            · replace h := ed_neg q41 h
              exact (ed_none h).elim
        · replace h := ed_neg q17 h
          exact (ed_none h).elim
theorem f_H_cell_fr {p0 : Int32} {p1 : Int32} {p2 : Int32} {p3 : Int32} {M : im_M} {r : im_M} (h : f_H_cell p0 p1 p2 p3 M = some r) : fr 288230376151711744 [] M r := by
  replace h : ed (f_H_cell p0 p1 p2 p3 M) (fun x => x = r) := ⟨r, h, rfl⟩
  unfold f_H_cell at h
  by_cases q1 : p0 < 0
  · replace h := ed_pos q1 h
    exact (ed_none h).elim
  · replace h := ed_neg q1 h
    by_cases q6 : 3 < p0
    · replace h := ed_pos q6 h
      exact (ed_none h).elim
    · replace h := ed_neg q6 h
      by_cases q10 : p1 < 0
      · replace h := ed_pos q10 h
        exact (ed_none h).elim
      · replace h := ed_neg q10 h
        by_cases q17 : p1 ≤ 255
        · replace h := ed_pos q17 h
          by_cases q29 : p2 < 0
          · replace h := ed_pos q29 h
            exact (ed_none h).elim
          · replace h := ed_neg q29 h
            obtain ⟨Q1, hQ1, h⟩ := bd1_ed h
            obtain ⟨x1, e1, h⟩ := h
            replace h := hQ1 _ h
            by_cases q41 : p2 < x1
            · replace h := ed_pos q41 h
              obtain ⟨Q2, hQ2, h⟩ := bd1_ed h
              obtain ⟨M2, e2, h⟩ := h
              replace h := hQ2 _ h
              exact fr_retV h (fr_tr (fr_mono (by decide) (by decide +kernel) (f_HPen_newRow_fr e2)) fr_refl)
            · replace h := ed_neg q41 h
              exact (ed_none h).elim
        · replace h := ed_neg q17 h
          exact (ed_none h).elim
noncomputable def f_H_label (p0 : Int32) (p1 : Int32) (M : im_M) : Option (Int32) := if p1 < 0 then none else if p1 ≤ 3 then jn0 (fun (_ : Unit) => some (-1)) fun k1 => if p0 < 0 then k1 () else if p0 < (im_i M 15 4) then gd (inb (((4 : Int32) * p0) + p1) 48) <| some (im_i M 16 (Int32.toNatClampNeg (((4 : Int32) * p0) + p1))) else k1 () else none
theorem f_H_label_ok {L : Nat} {xs : Nat → Int32} {dep : Nat} {w : Bool} {p0 : Int32} {p1 : Int32} {M : im_M} {Q : Int32 → Prop} (hM : lw_S w M) (h : ed (f_H_label p0 p1 M) Q) : ia (tb_G L xs) dep J_H_label (rpI M Q) (0, lv_args 0 [.ref 0, .int p0, .int p1], [], M) := by
  have hS : im_St (tb_G L xs) dep J_H_label (ia (tb_G L xs) dep J_H_label (rpI M Q)) := ia_St
  unfold f_H_label at h
  have l0 : im_lk (lv_args 0 [.ref 0, .int p0, .int p1]) 0 = some (.ref 0) := rfl
  have l1 : im_lk (lv_args 0 [.ref 0, .int p0, .int p1]) 1 = some (.int p0) := rfl
  have l2 : im_lk (lv_args 0 [.ref 0, .int p0, .int p1]) 2 = some (.int p1) := rfl
  refine iq_iload_n hS 1 J_H_label_d0 l2 rfl ?_
  refine iq_if_lt hS 4 J_H_label_d1 (t := 9) rfl (fun q1 => ?_) rfl (fun q1 => ?_)
  · replace h := ed_pos q1 h
    exact (ed_none h).elim
  · replace h := ed_neg q1 h
    refine iq_iload_n hS 5 J_H_label_d4 l2 rfl ?_
    refine iq_iconst hS 6 J_H_label_d5 (v := 3) (by decide +kernel) rfl ?_
    refine iq_icmp_le hS 9 J_H_label_d6 (t := 17) rfl (fun q6 => ?_) rfl (fun q6 => ?_)
    · replace h := ed_pos q6 h
      refine iq_iload_n hS 18 J_H_label_d17 l1 rfl ?_
      obtain ⟨k1, Q1, hQ1, hk1, h⟩ := jn0_ed h
      have J1 : ∀  (L' : List (Nat × Value)), Q1 () → ia (tb_G L xs) dep J_H_label (rpI M Q) (32, L', [], M) := by
        intro  L'  h
        replace h := hQ1  h
        refine iq_iconst hS 33 J_H_label_d32 (v := (-1)) (by decide +kernel) rfl ?_
        refine iq_goto hS J_H_label_d33 (t := 49) rfl ?_
        exact iq_iret J_H_label_d49 rfl rfl ⟨_, rfl, rfl, ed_some h⟩
      refine iq_if_lt hS 21 J_H_label_d18 (t := 32) rfl (fun q18 => ?_) rfl (fun q18 => ?_)
      · replace h := ed_pos q18 h
        exact J1  _  (hk1  h)
      · replace h := ed_neg q18 h
        refine iq_iload_n hS 22 J_H_label_d21 l1 rfl ?_
        refine iq_aload_n hS 23 J_H_label_d22 l0 rfl ?_
        refine iq_getR hS 26 J_H_label_d23 lf_11_30 (Or.inl ⟨_, rfl⟩) (ka_0 hM) (ra_0_2 hM) rfl ?_
        refine iq_getI hS 29 J_H_label_d26 lf_11_122 (Or.inl rfl) (ka_15 hM) rfl ?_
        refine iq_icmp_lt hS 32 J_H_label_d29 (t := 36) rfl (fun q29 => ?_) rfl (fun q29 => ?_)
        · replace h := ed_pos q29 h
          refine iq_aload_n hS 37 J_H_label_d36 l0 rfl ?_
          refine iq_getR hS 40 J_H_label_d37 lf_11_30 (Or.inl ⟨_, rfl⟩) (ka_0 hM) (ra_0_2 hM) rfl ?_
          refine iq_getR hS 43 J_H_label_d40 lf_11_125 (Or.inr ⟨_, rfl⟩) (ka_15 hM) (ra_15_5 hM) rfl ?_
          refine iq_iconst hS 44 J_H_label_d43 (v := 4) (by decide +kernel) rfl ?_
          refine iq_iload_n hS 45 J_H_label_d44 l1 rfl ?_
          refine iq_imul hS 46 J_H_label_d45 rfl ?_
          refine iq_iload_n hS 47 J_H_label_d46 l2 rfl ?_
          refine iq_iadd hS 48 J_H_label_d47 rfl ?_
          obtain ⟨g48, h⟩ := ed_gd h
          refine iq_iaload hS 49 J_H_label_d48 ⟨(ka_16 hM).1, (ka_16 hM).2, g48.1, ix_lt (kl_16 hM) g48.2⟩ rfl ?_
          exact iq_iret J_H_label_d49 rfl rfl ⟨_, rfl, rfl, ed_some h⟩
        · replace h := ed_neg q29 h
          exact J1  _  (hk1  h)
    · replace h := ed_neg q6 h
      exact (ed_none h).elim
noncomputable def f_HOrders_value_1 (p0 : Int32) (p1 : Int32) (M : im_M) : Option (Int32) := gd (inb ((p0 * 14) + p1) 1680) <| some (im_i M 13 (Int32.toNatClampNeg ((p0 * 14) + p1)))
theorem f_HOrders_value_1_ok {L : Nat} {xs : Nat → Int32} {dep : Nat} {w : Bool} {p0 : Int32} {p1 : Int32} {M : im_M} {Q : Int32 → Prop} (hM : lw_S w M) (h : ed (f_HOrders_value_1 p0 p1 M) Q) : ia (tb_G L xs) dep J_HOrders_value (rpI M Q) (0, lv_args 0 [.ref 11, .int p0, .int p1], [], M) := by
  have hS : im_St (tb_G L xs) dep J_HOrders_value (ia (tb_G L xs) dep J_HOrders_value (rpI M Q)) := ia_St
  unfold f_HOrders_value_1 at h
  have l0 : im_lk (lv_args 0 [.ref 11, .int p0, .int p1]) 0 = some (.ref 11) := rfl
  have l1 : im_lk (lv_args 0 [.ref 11, .int p0, .int p1]) 1 = some (.int p0) := rfl
  have l2 : im_lk (lv_args 0 [.ref 11, .int p0, .int p1]) 2 = some (.int p1) := rfl
  refine iq_aload_n hS 1 J_HOrders_value_d0 l0 rfl ?_
  refine iq_getR hS 4 J_HOrders_value_d1 lf_5_13 (Or.inr ⟨_, rfl⟩) (ka_11 hM) (ra_11_0 hM) rfl ?_
  refine iq_iload_n hS 5 J_HOrders_value_d4 l1 rfl ?_
  refine iq_bipush hS 7 J_HOrders_value_d5 (v := 14) (by decide +kernel) rfl ?_
  refine iq_imul hS 8 J_HOrders_value_d7 rfl ?_
  refine iq_iload_n hS 9 J_HOrders_value_d8 l2 rfl ?_
  refine iq_iadd hS 10 J_HOrders_value_d9 rfl ?_
  obtain ⟨g10, h⟩ := ed_gd h
  refine iq_iaload hS 11 J_HOrders_value_d10 ⟨(ka_13 hM).1, (ka_13 hM).2, g10.1, ix_lt (kl_13 hM) g10.2⟩ rfl ?_
  exact iq_iret J_HOrders_value_d11 rfl rfl ⟨_, rfl, rfl, ed_some h⟩
noncomputable def f_H_order (p0 : Int32) (p1 : Int32) (M : im_M) : Option (Int32) := if p1 < 0 then none else if p1 ≤ 8 then if p0 < 0 then none else if p0 < (im_i M 11 3) then bd1 (f_HOrders_value_1 p0 p1 M) fun (x1 : Int32) => some x1 else none else none
theorem f_H_order_ok {L : Nat} {xs : Nat → Int32} {dep : Nat} {w : Bool} {p0 : Int32} {p1 : Int32} {M : im_M} {Q : Int32 → Prop} (hM : lw_S w M) (h : ed (f_H_order p0 p1 M) Q) : ia (tb_G L xs) (dep + 1) J_H_order (rpI M Q) (0, lv_args 0 [.ref 0, .int p0, .int p1], [], M) := by
  have hS : im_St (tb_G L xs) (dep + 1) J_H_order (ia (tb_G L xs) (dep + 1) J_H_order (rpI M Q)) := ia_St
  unfold f_H_order at h
  have l0 : im_lk (lv_args 0 [.ref 0, .int p0, .int p1]) 0 = some (.ref 0) := rfl
  have l1 : im_lk (lv_args 0 [.ref 0, .int p0, .int p1]) 1 = some (.int p0) := rfl
  have l2 : im_lk (lv_args 0 [.ref 0, .int p0, .int p1]) 2 = some (.int p1) := rfl
  refine iq_iload_n hS 1 J_H_order_d0 l2 rfl ?_
  refine iq_if_lt hS 4 J_H_order_d1 (t := 10) rfl (fun q1 => ?_) rfl (fun q1 => ?_)
  · replace h := ed_pos q1 h
    exact (ed_none h).elim
  · replace h := ed_neg q1 h
    refine iq_iload_n hS 5 J_H_order_d4 l2 rfl ?_
    refine iq_bipush hS 7 J_H_order_d5 (v := 8) (by decide +kernel) rfl ?_
    refine iq_icmp_le hS 10 J_H_order_d7 (t := 18) rfl (fun q7 => ?_) rfl (fun q7 => ?_)
    · replace h := ed_pos q7 h
      refine iq_iload_n hS 19 J_H_order_d18 l1 rfl ?_
      refine iq_if_lt hS 22 J_H_order_d19 (t := 33) rfl (fun q19 => ?_) rfl (fun q19 => ?_)
      · replace h := ed_pos q19 h
        exact (ed_none h).elim
      · replace h := ed_neg q19 h
        refine iq_iload_n hS 23 J_H_order_d22 l1 rfl ?_
        refine iq_aload_n hS 24 J_H_order_d23 l0 rfl ?_
        refine iq_getR hS 27 J_H_order_d24 lf_11_21 (Or.inl ⟨_, rfl⟩) (ka_0 hM) (ra_0_1 hM) rfl ?_
        refine iq_getI hS 30 J_H_order_d27 lf_11_128 (Or.inl rfl) (ka_11 hM) rfl ?_
        refine iq_icmp_lt hS 33 J_H_order_d30 (t := 41) rfl (fun q30 => ?_) rfl (fun q30 => ?_)
        · replace h := ed_pos q30 h
          refine iq_aload_n hS 42 J_H_order_d41 l0 rfl ?_
          refine iq_getR hS 45 J_H_order_d42 lf_11_21 (Or.inl ⟨_, rfl⟩) (ka_0 hM) (ra_0_1 hM) rfl ?_
          refine iq_iload_n hS 46 J_H_order_d45 l1 rfl ?_
          refine iq_iload_n hS 47 J_H_order_d46 l2 rfl ?_
          obtain ⟨Q1, hQ1, h⟩ := bd1_ed h
          refine iq_cpI hS 50 J_H_order_d47 rfl (pr_inst (vs := [_, _]) lc_11_131 lT_77 rfl rfl (by decide) (by decide) rfl (Nat.le_of_ble_eq_true rfl) (Nat.le_of_ble_eq_true rfl) (fun _ => Or.inl (pr_b (ka_11 hM) (by decide) rfl))) (f_HOrders_value_1_ok (dep := dep + 0) hM h) rfl ?_
          intro x1 h
          replace h := hQ1 _ h
          exact iq_iret J_H_order_d50 rfl rfl ⟨_, rfl, rfl, ed_some h⟩
        · replace h := ed_neg q30 h
          exact (ed_none h).elim
    · replace h := ed_neg q7 h
      exact (ed_none h).elim
noncomputable def f_H_eightBytes_1_L6 (v2 : Int32) (v3 : Int32) (v4 : Int32) (M7 : im_M) (x5 : Int64) (x6 : Int32) : Option ((Int64 × Int32) ⊕ (Int64)) := if 8 ≤ x6 then some (.inr x5) else bd1 (if (lg_cmp ((Int32.toInt64 v4) + (Int32.toInt64 x6)) 0) < 0 then some x5 else if 0 ≤ (lg_cmp ((Int32.toInt64 v4) + (Int32.toInt64 x6)) (Int32.toInt64 v3)) then some x5 else gd (inb (v2 + (Int64.toInt32 ((Int32.toInt64 v4) + (Int32.toInt64 x6)))) 24000) <| some (x5 ||| ((Int32.toInt64 ((im_i M7 14 (Int32.toNatClampNeg (v2 + (Int64.toInt32 ((Int32.toInt64 v4) + (Int32.toInt64 x6)))))) &&& 255)) <<< (Int32.toInt64 ((8 : Int32) * x6) &&& 63) : Int64))) fun (y9 : Int64) => some (.inl (y9, (x6 + 1)))
noncomputable def f_H_eightBytes_1 (p1 : Int32) (p2 : Int32) (p3 : Int32) (M : im_M) : Option (Int64) := bd1 (lp (uc2 (f_H_eightBytes_1_L6 p1 p2 p3 M)) (0, 0)) fun (y16 : Int64) => some y16
theorem f_H_eightBytes_1_ok {L : Nat} {xs : Nat → Int32} {dep : Nat} {w : Bool} {p1 : Int32} {p2 : Int32} {p3 : Int32} {M : im_M} {Q : Int64 → Prop} (hM : lw_S w M) (h : ed (f_H_eightBytes_1 p1 p2 p3 M) Q) : ia (tb_G L xs) dep J_H_eightBytes (rpL M Q) (0, lv_args 0 [.ref 14, .int p1, .int p2, .int p3], [], M) := by
  have hS : im_St (tb_G L xs) dep J_H_eightBytes (ia (tb_G L xs) dep J_H_eightBytes (rpL M Q)) := ia_St
  unfold f_H_eightBytes_1 at h
  have l0 : im_lk (lv_args 0 [.ref 14, .int p1, .int p2, .int p3]) 0 = some (.ref 14) := rfl
  have l1 : im_lk (lv_args 0 [.ref 14, .int p1, .int p2, .int p3]) 1 = some (.int p1) := rfl
  have l2 : im_lk (lv_args 0 [.ref 14, .int p1, .int p2, .int p3]) 2 = some (.int p2) := rfl
  have l3 : im_lk (lv_args 0 [.ref 14, .int p1, .int p2, .int p3]) 3 = some (.int p3) := rfl
  refine iq_lconst hS 1 J_H_eightBytes_d0 (v := 0) (by decide +kernel) rfl ?_
  refine iq_lstore hS 3 J_H_eightBytes_d1 (by decide) rfl ?_
  refine iq_iconst hS 4 J_H_eightBytes_d3 (v := 0) (by decide +kernel) rfl ?_
  refine iq_istore hS 6 J_H_eightBytes_d4 (by decide) rfl ?_
  obtain ⟨Q1, hQ1, h⟩ := bd1_ed h
  have K1 : ∀ (y2 : Int64) (L' : List (Nat × Value)), im_lk L' 4 = some (.long y2) → Q1 y2 → ia (tb_G L xs) dep J_H_eightBytes (rpL M Q) (65, L', [], M) := by
    intro y2 L' l3 h
    replace h := hQ1 _ h
    refine iq_lload hS 67 J_H_eightBytes_d65 l3 rfl ?_
    exact iq_lret J_H_eightBytes_d67 rfl ⟨_, rfl, rfl, ed_some h⟩
  obtain ⟨r1, hr1, hq1⟩ := h
  obtain ⟨n1, hn1⟩ := lp_n hr1
  have I1 : ∀ (n : Nat) (x4 : Int64) (x5 : Int32) (L' : List (Nat × Value)), im_lk L' 0 = some (.ref 14) → im_lk L' 1 = some (.int p1) → im_lk L' 2 = some (.int p2) → im_lk L' 3 = some (.int p3) → im_lk L' 4 = some (.long x4) → im_lk L' 6 = some (.int x5) → lpn (uc2 (f_H_eightBytes_1_L6 p1 p2 p3 M)) n (x4, x5) = some r1 → ia (tb_G L xs) dep J_H_eightBytes (rpL M Q) (6, L', [], M) := by
    intro n
    induction n with
    | zero => intro x4 x5 L' l6 l7 l8 l9 l10 l11 hn; exact (lpn_0 hn).elim
    | succ n ih =>
      intro x4 x5 L' l6 l7 l8 l9 l10 l11 hn
      have h := lpn_ed2 hn
      unfold f_H_eightBytes_1_L6 at h
      refine iq_iload hS 8 J_H_eightBytes_d6 l11 rfl ?_
      refine iq_bipush hS 10 J_H_eightBytes_d8 (v := 8) (by decide +kernel) rfl ?_
      refine iq_icmp_ge hS 13 J_H_eightBytes_d10 (t := 65) rfl (fun q10 => ?_) rfl (fun q10 => ?_)
      · replace h := ed_pos q10 h
        exact K1 _ _ l10 (lq_r h hq1)
      · replace h := ed_neg q10 h
        refine iq_iload_n hS 14 J_H_eightBytes_d13 l9 rfl ?_
        refine iq_i2l hS 15 J_H_eightBytes_d14 rfl ?_
        refine iq_iload hS 17 J_H_eightBytes_d15 l11 rfl ?_
        refine iq_i2l hS 18 J_H_eightBytes_d17 rfl ?_
        refine iq_ladd hS 19 J_H_eightBytes_d18 rfl ?_
        refine iq_lstore hS 21 J_H_eightBytes_d19 (by decide) rfl ?_
        refine iq_lload hS 23 J_H_eightBytes_d21 lk_2s rfl ?_
        refine iq_lconst hS 24 J_H_eightBytes_d23 (v := 0) (by decide +kernel) rfl ?_
        refine iq_lcmp hS 25 J_H_eightBytes_d24 rfl ?_
        obtain ⟨Q12, hQ12, h⟩ := bd1_ed h
        have J12 : ∀ (y13 : Int64) (L' : List (Nat × Value)), im_lk L' 0 = some (.ref 14) → im_lk L' 1 = some (.int p1) → im_lk L' 2 = some (.int p2) → im_lk L' 3 = some (.int p3) → im_lk L' 4 = some (.long y13) → im_lk L' 6 = some (.int x5) → Q12 y13 → ia (tb_G L xs) dep J_H_eightBytes (rpL M Q) (59, L', [], M) := by
          intro y13 L' l14 l15 l16 l17 l18 l19 h
          replace h := hQ12 _ h
          refine iq_iincv hS 62 J_H_eightBytes_d59 (c := 1) (by decide +kernel) l19 (by decide) rfl ?_
          refine iq_goto hS J_H_eightBytes_d62 (t := 6) rfl ?_
          exact ih _ _ _ (lk_1r l14 (by decide)) (lk_1i l15 (by decide)) (lk_1i l16 (by decide)) (lk_1i l17 (by decide)) (lk_1l l18 (by decide) (by decide)) lk_1s (lq_l h)
        refine iq_if_lt hS 28 J_H_eightBytes_d25 (t := 59) rfl (fun q25 => ?_) rfl (fun q25 => ?_)
        · replace h := ed_pos q25 h
          exact J12 _ _ (lk_2r l6 (by decide) (by decide)) (lk_2i l7 (by decide) (by decide)) (lk_2i l8 (by decide) (by decide)) (lk_2i l9 (by decide) (by decide)) (lk_2l l10 (by decide) (by decide) (by decide)) (lk_2i l11 (by decide) (by decide)) (ed_some h)
        · replace h := ed_neg q25 h
          refine iq_lload hS 30 J_H_eightBytes_d28 lk_2s rfl ?_
          refine iq_iload_n hS 31 J_H_eightBytes_d30 (lk_2i l8 (by decide) (by decide)) rfl ?_
          refine iq_i2l hS 32 J_H_eightBytes_d31 rfl ?_
          refine iq_lcmp hS 33 J_H_eightBytes_d32 rfl ?_
          refine iq_if_ge hS 36 J_H_eightBytes_d33 (t := 59) rfl (fun q33 => ?_) rfl (fun q33 => ?_)
          · replace h := ed_pos q33 h
            exact J12 _ _ (lk_2r l6 (by decide) (by decide)) (lk_2i l7 (by decide) (by decide)) (lk_2i l8 (by decide) (by decide)) (lk_2i l9 (by decide) (by decide)) (lk_2l l10 (by decide) (by decide) (by decide)) (lk_2i l11 (by decide) (by decide)) (ed_some h)
          · replace h := ed_neg q33 h
            refine iq_lload hS 38 J_H_eightBytes_d36 (lk_2l l10 (by decide) (by decide) (by decide)) rfl ?_
            refine iq_aload_n hS 39 J_H_eightBytes_d38 (lk_2r l6 (by decide) (by decide)) rfl ?_
            refine iq_iload_n hS 40 J_H_eightBytes_d39 (lk_2i l7 (by decide) (by decide)) rfl ?_
            refine iq_lload hS 42 J_H_eightBytes_d40 lk_2s rfl ?_
            refine iq_l2i hS 43 J_H_eightBytes_d42 rfl ?_
            refine iq_iadd hS 44 J_H_eightBytes_d43 rfl ?_
            obtain ⟨g44, h⟩ := ed_gd h
            refine iq_baload hS 45 J_H_eightBytes_d44 ⟨(ka_14 hM).1, (ka_14 hM).2, g44.1, ix_lt (kl_14 hM) g44.2⟩ rfl ?_
            refine iq_sipush hS 48 J_H_eightBytes_d45 (v := 255) (by decide +kernel) rfl ?_
            refine iq_iand hS 49 J_H_eightBytes_d48 rfl ?_
            refine iq_i2l hS 50 J_H_eightBytes_d49 rfl ?_
            refine iq_bipush hS 52 J_H_eightBytes_d50 (v := 8) (by decide +kernel) rfl ?_
            refine iq_iload hS 54 J_H_eightBytes_d52 (lk_2i l11 (by decide) (by decide)) rfl ?_
            refine iq_imul hS 55 J_H_eightBytes_d54 rfl ?_
            refine iq_lshl hS 56 J_H_eightBytes_d55 rfl ?_
            refine iq_lor hS 57 J_H_eightBytes_d56 rfl ?_
            refine iq_lstore hS 59 J_H_eightBytes_d57 (by decide) rfl ?_
            exact J12 _ _ (lk_2r (lk_2r l6 (by decide) (by decide)) (by decide) (by decide)) (lk_2i (lk_2i l7 (by decide) (by decide)) (by decide) (by decide)) (lk_2i (lk_2i l8 (by decide) (by decide)) (by decide) (by decide)) (lk_2i (lk_2i l9 (by decide) (by decide)) (by decide) (by decide)) lk_2s (lk_2i (lk_2i l11 (by decide) (by decide)) (by decide) (by decide)) (ed_some h)
  exact I1 n1 _ _ _ (lk_1r (lk_2r l0 (by decide) (by decide)) (by decide)) (lk_1i (lk_2i l1 (by decide) (by decide)) (by decide)) (lk_1i (lk_2i l2 (by decide) (by decide)) (by decide)) (lk_1i (lk_2i l3 (by decide) (by decide)) (by decide)) (lk_1l lk_2s (by decide) (by decide)) lk_1s hn1
noncomputable def f_H_data (p0 : Int32) (p1 : Int32) (M : im_M) : Option (Int64) := if p0 < 0 then none else if p0 < (im_i M 11 3) then bd1 (f_HOrders_value_1 p0 8 M) fun (x1 : Int32) => bd1 (f_H_eightBytes_1 (p0 * 200) x1 p1 M) fun (x2 : Int64) => some x2 else none
theorem J_H_data_d23 : decode J_H_data.2.1 23 = .ok (.aload_n 0, 1) := by decide +kernel
theorem J_H_data_d24 : decode J_H_data.2.1 24 = .ok (.getfield 21, 3) := by decide +kernel
theorem J_H_data_d27 : decode J_H_data.2.1 27 = .ok (.getfield 135, 3) := by decide +kernel
theorem J_H_data_d30 : decode J_H_data.2.1 30 = .ok (.iload_n 1, 1) := by decide +kernel
theorem J_H_data_d31 : decode J_H_data.2.1 31 = .ok (.sipush 200, 3) := by decide +kernel
theorem J_H_data_d34 : decode J_H_data.2.1 34 = .ok (.imul, 1) := by decide +kernel
theorem J_H_data_d35 : decode J_H_data.2.1 35 = .ok (.aload_n 0, 1) := by decide +kernel
theorem J_H_data_d36 : decode J_H_data.2.1 36 = .ok (.getfield 21, 3) := by decide +kernel
theorem J_H_data_d39 : decode J_H_data.2.1 39 = .ok (.iload_n 1, 1) := by decide +kernel
theorem J_H_data_d40 : decode J_H_data.2.1 40 = .ok (.bipush 8, 2) := by decide +kernel
theorem J_H_data_d42 : decode J_H_data.2.1 42 = .ok (.invokevirtual 131, 3) := by decide +kernel
theorem J_H_data_d45 : decode J_H_data.2.1 45 = .ok (.iload_n 2, 1) := by decide +kernel
theorem J_H_data_d46 : decode J_H_data.2.1 46 = .ok (.invokestatic 138, 3) := by decide +kernel
theorem J_H_data_d49 : decode J_H_data.2.1 49 = .ok (.lreturn, 1) := by decide +kernel
theorem f_H_data_ok {L : Nat} {xs : Nat → Int32} {dep : Nat} {w : Bool} {p0 : Int32} {p1 : Int32} {M : im_M} {Q : Int64 → Prop} (hM : lw_S w M) (h : ed (f_H_data p0 p1 M) Q) : ia (tb_G L xs) (dep + 1) J_H_data (rpL M Q) (0, lv_args 0 [.ref 0, .int p0, .int p1], [], M) := by
  have hS : im_St (tb_G L xs) (dep + 1) J_H_data (ia (tb_G L xs) (dep + 1) J_H_data (rpL M Q)) := ia_St
  unfold f_H_data at h
  have l0 : im_lk (lv_args 0 [.ref 0, .int p0, .int p1]) 0 = some (.ref 0) := rfl
  have l1 : im_lk (lv_args 0 [.ref 0, .int p0, .int p1]) 1 = some (.int p0) := rfl
  have l2 : im_lk (lv_args 0 [.ref 0, .int p0, .int p1]) 2 = some (.int p1) := rfl
  refine iq_iload_n hS 1 J_H_data_d0 l1 rfl ?_
  refine iq_if_lt hS 4 J_H_data_d1 (t := 15) rfl (fun q1 => ?_) rfl (fun q1 => ?_)
  · replace h := ed_pos q1 h
    exact (ed_none h).elim
  · replace h := ed_neg q1 h
    refine iq_iload_n hS 5 J_H_data_d4 l1 rfl ?_
    refine iq_aload_n hS 6 J_H_data_d5 l0 rfl ?_
    refine iq_getR hS 9 J_H_data_d6 lf_11_21 (Or.inl ⟨_, rfl⟩) (ka_0 hM) (ra_0_1 hM) rfl ?_
    refine iq_getI hS 12 J_H_data_d9 lf_11_128 (Or.inl rfl) (ka_11 hM) rfl ?_
    refine iq_icmp_lt hS 15 J_H_data_d12 (t := 23) rfl (fun q12 => ?_) rfl (fun q12 => ?_)
    · replace h := ed_pos q12 h
      refine iq_aload_n hS 24 J_H_data_d23 l0 rfl ?_
      refine iq_getR hS 27 J_H_data_d24 lf_11_21 (Or.inl ⟨_, rfl⟩) (ka_0 hM) (ra_0_1 hM) rfl ?_
      refine iq_getR hS 30 J_H_data_d27 lf_11_135 (Or.inr ⟨_, rfl⟩) (ka_11 hM) (ra_11_1 hM) rfl ?_
      refine iq_iload_n hS 31 J_H_data_d30 l1 rfl ?_
      refine iq_sipush hS 34 J_H_data_d31 (v := 200) (by decide +kernel) rfl ?_
      refine iq_imul hS 35 J_H_data_d34 rfl ?_
      refine iq_aload_n hS 36 J_H_data_d35 l0 rfl ?_
      refine iq_getR hS 39 J_H_data_d36 lf_11_21 (Or.inl ⟨_, rfl⟩) (ka_0 hM) (ra_0_1 hM) rfl ?_
      refine iq_iload_n hS 40 J_H_data_d39 l1 rfl ?_
      refine iq_bipush hS 42 J_H_data_d40 (v := 8) (by decide +kernel) rfl ?_
      obtain ⟨Q1, hQ1, h⟩ := bd1_ed h
      refine iq_cpI hS 45 J_H_data_d42 rfl (pr_inst (vs := [_, _]) lc_11_131 lT_77 rfl rfl (by decide) (by decide) rfl (Nat.le_of_ble_eq_true rfl) (Nat.le_of_ble_eq_true rfl) (fun _ => Or.inl (pr_b (ka_11 hM) (by decide) rfl))) (f_HOrders_value_1_ok (dep := dep + 0) hM h) rfl ?_
      intro x1 h
      replace h := hQ1 _ h
      refine iq_iload_n hS 46 J_H_data_d45 l2 rfl ?_
      obtain ⟨Q2, hQ2, h⟩ := bd1_ed h
      refine iq_cpL hS 49 J_H_data_d46 rfl (pr_stat (vs := [_, _, _, _]) lc_11_138 lT_94 rfl rfl (by decide) rfl (Nat.le_of_ble_eq_true rfl) (Nat.le_of_ble_eq_true rfl)) (f_H_eightBytes_1_ok (dep := dep + 0) hM h) rfl ?_
      intro x2 h
      replace h := hQ2 _ h
      exact iq_lret J_H_data_d49 rfl ⟨_, rfl, rfl, ed_some h⟩
    · replace h := ed_neg q12 h
      exact (ed_none h).elim
noncomputable def f_Arrays_fill2_L6 (w : Bool) (v2 : Int64) (v3 : Int32) (x4 : Int32) (M5 : im_M) : Option ((Int32 × im_M) ⊕ (im_M)) := if v3 ≤ x4 then some (.inr M5) else gd (inb x4 4096) <| some (.inl ((x4 + 1), (im_setL M5 (sw w) (Int32.toNatClampNeg x4) v2)))
noncomputable def f_Arrays_fill2 (w : Bool) (p1 : Int64) (M : im_M) : Option (im_M) := bd1 (lp (uc2 (f_Arrays_fill2_L6 w p1 4096)) (0, M)) fun (M6 : im_M) => some M6
theorem J_Arrays_fill2_d0 : decode J_Arrays_fill2.2.1 0 = .ok (.iconst 0, 1) := by decide +kernel
theorem J_Arrays_fill2_d1 : decode J_Arrays_fill2.2.1 1 = .ok (.istore_n 3, 1) := by decide +kernel
theorem J_Arrays_fill2_d2 : decode J_Arrays_fill2.2.1 2 = .ok (.aload_n 0, 1) := by decide +kernel
theorem J_Arrays_fill2_d3 : decode J_Arrays_fill2.2.1 3 = .ok (.arraylength, 1) := by decide +kernel
theorem J_Arrays_fill2_d4 : decode J_Arrays_fill2.2.1 4 = .ok (.istore 4, 2) := by decide +kernel
theorem J_Arrays_fill2_d6 : decode J_Arrays_fill2.2.1 6 = .ok (.iload_n 3, 1) := by decide +kernel
theorem J_Arrays_fill2_d7 : decode J_Arrays_fill2.2.1 7 = .ok (.iload 4, 2) := by decide +kernel
theorem J_Arrays_fill2_d9 : decode J_Arrays_fill2.2.1 9 = .ok (.if_icmp .ge 13, 3) := by decide +kernel
theorem J_Arrays_fill2_d12 : decode J_Arrays_fill2.2.1 12 = .ok (.aload_n 0, 1) := by decide +kernel
theorem J_Arrays_fill2_d13 : decode J_Arrays_fill2.2.1 13 = .ok (.iload_n 3, 1) := by decide +kernel
theorem J_Arrays_fill2_d14 : decode J_Arrays_fill2.2.1 14 = .ok (.lload_n 1, 1) := by decide +kernel
theorem J_Arrays_fill2_d15 : decode J_Arrays_fill2.2.1 15 = .ok (.lastore, 1) := by decide +kernel
theorem J_Arrays_fill2_d16 : decode J_Arrays_fill2.2.1 16 = .ok (.iinc 3 1, 3) := by decide +kernel
theorem J_Arrays_fill2_d19 : decode J_Arrays_fill2.2.1 19 = .ok (.goto (-13), 3) := by decide +kernel
theorem J_Arrays_fill2_d22 : decode J_Arrays_fill2.2.1 22 = .ok (.return_, 1) := by decide +kernel
theorem f_Arrays_fill2_ok {L : Nat} {xs : Nat → Int32} {dep : Nat} {w : Bool} {p1 : Int64} {M : im_M} {Q : im_M → Prop} (hM : lw_S w M) (h : ed (f_Arrays_fill2 w p1 M) Q) : ia (tb_G L xs) dep J_Arrays_fill2 (rwV w Q) (0, lv_args 0 [.ref (sw w), .long p1], [], M) := by
  have hS : im_St (tb_G L xs) dep J_Arrays_fill2 (ia (tb_G L xs) dep J_Arrays_fill2 (rwV w Q)) := ia_St
  unfold f_Arrays_fill2 at h
  have l0 : im_lk (lv_args 0 [.ref (sw w), .long p1]) 0 = some (.ref (sw w)) := rfl
  have l1 : im_lk (lv_args 0 [.ref (sw w), .long p1]) 1 = some (.long p1) := rfl
  refine iq_iconst hS 1 J_Arrays_fill2_d0 (v := 0) (by decide +kernel) rfl ?_
  refine iq_istore_n hS 2 J_Arrays_fill2_d1 (by decide) rfl ?_
  refine iq_aload_n hS 3 J_Arrays_fill2_d2 (lk_1r l0 (by decide)) rfl ?_
  refine iq_alenv hS 4 J_Arrays_fill2_d3 (v := 4096) (ka_sw hM) (by decide) (by decide) (kl_sw hM) (by decide +kernel) rfl ?_
  refine iq_istore hS 6 J_Arrays_fill2_d4 (by decide) rfl ?_
  obtain ⟨Q1, hQ1, h⟩ := bd1_ed h
  have K1 : ∀ (M2 : im_M) (L' : List (Nat × Value)), lw_S w M2 → Q1 M2 → ia (tb_G L xs) dep J_Arrays_fill2 (rwV w Q) (22, L', [], M2) := by
    intro M2 L' hM2  h
    replace h := hQ1 _ h
    exact iq_ret J_Arrays_fill2_d22 rfl ⟨rfl, hM2, ed_some h⟩
  obtain ⟨r1, hr1, hq1⟩ := h
  obtain ⟨n1, hn1⟩ := lp_n hr1
  have I1 : ∀ (n : Nat) (x3 : Int32) (M4 : im_M) (L' : List (Nat × Value)), lw_S w M4 → im_lk L' 0 = some (.ref (sw w)) → im_lk L' 1 = some (.long p1) → im_lk L' 3 = some (.int x3) → im_lk L' 4 = some (.int 4096) → lpn (uc2 (f_Arrays_fill2_L6 w p1 4096)) n (x3, M4) = some r1 → ia (tb_G L xs) dep J_Arrays_fill2 (rwV w Q) (6, L', [], M4) := by
    intro n
    induction n with
    | zero => intro x3 M4 L' hM4 l5 l6 l7 l8 hn; exact (lpn_0 hn).elim
    | succ n ih =>
      intro x3 M4 L' hM4 l5 l6 l7 l8 hn
      have h := lpn_ed2 hn
      unfold f_Arrays_fill2_L6 at h
      refine iq_iload_n hS 7 J_Arrays_fill2_d6 l7 rfl ?_
      refine iq_iload hS 9 J_Arrays_fill2_d7 l8 rfl ?_
      refine iq_icmp_ge hS 12 J_Arrays_fill2_d9 (t := 22) rfl (fun q9 => ?_) rfl (fun q9 => ?_)
      · replace h := ed_pos q9 h
        exact K1 _ _ hM4  (lq_r h hq1)
      · replace h := ed_neg q9 h
        refine iq_aload_n hS 13 J_Arrays_fill2_d12 l5 rfl ?_
        refine iq_iload_n hS 14 J_Arrays_fill2_d13 l7 rfl ?_
        refine iq_lload_n hS 15 J_Arrays_fill2_d14 l6 rfl ?_
        obtain ⟨g15, h⟩ := ed_gd h
        refine iq_lastore hS 16 J_Arrays_fill2_d15 ⟨(ka_sw hM4).1, (ka_sw hM4).2, g15.1, ix_lt (kl_sw hM4) g15.2⟩ rfl ?_
        refine iq_iincv hS 19 J_Arrays_fill2_d16 (c := 1) (by decide +kernel) l7 (by decide) rfl ?_
        refine iq_goto hS J_Arrays_fill2_d19 (t := 6) rfl ?_
        exact ih _ _ _ (lw_sL hM4) (lk_1r l5 (by decide)) (lk_1l l6 (by decide) (by decide)) lk_1s (lk_1i l8 (by decide)) (lq_l h)
  exact I1 n1 _ _ _ hM (lk_1r (lk_1r l0 (by decide)) (by decide)) (lk_1l (lk_1l l1 (by decide) (by decide)) (by decide) (by decide)) (lk_1i lk_1s (by decide)) lk_1s hn1
theorem f_Arrays_fill2_fr {w : Bool} {p1 : Int64} {M : im_M} {r : im_M} (h : f_Arrays_fill2 w p1 M = some r) : fr 1610612736 [] M r := by
  replace h : ed (f_Arrays_fill2 w p1 M) (fun x => x = r) := ⟨r, h, rfl⟩
  unfold f_Arrays_fill2 at h
  obtain ⟨Q1, hQ1, h⟩ := bd1_ed h
  have K1 : ∀ (M2 : im_M), fr 1610612736 [] M M2 → Q1 M2 → fr 1610612736 [] M r := by
    intro M2 hM2 h
    replace h := hQ1 _ h
    exact fr_retV h hM2
  obtain ⟨r1, hr1, hq1⟩ := h
  obtain ⟨n1, hn1⟩ := lp_n hr1
  have I1 : ∀ (n : Nat) (x3 : Int32) (M4 : im_M), fr 1610612736 [] M M4 → lpn (uc2 (f_Arrays_fill2_L6 w p1 4096)) n (x3, M4) = some r1 → fr 1610612736 [] M r := by
    intro n
    induction n with
    | zero => intro x3 M4 hM4 hn; exact (lpn_0 hn).elim
    | succ n ih =>
      intro x3 M4 hM4 hn
      have h := lpn_ed2 hn
      unfold f_Arrays_fill2_L6 at h
      by_cases q9 : 4096 ≤ x3
      · replace h := ed_pos q9 h
        exact K1 _ hM4 (lq_r h hq1)
      · replace h := ed_neg q9 h
        obtain ⟨g15, h⟩ := ed_gd h
        exact ih _ _ (fr_L (by cases w <;> decide) hM4) (lq_l h)
  exact I1 n1 _ _ fr_refl hn1
noncomputable def f_HSheet_renew (w : Bool) (p0 : Int32) (p1 : Int32) (M : im_M) : Option (im_M) := bd1 (f_Arrays_fill2 w 0 (im_setI (im_setI M 28 0 p0) 28 1 p1)) fun (M1 : im_M) => some M1
theorem J_HSheet_renew_d0 : decode J_HSheet_renew.2.1 0 = .ok (.aload_n 0, 1) := by decide +kernel
theorem J_HSheet_renew_d1 : decode J_HSheet_renew.2.1 1 = .ok (.iload_n 1, 1) := by decide +kernel
theorem J_HSheet_renew_d2 : decode J_HSheet_renew.2.1 2 = .ok (.putfield 9, 3) := by decide +kernel
theorem J_HSheet_renew_d5 : decode J_HSheet_renew.2.1 5 = .ok (.aload_n 0, 1) := by decide +kernel
theorem J_HSheet_renew_d6 : decode J_HSheet_renew.2.1 6 = .ok (.iload_n 2, 1) := by decide +kernel
theorem J_HSheet_renew_d7 : decode J_HSheet_renew.2.1 7 = .ok (.putfield 15, 3) := by decide +kernel
theorem J_HSheet_renew_d10 : decode J_HSheet_renew.2.1 10 = .ok (.aload_n 0, 1) := by decide +kernel
theorem J_HSheet_renew_d11 : decode J_HSheet_renew.2.1 11 = .ok (.getfield 18, 3) := by decide +kernel
theorem J_HSheet_renew_d14 : decode J_HSheet_renew.2.1 14 = .ok (.lconst 0, 1) := by decide +kernel
theorem J_HSheet_renew_d15 : decode J_HSheet_renew.2.1 15 = .ok (.invokestatic 25, 3) := by decide +kernel
theorem J_HSheet_renew_d18 : decode J_HSheet_renew.2.1 18 = .ok (.return_, 1) := by decide +kernel
theorem f_HSheet_renew_ok {L : Nat} {xs : Nat → Int32} {dep : Nat} {w : Bool} {p0 : Int32} {p1 : Int32} {M : im_M} {Q : im_M → Prop} (hM : lw_S w M) (h : ed (f_HSheet_renew w p0 p1 M) Q) : ia (tb_G L xs) (dep + 1) J_HSheet_renew (rwV w Q) (0, lv_args 0 [.ref 28, .int p0, .int p1], [], M) := by
  have hS : im_St (tb_G L xs) (dep + 1) J_HSheet_renew (ia (tb_G L xs) (dep + 1) J_HSheet_renew (rwV w Q)) := ia_St
  unfold f_HSheet_renew at h
  have l0 : im_lk (lv_args 0 [.ref 28, .int p0, .int p1]) 0 = some (.ref 28) := rfl
  have l1 : im_lk (lv_args 0 [.ref 28, .int p0, .int p1]) 1 = some (.int p0) := rfl
  have l2 : im_lk (lv_args 0 [.ref 28, .int p0, .int p1]) 2 = some (.int p1) := rfl
  refine iq_aload_n hS 1 J_HSheet_renew_d0 l0 rfl ?_
  refine iq_iload_n hS 2 J_HSheet_renew_d1 l1 rfl ?_
  refine iq_putI hS 5 J_HSheet_renew_d2 lf_9_9 (Or.inl rfl) rfl (ka_28 hM) rfl ?_
  refine iq_aload_n hS 6 J_HSheet_renew_d5 l0 rfl ?_
  refine iq_iload_n hS 7 J_HSheet_renew_d6 l2 rfl ?_
  refine iq_putI hS 10 J_HSheet_renew_d7 lf_9_15 (Or.inl rfl) rfl (ka_28 (lw_sI hM)) rfl ?_
  refine iq_aload_n hS 11 J_HSheet_renew_d10 l0 rfl ?_
  refine iq_getR hS 14 J_HSheet_renew_d11 lf_9_18 (Or.inr ⟨_, rfl⟩) (ka_28 (lw_sI (lw_sI hM))) (ra_28_sw (lw_sI (lw_sI hM))) rfl ?_
  refine iq_lconst hS 15 J_HSheet_renew_d14 (v := 0) (by decide +kernel) rfl ?_
  obtain ⟨Q1, hQ1, h⟩ := bd1_ed h
  refine iq_cwV hS 18 J_HSheet_renew_d15 rfl (pr_stat (vs := [_, _]) lc_9_25 lT_107 rfl rfl (by decide) rfl (Nat.le_of_ble_eq_true rfl) (Nat.le_of_ble_eq_true rfl)) (f_Arrays_fill2_ok (dep := dep + 0) (lw_sI (lw_sI hM)) h) rfl ?_
  intro M1 hM1 h
  replace h := hQ1 _ h
  exact iq_ret J_HSheet_renew_d18 rfl ⟨rfl, hM1, ed_some h⟩
theorem f_HSheet_renew_fr {w : Bool} {p0 : Int32} {p1 : Int32} {M : im_M} {r : im_M} (h : f_HSheet_renew w p0 p1 M = some r) : fr 1610612736 [(28, 0), (28, 1)] M r := by
  replace h : ed (f_HSheet_renew w p0 p1 M) (fun x => x = r) := ⟨r, h, rfl⟩
  unfold f_HSheet_renew at h
  obtain ⟨Q1, hQ1, h⟩ := bd1_ed h
  obtain ⟨M1, e1, h⟩ := h
  replace h := hQ1 _ h
  exact fr_retV h (fr_tr (fr_mono (by decide) (by decide +kernel) (f_Arrays_fill2_fr e1)) (fr_F (by decide) (fr_F (by decide) fr_refl)))
noncomputable def f_HOrders_byteAt (p0 : Int32) (p1 : Int32) (M : im_M) : Option (Int32) := gd (inb ((p0 * 200) + p1) 24000) <| some ((im_i M 14 (Int32.toNatClampNeg ((p0 * 200) + p1))) &&& 255)
theorem J_HOrders_byteAt_d0 : decode J_HOrders_byteAt.2.1 0 = .ok (.aload_n 0, 1) := by decide +kernel
theorem J_HOrders_byteAt_d1 : decode J_HOrders_byteAt.2.1 1 = .ok (.getfield 17, 3) := by decide +kernel
theorem J_HOrders_byteAt_d4 : decode J_HOrders_byteAt.2.1 4 = .ok (.iload_n 1, 1) := by decide +kernel
theorem J_HOrders_byteAt_d5 : decode J_HOrders_byteAt.2.1 5 = .ok (.sipush 200, 3) := by decide +kernel
theorem J_HOrders_byteAt_d8 : decode J_HOrders_byteAt.2.1 8 = .ok (.imul, 1) := by decide +kernel
theorem J_HOrders_byteAt_d9 : decode J_HOrders_byteAt.2.1 9 = .ok (.iload_n 2, 1) := by decide +kernel
theorem J_HOrders_byteAt_d10 : decode J_HOrders_byteAt.2.1 10 = .ok (.iadd, 1) := by decide +kernel
theorem J_HOrders_byteAt_d11 : decode J_HOrders_byteAt.2.1 11 = .ok (.baload, 1) := by decide +kernel
theorem J_HOrders_byteAt_d12 : decode J_HOrders_byteAt.2.1 12 = .ok (.sipush 255, 3) := by decide +kernel
theorem J_HOrders_byteAt_d15 : decode J_HOrders_byteAt.2.1 15 = .ok (.iand, 1) := by decide +kernel
theorem J_HOrders_byteAt_d16 : decode J_HOrders_byteAt.2.1 16 = .ok (.ireturn, 1) := by decide +kernel
theorem f_HOrders_byteAt_ok {L : Nat} {xs : Nat → Int32} {dep : Nat} {w : Bool} {p0 : Int32} {p1 : Int32} {M : im_M} {Q : Int32 → Prop} (hM : lw_S w M) (h : ed (f_HOrders_byteAt p0 p1 M) Q) : ia (tb_G L xs) dep J_HOrders_byteAt (rpI M Q) (0, lv_args 0 [.ref 11, .int p0, .int p1], [], M) := by
  have hS : im_St (tb_G L xs) dep J_HOrders_byteAt (ia (tb_G L xs) dep J_HOrders_byteAt (rpI M Q)) := ia_St
  unfold f_HOrders_byteAt at h
  have l0 : im_lk (lv_args 0 [.ref 11, .int p0, .int p1]) 0 = some (.ref 11) := rfl
  have l1 : im_lk (lv_args 0 [.ref 11, .int p0, .int p1]) 1 = some (.int p0) := rfl
  have l2 : im_lk (lv_args 0 [.ref 11, .int p0, .int p1]) 2 = some (.int p1) := rfl
  refine iq_aload_n hS 1 J_HOrders_byteAt_d0 l0 rfl ?_
  refine iq_getR hS 4 J_HOrders_byteAt_d1 lf_5_17 (Or.inr ⟨_, rfl⟩) (ka_11 hM) (ra_11_1 hM) rfl ?_
  refine iq_iload_n hS 5 J_HOrders_byteAt_d4 l1 rfl ?_
  refine iq_sipush hS 8 J_HOrders_byteAt_d5 (v := 200) (by decide +kernel) rfl ?_
  refine iq_imul hS 9 J_HOrders_byteAt_d8 rfl ?_
  refine iq_iload_n hS 10 J_HOrders_byteAt_d9 l2 rfl ?_
  refine iq_iadd hS 11 J_HOrders_byteAt_d10 rfl ?_
  obtain ⟨g11, h⟩ := ed_gd h
  refine iq_baload hS 12 J_HOrders_byteAt_d11 ⟨(ka_14 hM).1, (ka_14 hM).2, g11.1, ix_lt (kl_14 hM) g11.2⟩ rfl ?_
  refine iq_sipush hS 15 J_HOrders_byteAt_d12 (v := 255) (by decide +kernel) rfl ?_
  refine iq_iand hS 16 J_HOrders_byteAt_d15 rfl ?_
  exact iq_iret J_HOrders_byteAt_d16 rfl rfl ⟨_, rfl, rfl, ed_some h⟩
noncomputable def f_HSheet_strikeColumn_L3 (w : Bool) (v2 : Int32) (v3 : Int32) (v4 : Int64) (x5 : Int32) (M6 : im_M) : Option ((Int32 × im_M) ⊕ (im_M)) := if v3 < x5 then some (.inr M6) else bd1 (if (im_i M6 28 2) = 0 then gd (inb ((x5 * 8) + v2) 4096) <| some ((im_l M6 (sw w) (Int32.toNatClampNeg ((x5 * 8) + v2))) ||| v4) else gd (inb ((x5 * 8) + v2) 4096) <| some ((im_l M6 (sw w) (Int32.toNatClampNeg ((x5 * 8) + v2))) ^^^ v4)) fun (y8 : Int64) => gd (inb ((x5 * 8) + v2) 4096) <| some (.inl ((x5 + 1), (im_setL M6 (sw w) (Int32.toNatClampNeg ((x5 * 8) + v2)) y8)))
noncomputable def f_HSheet_strikeColumn (w : Bool) (p0 : Int32) (p1 : Int32) (p2 : Int32) (p3 : Int64) (M : im_M) : Option (im_M) := bd1 (lp (uc2 (f_HSheet_strikeColumn_L3 w p0 p2 p3)) (p1, M)) fun (M14 : im_M) => some M14
theorem J_HSheet_strikeColumn_d0 : decode J_HSheet_strikeColumn.2.1 0 = .ok (.iload_n 2, 1) := by decide +kernel
theorem J_HSheet_strikeColumn_d1 : decode J_HSheet_strikeColumn.2.1 1 = .ok (.istore 6, 2) := by decide +kernel
theorem J_HSheet_strikeColumn_d3 : decode J_HSheet_strikeColumn.2.1 3 = .ok (.iload 6, 2) := by decide +kernel
theorem J_HSheet_strikeColumn_d5 : decode J_HSheet_strikeColumn.2.1 5 = .ok (.iload_n 3, 1) := by decide +kernel
theorem J_HSheet_strikeColumn_d6 : decode J_HSheet_strikeColumn.2.1 6 = .ok (.if_icmp .gt 55, 3) := by decide +kernel
theorem J_HSheet_strikeColumn_d9 : decode J_HSheet_strikeColumn.2.1 9 = .ok (.iload 6, 2) := by decide +kernel
theorem J_HSheet_strikeColumn_d11 : decode J_HSheet_strikeColumn.2.1 11 = .ok (.bipush 8, 2) := by decide +kernel
theorem J_HSheet_strikeColumn_d13 : decode J_HSheet_strikeColumn.2.1 13 = .ok (.imul, 1) := by decide +kernel
theorem J_HSheet_strikeColumn_d14 : decode J_HSheet_strikeColumn.2.1 14 = .ok (.iload_n 1, 1) := by decide +kernel
theorem J_HSheet_strikeColumn_d15 : decode J_HSheet_strikeColumn.2.1 15 = .ok (.iadd, 1) := by decide +kernel
theorem J_HSheet_strikeColumn_d16 : decode J_HSheet_strikeColumn.2.1 16 = .ok (.istore 7, 2) := by decide +kernel
theorem J_HSheet_strikeColumn_d18 : decode J_HSheet_strikeColumn.2.1 18 = .ok (.aload_n 0, 1) := by decide +kernel
theorem J_HSheet_strikeColumn_d19 : decode J_HSheet_strikeColumn.2.1 19 = .ok (.getfield 18, 3) := by decide +kernel
theorem J_HSheet_strikeColumn_d22 : decode J_HSheet_strikeColumn.2.1 22 = .ok (.iload 7, 2) := by decide +kernel
theorem J_HSheet_strikeColumn_d24 : decode J_HSheet_strikeColumn.2.1 24 = .ok (.aload_n 0, 1) := by decide +kernel
theorem J_HSheet_strikeColumn_d25 : decode J_HSheet_strikeColumn.2.1 25 = .ok (.getfield 49, 3) := by decide +kernel
theorem J_HSheet_strikeColumn_d28 : decode J_HSheet_strikeColumn.2.1 28 = .ok (.ifCond .eq 16, 3) := by decide +kernel
theorem J_HSheet_strikeColumn_d31 : decode J_HSheet_strikeColumn.2.1 31 = .ok (.aload_n 0, 1) := by decide +kernel
theorem J_HSheet_strikeColumn_d32 : decode J_HSheet_strikeColumn.2.1 32 = .ok (.getfield 18, 3) := by decide +kernel
theorem J_HSheet_strikeColumn_d35 : decode J_HSheet_strikeColumn.2.1 35 = .ok (.iload 7, 2) := by decide +kernel
theorem J_HSheet_strikeColumn_d37 : decode J_HSheet_strikeColumn.2.1 37 = .ok (.laload, 1) := by decide +kernel
theorem J_HSheet_strikeColumn_d38 : decode J_HSheet_strikeColumn.2.1 38 = .ok (.lload 4, 2) := by decide +kernel
theorem J_HSheet_strikeColumn_d40 : decode J_HSheet_strikeColumn.2.1 40 = .ok (.lxor, 1) := by decide +kernel
theorem J_HSheet_strikeColumn_d41 : decode J_HSheet_strikeColumn.2.1 41 = .ok (.goto 13, 3) := by decide +kernel
theorem J_HSheet_strikeColumn_d44 : decode J_HSheet_strikeColumn.2.1 44 = .ok (.aload_n 0, 1) := by decide +kernel
theorem J_HSheet_strikeColumn_d45 : decode J_HSheet_strikeColumn.2.1 45 = .ok (.getfield 18, 3) := by decide +kernel
theorem J_HSheet_strikeColumn_d48 : decode J_HSheet_strikeColumn.2.1 48 = .ok (.iload 7, 2) := by decide +kernel
theorem J_HSheet_strikeColumn_d50 : decode J_HSheet_strikeColumn.2.1 50 = .ok (.laload, 1) := by decide +kernel
theorem J_HSheet_strikeColumn_d51 : decode J_HSheet_strikeColumn.2.1 51 = .ok (.lload 4, 2) := by decide +kernel
theorem J_HSheet_strikeColumn_d53 : decode J_HSheet_strikeColumn.2.1 53 = .ok (.lor, 1) := by decide +kernel
theorem J_HSheet_strikeColumn_d54 : decode J_HSheet_strikeColumn.2.1 54 = .ok (.lastore, 1) := by decide +kernel
theorem J_HSheet_strikeColumn_d55 : decode J_HSheet_strikeColumn.2.1 55 = .ok (.iinc 6 1, 3) := by decide +kernel
theorem J_HSheet_strikeColumn_d58 : decode J_HSheet_strikeColumn.2.1 58 = .ok (.goto (-55), 3) := by decide +kernel
theorem J_HSheet_strikeColumn_d61 : decode J_HSheet_strikeColumn.2.1 61 = .ok (.return_, 1) := by decide +kernel
theorem f_HSheet_strikeColumn_ok {L : Nat} {xs : Nat → Int32} {dep : Nat} {w : Bool} {p0 : Int32} {p1 : Int32} {p2 : Int32} {p3 : Int64} {M : im_M} {Q : im_M → Prop} (hM : lw_S w M) (h : ed (f_HSheet_strikeColumn w p0 p1 p2 p3 M) Q) : ia (tb_G L xs) dep J_HSheet_strikeColumn (rwV w Q) (0, lv_args 0 [.ref 28, .int p0, .int p1, .int p2, .long p3], [], M) := by
  have hS : im_St (tb_G L xs) dep J_HSheet_strikeColumn (ia (tb_G L xs) dep J_HSheet_strikeColumn (rwV w Q)) := ia_St
  unfold f_HSheet_strikeColumn at h
  have l0 : im_lk (lv_args 0 [.ref 28, .int p0, .int p1, .int p2, .long p3]) 0 = some (.ref 28) := rfl
  have l1 : im_lk (lv_args 0 [.ref 28, .int p0, .int p1, .int p2, .long p3]) 1 = some (.int p0) := rfl
  have l2 : im_lk (lv_args 0 [.ref 28, .int p0, .int p1, .int p2, .long p3]) 2 = some (.int p1) := rfl
  have l3 : im_lk (lv_args 0 [.ref 28, .int p0, .int p1, .int p2, .long p3]) 3 = some (.int p2) := rfl
  have l4 : im_lk (lv_args 0 [.ref 28, .int p0, .int p1, .int p2, .long p3]) 4 = some (.long p3) := rfl
  refine iq_iload_n hS 1 J_HSheet_strikeColumn_d0 l2 rfl ?_
  refine iq_istore hS 3 J_HSheet_strikeColumn_d1 (by decide) rfl ?_
  obtain ⟨Q1, hQ1, h⟩ := bd1_ed h
  have K1 : ∀ (M2 : im_M) (L' : List (Nat × Value)), lw_S w M2 → Q1 M2 → ia (tb_G L xs) dep J_HSheet_strikeColumn (rwV w Q) (61, L', [], M2) := by
    intro M2 L' hM2  h
    replace h := hQ1 _ h
    exact iq_ret J_HSheet_strikeColumn_d61 rfl ⟨rfl, hM2, ed_some h⟩
  obtain ⟨r1, hr1, hq1⟩ := h
  obtain ⟨n1, hn1⟩ := lp_n hr1
  have I1 : ∀ (n : Nat) (x3 : Int32) (M4 : im_M) (L' : List (Nat × Value)), lw_S w M4 → im_lk L' 0 = some (.ref 28) → im_lk L' 1 = some (.int p0) → im_lk L' 3 = some (.int p2) → im_lk L' 4 = some (.long p3) → im_lk L' 6 = some (.int x3) → lpn (uc2 (f_HSheet_strikeColumn_L3 w p0 p2 p3)) n (x3, M4) = some r1 → ia (tb_G L xs) dep J_HSheet_strikeColumn (rwV w Q) (3, L', [], M4) := by
    intro n
    induction n with
    | zero => intro x3 M4 L' hM4 l5 l6 l7 l8 l9 hn; exact (lpn_0 hn).elim
    | succ n ih =>
      intro x3 M4 L' hM4 l5 l6 l7 l8 l9 hn
      have h := lpn_ed2 hn
      unfold f_HSheet_strikeColumn_L3 at h
      refine iq_iload hS 5 J_HSheet_strikeColumn_d3 l9 rfl ?_
      refine iq_iload_n hS 6 J_HSheet_strikeColumn_d5 l7 rfl ?_
      refine iq_icmp_gt hS 9 J_HSheet_strikeColumn_d6 (t := 61) rfl (fun q6 => ?_) rfl (fun q6 => ?_)
      · replace h := ed_pos q6 h
        exact K1 _ _ hM4  (lq_r h hq1)
      · replace h := ed_neg q6 h
        refine iq_iload hS 11 J_HSheet_strikeColumn_d9 l9 rfl ?_
        refine iq_bipush hS 13 J_HSheet_strikeColumn_d11 (v := 8) (by decide +kernel) rfl ?_
        refine iq_imul hS 14 J_HSheet_strikeColumn_d13 rfl ?_
        refine iq_iload_n hS 15 J_HSheet_strikeColumn_d14 l6 rfl ?_
        refine iq_iadd hS 16 J_HSheet_strikeColumn_d15 rfl ?_
        refine iq_istore hS 18 J_HSheet_strikeColumn_d16 (by decide) rfl ?_
        refine iq_aload_n hS 19 J_HSheet_strikeColumn_d18 (lk_1r l5 (by decide)) rfl ?_
        refine iq_getR hS 22 J_HSheet_strikeColumn_d19 lf_9_18 (Or.inr ⟨_, rfl⟩) (ka_28 hM4) (ra_28_sw hM4) rfl ?_
        refine iq_iload hS 24 J_HSheet_strikeColumn_d22 lk_1s rfl ?_
        refine iq_aload_n hS 25 J_HSheet_strikeColumn_d24 (lk_1r l5 (by decide)) rfl ?_
        refine iq_getI hS 28 J_HSheet_strikeColumn_d25 lf_9_49 (Or.inr rfl) (ka_28 hM4) rfl ?_
        obtain ⟨Q10, hQ10, h⟩ := bd1_ed h
        have J10 : ∀ (y11 : Int64) (L' : List (Nat × Value)), im_lk L' 0 = some (.ref 28) → im_lk L' 1 = some (.int p0) → im_lk L' 3 = some (.int p2) → im_lk L' 4 = some (.long p3) → im_lk L' 6 = some (.int x3) → Q10 y11 → ia (tb_G L xs) dep J_HSheet_strikeColumn (rwV w Q) (54, L', [.long y11, .int ((x3 * 8) + p0), .ref (sw w)], M4) := by
          intro y11 L' l12 l13 l14 l15 l16 h
          replace h := hQ10 _ h
          obtain ⟨g54, h⟩ := ed_gd h
          refine iq_lastore hS 55 J_HSheet_strikeColumn_d54 ⟨(ka_sw hM4).1, (ka_sw hM4).2, g54.1, ix_lt (kl_sw hM4) g54.2⟩ rfl ?_
          refine iq_iincv hS 58 J_HSheet_strikeColumn_d55 (c := 1) (by decide +kernel) l16 (by decide) rfl ?_
          refine iq_goto hS J_HSheet_strikeColumn_d58 (t := 3) rfl ?_
          exact ih _ _ _ (lw_sL hM4) (lk_1r l12 (by decide)) (lk_1i l13 (by decide)) (lk_1i l14 (by decide)) (lk_1l l15 (by decide) (by decide)) lk_1s (lq_l h)
        refine iq_if_eq hS 31 J_HSheet_strikeColumn_d28 (t := 44) rfl (fun q28 => ?_) rfl (fun q28 => ?_)
        · replace h := ed_pos q28 h
          refine iq_aload_n hS 45 J_HSheet_strikeColumn_d44 (lk_1r l5 (by decide)) rfl ?_
          refine iq_getR hS 48 J_HSheet_strikeColumn_d45 lf_9_18 (Or.inr ⟨_, rfl⟩) (ka_28 hM4) (ra_28_sw hM4) rfl ?_
          refine iq_iload hS 50 J_HSheet_strikeColumn_d48 lk_1s rfl ?_
          obtain ⟨g50, h⟩ := ed_gd h
          refine iq_laload hS 51 J_HSheet_strikeColumn_d50 ⟨(ka_sw hM4).1, (ka_sw hM4).2, g50.1, ix_lt (kl_sw hM4) g50.2⟩ rfl ?_
          refine iq_lload hS 53 J_HSheet_strikeColumn_d51 (lk_1l l8 (by decide) (by decide)) rfl ?_
          refine iq_lor hS 54 J_HSheet_strikeColumn_d53 rfl ?_
          exact J10 _ _ (lk_1r l5 (by decide)) (lk_1i l6 (by decide)) (lk_1i l7 (by decide)) (lk_1l l8 (by decide) (by decide)) (lk_1i l9 (by decide)) (ed_some h)
        · replace h := ed_neg q28 h
          refine iq_aload_n hS 32 J_HSheet_strikeColumn_d31 (lk_1r l5 (by decide)) rfl ?_
          refine iq_getR hS 35 J_HSheet_strikeColumn_d32 lf_9_18 (Or.inr ⟨_, rfl⟩) (ka_28 hM4) (ra_28_sw hM4) rfl ?_
          refine iq_iload hS 37 J_HSheet_strikeColumn_d35 lk_1s rfl ?_
          obtain ⟨g37, h⟩ := ed_gd h
          refine iq_laload hS 38 J_HSheet_strikeColumn_d37 ⟨(ka_sw hM4).1, (ka_sw hM4).2, g37.1, ix_lt (kl_sw hM4) g37.2⟩ rfl ?_
          refine iq_lload hS 40 J_HSheet_strikeColumn_d38 (lk_1l l8 (by decide) (by decide)) rfl ?_
          refine iq_lxor hS 41 J_HSheet_strikeColumn_d40 rfl ?_
          refine iq_goto hS J_HSheet_strikeColumn_d41 (t := 54) rfl ?_
          exact J10 _ _ (lk_1r l5 (by decide)) (lk_1i l6 (by decide)) (lk_1i l7 (by decide)) (lk_1l l8 (by decide) (by decide)) (lk_1i l9 (by decide)) (ed_some h)
  exact I1 n1 _ _ _ hM (lk_1r l0 (by decide)) (lk_1i l1 (by decide)) (lk_1i l3 (by decide)) (lk_1l l4 (by decide) (by decide)) lk_1s hn1
theorem f_HSheet_strikeColumn_fr {w : Bool} {p0 : Int32} {p1 : Int32} {p2 : Int32} {p3 : Int64} {M : im_M} {r : im_M} (h : f_HSheet_strikeColumn w p0 p1 p2 p3 M = some r) : fr 1610612736 [] M r := by
  replace h : ed (f_HSheet_strikeColumn w p0 p1 p2 p3 M) (fun x => x = r) := ⟨r, h, rfl⟩
  unfold f_HSheet_strikeColumn at h
  obtain ⟨Q1, hQ1, h⟩ := bd1_ed h
  have K1 : ∀ (M2 : im_M), fr 1610612736 [] M M2 → Q1 M2 → fr 1610612736 [] M r := by
    intro M2 hM2 h
    replace h := hQ1 _ h
    exact fr_retV h hM2
  obtain ⟨r1, hr1, hq1⟩ := h
  obtain ⟨n1, hn1⟩ := lp_n hr1
  have I1 : ∀ (n : Nat) (x3 : Int32) (M4 : im_M), fr 1610612736 [] M M4 → lpn (uc2 (f_HSheet_strikeColumn_L3 w p0 p2 p3)) n (x3, M4) = some r1 → fr 1610612736 [] M r := by
    intro n
    induction n with
    | zero => intro x3 M4 hM4 hn; exact (lpn_0 hn).elim
    | succ n ih =>
      intro x3 M4 hM4 hn
      have h := lpn_ed2 hn
      unfold f_HSheet_strikeColumn_L3 at h
      by_cases q6 : p2 < x3
      · replace h := ed_pos q6 h
        exact K1 _ hM4 (lq_r h hq1)
      · replace h := ed_neg q6 h
        obtain ⟨Q5, hQ5, h⟩ := bd1_ed h
        have J5 : ∀ (y6 : Int64), Q5 y6 → fr 1610612736 [] M r := by
          intro y6 h
          replace h := hQ5 _ h
          obtain ⟨g54, h⟩ := ed_gd h
          exact ih _ _ (fr_L (by cases w <;> decide) hM4) (lq_l h)
        by_cases q28 : (im_i M4 28 2) = 0
        · replace h := ed_pos q28 h
          obtain ⟨g50, h⟩ := ed_gd h
          exact J5 _ (ed_some h)
        · replace h := ed_neg q28 h
          obtain ⟨g37, h⟩ := ed_gd h
          exact J5 _ (ed_some h)
  exact I1 n1 _ _ fr_refl hn1
noncomputable def f_HSheet_box_L85 (w : Bool) (v6 : Int32) (v7 : Int32) (v8 : Int32) (v9 : Int32) (x10 : Int32) (M11 : im_M) : Option ((Int32 × im_M) ⊕ (im_M)) := if (v7 >>> (6 &&& 31 : Int32) : Int32) < x10 then some (.inr M11) else bd1 (f_HSheet_strikeColumn w x10 v8 v9 ((if ¬ x10 = (v7 >>> (6 &&& 31 : Int32) : Int32) then ((if ¬ x10 = (v6 >>> (6 &&& 31 : Int32) : Int32) then (-1) else (((-1) : Int64) &&& (((-1) : Int64) <<< (Int32.toInt64 (v6 &&& 63) &&& 63) : Int64))) : Int64) else (((if ¬ x10 = (v6 >>> (6 &&& 31 : Int32) : Int32) then (-1) else (((-1) : Int64) &&& (((-1) : Int64) <<< (Int32.toInt64 (v6 &&& 63) &&& 63) : Int64))) : Int64) &&& (Int64.toUInt64 (-1) >>> ((Int32.toInt64 ((63 : Int32) - (v7 &&& 63))).toUInt64 &&& Int64.toUInt64 63)).toInt64)) : Int64) M11) fun (M14 : im_M) => some (.inl ((x10 + 1), M14))
noncomputable def f_HSheet_box (w : Bool) (p0 : Int32) (p1 : Int32) (p2 : Int32) (p3 : Int32) (M : im_M) : Option (im_M) := bd1 (f_Math_max p0 0 M) fun (x1 : Int32) => bd1 (f_Math_min p2 ((im_i M 28 0) - 1) M) fun (x2 : Int32) => bd1 (f_Math_max p1 0 M) fun (x3 : Int32) => bd1 (f_Math_min p3 ((im_i M 28 1) - 1) M) fun (x4 : Int32) => if x2 < x1 then some M else if x3 ≤ x4 then bd1 (lp (uc2 (f_HSheet_box_L85 w x1 x2 x3 x4)) ((x1 >>> (6 &&& 31 : Int32) : Int32), (im_setI M 28 3 ((im_i M 28 3) + (((x2 - x1) + 1) * ((x4 - x3) + 1)))))) fun (M15 : im_M) => some M15 else some M
theorem J_HSheet_box_d0 : decode J_HSheet_box.2.1 0 = .ok (.iload_n 1, 1) := by decide +kernel
theorem J_HSheet_box_d1 : decode J_HSheet_box.2.1 1 = .ok (.iconst 0, 1) := by decide +kernel
theorem J_HSheet_box_d2 : decode J_HSheet_box.2.1 2 = .ok (.invokestatic 31, 3) := by decide +kernel
theorem J_HSheet_box_d5 : decode J_HSheet_box.2.1 5 = .ok (.istore 5, 2) := by decide +kernel
theorem J_HSheet_box_d7 : decode J_HSheet_box.2.1 7 = .ok (.iload_n 3, 1) := by decide +kernel
theorem J_HSheet_box_d8 : decode J_HSheet_box.2.1 8 = .ok (.aload_n 0, 1) := by decide +kernel
theorem J_HSheet_box_d9 : decode J_HSheet_box.2.1 9 = .ok (.getfield 9, 3) := by decide +kernel
theorem J_HSheet_box_d12 : decode J_HSheet_box.2.1 12 = .ok (.iconst 1, 1) := by decide +kernel
theorem J_HSheet_box_d13 : decode J_HSheet_box.2.1 13 = .ok (.isub, 1) := by decide +kernel
theorem J_HSheet_box_d14 : decode J_HSheet_box.2.1 14 = .ok (.invokestatic 37, 3) := by decide +kernel
theorem J_HSheet_box_d17 : decode J_HSheet_box.2.1 17 = .ok (.istore 6, 2) := by decide +kernel
theorem J_HSheet_box_d19 : decode J_HSheet_box.2.1 19 = .ok (.iload_n 2, 1) := by decide +kernel
theorem J_HSheet_box_d20 : decode J_HSheet_box.2.1 20 = .ok (.iconst 0, 1) := by decide +kernel
theorem J_HSheet_box_d21 : decode J_HSheet_box.2.1 21 = .ok (.invokestatic 31, 3) := by decide +kernel
theorem J_HSheet_box_d24 : decode J_HSheet_box.2.1 24 = .ok (.istore 7, 2) := by decide +kernel
theorem J_HSheet_box_d26 : decode J_HSheet_box.2.1 26 = .ok (.iload 4, 2) := by decide +kernel
theorem J_HSheet_box_d28 : decode J_HSheet_box.2.1 28 = .ok (.aload_n 0, 1) := by decide +kernel
theorem J_HSheet_box_d29 : decode J_HSheet_box.2.1 29 = .ok (.getfield 15, 3) := by decide +kernel
theorem J_HSheet_box_d32 : decode J_HSheet_box.2.1 32 = .ok (.iconst 1, 1) := by decide +kernel
theorem J_HSheet_box_d33 : decode J_HSheet_box.2.1 33 = .ok (.isub, 1) := by decide +kernel
theorem J_HSheet_box_d34 : decode J_HSheet_box.2.1 34 = .ok (.invokestatic 37, 3) := by decide +kernel
theorem J_HSheet_box_d37 : decode J_HSheet_box.2.1 37 = .ok (.istore 8, 2) := by decide +kernel
theorem J_HSheet_box_d39 : decode J_HSheet_box.2.1 39 = .ok (.iload 5, 2) := by decide +kernel
theorem J_HSheet_box_d41 : decode J_HSheet_box.2.1 41 = .ok (.iload 6, 2) := by decide +kernel
theorem J_HSheet_box_d43 : decode J_HSheet_box.2.1 43 = .ok (.if_icmp .gt 10, 3) := by decide +kernel
theorem J_HSheet_box_d46 : decode J_HSheet_box.2.1 46 = .ok (.iload 7, 2) := by decide +kernel
theorem J_HSheet_box_d48 : decode J_HSheet_box.2.1 48 = .ok (.iload 8, 2) := by decide +kernel
theorem J_HSheet_box_d50 : decode J_HSheet_box.2.1 50 = .ok (.if_icmp .le 4, 3) := by decide +kernel
theorem J_HSheet_box_d53 : decode J_HSheet_box.2.1 53 = .ok (.return_, 1) := by decide +kernel
theorem J_HSheet_box_d54 : decode J_HSheet_box.2.1 54 = .ok (.aload_n 0, 1) := by decide +kernel
theorem J_HSheet_box_d55 : decode J_HSheet_box.2.1 55 = .ok (.dup, 1) := by decide +kernel
theorem J_HSheet_box_d56 : decode J_HSheet_box.2.1 56 = .ok (.getfield 40, 3) := by decide +kernel
theorem J_HSheet_box_d59 : decode J_HSheet_box.2.1 59 = .ok (.iload 6, 2) := by decide +kernel
theorem J_HSheet_box_d61 : decode J_HSheet_box.2.1 61 = .ok (.iload 5, 2) := by decide +kernel
theorem J_HSheet_box_d63 : decode J_HSheet_box.2.1 63 = .ok (.isub, 1) := by decide +kernel
theorem J_HSheet_box_d64 : decode J_HSheet_box.2.1 64 = .ok (.iconst 1, 1) := by decide +kernel
theorem J_HSheet_box_d65 : decode J_HSheet_box.2.1 65 = .ok (.iadd, 1) := by decide +kernel
theorem J_HSheet_box_d66 : decode J_HSheet_box.2.1 66 = .ok (.iload 8, 2) := by decide +kernel
theorem J_HSheet_box_d68 : decode J_HSheet_box.2.1 68 = .ok (.iload 7, 2) := by decide +kernel
theorem J_HSheet_box_d70 : decode J_HSheet_box.2.1 70 = .ok (.isub, 1) := by decide +kernel
theorem J_HSheet_box_d71 : decode J_HSheet_box.2.1 71 = .ok (.iconst 1, 1) := by decide +kernel
theorem J_HSheet_box_d72 : decode J_HSheet_box.2.1 72 = .ok (.iadd, 1) := by decide +kernel
theorem J_HSheet_box_d73 : decode J_HSheet_box.2.1 73 = .ok (.imul, 1) := by decide +kernel
theorem J_HSheet_box_d74 : decode J_HSheet_box.2.1 74 = .ok (.iadd, 1) := by decide +kernel
theorem J_HSheet_box_d75 : decode J_HSheet_box.2.1 75 = .ok (.putfield 40, 3) := by decide +kernel
theorem J_HSheet_box_d78 : decode J_HSheet_box.2.1 78 = .ok (.iload 5, 2) := by decide +kernel
theorem J_HSheet_box_d80 : decode J_HSheet_box.2.1 80 = .ok (.bipush 6, 2) := by decide +kernel
theorem J_HSheet_box_d82 : decode J_HSheet_box.2.1 82 = .ok (.ishr, 1) := by decide +kernel
theorem J_HSheet_box_d83 : decode J_HSheet_box.2.1 83 = .ok (.istore 9, 2) := by decide +kernel
theorem J_HSheet_box_d85 : decode J_HSheet_box.2.1 85 = .ok (.iload 9, 2) := by decide +kernel
theorem J_HSheet_box_d87 : decode J_HSheet_box.2.1 87 = .ok (.iload 6, 2) := by decide +kernel
theorem J_HSheet_box_d89 : decode J_HSheet_box.2.1 89 = .ok (.bipush 6, 2) := by decide +kernel
theorem J_HSheet_box_d91 : decode J_HSheet_box.2.1 91 = .ok (.ishr, 1) := by decide +kernel
theorem J_HSheet_box_d92 : decode J_HSheet_box.2.1 92 = .ok (.if_icmp .gt 77, 3) := by decide +kernel
theorem J_HSheet_box_d95 : decode J_HSheet_box.2.1 95 = .ok (.ldc2_w 43, 3) := by decide +kernel
theorem J_HSheet_box_d98 : decode J_HSheet_box.2.1 98 = .ok (.lstore 10, 2) := by decide +kernel
theorem J_HSheet_box_d100 : decode J_HSheet_box.2.1 100 = .ok (.iload 9, 2) := by decide +kernel
theorem J_HSheet_box_d102 : decode J_HSheet_box.2.1 102 = .ok (.iload 5, 2) := by decide +kernel
theorem J_HSheet_box_d104 : decode J_HSheet_box.2.1 104 = .ok (.bipush 6, 2) := by decide +kernel
theorem J_HSheet_box_d106 : decode J_HSheet_box.2.1 106 = .ok (.ishr, 1) := by decide +kernel
theorem J_HSheet_box_d107 : decode J_HSheet_box.2.1 107 = .ok (.if_icmp .ne 17, 3) := by decide +kernel
theorem J_HSheet_box_d110 : decode J_HSheet_box.2.1 110 = .ok (.lload 10, 2) := by decide +kernel
theorem J_HSheet_box_d112 : decode J_HSheet_box.2.1 112 = .ok (.ldc2_w 43, 3) := by decide +kernel
theorem J_HSheet_box_d115 : decode J_HSheet_box.2.1 115 = .ok (.iload 5, 2) := by decide +kernel
theorem J_HSheet_box_d117 : decode J_HSheet_box.2.1 117 = .ok (.bipush 63, 2) := by decide +kernel
theorem J_HSheet_box_d119 : decode J_HSheet_box.2.1 119 = .ok (.iand, 1) := by decide +kernel
theorem J_HSheet_box_d120 : decode J_HSheet_box.2.1 120 = .ok (.lshl, 1) := by decide +kernel
theorem J_HSheet_box_d121 : decode J_HSheet_box.2.1 121 = .ok (.land, 1) := by decide +kernel
theorem J_HSheet_box_d122 : decode J_HSheet_box.2.1 122 = .ok (.lstore 10, 2) := by decide +kernel
theorem J_HSheet_box_d124 : decode J_HSheet_box.2.1 124 = .ok (.iload 9, 2) := by decide +kernel
theorem J_HSheet_box_d126 : decode J_HSheet_box.2.1 126 = .ok (.iload 6, 2) := by decide +kernel
theorem J_HSheet_box_d128 : decode J_HSheet_box.2.1 128 = .ok (.bipush 6, 2) := by decide +kernel
theorem J_HSheet_box_d130 : decode J_HSheet_box.2.1 130 = .ok (.ishr, 1) := by decide +kernel
theorem J_HSheet_box_d131 : decode J_HSheet_box.2.1 131 = .ok (.if_icmp .ne 20, 3) := by decide +kernel
theorem J_HSheet_box_d134 : decode J_HSheet_box.2.1 134 = .ok (.lload 10, 2) := by decide +kernel
theorem J_HSheet_box_d136 : decode J_HSheet_box.2.1 136 = .ok (.ldc2_w 43, 3) := by decide +kernel
theorem J_HSheet_box_d139 : decode J_HSheet_box.2.1 139 = .ok (.bipush 63, 2) := by decide +kernel
theorem J_HSheet_box_d141 : decode J_HSheet_box.2.1 141 = .ok (.iload 6, 2) := by decide +kernel
theorem J_HSheet_box_d143 : decode J_HSheet_box.2.1 143 = .ok (.bipush 63, 2) := by decide +kernel
theorem J_HSheet_box_d145 : decode J_HSheet_box.2.1 145 = .ok (.iand, 1) := by decide +kernel
theorem J_HSheet_box_d146 : decode J_HSheet_box.2.1 146 = .ok (.isub, 1) := by decide +kernel
theorem J_HSheet_box_d147 : decode J_HSheet_box.2.1 147 = .ok (.lushr, 1) := by decide +kernel
theorem J_HSheet_box_d148 : decode J_HSheet_box.2.1 148 = .ok (.land, 1) := by decide +kernel
theorem J_HSheet_box_d149 : decode J_HSheet_box.2.1 149 = .ok (.lstore 10, 2) := by decide +kernel
theorem J_HSheet_box_d151 : decode J_HSheet_box.2.1 151 = .ok (.aload_n 0, 1) := by decide +kernel
theorem J_HSheet_box_d152 : decode J_HSheet_box.2.1 152 = .ok (.iload 9, 2) := by decide +kernel
theorem J_HSheet_box_d154 : decode J_HSheet_box.2.1 154 = .ok (.iload 7, 2) := by decide +kernel
theorem J_HSheet_box_d156 : decode J_HSheet_box.2.1 156 = .ok (.iload 8, 2) := by decide +kernel
theorem J_HSheet_box_d158 : decode J_HSheet_box.2.1 158 = .ok (.lload 10, 2) := by decide +kernel
theorem J_HSheet_box_d160 : decode J_HSheet_box.2.1 160 = .ok (.invokevirtual 45, 3) := by decide +kernel
theorem J_HSheet_box_d163 : decode J_HSheet_box.2.1 163 = .ok (.iinc 9 1, 3) := by decide +kernel
theorem J_HSheet_box_d166 : decode J_HSheet_box.2.1 166 = .ok (.goto (-81), 3) := by decide +kernel
theorem J_HSheet_box_d169 : decode J_HSheet_box.2.1 169 = .ok (.return_, 1) := by decide +kernel
theorem f_HSheet_box_ok {L : Nat} {xs : Nat → Int32} {dep : Nat} {w : Bool} {p0 : Int32} {p1 : Int32} {p2 : Int32} {p3 : Int32} {M : im_M} {Q : im_M → Prop} (hM : lw_S w M) (h : ed (f_HSheet_box w p0 p1 p2 p3 M) Q) : ia (tb_G L xs) (dep + 1) J_HSheet_box (rwV w Q) (0, lv_args 0 [.ref 28, .int p0, .int p1, .int p2, .int p3], [], M) := by
  have hS : im_St (tb_G L xs) (dep + 1) J_HSheet_box (ia (tb_G L xs) (dep + 1) J_HSheet_box (rwV w Q)) := ia_St
  unfold f_HSheet_box at h
  have l0 : im_lk (lv_args 0 [.ref 28, .int p0, .int p1, .int p2, .int p3]) 0 = some (.ref 28) := rfl
  have l1 : im_lk (lv_args 0 [.ref 28, .int p0, .int p1, .int p2, .int p3]) 1 = some (.int p0) := rfl
  have l2 : im_lk (lv_args 0 [.ref 28, .int p0, .int p1, .int p2, .int p3]) 2 = some (.int p1) := rfl
  have l3 : im_lk (lv_args 0 [.ref 28, .int p0, .int p1, .int p2, .int p3]) 3 = some (.int p2) := rfl
  have l4 : im_lk (lv_args 0 [.ref 28, .int p0, .int p1, .int p2, .int p3]) 4 = some (.int p3) := rfl
  refine iq_iload_n hS 1 J_HSheet_box_d0 l1 rfl ?_
  refine iq_iconst hS 2 J_HSheet_box_d1 (v := 0) (by decide +kernel) rfl ?_
  obtain ⟨Q1, hQ1, h⟩ := bd1_ed h
  refine iq_cpI hS 5 J_HSheet_box_d2 rfl (pr_stat (vs := [_, _]) lc_9_31 lT_27 rfl rfl (by decide) rfl (Nat.le_of_ble_eq_true rfl) (Nat.le_of_ble_eq_true rfl)) (f_Math_max_ok (dep := dep + 0) hM h) rfl ?_
  intro x1 h
  replace h := hQ1 _ h
  refine iq_istore hS 7 J_HSheet_box_d5 (by decide) rfl ?_
  refine iq_iload_n hS 8 J_HSheet_box_d7 (lk_1i l3 (by decide)) rfl ?_
  refine iq_aload_n hS 9 J_HSheet_box_d8 (lk_1r l0 (by decide)) rfl ?_
  refine iq_getI hS 12 J_HSheet_box_d9 lf_9_9 (Or.inl rfl) (ka_28 hM) rfl ?_
  refine iq_iconst hS 13 J_HSheet_box_d12 (v := 1) (by decide +kernel) rfl ?_
  refine iq_isub hS 14 J_HSheet_box_d13 rfl ?_
  obtain ⟨Q2, hQ2, h⟩ := bd1_ed h
  refine iq_cpI hS 17 J_HSheet_box_d14 rfl (pr_stat (vs := [_, _]) lc_9_37 lT_28 rfl rfl (by decide) rfl (Nat.le_of_ble_eq_true rfl) (Nat.le_of_ble_eq_true rfl)) (f_Math_min_ok (dep := dep + 0) hM h) rfl ?_
  intro x2 h
  replace h := hQ2 _ h
  refine iq_istore hS 19 J_HSheet_box_d17 (by decide) rfl ?_
  refine iq_iload_n hS 20 J_HSheet_box_d19 (lk_1i (lk_1i l2 (by decide)) (by decide)) rfl ?_
  refine iq_iconst hS 21 J_HSheet_box_d20 (v := 0) (by decide +kernel) rfl ?_
  obtain ⟨Q3, hQ3, h⟩ := bd1_ed h
  refine iq_cpI hS 24 J_HSheet_box_d21 rfl (pr_stat (vs := [_, _]) lc_9_31 lT_27 rfl rfl (by decide) rfl (Nat.le_of_ble_eq_true rfl) (Nat.le_of_ble_eq_true rfl)) (f_Math_max_ok (dep := dep + 0) hM h) rfl ?_
  intro x3 h
  replace h := hQ3 _ h
  refine iq_istore hS 26 J_HSheet_box_d24 (by decide) rfl ?_
  refine iq_iload hS 28 J_HSheet_box_d26 (lk_1i (lk_1i (lk_1i l4 (by decide)) (by decide)) (by decide)) rfl ?_
  refine iq_aload_n hS 29 J_HSheet_box_d28 (lk_1r (lk_1r (lk_1r l0 (by decide)) (by decide)) (by decide)) rfl ?_
  refine iq_getI hS 32 J_HSheet_box_d29 lf_9_15 (Or.inl rfl) (ka_28 hM) rfl ?_
  refine iq_iconst hS 33 J_HSheet_box_d32 (v := 1) (by decide +kernel) rfl ?_
  refine iq_isub hS 34 J_HSheet_box_d33 rfl ?_
  obtain ⟨Q4, hQ4, h⟩ := bd1_ed h
  refine iq_cpI hS 37 J_HSheet_box_d34 rfl (pr_stat (vs := [_, _]) lc_9_37 lT_28 rfl rfl (by decide) rfl (Nat.le_of_ble_eq_true rfl) (Nat.le_of_ble_eq_true rfl)) (f_Math_min_ok (dep := dep + 0) hM h) rfl ?_
  intro x4 h
  replace h := hQ4 _ h
  refine iq_istore hS 39 J_HSheet_box_d37 (by decide) rfl ?_
  refine iq_iload hS 41 J_HSheet_box_d39 (lk_1i (lk_1i (lk_1i lk_1s (by decide)) (by decide)) (by decide)) rfl ?_
  refine iq_iload hS 43 J_HSheet_box_d41 (lk_1i (lk_1i lk_1s (by decide)) (by decide)) rfl ?_
  refine iq_icmp_gt hS 46 J_HSheet_box_d43 (t := 53) rfl (fun q43 => ?_) rfl (fun q43 => ?_)
  · replace h := ed_pos q43 h
    exact iq_ret J_HSheet_box_d53 rfl ⟨rfl, hM, ed_some h⟩
  · replace h := ed_neg q43 h
    refine iq_iload hS 48 J_HSheet_box_d46 (lk_1i lk_1s (by decide)) rfl ?_
    refine iq_iload hS 50 J_HSheet_box_d48 lk_1s rfl ?_
    refine iq_icmp_le hS 53 J_HSheet_box_d50 (t := 54) rfl (fun q50 => ?_) rfl (fun q50 => ?_)
    · replace h := ed_pos q50 h
      refine iq_aload_n hS 55 J_HSheet_box_d54 (lk_1r (lk_1r (lk_1r (lk_1r l0 (by decide)) (by decide)) (by decide)) (by decide)) rfl ?_
      refine iq_dup hS 56 J_HSheet_box_d55 rfl rfl ?_
      refine iq_getI hS 59 J_HSheet_box_d56 lf_9_40 (Or.inl rfl) (ka_28 hM) rfl ?_
      refine iq_iload hS 61 J_HSheet_box_d59 (lk_1i (lk_1i lk_1s (by decide)) (by decide)) rfl ?_
      refine iq_iload hS 63 J_HSheet_box_d61 (lk_1i (lk_1i (lk_1i lk_1s (by decide)) (by decide)) (by decide)) rfl ?_
      refine iq_isub hS 64 J_HSheet_box_d63 rfl ?_
      refine iq_iconst hS 65 J_HSheet_box_d64 (v := 1) (by decide +kernel) rfl ?_
      refine iq_iadd hS 66 J_HSheet_box_d65 rfl ?_
      refine iq_iload hS 68 J_HSheet_box_d66 lk_1s rfl ?_
      refine iq_iload hS 70 J_HSheet_box_d68 (lk_1i lk_1s (by decide)) rfl ?_
      refine iq_isub hS 71 J_HSheet_box_d70 rfl ?_
      refine iq_iconst hS 72 J_HSheet_box_d71 (v := 1) (by decide +kernel) rfl ?_
      refine iq_iadd hS 73 J_HSheet_box_d72 rfl ?_
      refine iq_imul hS 74 J_HSheet_box_d73 rfl ?_
      refine iq_iadd hS 75 J_HSheet_box_d74 rfl ?_
      refine iq_putI hS 78 J_HSheet_box_d75 lf_9_40 (Or.inl rfl) rfl (ka_28 hM) rfl ?_
      refine iq_iload hS 80 J_HSheet_box_d78 (lk_1i (lk_1i (lk_1i lk_1s (by decide)) (by decide)) (by decide)) rfl ?_
      refine iq_bipush hS 82 J_HSheet_box_d80 (v := 6) (by decide +kernel) rfl ?_
      refine iq_ishr hS 83 J_HSheet_box_d82 rfl ?_
      refine iq_istore hS 85 J_HSheet_box_d83 (by decide) rfl ?_
      obtain ⟨Q5, hQ5, h⟩ := bd1_ed h
      have K5 : ∀ (M6 : im_M) (L' : List (Nat × Value)), lw_S w M6 → Q5 M6 → ia (tb_G L xs) (dep + 1) J_HSheet_box (rwV w Q) (169, L', [], M6) := by
        intro M6 L' hM6  h
        replace h := hQ5 _ h
        exact iq_ret J_HSheet_box_d169 rfl ⟨rfl, hM6, ed_some h⟩
      obtain ⟨r5, hr5, hq5⟩ := h
      obtain ⟨n5, hn5⟩ := lp_n hr5
      have I5 : ∀ (n : Nat) (x7 : Int32) (M8 : im_M) (L' : List (Nat × Value)), lw_S w M8 → im_lk L' 0 = some (.ref 28) → im_lk L' 5 = some (.int x1) → im_lk L' 6 = some (.int x2) → im_lk L' 7 = some (.int x3) → im_lk L' 8 = some (.int x4) → im_lk L' 9 = some (.int x7) → lpn (uc2 (f_HSheet_box_L85 w x1 x2 x3 x4)) n (x7, M8) = some r5 → ia (tb_G L xs) (dep + 1) J_HSheet_box (rwV w Q) (85, L', [], M8) := by
        intro n
        induction n with
        | zero => intro x7 M8 L' hM8 l9 l10 l11 l12 l13 l14 hn; exact (lpn_0 hn).elim
        | succ n ih =>
          intro x7 M8 L' hM8 l9 l10 l11 l12 l13 l14 hn
          have h := lpn_ed2 hn
          unfold f_HSheet_box_L85 at h
          refine iq_iload hS 87 J_HSheet_box_d85 l14 rfl ?_
          refine iq_iload hS 89 J_HSheet_box_d87 l11 rfl ?_
          refine iq_bipush hS 91 J_HSheet_box_d89 (v := 6) (by decide +kernel) rfl ?_
          refine iq_ishr hS 92 J_HSheet_box_d91 rfl ?_
          refine iq_icmp_gt hS 95 J_HSheet_box_d92 (t := 169) rfl (fun q92 => ?_) rfl (fun q92 => ?_)
          · replace h := ed_pos q92 h
            exact K5 _ _ hM8  (lq_r h hq5)
          · replace h := ed_neg q92 h
            refine iq_ldc2_w hS 98 J_HSheet_box_d95 lk_9_43 rfl ?_
            refine iq_lstore hS 100 J_HSheet_box_d98 (by decide) rfl ?_
            refine iq_iload hS 102 J_HSheet_box_d100 (lk_2i l14 (by decide) (by decide)) rfl ?_
            refine iq_iload hS 104 J_HSheet_box_d102 (lk_2i l10 (by decide) (by decide)) rfl ?_
            refine iq_bipush hS 106 J_HSheet_box_d104 (v := 6) (by decide +kernel) rfl ?_
            refine iq_ishr hS 107 J_HSheet_box_d106 rfl ?_
            have J15 : ∀ (z16 : Int64) (L' : List (Nat × Value)), z16 = ((if ¬ x7 = (x1 >>> (6 &&& 31 : Int32) : Int32) then (-1) else (((-1) : Int64) &&& (((-1) : Int64) <<< (Int32.toInt64 (x1 &&& 63) &&& 63) : Int64))) : Int64) → im_lk L' 0 = some (.ref 28) → im_lk L' 5 = some (.int x1) → im_lk L' 6 = some (.int x2) → im_lk L' 7 = some (.int x3) → im_lk L' 8 = some (.int x4) → im_lk L' 9 = some (.int x7) → im_lk L' 10 = some (.long z16) → ia (tb_G L xs) (dep + 1) J_HSheet_box (rwV w Q) (124, L', [], M8) := by
              intro z16 L' e17 l18 l19 l20 l21 l22 l23 l24
              subst e17
              refine iq_iload hS 126 J_HSheet_box_d124 l23 rfl ?_
              refine iq_iload hS 128 J_HSheet_box_d126 l20 rfl ?_
              refine iq_bipush hS 130 J_HSheet_box_d128 (v := 6) (by decide +kernel) rfl ?_
              refine iq_ishr hS 131 J_HSheet_box_d130 rfl ?_
              have J25 : ∀ (z26 : Int64) (L' : List (Nat × Value)), z26 = ((if ¬ x7 = (x2 >>> (6 &&& 31 : Int32) : Int32) then ((if ¬ x7 = (x1 >>> (6 &&& 31 : Int32) : Int32) then (-1) else (((-1) : Int64) &&& (((-1) : Int64) <<< (Int32.toInt64 (x1 &&& 63) &&& 63) : Int64))) : Int64) else (((if ¬ x7 = (x1 >>> (6 &&& 31 : Int32) : Int32) then (-1) else (((-1) : Int64) &&& (((-1) : Int64) <<< (Int32.toInt64 (x1 &&& 63) &&& 63) : Int64))) : Int64) &&& (Int64.toUInt64 (-1) >>> ((Int32.toInt64 ((63 : Int32) - (x2 &&& 63))).toUInt64 &&& Int64.toUInt64 63)).toInt64)) : Int64) → im_lk L' 0 = some (.ref 28) → im_lk L' 5 = some (.int x1) → im_lk L' 6 = some (.int x2) → im_lk L' 7 = some (.int x3) → im_lk L' 8 = some (.int x4) → im_lk L' 9 = some (.int x7) → im_lk L' 10 = some (.long z26) → ia (tb_G L xs) (dep + 1) J_HSheet_box (rwV w Q) (151, L', [], M8) := by
                intro z26 L' e27 l28 l29 l30 l31 l32 l33 l34
                subst e27
                refine iq_aload_n hS 152 J_HSheet_box_d151 l28 rfl ?_
                refine iq_iload hS 154 J_HSheet_box_d152 l33 rfl ?_
                refine iq_iload hS 156 J_HSheet_box_d154 l31 rfl ?_
                refine iq_iload hS 158 J_HSheet_box_d156 l32 rfl ?_
                refine iq_lload hS 160 J_HSheet_box_d158 l34 rfl ?_
                obtain ⟨Q35, hQ35, h⟩ := bd1_ed h
                refine iq_cwV hS 163 J_HSheet_box_d160 rfl (pr_inst (vs := [_, _, _, _]) lc_9_45 lT_114 rfl rfl (by decide) (by decide) rfl (Nat.le_of_ble_eq_true rfl) (Nat.le_of_ble_eq_true rfl) (fun _ => Or.inl (pr_b (ka_28 hM8) (by decide) rfl))) (f_HSheet_strikeColumn_ok (dep := dep + 0) hM8 h) rfl ?_
                intro M35 hM35 h
                replace h := hQ35 _ h
                refine iq_iincv hS 166 J_HSheet_box_d163 (c := 1) (by decide +kernel) l33 (by decide) rfl ?_
                refine iq_goto hS J_HSheet_box_d166 (t := 85) rfl ?_
                exact ih _ _ _ hM35 (lk_1r l28 (by decide)) (lk_1i l29 (by decide)) (lk_1i l30 (by decide)) (lk_1i l31 (by decide)) (lk_1i l32 (by decide)) lk_1s (lq_l h)
              refine iq_icmp_ne hS 134 J_HSheet_box_d131 (t := 151) rfl (fun q131 => ?_) rfl (fun q131 => ?_)
              · exact J25 _ _ (by simp only [if_pos q131]) l18 l19 l20 l21 l22 l23 l24
              · refine iq_lload hS 136 J_HSheet_box_d134 l24 rfl ?_
                refine iq_ldc2_w hS 139 J_HSheet_box_d136 lk_9_43 rfl ?_
                refine iq_bipush hS 141 J_HSheet_box_d139 (v := 63) (by decide +kernel) rfl ?_
                refine iq_iload hS 143 J_HSheet_box_d141 l20 rfl ?_
                refine iq_bipush hS 145 J_HSheet_box_d143 (v := 63) (by decide +kernel) rfl ?_
                refine iq_iand hS 146 J_HSheet_box_d145 rfl ?_
                refine iq_isub hS 147 J_HSheet_box_d146 rfl ?_
                refine iq_lushr hS 148 J_HSheet_box_d147 rfl ?_
                refine iq_land hS 149 J_HSheet_box_d148 rfl ?_
                refine iq_lstore hS 151 J_HSheet_box_d149 (by decide) rfl ?_
                exact J25 _ _ (by simp only [if_neg q131]) (lk_2r l18 (by decide) (by decide)) (lk_2i l19 (by decide) (by decide)) (lk_2i l20 (by decide) (by decide)) (lk_2i l21 (by decide) (by decide)) (lk_2i l22 (by decide) (by decide)) (lk_2i l23 (by decide) (by decide)) lk_2s
            refine iq_icmp_ne hS 110 J_HSheet_box_d107 (t := 124) rfl (fun q107 => ?_) rfl (fun q107 => ?_)
            · exact J15 _ _ (by simp only [if_pos q107]) (lk_2r l9 (by decide) (by decide)) (lk_2i l10 (by decide) (by decide)) (lk_2i l11 (by decide) (by decide)) (lk_2i l12 (by decide) (by decide)) (lk_2i l13 (by decide) (by decide)) (lk_2i l14 (by decide) (by decide)) lk_2s
            · refine iq_lload hS 112 J_HSheet_box_d110 lk_2s rfl ?_
              refine iq_ldc2_w hS 115 J_HSheet_box_d112 lk_9_43 rfl ?_
              refine iq_iload hS 117 J_HSheet_box_d115 (lk_2i l10 (by decide) (by decide)) rfl ?_
              refine iq_bipush hS 119 J_HSheet_box_d117 (v := 63) (by decide +kernel) rfl ?_
              refine iq_iand hS 120 J_HSheet_box_d119 rfl ?_
              refine iq_lshl hS 121 J_HSheet_box_d120 rfl ?_
              refine iq_land hS 122 J_HSheet_box_d121 rfl ?_
              refine iq_lstore hS 124 J_HSheet_box_d122 (by decide) rfl ?_
              exact J15 _ _ (by simp only [if_neg q107]) (lk_2r (lk_2r l9 (by decide) (by decide)) (by decide) (by decide)) (lk_2i (lk_2i l10 (by decide) (by decide)) (by decide) (by decide)) (lk_2i (lk_2i l11 (by decide) (by decide)) (by decide) (by decide)) (lk_2i (lk_2i l12 (by decide) (by decide)) (by decide) (by decide)) (lk_2i (lk_2i l13 (by decide) (by decide)) (by decide) (by decide)) (lk_2i (lk_2i l14 (by decide) (by decide)) (by decide) (by decide)) lk_2s
      exact I5 n5 _ _ _ (lw_sI hM) (lk_1r (lk_1r (lk_1r (lk_1r (lk_1r l0 (by decide)) (by decide)) (by decide)) (by decide)) (by decide)) (lk_1i (lk_1i (lk_1i (lk_1i lk_1s (by decide)) (by decide)) (by decide)) (by decide)) (lk_1i (lk_1i (lk_1i lk_1s (by decide)) (by decide)) (by decide)) (lk_1i (lk_1i lk_1s (by decide)) (by decide)) (lk_1i lk_1s (by decide)) lk_1s hn5
    · replace h := ed_neg q50 h
      exact iq_ret J_HSheet_box_d53 rfl ⟨rfl, hM, ed_some h⟩
theorem f_HSheet_box_fr {w : Bool} {p0 : Int32} {p1 : Int32} {p2 : Int32} {p3 : Int32} {M : im_M} {r : im_M} (h : f_HSheet_box w p0 p1 p2 p3 M = some r) : fr 1610612736 [(28, 3)] M r := by
  replace h : ed (f_HSheet_box w p0 p1 p2 p3 M) (fun x => x = r) := ⟨r, h, rfl⟩
  unfold f_HSheet_box at h
  obtain ⟨Q1, hQ1, h⟩ := bd1_ed h
  obtain ⟨x1, e1, h⟩ := h
  replace h := hQ1 _ h
  obtain ⟨Q2, hQ2, h⟩ := bd1_ed h
  obtain ⟨x2, e2, h⟩ := h
  replace h := hQ2 _ h
  obtain ⟨Q3, hQ3, h⟩ := bd1_ed h
  obtain ⟨x3, e3, h⟩ := h
  replace h := hQ3 _ h
  obtain ⟨Q4, hQ4, h⟩ := bd1_ed h
  obtain ⟨x4, e4, h⟩ := h
  replace h := hQ4 _ h
  by_cases q43 : x2 < x1
  · replace h := ed_pos q43 h
    exact fr_retV h fr_refl
  · replace h := ed_neg q43 h
    by_cases q50 : x3 ≤ x4
    · replace h := ed_pos q50 h
      obtain ⟨Q5, hQ5, h⟩ := bd1_ed h
      have K5 : ∀ (M6 : im_M), fr 1610612736 [(28, 3)] M M6 → Q5 M6 → fr 1610612736 [(28, 3)] M r := by
        intro M6 hM6 h
        replace h := hQ5 _ h
        exact fr_retV h hM6
      obtain ⟨r5, hr5, hq5⟩ := h
      obtain ⟨n5, hn5⟩ := lp_n hr5
      have I5 : ∀ (n : Nat) (x7 : Int32) (M8 : im_M), fr 1610612736 [(28, 3)] M M8 → lpn (uc2 (f_HSheet_box_L85 w x1 x2 x3 x4)) n (x7, M8) = some r5 → fr 1610612736 [(28, 3)] M r := by
        intro n
        induction n with
        | zero => intro x7 M8 hM8 hn; exact (lpn_0 hn).elim
        | succ n ih =>
          intro x7 M8 hM8 hn
          have h := lpn_ed2 hn
          unfold f_HSheet_box_L85 at h
          by_cases q92 : (x2 >>> (6 &&& 31 : Int32) : Int32) < x7
          · replace h := ed_pos q92 h
            exact K5 _ hM8 (lq_r h hq5)
          · replace h := ed_neg q92 h
            obtain ⟨Q11, hQ11, h⟩ := bd1_ed h
            obtain ⟨M11, e11, h⟩ := h
            replace h := hQ11 _ h
            exact ih _ _ (fr_tr (fr_mono (by decide) (by decide +kernel) (f_HSheet_strikeColumn_fr e11)) hM8) (lq_l h)
      exact I5 n5 _ _ (fr_F (by decide) fr_refl) hn5
    · replace h := ed_neg q50 h
      exact fr_retV h fr_refl
noncomputable def f_HPen_strike (w : Bool) (p0 : Int32) (p1 : Int32) (p2 : Int32) (p3 : Int32) (M : im_M) : Option (im_M) := if (im_i M 56 7) = 0 then bd1 (f_HSheet_box w ((im_i M 56 5) + p0) ((im_i M 56 6) + p1) ((((im_i M 56 5) + p0) + p2) - 1) ((((im_i M 56 6) + p1) + p3) - 1) M) fun (M1 : im_M) => some M1 else if (im_i M 56 7) = 1 then bd1 (f_HSheet_box w ((((im_i M 56 5) - p1) - p3) + 1) ((im_i M 56 6) + p0) ((im_i M 56 5) - p1) ((((im_i M 56 6) + p0) + p2) - 1) M) fun (M2 : im_M) => some M2 else if (im_i M 56 7) = 2 then bd1 (f_HSheet_box w ((((im_i M 56 5) - p0) - p2) + 1) ((((im_i M 56 6) - p1) - p3) + 1) ((im_i M 56 5) - p0) ((im_i M 56 6) - p1) M) fun (M3 : im_M) => some M3 else bd1 (f_HSheet_box w ((im_i M 56 5) + p1) ((((im_i M 56 6) - p0) - p2) + 1) ((((im_i M 56 5) + p1) + p3) - 1) ((im_i M 56 6) - p0) M) fun (M4 : im_M) => some M4
theorem J_HPen_strike_d0 : decode J_HPen_strike.2.1 0 = .ok (.aload_n 0, 1) := by decide +kernel
theorem J_HPen_strike_d1 : decode J_HPen_strike.2.1 1 = .ok (.getfield 50, 3) := by decide +kernel
theorem J_HPen_strike_d4 : decode J_HPen_strike.2.1 4 = .ok (.tableswitch 157 0 2 #[28, 71, 114], 28) := by decide +kernel
theorem J_HPen_strike_d32 : decode J_HPen_strike.2.1 32 = .ok (.aload_n 0, 1) := by decide +kernel
theorem J_HPen_strike_d33 : decode J_HPen_strike.2.1 33 = .ok (.getfield 19, 3) := by decide +kernel
theorem J_HPen_strike_d36 : decode J_HPen_strike.2.1 36 = .ok (.aload_n 0, 1) := by decide +kernel
theorem J_HPen_strike_d37 : decode J_HPen_strike.2.1 37 = .ok (.getfield 43, 3) := by decide +kernel
theorem J_HPen_strike_d40 : decode J_HPen_strike.2.1 40 = .ok (.iload_n 1, 1) := by decide +kernel
theorem J_HPen_strike_d41 : decode J_HPen_strike.2.1 41 = .ok (.iadd, 1) := by decide +kernel
theorem J_HPen_strike_d42 : decode J_HPen_strike.2.1 42 = .ok (.aload_n 0, 1) := by decide +kernel
theorem J_HPen_strike_d43 : decode J_HPen_strike.2.1 43 = .ok (.getfield 47, 3) := by decide +kernel
theorem J_HPen_strike_d46 : decode J_HPen_strike.2.1 46 = .ok (.iload_n 2, 1) := by decide +kernel
theorem J_HPen_strike_d47 : decode J_HPen_strike.2.1 47 = .ok (.iadd, 1) := by decide +kernel
theorem J_HPen_strike_d48 : decode J_HPen_strike.2.1 48 = .ok (.aload_n 0, 1) := by decide +kernel
theorem J_HPen_strike_d49 : decode J_HPen_strike.2.1 49 = .ok (.getfield 43, 3) := by decide +kernel
theorem J_HPen_strike_d52 : decode J_HPen_strike.2.1 52 = .ok (.iload_n 1, 1) := by decide +kernel
theorem J_HPen_strike_d53 : decode J_HPen_strike.2.1 53 = .ok (.iadd, 1) := by decide +kernel
theorem J_HPen_strike_d54 : decode J_HPen_strike.2.1 54 = .ok (.iload_n 3, 1) := by decide +kernel
theorem J_HPen_strike_d55 : decode J_HPen_strike.2.1 55 = .ok (.iadd, 1) := by decide +kernel
theorem J_HPen_strike_d56 : decode J_HPen_strike.2.1 56 = .ok (.iconst 1, 1) := by decide +kernel
theorem J_HPen_strike_d57 : decode J_HPen_strike.2.1 57 = .ok (.isub, 1) := by decide +kernel
theorem J_HPen_strike_d58 : decode J_HPen_strike.2.1 58 = .ok (.aload_n 0, 1) := by decide +kernel
theorem J_HPen_strike_d59 : decode J_HPen_strike.2.1 59 = .ok (.getfield 47, 3) := by decide +kernel
theorem J_HPen_strike_d62 : decode J_HPen_strike.2.1 62 = .ok (.iload_n 2, 1) := by decide +kernel
theorem J_HPen_strike_d63 : decode J_HPen_strike.2.1 63 = .ok (.iadd, 1) := by decide +kernel
theorem J_HPen_strike_d64 : decode J_HPen_strike.2.1 64 = .ok (.iload 4, 2) := by decide +kernel
theorem J_HPen_strike_d66 : decode J_HPen_strike.2.1 66 = .ok (.iadd, 1) := by decide +kernel
theorem J_HPen_strike_d67 : decode J_HPen_strike.2.1 67 = .ok (.iconst 1, 1) := by decide +kernel
theorem J_HPen_strike_d68 : decode J_HPen_strike.2.1 68 = .ok (.isub, 1) := by decide +kernel
theorem J_HPen_strike_d69 : decode J_HPen_strike.2.1 69 = .ok (.invokevirtual 107, 3) := by decide +kernel
theorem J_HPen_strike_d72 : decode J_HPen_strike.2.1 72 = .ok (.goto 129, 3) := by decide +kernel
theorem J_HPen_strike_d75 : decode J_HPen_strike.2.1 75 = .ok (.aload_n 0, 1) := by decide +kernel
theorem J_HPen_strike_d76 : decode J_HPen_strike.2.1 76 = .ok (.getfield 19, 3) := by decide +kernel
theorem J_HPen_strike_d79 : decode J_HPen_strike.2.1 79 = .ok (.aload_n 0, 1) := by decide +kernel
theorem J_HPen_strike_d80 : decode J_HPen_strike.2.1 80 = .ok (.getfield 43, 3) := by decide +kernel
theorem J_HPen_strike_d83 : decode J_HPen_strike.2.1 83 = .ok (.iload_n 2, 1) := by decide +kernel
theorem J_HPen_strike_d84 : decode J_HPen_strike.2.1 84 = .ok (.isub, 1) := by decide +kernel
theorem J_HPen_strike_d85 : decode J_HPen_strike.2.1 85 = .ok (.iload 4, 2) := by decide +kernel
theorem J_HPen_strike_d87 : decode J_HPen_strike.2.1 87 = .ok (.isub, 1) := by decide +kernel
theorem J_HPen_strike_d88 : decode J_HPen_strike.2.1 88 = .ok (.iconst 1, 1) := by decide +kernel
theorem J_HPen_strike_d89 : decode J_HPen_strike.2.1 89 = .ok (.iadd, 1) := by decide +kernel
theorem J_HPen_strike_d90 : decode J_HPen_strike.2.1 90 = .ok (.aload_n 0, 1) := by decide +kernel
theorem J_HPen_strike_d91 : decode J_HPen_strike.2.1 91 = .ok (.getfield 47, 3) := by decide +kernel
theorem J_HPen_strike_d94 : decode J_HPen_strike.2.1 94 = .ok (.iload_n 1, 1) := by decide +kernel
theorem J_HPen_strike_d95 : decode J_HPen_strike.2.1 95 = .ok (.iadd, 1) := by decide +kernel
theorem J_HPen_strike_d96 : decode J_HPen_strike.2.1 96 = .ok (.aload_n 0, 1) := by decide +kernel
theorem J_HPen_strike_d97 : decode J_HPen_strike.2.1 97 = .ok (.getfield 43, 3) := by decide +kernel
theorem J_HPen_strike_d100 : decode J_HPen_strike.2.1 100 = .ok (.iload_n 2, 1) := by decide +kernel
theorem J_HPen_strike_d101 : decode J_HPen_strike.2.1 101 = .ok (.isub, 1) := by decide +kernel
theorem J_HPen_strike_d102 : decode J_HPen_strike.2.1 102 = .ok (.aload_n 0, 1) := by decide +kernel
theorem J_HPen_strike_d103 : decode J_HPen_strike.2.1 103 = .ok (.getfield 47, 3) := by decide +kernel
theorem J_HPen_strike_d106 : decode J_HPen_strike.2.1 106 = .ok (.iload_n 1, 1) := by decide +kernel
theorem J_HPen_strike_d107 : decode J_HPen_strike.2.1 107 = .ok (.iadd, 1) := by decide +kernel
theorem J_HPen_strike_d108 : decode J_HPen_strike.2.1 108 = .ok (.iload_n 3, 1) := by decide +kernel
theorem J_HPen_strike_d109 : decode J_HPen_strike.2.1 109 = .ok (.iadd, 1) := by decide +kernel
theorem J_HPen_strike_d110 : decode J_HPen_strike.2.1 110 = .ok (.iconst 1, 1) := by decide +kernel
theorem J_HPen_strike_d111 : decode J_HPen_strike.2.1 111 = .ok (.isub, 1) := by decide +kernel
theorem J_HPen_strike_d112 : decode J_HPen_strike.2.1 112 = .ok (.invokevirtual 107, 3) := by decide +kernel
theorem J_HPen_strike_d115 : decode J_HPen_strike.2.1 115 = .ok (.goto 86, 3) := by decide +kernel
theorem J_HPen_strike_d118 : decode J_HPen_strike.2.1 118 = .ok (.aload_n 0, 1) := by decide +kernel
theorem J_HPen_strike_d119 : decode J_HPen_strike.2.1 119 = .ok (.getfield 19, 3) := by decide +kernel
theorem J_HPen_strike_d122 : decode J_HPen_strike.2.1 122 = .ok (.aload_n 0, 1) := by decide +kernel
theorem J_HPen_strike_d123 : decode J_HPen_strike.2.1 123 = .ok (.getfield 43, 3) := by decide +kernel
theorem J_HPen_strike_d126 : decode J_HPen_strike.2.1 126 = .ok (.iload_n 1, 1) := by decide +kernel
theorem J_HPen_strike_d127 : decode J_HPen_strike.2.1 127 = .ok (.isub, 1) := by decide +kernel
theorem J_HPen_strike_d128 : decode J_HPen_strike.2.1 128 = .ok (.iload_n 3, 1) := by decide +kernel
theorem J_HPen_strike_d129 : decode J_HPen_strike.2.1 129 = .ok (.isub, 1) := by decide +kernel
theorem J_HPen_strike_d130 : decode J_HPen_strike.2.1 130 = .ok (.iconst 1, 1) := by decide +kernel
theorem J_HPen_strike_d131 : decode J_HPen_strike.2.1 131 = .ok (.iadd, 1) := by decide +kernel
theorem J_HPen_strike_d132 : decode J_HPen_strike.2.1 132 = .ok (.aload_n 0, 1) := by decide +kernel
theorem J_HPen_strike_d133 : decode J_HPen_strike.2.1 133 = .ok (.getfield 47, 3) := by decide +kernel
theorem J_HPen_strike_d136 : decode J_HPen_strike.2.1 136 = .ok (.iload_n 2, 1) := by decide +kernel
theorem J_HPen_strike_d137 : decode J_HPen_strike.2.1 137 = .ok (.isub, 1) := by decide +kernel
theorem J_HPen_strike_d138 : decode J_HPen_strike.2.1 138 = .ok (.iload 4, 2) := by decide +kernel
theorem J_HPen_strike_d140 : decode J_HPen_strike.2.1 140 = .ok (.isub, 1) := by decide +kernel
theorem J_HPen_strike_d141 : decode J_HPen_strike.2.1 141 = .ok (.iconst 1, 1) := by decide +kernel
theorem J_HPen_strike_d142 : decode J_HPen_strike.2.1 142 = .ok (.iadd, 1) := by decide +kernel
theorem J_HPen_strike_d143 : decode J_HPen_strike.2.1 143 = .ok (.aload_n 0, 1) := by decide +kernel
theorem J_HPen_strike_d144 : decode J_HPen_strike.2.1 144 = .ok (.getfield 43, 3) := by decide +kernel
theorem J_HPen_strike_d147 : decode J_HPen_strike.2.1 147 = .ok (.iload_n 1, 1) := by decide +kernel
theorem J_HPen_strike_d148 : decode J_HPen_strike.2.1 148 = .ok (.isub, 1) := by decide +kernel
theorem J_HPen_strike_d149 : decode J_HPen_strike.2.1 149 = .ok (.aload_n 0, 1) := by decide +kernel
theorem J_HPen_strike_d150 : decode J_HPen_strike.2.1 150 = .ok (.getfield 47, 3) := by decide +kernel
theorem J_HPen_strike_d153 : decode J_HPen_strike.2.1 153 = .ok (.iload_n 2, 1) := by decide +kernel
theorem J_HPen_strike_d154 : decode J_HPen_strike.2.1 154 = .ok (.isub, 1) := by decide +kernel
theorem J_HPen_strike_d155 : decode J_HPen_strike.2.1 155 = .ok (.invokevirtual 107, 3) := by decide +kernel
theorem J_HPen_strike_d158 : decode J_HPen_strike.2.1 158 = .ok (.goto 43, 3) := by decide +kernel
theorem J_HPen_strike_d161 : decode J_HPen_strike.2.1 161 = .ok (.aload_n 0, 1) := by decide +kernel
theorem J_HPen_strike_d162 : decode J_HPen_strike.2.1 162 = .ok (.getfield 19, 3) := by decide +kernel
theorem J_HPen_strike_d165 : decode J_HPen_strike.2.1 165 = .ok (.aload_n 0, 1) := by decide +kernel
theorem J_HPen_strike_d166 : decode J_HPen_strike.2.1 166 = .ok (.getfield 43, 3) := by decide +kernel
theorem J_HPen_strike_d169 : decode J_HPen_strike.2.1 169 = .ok (.iload_n 2, 1) := by decide +kernel
theorem J_HPen_strike_d170 : decode J_HPen_strike.2.1 170 = .ok (.iadd, 1) := by decide +kernel
theorem J_HPen_strike_d171 : decode J_HPen_strike.2.1 171 = .ok (.aload_n 0, 1) := by decide +kernel
theorem J_HPen_strike_d172 : decode J_HPen_strike.2.1 172 = .ok (.getfield 47, 3) := by decide +kernel
theorem J_HPen_strike_d175 : decode J_HPen_strike.2.1 175 = .ok (.iload_n 1, 1) := by decide +kernel
theorem J_HPen_strike_d176 : decode J_HPen_strike.2.1 176 = .ok (.isub, 1) := by decide +kernel
theorem J_HPen_strike_d177 : decode J_HPen_strike.2.1 177 = .ok (.iload_n 3, 1) := by decide +kernel
theorem J_HPen_strike_d178 : decode J_HPen_strike.2.1 178 = .ok (.isub, 1) := by decide +kernel
theorem J_HPen_strike_d179 : decode J_HPen_strike.2.1 179 = .ok (.iconst 1, 1) := by decide +kernel
theorem J_HPen_strike_d180 : decode J_HPen_strike.2.1 180 = .ok (.iadd, 1) := by decide +kernel
theorem J_HPen_strike_d181 : decode J_HPen_strike.2.1 181 = .ok (.aload_n 0, 1) := by decide +kernel
theorem J_HPen_strike_d182 : decode J_HPen_strike.2.1 182 = .ok (.getfield 43, 3) := by decide +kernel
theorem J_HPen_strike_d185 : decode J_HPen_strike.2.1 185 = .ok (.iload_n 2, 1) := by decide +kernel
theorem J_HPen_strike_d186 : decode J_HPen_strike.2.1 186 = .ok (.iadd, 1) := by decide +kernel
theorem J_HPen_strike_d187 : decode J_HPen_strike.2.1 187 = .ok (.iload 4, 2) := by decide +kernel
theorem J_HPen_strike_d189 : decode J_HPen_strike.2.1 189 = .ok (.iadd, 1) := by decide +kernel
theorem J_HPen_strike_d190 : decode J_HPen_strike.2.1 190 = .ok (.iconst 1, 1) := by decide +kernel
theorem J_HPen_strike_d191 : decode J_HPen_strike.2.1 191 = .ok (.isub, 1) := by decide +kernel
theorem J_HPen_strike_d192 : decode J_HPen_strike.2.1 192 = .ok (.aload_n 0, 1) := by decide +kernel
theorem J_HPen_strike_d193 : decode J_HPen_strike.2.1 193 = .ok (.getfield 47, 3) := by decide +kernel
theorem J_HPen_strike_d196 : decode J_HPen_strike.2.1 196 = .ok (.iload_n 1, 1) := by decide +kernel
theorem J_HPen_strike_d197 : decode J_HPen_strike.2.1 197 = .ok (.isub, 1) := by decide +kernel
theorem J_HPen_strike_d198 : decode J_HPen_strike.2.1 198 = .ok (.invokevirtual 107, 3) := by decide +kernel
theorem J_HPen_strike_d201 : decode J_HPen_strike.2.1 201 = .ok (.return_, 1) := by decide +kernel
theorem f_HPen_strike_ok {L : Nat} {xs : Nat → Int32} {dep : Nat} {w : Bool} {p0 : Int32} {p1 : Int32} {p2 : Int32} {p3 : Int32} {M : im_M} {Q : im_M → Prop} (hM : lw_S w M) (h : ed (f_HPen_strike w p0 p1 p2 p3 M) Q) : ia (tb_G L xs) (dep + 2) J_HPen_strike (rwV w Q) (0, lv_args 0 [.ref 56, .int p0, .int p1, .int p2, .int p3], [], M) := by
  have hS : im_St (tb_G L xs) (dep + 2) J_HPen_strike (ia (tb_G L xs) (dep + 2) J_HPen_strike (rwV w Q)) := ia_St
  unfold f_HPen_strike at h
  have l0 : im_lk (lv_args 0 [.ref 56, .int p0, .int p1, .int p2, .int p3]) 0 = some (.ref 56) := rfl
  have l1 : im_lk (lv_args 0 [.ref 56, .int p0, .int p1, .int p2, .int p3]) 1 = some (.int p0) := rfl
  have l2 : im_lk (lv_args 0 [.ref 56, .int p0, .int p1, .int p2, .int p3]) 2 = some (.int p1) := rfl
  have l3 : im_lk (lv_args 0 [.ref 56, .int p0, .int p1, .int p2, .int p3]) 3 = some (.int p2) := rfl
  have l4 : im_lk (lv_args 0 [.ref 56, .int p0, .int p1, .int p2, .int p3]) 4 = some (.int p3) := rfl
  refine iq_aload_n hS 1 J_HPen_strike_d0 l0 rfl ?_
  refine iq_getI hS 4 J_HPen_strike_d1 lf_6_50 (Or.inl rfl) (ka_56 hM) rfl ?_
  by_cases q4_0 : (im_i M 56 7) = 0
  · replace h := ed_pos q4_0 h
    refine iq_tsw hS J_HPen_strike_d4 (t := 32) (sw_v q4_0 (by decide +kernel)) ?_
    refine iq_aload_n hS 33 J_HPen_strike_d32 l0 rfl ?_
    refine iq_getR hS 36 J_HPen_strike_d33 lf_6_19 (Or.inl ⟨_, rfl⟩) (ka_56 hM) (ra_56_0 hM) rfl ?_
    refine iq_aload_n hS 37 J_HPen_strike_d36 l0 rfl ?_
    refine iq_getI hS 40 J_HPen_strike_d37 lf_6_43 (Or.inl rfl) (ka_56 hM) rfl ?_
    refine iq_iload_n hS 41 J_HPen_strike_d40 l1 rfl ?_
    refine iq_iadd hS 42 J_HPen_strike_d41 rfl ?_
    refine iq_aload_n hS 43 J_HPen_strike_d42 l0 rfl ?_
    refine iq_getI hS 46 J_HPen_strike_d43 lf_6_47 (Or.inl rfl) (ka_56 hM) rfl ?_
    refine iq_iload_n hS 47 J_HPen_strike_d46 l2 rfl ?_
    refine iq_iadd hS 48 J_HPen_strike_d47 rfl ?_
    refine iq_aload_n hS 49 J_HPen_strike_d48 l0 rfl ?_
    refine iq_getI hS 52 J_HPen_strike_d49 lf_6_43 (Or.inl rfl) (ka_56 hM) rfl ?_
    refine iq_iload_n hS 53 J_HPen_strike_d52 l1 rfl ?_
    refine iq_iadd hS 54 J_HPen_strike_d53 rfl ?_
    refine iq_iload_n hS 55 J_HPen_strike_d54 l3 rfl ?_
    refine iq_iadd hS 56 J_HPen_strike_d55 rfl ?_
    refine iq_iconst hS 57 J_HPen_strike_d56 (v := 1) (by decide +kernel) rfl ?_
    refine iq_isub hS 58 J_HPen_strike_d57 rfl ?_
    refine iq_aload_n hS 59 J_HPen_strike_d58 l0 rfl ?_
    refine iq_getI hS 62 J_HPen_strike_d59 lf_6_47 (Or.inl rfl) (ka_56 hM) rfl ?_
    refine iq_iload_n hS 63 J_HPen_strike_d62 l2 rfl ?_
    refine iq_iadd hS 64 J_HPen_strike_d63 rfl ?_
    refine iq_iload hS 66 J_HPen_strike_d64 l4 rfl ?_
    refine iq_iadd hS 67 J_HPen_strike_d66 rfl ?_
    refine iq_iconst hS 68 J_HPen_strike_d67 (v := 1) (by decide +kernel) rfl ?_
    refine iq_isub hS 69 J_HPen_strike_d68 rfl ?_
    obtain ⟨Q1, hQ1, h⟩ := bd1_ed h
    refine iq_cwV hS 72 J_HPen_strike_d69 rfl (pr_inst (vs := [_, _, _, _]) lc_6_107 lT_113 rfl rfl (by decide) (by decide) rfl (Nat.le_of_ble_eq_true rfl) (Nat.le_of_ble_eq_true rfl) (fun _ => Or.inl (pr_b (ka_28 hM) (by decide) rfl))) (f_HSheet_box_ok (dep := dep + 0) hM h) rfl ?_
    intro M1 hM1 h
    replace h := hQ1 _ h
    refine iq_goto hS J_HPen_strike_d72 (t := 201) rfl ?_
    exact iq_ret J_HPen_strike_d201 rfl ⟨rfl, hM1, ed_some h⟩
  replace h := ed_neg q4_0 h
  by_cases q4_1 : (im_i M 56 7) = 1
  · replace h := ed_pos q4_1 h
    refine iq_tsw hS J_HPen_strike_d4 (t := 75) (sw_v q4_1 (by decide +kernel)) ?_
    refine iq_aload_n hS 76 J_HPen_strike_d75 l0 rfl ?_
    refine iq_getR hS 79 J_HPen_strike_d76 lf_6_19 (Or.inl ⟨_, rfl⟩) (ka_56 hM) (ra_56_0 hM) rfl ?_
    refine iq_aload_n hS 80 J_HPen_strike_d79 l0 rfl ?_
    refine iq_getI hS 83 J_HPen_strike_d80 lf_6_43 (Or.inl rfl) (ka_56 hM) rfl ?_
    refine iq_iload_n hS 84 J_HPen_strike_d83 l2 rfl ?_
    refine iq_isub hS 85 J_HPen_strike_d84 rfl ?_
    refine iq_iload hS 87 J_HPen_strike_d85 l4 rfl ?_
    refine iq_isub hS 88 J_HPen_strike_d87 rfl ?_
    refine iq_iconst hS 89 J_HPen_strike_d88 (v := 1) (by decide +kernel) rfl ?_
    refine iq_iadd hS 90 J_HPen_strike_d89 rfl ?_
    refine iq_aload_n hS 91 J_HPen_strike_d90 l0 rfl ?_
    refine iq_getI hS 94 J_HPen_strike_d91 lf_6_47 (Or.inl rfl) (ka_56 hM) rfl ?_
    refine iq_iload_n hS 95 J_HPen_strike_d94 l1 rfl ?_
    refine iq_iadd hS 96 J_HPen_strike_d95 rfl ?_
    refine iq_aload_n hS 97 J_HPen_strike_d96 l0 rfl ?_
    refine iq_getI hS 100 J_HPen_strike_d97 lf_6_43 (Or.inl rfl) (ka_56 hM) rfl ?_
    refine iq_iload_n hS 101 J_HPen_strike_d100 l2 rfl ?_
    refine iq_isub hS 102 J_HPen_strike_d101 rfl ?_
    refine iq_aload_n hS 103 J_HPen_strike_d102 l0 rfl ?_
    refine iq_getI hS 106 J_HPen_strike_d103 lf_6_47 (Or.inl rfl) (ka_56 hM) rfl ?_
    refine iq_iload_n hS 107 J_HPen_strike_d106 l1 rfl ?_
    refine iq_iadd hS 108 J_HPen_strike_d107 rfl ?_
    refine iq_iload_n hS 109 J_HPen_strike_d108 l3 rfl ?_
    refine iq_iadd hS 110 J_HPen_strike_d109 rfl ?_
    refine iq_iconst hS 111 J_HPen_strike_d110 (v := 1) (by decide +kernel) rfl ?_
    refine iq_isub hS 112 J_HPen_strike_d111 rfl ?_
    obtain ⟨Q2, hQ2, h⟩ := bd1_ed h
    refine iq_cwV hS 115 J_HPen_strike_d112 rfl (pr_inst (vs := [_, _, _, _]) lc_6_107 lT_113 rfl rfl (by decide) (by decide) rfl (Nat.le_of_ble_eq_true rfl) (Nat.le_of_ble_eq_true rfl) (fun _ => Or.inl (pr_b (ka_28 hM) (by decide) rfl))) (f_HSheet_box_ok (dep := dep + 0) hM h) rfl ?_
    intro M2 hM2 h
    replace h := hQ2 _ h
    refine iq_goto hS J_HPen_strike_d115 (t := 201) rfl ?_
    exact iq_ret J_HPen_strike_d201 rfl ⟨rfl, hM2, ed_some h⟩
  replace h := ed_neg q4_1 h
  by_cases q4_2 : (im_i M 56 7) = 2
  · replace h := ed_pos q4_2 h
    refine iq_tsw hS J_HPen_strike_d4 (t := 118) (sw_v q4_2 (by decide +kernel)) ?_
    refine iq_aload_n hS 119 J_HPen_strike_d118 l0 rfl ?_
    refine iq_getR hS 122 J_HPen_strike_d119 lf_6_19 (Or.inl ⟨_, rfl⟩) (ka_56 hM) (ra_56_0 hM) rfl ?_
    refine iq_aload_n hS 123 J_HPen_strike_d122 l0 rfl ?_
    refine iq_getI hS 126 J_HPen_strike_d123 lf_6_43 (Or.inl rfl) (ka_56 hM) rfl ?_
    refine iq_iload_n hS 127 J_HPen_strike_d126 l1 rfl ?_
    refine iq_isub hS 128 J_HPen_strike_d127 rfl ?_
    refine iq_iload_n hS 129 J_HPen_strike_d128 l3 rfl ?_
    refine iq_isub hS 130 J_HPen_strike_d129 rfl ?_
    refine iq_iconst hS 131 J_HPen_strike_d130 (v := 1) (by decide +kernel) rfl ?_
    refine iq_iadd hS 132 J_HPen_strike_d131 rfl ?_
    refine iq_aload_n hS 133 J_HPen_strike_d132 l0 rfl ?_
    refine iq_getI hS 136 J_HPen_strike_d133 lf_6_47 (Or.inl rfl) (ka_56 hM) rfl ?_
    refine iq_iload_n hS 137 J_HPen_strike_d136 l2 rfl ?_
    refine iq_isub hS 138 J_HPen_strike_d137 rfl ?_
    refine iq_iload hS 140 J_HPen_strike_d138 l4 rfl ?_
    refine iq_isub hS 141 J_HPen_strike_d140 rfl ?_
    refine iq_iconst hS 142 J_HPen_strike_d141 (v := 1) (by decide +kernel) rfl ?_
    refine iq_iadd hS 143 J_HPen_strike_d142 rfl ?_
    refine iq_aload_n hS 144 J_HPen_strike_d143 l0 rfl ?_
    refine iq_getI hS 147 J_HPen_strike_d144 lf_6_43 (Or.inl rfl) (ka_56 hM) rfl ?_
    refine iq_iload_n hS 148 J_HPen_strike_d147 l1 rfl ?_
    refine iq_isub hS 149 J_HPen_strike_d148 rfl ?_
    refine iq_aload_n hS 150 J_HPen_strike_d149 l0 rfl ?_
    refine iq_getI hS 153 J_HPen_strike_d150 lf_6_47 (Or.inl rfl) (ka_56 hM) rfl ?_
    refine iq_iload_n hS 154 J_HPen_strike_d153 l2 rfl ?_
    refine iq_isub hS 155 J_HPen_strike_d154 rfl ?_
    obtain ⟨Q3, hQ3, h⟩ := bd1_ed h
    refine iq_cwV hS 158 J_HPen_strike_d155 rfl (pr_inst (vs := [_, _, _, _]) lc_6_107 lT_113 rfl rfl (by decide) (by decide) rfl (Nat.le_of_ble_eq_true rfl) (Nat.le_of_ble_eq_true rfl) (fun _ => Or.inl (pr_b (ka_28 hM) (by decide) rfl))) (f_HSheet_box_ok (dep := dep + 0) hM h) rfl ?_
    intro M3 hM3 h
    replace h := hQ3 _ h
    refine iq_goto hS J_HPen_strike_d158 (t := 201) rfl ?_
    exact iq_ret J_HPen_strike_d201 rfl ⟨rfl, hM3, ed_some h⟩
  replace h := ed_neg q4_2 h
  refine iq_tsw hS J_HPen_strike_d4 (t := 161) (sw_d [0, 1, 2] (by decide) (by decide) (by decide +kernel) (sw_nc q4_0 (sw_nc q4_1 (sw_nc q4_2 sw_nn)))) ?_
  refine iq_aload_n hS 162 J_HPen_strike_d161 l0 rfl ?_
  refine iq_getR hS 165 J_HPen_strike_d162 lf_6_19 (Or.inl ⟨_, rfl⟩) (ka_56 hM) (ra_56_0 hM) rfl ?_
  refine iq_aload_n hS 166 J_HPen_strike_d165 l0 rfl ?_
  refine iq_getI hS 169 J_HPen_strike_d166 lf_6_43 (Or.inl rfl) (ka_56 hM) rfl ?_
  refine iq_iload_n hS 170 J_HPen_strike_d169 l2 rfl ?_
  refine iq_iadd hS 171 J_HPen_strike_d170 rfl ?_
  refine iq_aload_n hS 172 J_HPen_strike_d171 l0 rfl ?_
  refine iq_getI hS 175 J_HPen_strike_d172 lf_6_47 (Or.inl rfl) (ka_56 hM) rfl ?_
  refine iq_iload_n hS 176 J_HPen_strike_d175 l1 rfl ?_
  refine iq_isub hS 177 J_HPen_strike_d176 rfl ?_
  refine iq_iload_n hS 178 J_HPen_strike_d177 l3 rfl ?_
  refine iq_isub hS 179 J_HPen_strike_d178 rfl ?_
  refine iq_iconst hS 180 J_HPen_strike_d179 (v := 1) (by decide +kernel) rfl ?_
  refine iq_iadd hS 181 J_HPen_strike_d180 rfl ?_
  refine iq_aload_n hS 182 J_HPen_strike_d181 l0 rfl ?_
  refine iq_getI hS 185 J_HPen_strike_d182 lf_6_43 (Or.inl rfl) (ka_56 hM) rfl ?_
  refine iq_iload_n hS 186 J_HPen_strike_d185 l2 rfl ?_
  refine iq_iadd hS 187 J_HPen_strike_d186 rfl ?_
  refine iq_iload hS 189 J_HPen_strike_d187 l4 rfl ?_
  refine iq_iadd hS 190 J_HPen_strike_d189 rfl ?_
  refine iq_iconst hS 191 J_HPen_strike_d190 (v := 1) (by decide +kernel) rfl ?_
  refine iq_isub hS 192 J_HPen_strike_d191 rfl ?_
  refine iq_aload_n hS 193 J_HPen_strike_d192 l0 rfl ?_
  refine iq_getI hS 196 J_HPen_strike_d193 lf_6_47 (Or.inl rfl) (ka_56 hM) rfl ?_
  refine iq_iload_n hS 197 J_HPen_strike_d196 l1 rfl ?_
  refine iq_isub hS 198 J_HPen_strike_d197 rfl ?_
  obtain ⟨Q4, hQ4, h⟩ := bd1_ed h
  refine iq_cwV hS 201 J_HPen_strike_d198 rfl (pr_inst (vs := [_, _, _, _]) lc_6_107 lT_113 rfl rfl (by decide) (by decide) rfl (Nat.le_of_ble_eq_true rfl) (Nat.le_of_ble_eq_true rfl) (fun _ => Or.inl (pr_b (ka_28 hM) (by decide) rfl))) (f_HSheet_box_ok (dep := dep + 0) hM h) rfl ?_
  intro M4 hM4 h
  replace h := hQ4 _ h
  exact iq_ret J_HPen_strike_d201 rfl ⟨rfl, hM4, ed_some h⟩
theorem f_HPen_strike_fr {w : Bool} {p0 : Int32} {p1 : Int32} {p2 : Int32} {p3 : Int32} {M : im_M} {r : im_M} (h : f_HPen_strike w p0 p1 p2 p3 M = some r) : fr 1610612736 [(28, 3)] M r := by
  replace h : ed (f_HPen_strike w p0 p1 p2 p3 M) (fun x => x = r) := ⟨r, h, rfl⟩
  unfold f_HPen_strike at h
  by_cases q4_0 : (im_i M 56 7) = 0
  · replace h := ed_pos q4_0 h
    obtain ⟨Q1, hQ1, h⟩ := bd1_ed h
    obtain ⟨M1, e1, h⟩ := h
    replace h := hQ1 _ h
    exact fr_retV h (fr_tr (fr_mono (by decide) (by decide +kernel) (f_HSheet_box_fr e1)) fr_refl)
  replace h := ed_neg q4_0 h
  by_cases q4_1 : (im_i M 56 7) = 1
  · replace h := ed_pos q4_1 h
    obtain ⟨Q2, hQ2, h⟩ := bd1_ed h
    obtain ⟨M2, e2, h⟩ := h
    replace h := hQ2 _ h
    exact fr_retV h (fr_tr (fr_mono (by decide) (by decide +kernel) (f_HSheet_box_fr e2)) fr_refl)
  replace h := ed_neg q4_1 h
  by_cases q4_2 : (im_i M 56 7) = 2
  · replace h := ed_pos q4_2 h
    obtain ⟨Q3, hQ3, h⟩ := bd1_ed h
    obtain ⟨M3, e3, h⟩ := h
    replace h := hQ3 _ h
    exact fr_retV h (fr_tr (fr_mono (by decide) (by decide +kernel) (f_HSheet_box_fr e3)) fr_refl)
  replace h := ed_neg q4_2 h
  obtain ⟨Q4, hQ4, h⟩ := bd1_ed h
  obtain ⟨M4, e4, h⟩ := h
  replace h := hQ4 _ h
  exact fr_retV h (fr_tr (fr_mono (by decide) (by decide +kernel) (f_HSheet_box_fr e4)) fr_refl)
noncomputable def f_HPen_drawCellRow_L6 (w : Bool) (v2 : Int32) (v3 : Int32) (v4 : Int32) (v5 : Int32) (v6 : Int32) (v7 : Int32) (x8 : Int32) (x9 : Int32) (M10 : im_M) : Option ((Int32 × Int32 × im_M) ⊕ (im_M)) := if v3 < x9 then some (.inr M10) else bd2 (jn1 (fun (y13 : Int32) => if y13 ≤ 0 then some (y13, M10) else bd1 (f_HPen_strike w (v4 + (v6 * (x9 - y13))) v5 (v6 * y13) v7 M10) fun (M23 : im_M) => some (0, M23)) fun k12 => if v3 ≤ x9 then k12 x8 else if ((Int32.toUInt32 v2 >>> (Int32.toUInt32 ((v3 - 1) - x9) &&& Int32.toUInt32 31)).toInt32 &&& 1) = 0 then k12 x8 else some ((x8 + 1), M10)) fun (y24 : Int32) (M25 : im_M) => some (.inl (y24, (x9 + 1), M25))
noncomputable def f_HPen_drawCellRow (w : Bool) (p0 : Int32) (p1 : Int32) (p2 : Int32) (p3 : Int32) (p4 : Int32) (p5 : Int32) (M : im_M) : Option (im_M) := bd1 (lp (uc3 (f_HPen_drawCellRow_L6 w p0 p1 p2 p3 p4 p5)) (0, 0, M)) fun (M35 : im_M) => some M35
theorem J_HPen_drawCellRow_d0 : decode J_HPen_drawCellRow.2.1 0 = .ok (.iconst 0, 1) := by decide +kernel
theorem J_HPen_drawCellRow_d1 : decode J_HPen_drawCellRow.2.1 1 = .ok (.istore 7, 2) := by decide +kernel
theorem J_HPen_drawCellRow_d3 : decode J_HPen_drawCellRow.2.1 3 = .ok (.iconst 0, 1) := by decide +kernel
theorem J_HPen_drawCellRow_d4 : decode J_HPen_drawCellRow.2.1 4 = .ok (.istore 8, 2) := by decide +kernel
theorem J_HPen_drawCellRow_d6 : decode J_HPen_drawCellRow.2.1 6 = .ok (.iload 8, 2) := by decide +kernel
theorem J_HPen_drawCellRow_d8 : decode J_HPen_drawCellRow.2.1 8 = .ok (.iload_n 2, 1) := by decide +kernel
theorem J_HPen_drawCellRow_d9 : decode J_HPen_drawCellRow.2.1 9 = .ok (.if_icmp .gt 65, 3) := by decide +kernel
theorem J_HPen_drawCellRow_d12 : decode J_HPen_drawCellRow.2.1 12 = .ok (.iload 8, 2) := by decide +kernel
theorem J_HPen_drawCellRow_d14 : decode J_HPen_drawCellRow.2.1 14 = .ok (.iload_n 2, 1) := by decide +kernel
theorem J_HPen_drawCellRow_d15 : decode J_HPen_drawCellRow.2.1 15 = .ok (.if_icmp .ge 22, 3) := by decide +kernel
theorem J_HPen_drawCellRow_d18 : decode J_HPen_drawCellRow.2.1 18 = .ok (.iload_n 1, 1) := by decide +kernel
theorem J_HPen_drawCellRow_d19 : decode J_HPen_drawCellRow.2.1 19 = .ok (.iload_n 2, 1) := by decide +kernel
theorem J_HPen_drawCellRow_d20 : decode J_HPen_drawCellRow.2.1 20 = .ok (.iconst 1, 1) := by decide +kernel
theorem J_HPen_drawCellRow_d21 : decode J_HPen_drawCellRow.2.1 21 = .ok (.isub, 1) := by decide +kernel
theorem J_HPen_drawCellRow_d22 : decode J_HPen_drawCellRow.2.1 22 = .ok (.iload 8, 2) := by decide +kernel
theorem J_HPen_drawCellRow_d24 : decode J_HPen_drawCellRow.2.1 24 = .ok (.isub, 1) := by decide +kernel
theorem J_HPen_drawCellRow_d25 : decode J_HPen_drawCellRow.2.1 25 = .ok (.iushr, 1) := by decide +kernel
theorem J_HPen_drawCellRow_d26 : decode J_HPen_drawCellRow.2.1 26 = .ok (.iconst 1, 1) := by decide +kernel
theorem J_HPen_drawCellRow_d27 : decode J_HPen_drawCellRow.2.1 27 = .ok (.iand, 1) := by decide +kernel
theorem J_HPen_drawCellRow_d28 : decode J_HPen_drawCellRow.2.1 28 = .ok (.ifCond .eq 9, 3) := by decide +kernel
theorem J_HPen_drawCellRow_d31 : decode J_HPen_drawCellRow.2.1 31 = .ok (.iinc 7 1, 3) := by decide +kernel
theorem J_HPen_drawCellRow_d34 : decode J_HPen_drawCellRow.2.1 34 = .ok (.goto 34, 3) := by decide +kernel
theorem J_HPen_drawCellRow_d37 : decode J_HPen_drawCellRow.2.1 37 = .ok (.iload 7, 2) := by decide +kernel
theorem J_HPen_drawCellRow_d39 : decode J_HPen_drawCellRow.2.1 39 = .ok (.ifCond .le 29, 3) := by decide +kernel
theorem J_HPen_drawCellRow_d42 : decode J_HPen_drawCellRow.2.1 42 = .ok (.aload_n 0, 1) := by decide +kernel
theorem J_HPen_drawCellRow_d43 : decode J_HPen_drawCellRow.2.1 43 = .ok (.iload_n 3, 1) := by decide +kernel
theorem J_HPen_drawCellRow_d44 : decode J_HPen_drawCellRow.2.1 44 = .ok (.iload 5, 2) := by decide +kernel
theorem J_HPen_drawCellRow_d46 : decode J_HPen_drawCellRow.2.1 46 = .ok (.iload 8, 2) := by decide +kernel
theorem J_HPen_drawCellRow_d48 : decode J_HPen_drawCellRow.2.1 48 = .ok (.iload 7, 2) := by decide +kernel
theorem J_HPen_drawCellRow_d50 : decode J_HPen_drawCellRow.2.1 50 = .ok (.isub, 1) := by decide +kernel
theorem J_HPen_drawCellRow_d51 : decode J_HPen_drawCellRow.2.1 51 = .ok (.imul, 1) := by decide +kernel
theorem J_HPen_drawCellRow_d52 : decode J_HPen_drawCellRow.2.1 52 = .ok (.iadd, 1) := by decide +kernel
theorem J_HPen_drawCellRow_d53 : decode J_HPen_drawCellRow.2.1 53 = .ok (.iload 4, 2) := by decide +kernel
theorem J_HPen_drawCellRow_d55 : decode J_HPen_drawCellRow.2.1 55 = .ok (.iload 5, 2) := by decide +kernel
theorem J_HPen_drawCellRow_d57 : decode J_HPen_drawCellRow.2.1 57 = .ok (.iload 7, 2) := by decide +kernel
theorem J_HPen_drawCellRow_d59 : decode J_HPen_drawCellRow.2.1 59 = .ok (.imul, 1) := by decide +kernel
theorem J_HPen_drawCellRow_d60 : decode J_HPen_drawCellRow.2.1 60 = .ok (.iload 6, 2) := by decide +kernel
theorem J_HPen_drawCellRow_d62 : decode J_HPen_drawCellRow.2.1 62 = .ok (.invokevirtual 118, 3) := by decide +kernel
theorem J_HPen_drawCellRow_d65 : decode J_HPen_drawCellRow.2.1 65 = .ok (.iconst 0, 1) := by decide +kernel
theorem J_HPen_drawCellRow_d66 : decode J_HPen_drawCellRow.2.1 66 = .ok (.istore 7, 2) := by decide +kernel
theorem J_HPen_drawCellRow_d68 : decode J_HPen_drawCellRow.2.1 68 = .ok (.iinc 8 1, 3) := by decide +kernel
theorem J_HPen_drawCellRow_d71 : decode J_HPen_drawCellRow.2.1 71 = .ok (.goto (-65), 3) := by decide +kernel
theorem J_HPen_drawCellRow_d74 : decode J_HPen_drawCellRow.2.1 74 = .ok (.return_, 1) := by decide +kernel
theorem f_HPen_drawCellRow_ok {L : Nat} {xs : Nat → Int32} {dep : Nat} {w : Bool} {p0 : Int32} {p1 : Int32} {p2 : Int32} {p3 : Int32} {p4 : Int32} {p5 : Int32} {M : im_M} {Q : im_M → Prop} (hM : lw_S w M) (h : ed (f_HPen_drawCellRow w p0 p1 p2 p3 p4 p5 M) Q) : ia (tb_G L xs) (dep + 3) J_HPen_drawCellRow (rwV w Q) (0, lv_args 0 [.ref 56, .int p0, .int p1, .int p2, .int p3, .int p4, .int p5], [], M) := by
  have hS : im_St (tb_G L xs) (dep + 3) J_HPen_drawCellRow (ia (tb_G L xs) (dep + 3) J_HPen_drawCellRow (rwV w Q)) := ia_St
  unfold f_HPen_drawCellRow at h
  have l0 : im_lk (lv_args 0 [.ref 56, .int p0, .int p1, .int p2, .int p3, .int p4, .int p5]) 0 = some (.ref 56) := rfl
  have l1 : im_lk (lv_args 0 [.ref 56, .int p0, .int p1, .int p2, .int p3, .int p4, .int p5]) 1 = some (.int p0) := rfl
  have l2 : im_lk (lv_args 0 [.ref 56, .int p0, .int p1, .int p2, .int p3, .int p4, .int p5]) 2 = some (.int p1) := rfl
  have l3 : im_lk (lv_args 0 [.ref 56, .int p0, .int p1, .int p2, .int p3, .int p4, .int p5]) 3 = some (.int p2) := rfl
  have l4 : im_lk (lv_args 0 [.ref 56, .int p0, .int p1, .int p2, .int p3, .int p4, .int p5]) 4 = some (.int p3) := rfl
  have l5 : im_lk (lv_args 0 [.ref 56, .int p0, .int p1, .int p2, .int p3, .int p4, .int p5]) 5 = some (.int p4) := rfl
  have l6 : im_lk (lv_args 0 [.ref 56, .int p0, .int p1, .int p2, .int p3, .int p4, .int p5]) 6 = some (.int p5) := rfl
  refine iq_iconst hS 1 J_HPen_drawCellRow_d0 (v := 0) (by decide +kernel) rfl ?_
  refine iq_istore hS 3 J_HPen_drawCellRow_d1 (by decide) rfl ?_
  refine iq_iconst hS 4 J_HPen_drawCellRow_d3 (v := 0) (by decide +kernel) rfl ?_
  refine iq_istore hS 6 J_HPen_drawCellRow_d4 (by decide) rfl ?_
  obtain ⟨Q1, hQ1, h⟩ := bd1_ed h
  have K1 : ∀ (M2 : im_M) (L' : List (Nat × Value)), lw_S w M2 → Q1 M2 → ia (tb_G L xs) (dep + 3) J_HPen_drawCellRow (rwV w Q) (74, L', [], M2) := by
    intro M2 L' hM2  h
    replace h := hQ1 _ h
    exact iq_ret J_HPen_drawCellRow_d74 rfl ⟨rfl, hM2, ed_some h⟩
  obtain ⟨r1, hr1, hq1⟩ := h
  obtain ⟨n1, hn1⟩ := lp_n hr1
  have I1 : ∀ (n : Nat) (x3 : Int32) (x4 : Int32) (M5 : im_M) (L' : List (Nat × Value)), lw_S w M5 → im_lk L' 0 = some (.ref 56) → im_lk L' 1 = some (.int p0) → im_lk L' 2 = some (.int p1) → im_lk L' 3 = some (.int p2) → im_lk L' 4 = some (.int p3) → im_lk L' 5 = some (.int p4) → im_lk L' 6 = some (.int p5) → im_lk L' 7 = some (.int x3) → im_lk L' 8 = some (.int x4) → lpn (uc3 (f_HPen_drawCellRow_L6 w p0 p1 p2 p3 p4 p5)) n (x3, x4, M5) = some r1 → ia (tb_G L xs) (dep + 3) J_HPen_drawCellRow (rwV w Q) (6, L', [], M5) := by
    intro n
    induction n with
    | zero => intro x3 x4 M5 L' hM5 l6 l7 l8 l9 l10 l11 l12 l13 l14 hn; exact (lpn_0 hn).elim
    | succ n ih =>
      intro x3 x4 M5 L' hM5 l6 l7 l8 l9 l10 l11 l12 l13 l14 hn
      have h := lpn_ed3 hn
      unfold f_HPen_drawCellRow_L6 at h
      refine iq_iload hS 8 J_HPen_drawCellRow_d6 l14 rfl ?_
      refine iq_iload_n hS 9 J_HPen_drawCellRow_d8 l8 rfl ?_
      refine iq_icmp_gt hS 12 J_HPen_drawCellRow_d9 (t := 74) rfl (fun q9 => ?_) rfl (fun q9 => ?_)
      · replace h := ed_pos q9 h
        exact K1 _ _ hM5  (lq_r h hq1)
      · replace h := ed_neg q9 h
        refine iq_iload hS 14 J_HPen_drawCellRow_d12 l14 rfl ?_
        refine iq_iload_n hS 15 J_HPen_drawCellRow_d14 l8 rfl ?_
        obtain ⟨Q15, hQ15, h⟩ := bd2_ed h
        have J15 : ∀ (y28 : Int32) (M29 : im_M) (L' : List (Nat × Value)), lw_S w M29 → im_lk L' 0 = some (.ref 56) → im_lk L' 1 = some (.int p0) → im_lk L' 2 = some (.int p1) → im_lk L' 3 = some (.int p2) → im_lk L' 4 = some (.int p3) → im_lk L' 5 = some (.int p4) → im_lk L' 6 = some (.int p5) → im_lk L' 7 = some (.int y28) → im_lk L' 8 = some (.int x4) → Q15 (y28, M29) → ia (tb_G L xs) (dep + 3) J_HPen_drawCellRow (rwV w Q) (68, L', [], M29) := by
          intro y28 M29 L' hM29 l30 l31 l32 l33 l34 l35 l36 l37 l38 h
          replace h := hQ15 _ _ h
          refine iq_iincv hS 71 J_HPen_drawCellRow_d68 (c := 1) (by decide +kernel) l38 (by decide) rfl ?_
          refine iq_goto hS J_HPen_drawCellRow_d71 (t := 6) rfl ?_
          exact ih _ _ _ _ hM29 (lk_1r l30 (by decide)) (lk_1i l31 (by decide)) (lk_1i l32 (by decide)) (lk_1i l33 (by decide)) (lk_1i l34 (by decide)) (lk_1i l35 (by decide)) (lk_1i l36 (by decide)) (lk_1i l37 (by decide)) lk_1s (lq_l h)
        obtain ⟨k16, Q16, hQ16, hk16, h⟩ := jn1_ed h
        have J16 : ∀ (y17 : Int32) (L' : List (Nat × Value)), im_lk L' 0 = some (.ref 56) → im_lk L' 1 = some (.int p0) → im_lk L' 2 = some (.int p1) → im_lk L' 3 = some (.int p2) → im_lk L' 4 = some (.int p3) → im_lk L' 5 = some (.int p4) → im_lk L' 6 = some (.int p5) → im_lk L' 7 = some (.int y17) → im_lk L' 8 = some (.int x4) → Q16 y17 → ia (tb_G L xs) (dep + 3) J_HPen_drawCellRow (rwV w Q) (37, L', [], M5) := by
          intro y17 L' l18 l19 l20 l21 l22 l23 l24 l25 l26 h
          replace h := hQ16 _ h
          refine iq_iload hS 39 J_HPen_drawCellRow_d37 l25 rfl ?_
          refine iq_if_le hS 42 J_HPen_drawCellRow_d39 (t := 68) rfl (fun q39 => ?_) rfl (fun q39 => ?_)
          · replace h := ed_pos q39 h
            exact J15 _ _ _ hM5 l18 l19 l20 l21 l22 l23 l24 l25 l26 (ed_some h)
          · replace h := ed_neg q39 h
            refine iq_aload_n hS 43 J_HPen_drawCellRow_d42 l18 rfl ?_
            refine iq_iload_n hS 44 J_HPen_drawCellRow_d43 l21 rfl ?_
            refine iq_iload hS 46 J_HPen_drawCellRow_d44 l23 rfl ?_
            refine iq_iload hS 48 J_HPen_drawCellRow_d46 l26 rfl ?_
            refine iq_iload hS 50 J_HPen_drawCellRow_d48 l25 rfl ?_
            refine iq_isub hS 51 J_HPen_drawCellRow_d50 rfl ?_
            refine iq_imul hS 52 J_HPen_drawCellRow_d51 rfl ?_
            refine iq_iadd hS 53 J_HPen_drawCellRow_d52 rfl ?_
            refine iq_iload hS 55 J_HPen_drawCellRow_d53 l22 rfl ?_
            refine iq_iload hS 57 J_HPen_drawCellRow_d55 l23 rfl ?_
            refine iq_iload hS 59 J_HPen_drawCellRow_d57 l25 rfl ?_
            refine iq_imul hS 60 J_HPen_drawCellRow_d59 rfl ?_
            refine iq_iload hS 62 J_HPen_drawCellRow_d60 l24 rfl ?_
            obtain ⟨Q27, hQ27, h⟩ := bd1_ed h
            refine iq_cwV hS 65 J_HPen_drawCellRow_d62 rfl (pr_inst (vs := [_, _, _, _]) lc_6_118 lT_112 rfl rfl (by decide) (by decide) rfl (Nat.le_of_ble_eq_true rfl) (Nat.le_of_ble_eq_true rfl) (fun _ => Or.inl (pr_b (ka_56 hM5) (by decide) rfl))) (f_HPen_strike_ok (dep := dep + 0) hM5 h) rfl ?_
            intro M27 hM27 h
            replace h := hQ27 _ h
            refine iq_iconst hS 66 J_HPen_drawCellRow_d65 (v := 0) (by decide +kernel) rfl ?_
            refine iq_istore hS 68 J_HPen_drawCellRow_d66 (by decide) rfl ?_
            exact J15 _ _ _ hM27 (lk_1r l18 (by decide)) (lk_1i l19 (by decide)) (lk_1i l20 (by decide)) (lk_1i l21 (by decide)) (lk_1i l22 (by decide)) (lk_1i l23 (by decide)) (lk_1i l24 (by decide)) lk_1s (lk_1i l26 (by decide)) (ed_some h)
        refine iq_icmp_ge hS 18 J_HPen_drawCellRow_d15 (t := 37) rfl (fun q15 => ?_) rfl (fun q15 => ?_)
        · replace h := ed_pos q15 h
          exact J16 _ _ l6 l7 l8 l9 l10 l11 l12 l13 l14 (hk16 _ h)
        · replace h := ed_neg q15 h
          refine iq_iload_n hS 19 J_HPen_drawCellRow_d18 l7 rfl ?_
          refine iq_iload_n hS 20 J_HPen_drawCellRow_d19 l8 rfl ?_
          refine iq_iconst hS 21 J_HPen_drawCellRow_d20 (v := 1) (by decide +kernel) rfl ?_
          refine iq_isub hS 22 J_HPen_drawCellRow_d21 rfl ?_
          refine iq_iload hS 24 J_HPen_drawCellRow_d22 l14 rfl ?_
          refine iq_isub hS 25 J_HPen_drawCellRow_d24 rfl ?_
          refine iq_iushr hS 26 J_HPen_drawCellRow_d25 rfl ?_
          refine iq_iconst hS 27 J_HPen_drawCellRow_d26 (v := 1) (by decide +kernel) rfl ?_
          refine iq_iand hS 28 J_HPen_drawCellRow_d27 rfl ?_
          refine iq_if_eq hS 31 J_HPen_drawCellRow_d28 (t := 37) rfl (fun q28 => ?_) rfl (fun q28 => ?_)
          · replace h := ed_pos q28 h
            exact J16 _ _ l6 l7 l8 l9 l10 l11 l12 l13 l14 (hk16 _ h)
          · replace h := ed_neg q28 h
            refine iq_iincv hS 34 J_HPen_drawCellRow_d31 (c := 1) (by decide +kernel) l13 (by decide) rfl ?_
            refine iq_goto hS J_HPen_drawCellRow_d34 (t := 68) rfl ?_
            exact J15 _ _ _ hM5 (lk_1r l6 (by decide)) (lk_1i l7 (by decide)) (lk_1i l8 (by decide)) (lk_1i l9 (by decide)) (lk_1i l10 (by decide)) (lk_1i l11 (by decide)) (lk_1i l12 (by decide)) lk_1s (lk_1i l14 (by decide)) (ed_some h)
  exact I1 n1 _ _ _ _ hM (lk_1r (lk_1r l0 (by decide)) (by decide)) (lk_1i (lk_1i l1 (by decide)) (by decide)) (lk_1i (lk_1i l2 (by decide)) (by decide)) (lk_1i (lk_1i l3 (by decide)) (by decide)) (lk_1i (lk_1i l4 (by decide)) (by decide)) (lk_1i (lk_1i l5 (by decide)) (by decide)) (lk_1i (lk_1i l6 (by decide)) (by decide)) (lk_1i lk_1s (by decide)) lk_1s hn1
theorem f_HPen_drawCellRow_fr {w : Bool} {p0 : Int32} {p1 : Int32} {p2 : Int32} {p3 : Int32} {p4 : Int32} {p5 : Int32} {M : im_M} {r : im_M} (h : f_HPen_drawCellRow w p0 p1 p2 p3 p4 p5 M = some r) : fr 1610612736 [(28, 3)] M r := by
  replace h : ed (f_HPen_drawCellRow w p0 p1 p2 p3 p4 p5 M) (fun x => x = r) := ⟨r, h, rfl⟩
  unfold f_HPen_drawCellRow at h
  obtain ⟨Q1, hQ1, h⟩ := bd1_ed h
  have K1 : ∀ (M2 : im_M), fr 1610612736 [(28, 3)] M M2 → Q1 M2 → fr 1610612736 [(28, 3)] M r := by
    intro M2 hM2 h
    replace h := hQ1 _ h
    exact fr_retV h hM2
  obtain ⟨r1, hr1, hq1⟩ := h
  obtain ⟨n1, hn1⟩ := lp_n hr1
  have I1 : ∀ (n : Nat) (x3 : Int32) (x4 : Int32) (M5 : im_M), fr 1610612736 [(28, 3)] M M5 → lpn (uc3 (f_HPen_drawCellRow_L6 w p0 p1 p2 p3 p4 p5)) n (x3, x4, M5) = some r1 → fr 1610612736 [(28, 3)] M r := by
    intro n
    induction n with
    | zero => intro x3 x4 M5 hM5 hn; exact (lpn_0 hn).elim
    | succ n ih =>
      intro x3 x4 M5 hM5 hn
      have h := lpn_ed3 hn
      unfold f_HPen_drawCellRow_L6 at h
      by_cases q9 : p1 < x4
      · replace h := ed_pos q9 h
        exact K1 _ hM5 (lq_r h hq1)
      · replace h := ed_neg q9 h
        obtain ⟨Q6, hQ6, h⟩ := bd2_ed h
        have J6 : ∀ (y19 : Int32) (M20 : im_M), fr 1610612736 [(28, 3)] M M20 → Q6 (y19, M20) → fr 1610612736 [(28, 3)] M r := by
          intro y19 M20 hM20 h
          replace h := hQ6 _ _ h
          exact ih _ _ _ hM20 (lq_l h)
        obtain ⟨k7, Q7, hQ7, hk7, h⟩ := jn1_ed h
        have J7 : ∀ (y8 : Int32), Q7 y8 → fr 1610612736 [(28, 3)] M r := by
          intro y8 h
          replace h := hQ7 _ h
          by_cases q39 : y8 ≤ 0
          · replace h := ed_pos q39 h
            exact J6 _ _ hM5 (ed_some h)
          · replace h := ed_neg q39 h
            obtain ⟨Q18, hQ18, h⟩ := bd1_ed h
            obtain ⟨M18, e18, h⟩ := h
            replace h := hQ18 _ h
            exact J6 _ _ (fr_tr (fr_mono (by decide) (by decide +kernel) (f_HPen_strike_fr e18)) hM5) (ed_some h)
        by_cases q15 : p1 ≤ x4
        · replace h := ed_pos q15 h
          exact J7 _ (hk7 _ h)
        · replace h := ed_neg q15 h
          by_cases q28 : ((Int32.toUInt32 p0 >>> (Int32.toUInt32 ((p1 - 1) - x4) &&& Int32.toUInt32 31)).toInt32 &&& 1) = 0
          · replace h := ed_pos q28 h
            exact J7 _ (hk7 _ h)
          · replace h := ed_neg q28 h
            exact J6 _ _ hM5 (ed_some h)
  exact I1 n1 _ _ _ fr_refl hn1
noncomputable def f_HPen_drawText_L89 (w : Bool) (v16 : Int32) (v17 : Int32) (v18 : Int32) (v19 : Int32) (v20 : Int32) (v21 : Int32) (v22 : Int32) (v23 : Int32) (x24 : Int32) (M25 : im_M) : Option ((Int32 × im_M) ⊕ (im_M)) := gd (inb (((3 : Int32) * v17) + 1) 12) <| if (im_i M25 57 (Int32.toNatClampNeg (((3 : Int32) * v17) + 1))) ≤ x24 then some (.inr M25) else gd (inb (v23 + x24) 32768) <| bd1 (f_HPen_drawCellRow w (im_i M25 58 (Int32.toNatClampNeg (v23 + x24))) v20 (v21 * v22) (v19 * x24) v18 v19 M25) fun (M26 : im_M) => some (.inl ((x24 + 1), M26))
noncomputable def f_HPen_drawText_L56 (w : Bool) (v5 : Int32) (v6 : Int32) (v7 : Int32) (v8 : Int32) (v9 : Int32) (v10 : Int32) (x11 : Int32) (M12 : im_M) : Option ((Int32 × im_M) ⊕ (im_M)) := bd1 (f_HOrders_value_1 v5 8 M12) fun (x13 : Int32) => if x13 ≤ x11 then some (.inr M12) else bd1 (f_HOrders_byteAt v5 x11 M12) fun (x14 : Int32) => bd1 (lp (uc2 (f_HPen_drawText_L89 w v5 v6 v7 v8 v9 v10 x11 (((v6 * 256) + x14) * 32))) (0, M12)) fun (M27 : im_M) => some (.inl ((x11 + 1), M27))
noncomputable def f_HPen_drawText (w : Bool) (p1 : Int32) (M : im_M) : Option (im_M) := bd1 (f_HOrders_value_1 p1 5 M) fun (x1 : Int32) => bd1 (f_HOrders_value_1 p1 6 M) fun (x2 : Int32) => bd1 (f_HOrders_value_1 p1 7 M) fun (x3 : Int32) => gd (inb ((3 : Int32) * x1) 12) <| gd (inb (((3 : Int32) * x1) + 2) 12) <| bd1 (lp (uc2 (f_HPen_drawText_L56 w p1 x1 x2 x3 (im_i M 57 (Int32.toNatClampNeg ((3 : Int32) * x1))) (x2 * ((im_i M 57 (Int32.toNatClampNeg ((3 : Int32) * x1))) + (im_i M 57 (Int32.toNatClampNeg (((3 : Int32) * x1) + 2))))))) (0, M)) fun (M28 : im_M) => some M28
theorem J_HPen_drawText_d0 : decode J_HPen_drawText.2.1 0 = .ok (.aload_n 1, 1) := by decide +kernel
theorem J_HPen_drawText_d1 : decode J_HPen_drawText.2.1 1 = .ok (.iload_n 2, 1) := by decide +kernel
theorem J_HPen_drawText_d2 : decode J_HPen_drawText.2.1 2 = .ok (.iconst 5, 1) := by decide +kernel
theorem J_HPen_drawText_d3 : decode J_HPen_drawText.2.1 3 = .ok (.invokevirtual 39, 3) := by decide +kernel
theorem J_HPen_drawText_d6 : decode J_HPen_drawText.2.1 6 = .ok (.istore_n 3, 1) := by decide +kernel
theorem J_HPen_drawText_d7 : decode J_HPen_drawText.2.1 7 = .ok (.aload_n 1, 1) := by decide +kernel
theorem J_HPen_drawText_d8 : decode J_HPen_drawText.2.1 8 = .ok (.iload_n 2, 1) := by decide +kernel
theorem J_HPen_drawText_d9 : decode J_HPen_drawText.2.1 9 = .ok (.bipush 6, 2) := by decide +kernel
theorem J_HPen_drawText_d11 : decode J_HPen_drawText.2.1 11 = .ok (.invokevirtual 39, 3) := by decide +kernel
theorem J_HPen_drawText_d14 : decode J_HPen_drawText.2.1 14 = .ok (.istore 4, 2) := by decide +kernel
theorem J_HPen_drawText_d16 : decode J_HPen_drawText.2.1 16 = .ok (.aload_n 1, 1) := by decide +kernel
theorem J_HPen_drawText_d17 : decode J_HPen_drawText.2.1 17 = .ok (.iload_n 2, 1) := by decide +kernel
theorem J_HPen_drawText_d18 : decode J_HPen_drawText.2.1 18 = .ok (.bipush 7, 2) := by decide +kernel
theorem J_HPen_drawText_d20 : decode J_HPen_drawText.2.1 20 = .ok (.invokevirtual 39, 3) := by decide +kernel
theorem J_HPen_drawText_d23 : decode J_HPen_drawText.2.1 23 = .ok (.istore 5, 2) := by decide +kernel
theorem J_HPen_drawText_d25 : decode J_HPen_drawText.2.1 25 = .ok (.aload_n 0, 1) := by decide +kernel
theorem J_HPen_drawText_d26 : decode J_HPen_drawText.2.1 26 = .ok (.getfield 9, 3) := by decide +kernel
theorem J_HPen_drawText_d29 : decode J_HPen_drawText.2.1 29 = .ok (.iconst 3, 1) := by decide +kernel
theorem J_HPen_drawText_d30 : decode J_HPen_drawText.2.1 30 = .ok (.iload_n 3, 1) := by decide +kernel
theorem J_HPen_drawText_d31 : decode J_HPen_drawText.2.1 31 = .ok (.imul, 1) := by decide +kernel
theorem J_HPen_drawText_d32 : decode J_HPen_drawText.2.1 32 = .ok (.iaload, 1) := by decide +kernel
theorem J_HPen_drawText_d33 : decode J_HPen_drawText.2.1 33 = .ok (.istore 6, 2) := by decide +kernel
theorem J_HPen_drawText_d35 : decode J_HPen_drawText.2.1 35 = .ok (.iload 4, 2) := by decide +kernel
theorem J_HPen_drawText_d37 : decode J_HPen_drawText.2.1 37 = .ok (.iload 6, 2) := by decide +kernel
theorem J_HPen_drawText_d39 : decode J_HPen_drawText.2.1 39 = .ok (.aload_n 0, 1) := by decide +kernel
theorem J_HPen_drawText_d40 : decode J_HPen_drawText.2.1 40 = .ok (.getfield 9, 3) := by decide +kernel
theorem J_HPen_drawText_d43 : decode J_HPen_drawText.2.1 43 = .ok (.iconst 3, 1) := by decide +kernel
theorem J_HPen_drawText_d44 : decode J_HPen_drawText.2.1 44 = .ok (.iload_n 3, 1) := by decide +kernel
theorem J_HPen_drawText_d45 : decode J_HPen_drawText.2.1 45 = .ok (.imul, 1) := by decide +kernel
theorem J_HPen_drawText_d46 : decode J_HPen_drawText.2.1 46 = .ok (.iconst 2, 1) := by decide +kernel
theorem J_HPen_drawText_d47 : decode J_HPen_drawText.2.1 47 = .ok (.iadd, 1) := by decide +kernel
theorem J_HPen_drawText_d48 : decode J_HPen_drawText.2.1 48 = .ok (.iaload, 1) := by decide +kernel
theorem J_HPen_drawText_d49 : decode J_HPen_drawText.2.1 49 = .ok (.iadd, 1) := by decide +kernel
theorem J_HPen_drawText_d50 : decode J_HPen_drawText.2.1 50 = .ok (.imul, 1) := by decide +kernel
theorem J_HPen_drawText_d51 : decode J_HPen_drawText.2.1 51 = .ok (.istore 7, 2) := by decide +kernel
theorem J_HPen_drawText_d53 : decode J_HPen_drawText.2.1 53 = .ok (.iconst 0, 1) := by decide +kernel
theorem J_HPen_drawText_d54 : decode J_HPen_drawText.2.1 54 = .ok (.istore 8, 2) := by decide +kernel
theorem J_HPen_drawText_d56 : decode J_HPen_drawText.2.1 56 = .ok (.iload 8, 2) := by decide +kernel
theorem J_HPen_drawText_d58 : decode J_HPen_drawText.2.1 58 = .ok (.aload_n 1, 1) := by decide +kernel
theorem J_HPen_drawText_d59 : decode J_HPen_drawText.2.1 59 = .ok (.iload_n 2, 1) := by decide +kernel
theorem J_HPen_drawText_d60 : decode J_HPen_drawText.2.1 60 = .ok (.bipush 8, 2) := by decide +kernel
theorem J_HPen_drawText_d62 : decode J_HPen_drawText.2.1 62 = .ok (.invokevirtual 39, 3) := by decide +kernel
theorem J_HPen_drawText_d65 : decode J_HPen_drawText.2.1 65 = .ok (.if_icmp .ge 81, 3) := by decide +kernel
theorem J_HPen_drawText_d68 : decode J_HPen_drawText.2.1 68 = .ok (.iload_n 3, 1) := by decide +kernel
theorem J_HPen_drawText_d69 : decode J_HPen_drawText.2.1 69 = .ok (.sipush 256, 3) := by decide +kernel
theorem J_HPen_drawText_d72 : decode J_HPen_drawText.2.1 72 = .ok (.imul, 1) := by decide +kernel
theorem J_HPen_drawText_d73 : decode J_HPen_drawText.2.1 73 = .ok (.aload_n 1, 1) := by decide +kernel
theorem J_HPen_drawText_d74 : decode J_HPen_drawText.2.1 74 = .ok (.iload_n 2, 1) := by decide +kernel
theorem J_HPen_drawText_d75 : decode J_HPen_drawText.2.1 75 = .ok (.iload 8, 2) := by decide +kernel
theorem J_HPen_drawText_d77 : decode J_HPen_drawText.2.1 77 = .ok (.invokevirtual 111, 3) := by decide +kernel
theorem J_HPen_drawText_d80 : decode J_HPen_drawText.2.1 80 = .ok (.iadd, 1) := by decide +kernel
theorem J_HPen_drawText_d81 : decode J_HPen_drawText.2.1 81 = .ok (.bipush 32, 2) := by decide +kernel
theorem J_HPen_drawText_d83 : decode J_HPen_drawText.2.1 83 = .ok (.imul, 1) := by decide +kernel
theorem J_HPen_drawText_d84 : decode J_HPen_drawText.2.1 84 = .ok (.istore 9, 2) := by decide +kernel
theorem J_HPen_drawText_d86 : decode J_HPen_drawText.2.1 86 = .ok (.iconst 0, 1) := by decide +kernel
theorem J_HPen_drawText_d87 : decode J_HPen_drawText.2.1 87 = .ok (.istore 10, 2) := by decide +kernel
theorem J_HPen_drawText_d89 : decode J_HPen_drawText.2.1 89 = .ok (.iload 10, 2) := by decide +kernel
theorem J_HPen_drawText_d91 : decode J_HPen_drawText.2.1 91 = .ok (.aload_n 0, 1) := by decide +kernel
theorem J_HPen_drawText_d92 : decode J_HPen_drawText.2.1 92 = .ok (.getfield 9, 3) := by decide +kernel
theorem J_HPen_drawText_d95 : decode J_HPen_drawText.2.1 95 = .ok (.iconst 3, 1) := by decide +kernel
theorem J_HPen_drawText_d96 : decode J_HPen_drawText.2.1 96 = .ok (.iload_n 3, 1) := by decide +kernel
theorem J_HPen_drawText_d97 : decode J_HPen_drawText.2.1 97 = .ok (.imul, 1) := by decide +kernel
theorem J_HPen_drawText_d98 : decode J_HPen_drawText.2.1 98 = .ok (.iconst 1, 1) := by decide +kernel
theorem J_HPen_drawText_d99 : decode J_HPen_drawText.2.1 99 = .ok (.iadd, 1) := by decide +kernel
theorem J_HPen_drawText_d100 : decode J_HPen_drawText.2.1 100 = .ok (.iaload, 1) := by decide +kernel
theorem J_HPen_drawText_d101 : decode J_HPen_drawText.2.1 101 = .ok (.if_icmp .ge 39, 3) := by decide +kernel
theorem J_HPen_drawText_d104 : decode J_HPen_drawText.2.1 104 = .ok (.aload_n 0, 1) := by decide +kernel
theorem J_HPen_drawText_d105 : decode J_HPen_drawText.2.1 105 = .ok (.aload_n 0, 1) := by decide +kernel
theorem J_HPen_drawText_d106 : decode J_HPen_drawText.2.1 106 = .ok (.getfield 16, 3) := by decide +kernel
theorem J_HPen_drawText_d109 : decode J_HPen_drawText.2.1 109 = .ok (.iload 9, 2) := by decide +kernel
theorem J_HPen_drawText_d111 : decode J_HPen_drawText.2.1 111 = .ok (.iload 10, 2) := by decide +kernel
theorem J_HPen_drawText_d113 : decode J_HPen_drawText.2.1 113 = .ok (.iadd, 1) := by decide +kernel
theorem J_HPen_drawText_d114 : decode J_HPen_drawText.2.1 114 = .ok (.iaload, 1) := by decide +kernel
theorem J_HPen_drawText_d115 : decode J_HPen_drawText.2.1 115 = .ok (.iload 6, 2) := by decide +kernel
theorem J_HPen_drawText_d117 : decode J_HPen_drawText.2.1 117 = .ok (.iload 7, 2) := by decide +kernel
theorem J_HPen_drawText_d119 : decode J_HPen_drawText.2.1 119 = .ok (.iload 8, 2) := by decide +kernel
theorem J_HPen_drawText_d121 : decode J_HPen_drawText.2.1 121 = .ok (.imul, 1) := by decide +kernel
theorem J_HPen_drawText_d122 : decode J_HPen_drawText.2.1 122 = .ok (.iload 5, 2) := by decide +kernel
theorem J_HPen_drawText_d124 : decode J_HPen_drawText.2.1 124 = .ok (.iload 10, 2) := by decide +kernel
theorem J_HPen_drawText_d126 : decode J_HPen_drawText.2.1 126 = .ok (.imul, 1) := by decide +kernel
theorem J_HPen_drawText_d127 : decode J_HPen_drawText.2.1 127 = .ok (.iload 4, 2) := by decide +kernel
theorem J_HPen_drawText_d129 : decode J_HPen_drawText.2.1 129 = .ok (.iload 5, 2) := by decide +kernel
theorem J_HPen_drawText_d131 : decode J_HPen_drawText.2.1 131 = .ok (.invokevirtual 114, 3) := by decide +kernel
theorem J_HPen_drawText_d134 : decode J_HPen_drawText.2.1 134 = .ok (.iinc 10 1, 3) := by decide +kernel
theorem J_HPen_drawText_d137 : decode J_HPen_drawText.2.1 137 = .ok (.goto (-48), 3) := by decide +kernel
theorem J_HPen_drawText_d140 : decode J_HPen_drawText.2.1 140 = .ok (.iinc 8 1, 3) := by decide +kernel
theorem J_HPen_drawText_d143 : decode J_HPen_drawText.2.1 143 = .ok (.goto (-87), 3) := by decide +kernel
theorem J_HPen_drawText_d146 : decode J_HPen_drawText.2.1 146 = .ok (.return_, 1) := by decide +kernel
theorem f_HPen_drawText_ok {L : Nat} {xs : Nat → Int32} {dep : Nat} {w : Bool} {p1 : Int32} {M : im_M} {Q : im_M → Prop} (hM : lw_S w M) (h : ed (f_HPen_drawText w p1 M) Q) : ia (tb_G L xs) (dep + 4) J_HPen_drawText (rwV w Q) (0, lv_args 0 [.ref 56, .ref 11, .int p1], [], M) := by
  have hS : im_St (tb_G L xs) (dep + 4) J_HPen_drawText (ia (tb_G L xs) (dep + 4) J_HPen_drawText (rwV w Q)) := ia_St
  unfold f_HPen_drawText at h
  have l0 : im_lk (lv_args 0 [.ref 56, .ref 11, .int p1]) 0 = some (.ref 56) := rfl
  have l1 : im_lk (lv_args 0 [.ref 56, .ref 11, .int p1]) 1 = some (.ref 11) := rfl
  have l2 : im_lk (lv_args 0 [.ref 56, .ref 11, .int p1]) 2 = some (.int p1) := rfl
  refine iq_aload_n hS 1 J_HPen_drawText_d0 l1 rfl ?_
  refine iq_iload_n hS 2 J_HPen_drawText_d1 l2 rfl ?_
  refine iq_iconst hS 3 J_HPen_drawText_d2 (v := 5) (by decide +kernel) rfl ?_
  obtain ⟨Q1, hQ1, h⟩ := bd1_ed h
  refine iq_cpI hS 6 J_HPen_drawText_d3 rfl (pr_inst (vs := [_, _]) lc_6_39 lT_77 rfl rfl (by decide) (by decide) rfl (Nat.le_of_ble_eq_true rfl) (Nat.le_of_ble_eq_true rfl) (fun _ => Or.inl (pr_b (ka_11 hM) (by decide) rfl))) (f_HOrders_value_1_ok (dep := dep + 3) hM h) rfl ?_
  intro x1 h
  replace h := hQ1 _ h
  refine iq_istore_n hS 7 J_HPen_drawText_d6 (by decide) rfl ?_
  refine iq_aload_n hS 8 J_HPen_drawText_d7 (lk_1r l1 (by decide)) rfl ?_
  refine iq_iload_n hS 9 J_HPen_drawText_d8 (lk_1i l2 (by decide)) rfl ?_
  refine iq_bipush hS 11 J_HPen_drawText_d9 (v := 6) (by decide +kernel) rfl ?_
  obtain ⟨Q2, hQ2, h⟩ := bd1_ed h
  refine iq_cpI hS 14 J_HPen_drawText_d11 rfl (pr_inst (vs := [_, _]) lc_6_39 lT_77 rfl rfl (by decide) (by decide) rfl (Nat.le_of_ble_eq_true rfl) (Nat.le_of_ble_eq_true rfl) (fun _ => Or.inl (pr_b (ka_11 hM) (by decide) rfl))) (f_HOrders_value_1_ok (dep := dep + 3) hM h) rfl ?_
  intro x2 h
  replace h := hQ2 _ h
  refine iq_istore hS 16 J_HPen_drawText_d14 (by decide) rfl ?_
  refine iq_aload_n hS 17 J_HPen_drawText_d16 (lk_1r (lk_1r l1 (by decide)) (by decide)) rfl ?_
  refine iq_iload_n hS 18 J_HPen_drawText_d17 (lk_1i (lk_1i l2 (by decide)) (by decide)) rfl ?_
  refine iq_bipush hS 20 J_HPen_drawText_d18 (v := 7) (by decide +kernel) rfl ?_
  obtain ⟨Q3, hQ3, h⟩ := bd1_ed h
  refine iq_cpI hS 23 J_HPen_drawText_d20 rfl (pr_inst (vs := [_, _]) lc_6_39 lT_77 rfl rfl (by decide) (by decide) rfl (Nat.le_of_ble_eq_true rfl) (Nat.le_of_ble_eq_true rfl) (fun _ => Or.inl (pr_b (ka_11 hM) (by decide) rfl))) (f_HOrders_value_1_ok (dep := dep + 3) hM h) rfl ?_
  intro x3 h
  replace h := hQ3 _ h
  refine iq_istore hS 25 J_HPen_drawText_d23 (by decide) rfl ?_
  refine iq_aload_n hS 26 J_HPen_drawText_d25 (lk_1r (lk_1r (lk_1r l0 (by decide)) (by decide)) (by decide)) rfl ?_
  refine iq_getR hS 29 J_HPen_drawText_d26 lf_6_9 (Or.inr ⟨_, rfl⟩) (ka_56 hM) (ra_56_3 hM) rfl ?_
  refine iq_iconst hS 30 J_HPen_drawText_d29 (v := 3) (by decide +kernel) rfl ?_
  refine iq_iload_n hS 31 J_HPen_drawText_d30 (lk_1i (lk_1i lk_1s (by decide)) (by decide)) rfl ?_
  refine iq_imul hS 32 J_HPen_drawText_d31 rfl ?_
  obtain ⟨g32, h⟩ := ed_gd h
  refine iq_iaload hS 33 J_HPen_drawText_d32 ⟨(ka_57 hM).1, (ka_57 hM).2, g32.1, ix_lt (kl_57 hM) g32.2⟩ rfl ?_
  refine iq_istore hS 35 J_HPen_drawText_d33 (by decide) rfl ?_
  refine iq_iload hS 37 J_HPen_drawText_d35 (lk_1i (lk_1i lk_1s (by decide)) (by decide)) rfl ?_
  refine iq_iload hS 39 J_HPen_drawText_d37 lk_1s rfl ?_
  refine iq_aload_n hS 40 J_HPen_drawText_d39 (lk_1r (lk_1r (lk_1r (lk_1r l0 (by decide)) (by decide)) (by decide)) (by decide)) rfl ?_
  refine iq_getR hS 43 J_HPen_drawText_d40 lf_6_9 (Or.inr ⟨_, rfl⟩) (ka_56 hM) (ra_56_3 hM) rfl ?_
  refine iq_iconst hS 44 J_HPen_drawText_d43 (v := 3) (by decide +kernel) rfl ?_
  refine iq_iload_n hS 45 J_HPen_drawText_d44 (lk_1i (lk_1i (lk_1i lk_1s (by decide)) (by decide)) (by decide)) rfl ?_
  refine iq_imul hS 46 J_HPen_drawText_d45 rfl ?_
  refine iq_iconst hS 47 J_HPen_drawText_d46 (v := 2) (by decide +kernel) rfl ?_
  refine iq_iadd hS 48 J_HPen_drawText_d47 rfl ?_
  obtain ⟨g48, h⟩ := ed_gd h
  refine iq_iaload hS 49 J_HPen_drawText_d48 ⟨(ka_57 hM).1, (ka_57 hM).2, g48.1, ix_lt (kl_57 hM) g48.2⟩ rfl ?_
  refine iq_iadd hS 50 J_HPen_drawText_d49 rfl ?_
  refine iq_imul hS 51 J_HPen_drawText_d50 rfl ?_
  refine iq_istore hS 53 J_HPen_drawText_d51 (by decide) rfl ?_
  refine iq_iconst hS 54 J_HPen_drawText_d53 (v := 0) (by decide +kernel) rfl ?_
  refine iq_istore hS 56 J_HPen_drawText_d54 (by decide) rfl ?_
  obtain ⟨Q4, hQ4, h⟩ := bd1_ed h
  have K4 : ∀ (M5 : im_M) (L' : List (Nat × Value)), lw_S w M5 → Q4 M5 → ia (tb_G L xs) (dep + 4) J_HPen_drawText (rwV w Q) (146, L', [], M5) := by
    intro M5 L' hM5  h
    replace h := hQ4 _ h
    exact iq_ret J_HPen_drawText_d146 rfl ⟨rfl, hM5, ed_some h⟩
  obtain ⟨r4, hr4, hq4⟩ := h
  obtain ⟨n4, hn4⟩ := lp_n hr4
  have I4 : ∀ (n : Nat) (x6 : Int32) (M7 : im_M) (L' : List (Nat × Value)), lw_S w M7 → im_lk L' 0 = some (.ref 56) → im_lk L' 1 = some (.ref 11) → im_lk L' 2 = some (.int p1) → im_lk L' 3 = some (.int x1) → im_lk L' 4 = some (.int x2) → im_lk L' 5 = some (.int x3) → im_lk L' 6 = some (.int (im_i M 57 (Int32.toNatClampNeg ((3 : Int32) * x1)))) → im_lk L' 7 = some (.int (x2 * ((im_i M 57 (Int32.toNatClampNeg ((3 : Int32) * x1))) + (im_i M 57 (Int32.toNatClampNeg (((3 : Int32) * x1) + 2)))))) → im_lk L' 8 = some (.int x6) → lpn (uc2 (f_HPen_drawText_L56 w p1 x1 x2 x3 (im_i M 57 (Int32.toNatClampNeg ((3 : Int32) * x1))) (x2 * ((im_i M 57 (Int32.toNatClampNeg ((3 : Int32) * x1))) + (im_i M 57 (Int32.toNatClampNeg (((3 : Int32) * x1) + 2))))))) n (x6, M7) = some r4 → ia (tb_G L xs) (dep + 4) J_HPen_drawText (rwV w Q) (56, L', [], M7) := by
    intro n
    induction n with
    | zero => intro x6 M7 L' hM7 l8 l9 l10 l11 l12 l13 l14 l15 l16 hn; exact (lpn_0 hn).elim
    | succ n ih =>
      intro x6 M7 L' hM7 l8 l9 l10 l11 l12 l13 l14 l15 l16 hn
      have h := lpn_ed2 hn
      unfold f_HPen_drawText_L56 at h
      refine iq_iload hS 58 J_HPen_drawText_d56 l16 rfl ?_
      refine iq_aload_n hS 59 J_HPen_drawText_d58 l9 rfl ?_
      refine iq_iload_n hS 60 J_HPen_drawText_d59 l10 rfl ?_
      refine iq_bipush hS 62 J_HPen_drawText_d60 (v := 8) (by decide +kernel) rfl ?_
      obtain ⟨Q17, hQ17, h⟩ := bd1_ed h
      refine iq_cpI hS 65 J_HPen_drawText_d62 rfl (pr_inst (vs := [_, _]) lc_6_39 lT_77 rfl rfl (by decide) (by decide) rfl (Nat.le_of_ble_eq_true rfl) (Nat.le_of_ble_eq_true rfl) (fun _ => Or.inl (pr_b (ka_11 hM7) (by decide) rfl))) (f_HOrders_value_1_ok (dep := dep + 3) hM7 h) rfl ?_
      intro x17 h
      replace h := hQ17 _ h
      refine iq_icmp_ge hS 68 J_HPen_drawText_d65 (t := 146) rfl (fun q65 => ?_) rfl (fun q65 => ?_)
      · replace h := ed_pos q65 h
        exact K4 _ _ hM7  (lq_r h hq4)
      · replace h := ed_neg q65 h
        refine iq_iload_n hS 69 J_HPen_drawText_d68 l11 rfl ?_
        refine iq_sipush hS 72 J_HPen_drawText_d69 (v := 256) (by decide +kernel) rfl ?_
        refine iq_imul hS 73 J_HPen_drawText_d72 rfl ?_
        refine iq_aload_n hS 74 J_HPen_drawText_d73 l9 rfl ?_
        refine iq_iload_n hS 75 J_HPen_drawText_d74 l10 rfl ?_
        refine iq_iload hS 77 J_HPen_drawText_d75 l16 rfl ?_
        obtain ⟨Q18, hQ18, h⟩ := bd1_ed h
        refine iq_cpI hS 80 J_HPen_drawText_d77 rfl (pr_inst (vs := [_, _]) lc_6_111 lT_110 rfl rfl (by decide) (by decide) rfl (Nat.le_of_ble_eq_true rfl) (Nat.le_of_ble_eq_true rfl) (fun _ => Or.inl (pr_b (ka_11 hM7) (by decide) rfl))) (f_HOrders_byteAt_ok (dep := dep + 3) hM7 h) rfl ?_
        intro x18 h
        replace h := hQ18 _ h
        refine iq_iadd hS 81 J_HPen_drawText_d80 rfl ?_
        refine iq_bipush hS 83 J_HPen_drawText_d81 (v := 32) (by decide +kernel) rfl ?_
        refine iq_imul hS 84 J_HPen_drawText_d83 rfl ?_
        refine iq_istore hS 86 J_HPen_drawText_d84 (by decide) rfl ?_
        refine iq_iconst hS 87 J_HPen_drawText_d86 (v := 0) (by decide +kernel) rfl ?_
        refine iq_istore hS 89 J_HPen_drawText_d87 (by decide) rfl ?_
        obtain ⟨Q19, hQ19, h⟩ := bd1_ed h
        have K19 : ∀ (M20 : im_M) (L' : List (Nat × Value)), lw_S w M20 → im_lk L' 0 = some (.ref 56) → im_lk L' 1 = some (.ref 11) → im_lk L' 2 = some (.int p1) → im_lk L' 3 = some (.int x1) → im_lk L' 4 = some (.int x2) → im_lk L' 5 = some (.int x3) → im_lk L' 6 = some (.int (im_i M 57 (Int32.toNatClampNeg ((3 : Int32) * x1)))) → im_lk L' 7 = some (.int (x2 * ((im_i M 57 (Int32.toNatClampNeg ((3 : Int32) * x1))) + (im_i M 57 (Int32.toNatClampNeg (((3 : Int32) * x1) + 2)))))) → im_lk L' 8 = some (.int x6) → Q19 M20 → ia (tb_G L xs) (dep + 4) J_HPen_drawText (rwV w Q) (140, L', [], M20) := by
          intro M20 L' hM20 l21 l22 l23 l24 l25 l26 l27 l28 l29 h
          replace h := hQ19 _ h
          refine iq_iincv hS 143 J_HPen_drawText_d140 (c := 1) (by decide +kernel) l29 (by decide) rfl ?_
          refine iq_goto hS J_HPen_drawText_d143 (t := 56) rfl ?_
          exact ih _ _ _ hM20 (lk_1r l21 (by decide)) (lk_1r l22 (by decide)) (lk_1i l23 (by decide)) (lk_1i l24 (by decide)) (lk_1i l25 (by decide)) (lk_1i l26 (by decide)) (lk_1i l27 (by decide)) (lk_1i l28 (by decide)) lk_1s (lq_l h)
        obtain ⟨r19, hr19, hq19⟩ := h
        obtain ⟨n19, hn19⟩ := lp_n hr19
        have I19 : ∀ (n : Nat) (x30 : Int32) (M31 : im_M) (L' : List (Nat × Value)), lw_S w M31 → im_lk L' 0 = some (.ref 56) → im_lk L' 1 = some (.ref 11) → im_lk L' 2 = some (.int p1) → im_lk L' 3 = some (.int x1) → im_lk L' 4 = some (.int x2) → im_lk L' 5 = some (.int x3) → im_lk L' 6 = some (.int (im_i M 57 (Int32.toNatClampNeg ((3 : Int32) * x1)))) → im_lk L' 7 = some (.int (x2 * ((im_i M 57 (Int32.toNatClampNeg ((3 : Int32) * x1))) + (im_i M 57 (Int32.toNatClampNeg (((3 : Int32) * x1) + 2)))))) → im_lk L' 8 = some (.int x6) → im_lk L' 9 = some (.int (((x1 * 256) + x18) * 32)) → im_lk L' 10 = some (.int x30) → lpn (uc2 (f_HPen_drawText_L89 w p1 x1 x2 x3 (im_i M 57 (Int32.toNatClampNeg ((3 : Int32) * x1))) (x2 * ((im_i M 57 (Int32.toNatClampNeg ((3 : Int32) * x1))) + (im_i M 57 (Int32.toNatClampNeg (((3 : Int32) * x1) + 2))))) x6 (((x1 * 256) + x18) * 32))) n (x30, M31) = some r19 → ia (tb_G L xs) (dep + 4) J_HPen_drawText (rwV w Q) (89, L', [], M31) := by
          intro n
          induction n with
          | zero => intro x30 M31 L' hM31 l32 l33 l34 l35 l36 l37 l38 l39 l40 l41 l42 hn; exact (lpn_0 hn).elim
          | succ n ih =>
            intro x30 M31 L' hM31 l32 l33 l34 l35 l36 l37 l38 l39 l40 l41 l42 hn
            have h := lpn_ed2 hn
            unfold f_HPen_drawText_L89 at h
            refine iq_iload hS 91 J_HPen_drawText_d89 l42 rfl ?_
            refine iq_aload_n hS 92 J_HPen_drawText_d91 l32 rfl ?_
            refine iq_getR hS 95 J_HPen_drawText_d92 lf_6_9 (Or.inr ⟨_, rfl⟩) (ka_56 hM31) (ra_56_3 hM31) rfl ?_
            refine iq_iconst hS 96 J_HPen_drawText_d95 (v := 3) (by decide +kernel) rfl ?_
            refine iq_iload_n hS 97 J_HPen_drawText_d96 l35 rfl ?_
            refine iq_imul hS 98 J_HPen_drawText_d97 rfl ?_
            refine iq_iconst hS 99 J_HPen_drawText_d98 (v := 1) (by decide +kernel) rfl ?_
            refine iq_iadd hS 100 J_HPen_drawText_d99 rfl ?_
            obtain ⟨g100, h⟩ := ed_gd h
            refine iq_iaload hS 101 J_HPen_drawText_d100 ⟨(ka_57 hM31).1, (ka_57 hM31).2, g100.1, ix_lt (kl_57 hM31) g100.2⟩ rfl ?_
            refine iq_icmp_ge hS 104 J_HPen_drawText_d101 (t := 140) rfl (fun q101 => ?_) rfl (fun q101 => ?_)
            · replace h := ed_pos q101 h
              exact K19 _ _ hM31 l32 l33 l34 l35 l36 l37 l38 l39 l40 (lq_r h hq19)
            · replace h := ed_neg q101 h
              refine iq_aload_n hS 105 J_HPen_drawText_d104 l32 rfl ?_
              refine iq_aload_n hS 106 J_HPen_drawText_d105 l32 rfl ?_
              refine iq_getR hS 109 J_HPen_drawText_d106 lf_6_16 (Or.inr ⟨_, rfl⟩) (ka_56 hM31) (ra_56_4 hM31) rfl ?_
              refine iq_iload hS 111 J_HPen_drawText_d109 l41 rfl ?_
              refine iq_iload hS 113 J_HPen_drawText_d111 l42 rfl ?_
              refine iq_iadd hS 114 J_HPen_drawText_d113 rfl ?_
              obtain ⟨g114, h⟩ := ed_gd h
              refine iq_iaload hS 115 J_HPen_drawText_d114 ⟨(ka_58 hM31).1, (ka_58 hM31).2, g114.1, ix_lt (kl_58 hM31) g114.2⟩ rfl ?_
              refine iq_iload hS 117 J_HPen_drawText_d115 l38 rfl ?_
              refine iq_iload hS 119 J_HPen_drawText_d117 l39 rfl ?_
              refine iq_iload hS 121 J_HPen_drawText_d119 l40 rfl ?_
              refine iq_imul hS 122 J_HPen_drawText_d121 rfl ?_
              refine iq_iload hS 124 J_HPen_drawText_d122 l37 rfl ?_
              refine iq_iload hS 126 J_HPen_drawText_d124 l42 rfl ?_
              refine iq_imul hS 127 J_HPen_drawText_d126 rfl ?_
              refine iq_iload hS 129 J_HPen_drawText_d127 l36 rfl ?_
              refine iq_iload hS 131 J_HPen_drawText_d129 l37 rfl ?_
              obtain ⟨Q43, hQ43, h⟩ := bd1_ed h
              refine iq_cwV hS 134 J_HPen_drawText_d131 rfl (pr_inst (vs := [_, _, _, _, _, _]) lc_6_114 lT_111 rfl rfl (by decide) (by decide) rfl (Nat.le_of_ble_eq_true rfl) (Nat.le_of_ble_eq_true rfl) (fun _ => Or.inl (pr_b (ka_56 hM31) (by decide) rfl))) (f_HPen_drawCellRow_ok (dep := dep + 0) hM31 h) rfl ?_
              intro M43 hM43 h
              replace h := hQ43 _ h
              refine iq_iincv hS 137 J_HPen_drawText_d134 (c := 1) (by decide +kernel) l42 (by decide) rfl ?_
              refine iq_goto hS J_HPen_drawText_d137 (t := 89) rfl ?_
              exact ih _ _ _ hM43 (lk_1r l32 (by decide)) (lk_1r l33 (by decide)) (lk_1i l34 (by decide)) (lk_1i l35 (by decide)) (lk_1i l36 (by decide)) (lk_1i l37 (by decide)) (lk_1i l38 (by decide)) (lk_1i l39 (by decide)) (lk_1i l40 (by decide)) (lk_1i l41 (by decide)) lk_1s (lq_l h)
        exact I19 n19 _ _ _ hM7 (lk_1r (lk_1r l8 (by decide)) (by decide)) (lk_1r (lk_1r l9 (by decide)) (by decide)) (lk_1i (lk_1i l10 (by decide)) (by decide)) (lk_1i (lk_1i l11 (by decide)) (by decide)) (lk_1i (lk_1i l12 (by decide)) (by decide)) (lk_1i (lk_1i l13 (by decide)) (by decide)) (lk_1i (lk_1i l14 (by decide)) (by decide)) (lk_1i (lk_1i l15 (by decide)) (by decide)) (lk_1i (lk_1i l16 (by decide)) (by decide)) (lk_1i lk_1s (by decide)) lk_1s hn19
  exact I4 n4 _ _ _ hM (lk_1r (lk_1r (lk_1r (lk_1r (lk_1r (lk_1r l0 (by decide)) (by decide)) (by decide)) (by decide)) (by decide)) (by decide)) (lk_1r (lk_1r (lk_1r (lk_1r (lk_1r (lk_1r l1 (by decide)) (by decide)) (by decide)) (by decide)) (by decide)) (by decide)) (lk_1i (lk_1i (lk_1i (lk_1i (lk_1i (lk_1i l2 (by decide)) (by decide)) (by decide)) (by decide)) (by decide)) (by decide)) (lk_1i (lk_1i (lk_1i (lk_1i (lk_1i lk_1s (by decide)) (by decide)) (by decide)) (by decide)) (by decide)) (lk_1i (lk_1i (lk_1i (lk_1i lk_1s (by decide)) (by decide)) (by decide)) (by decide)) (lk_1i (lk_1i (lk_1i lk_1s (by decide)) (by decide)) (by decide)) (lk_1i (lk_1i lk_1s (by decide)) (by decide)) (lk_1i lk_1s (by decide)) lk_1s hn4
theorem f_HPen_drawText_fr {w : Bool} {p1 : Int32} {M : im_M} {r : im_M} (h : f_HPen_drawText w p1 M = some r) : fr 1610612736 [(28, 3)] M r := by
  replace h : ed (f_HPen_drawText w p1 M) (fun x => x = r) := ⟨r, h, rfl⟩
  unfold f_HPen_drawText at h
  obtain ⟨Q1, hQ1, h⟩ := bd1_ed h
  obtain ⟨x1, e1, h⟩ := h
  replace h := hQ1 _ h
  obtain ⟨Q2, hQ2, h⟩ := bd1_ed h
  obtain ⟨x2, e2, h⟩ := h
  replace h := hQ2 _ h
  obtain ⟨Q3, hQ3, h⟩ := bd1_ed h
  obtain ⟨x3, e3, h⟩ := h
  replace h := hQ3 _ h
  obtain ⟨g32, h⟩ := ed_gd h
  obtain ⟨g48, h⟩ := ed_gd h
  obtain ⟨Q4, hQ4, h⟩ := bd1_ed h
  have K4 : ∀ (M5 : im_M), fr 1610612736 [(28, 3)] M M5 → Q4 M5 → fr 1610612736 [(28, 3)] M r := by
    intro M5 hM5 h
    replace h := hQ4 _ h
    exact fr_retV h hM5
  obtain ⟨r4, hr4, hq4⟩ := h
  obtain ⟨n4, hn4⟩ := lp_n hr4
  have I4 : ∀ (n : Nat) (x6 : Int32) (M7 : im_M), fr 1610612736 [(28, 3)] M M7 → lpn (uc2 (f_HPen_drawText_L56 w p1 x1 x2 x3 (im_i M 57 (Int32.toNatClampNeg ((3 : Int32) * x1))) (x2 * ((im_i M 57 (Int32.toNatClampNeg ((3 : Int32) * x1))) + (im_i M 57 (Int32.toNatClampNeg (((3 : Int32) * x1) + 2))))))) n (x6, M7) = some r4 → fr 1610612736 [(28, 3)] M r := by
    intro n
    induction n with
    | zero => intro x6 M7 hM7 hn; exact (lpn_0 hn).elim
    | succ n ih =>
      intro x6 M7 hM7 hn
      have h := lpn_ed2 hn
      unfold f_HPen_drawText_L56 at h
      obtain ⟨Q8, hQ8, h⟩ := bd1_ed h
      obtain ⟨x8, e8, h⟩ := h
      replace h := hQ8 _ h
      by_cases q65 : x8 ≤ x6
      · replace h := ed_pos q65 h
        exact K4 _ hM7 (lq_r h hq4)
      · replace h := ed_neg q65 h
        obtain ⟨Q9, hQ9, h⟩ := bd1_ed h
        obtain ⟨x9, e9, h⟩ := h
        replace h := hQ9 _ h
        obtain ⟨Q10, hQ10, h⟩ := bd1_ed h
        have K10 : ∀ (M11 : im_M), fr 1610612736 [(28, 3)] M M11 → Q10 M11 → fr 1610612736 [(28, 3)] M r := by
          intro M11 hM11 h
          replace h := hQ10 _ h
          exact ih _ _ hM11 (lq_l h)
        obtain ⟨r10, hr10, hq10⟩ := h
        obtain ⟨n10, hn10⟩ := lp_n hr10
        have I10 : ∀ (n : Nat) (x12 : Int32) (M13 : im_M), fr 1610612736 [(28, 3)] M M13 → lpn (uc2 (f_HPen_drawText_L89 w p1 x1 x2 x3 (im_i M 57 (Int32.toNatClampNeg ((3 : Int32) * x1))) (x2 * ((im_i M 57 (Int32.toNatClampNeg ((3 : Int32) * x1))) + (im_i M 57 (Int32.toNatClampNeg (((3 : Int32) * x1) + 2))))) x6 (((x1 * 256) + x9) * 32))) n (x12, M13) = some r10 → fr 1610612736 [(28, 3)] M r := by
          intro n
          induction n with
          | zero => intro x12 M13 hM13 hn; exact (lpn_0 hn).elim
          | succ n ih =>
            intro x12 M13 hM13 hn
            have h := lpn_ed2 hn
            unfold f_HPen_drawText_L89 at h
            obtain ⟨g100, h⟩ := ed_gd h
            by_cases q101 : (im_i M13 57 (Int32.toNatClampNeg (((3 : Int32) * x1) + 1))) ≤ x12
            · replace h := ed_pos q101 h
              exact K10 _ hM13 (lq_r h hq10)
            · replace h := ed_neg q101 h
              obtain ⟨g114, h⟩ := ed_gd h
              obtain ⟨Q14, hQ14, h⟩ := bd1_ed h
              obtain ⟨M14, e14, h⟩ := h
              replace h := hQ14 _ h
              exact ih _ _ (fr_tr (fr_mono (by decide) (by decide +kernel) (f_HPen_drawCellRow_fr e14)) hM13) (lq_l h)
        exact I10 n10 _ _ hM7 hn10
  exact I4 n4 _ _ fr_refl hn4
noncomputable def f_Arrays_fill_2_L10 (v3 : Int32) (v4 : Int32) (x5 : Int32) (M6 : im_M) : Option ((Int32 × im_M) ⊕ (im_M)) := if v3 ≤ x5 then some (.inr M6) else gd (inb x5 198) <| some (.inl ((x5 + 1), (im_setI M6 35 (Int32.toNatClampNeg x5) v4)))
noncomputable def f_Arrays_fill_2 (p1 : Int32) (p2 : Int32) (p3 : Int32) (M : im_M) : Option (im_M) := bd0 (f_Arrays_rangeCheck 198 p1 p2 M) fun (_ : Unit) => bd1 (lp (uc2 (f_Arrays_fill_2_L10 p2 p3)) (p1, M)) fun (M7 : im_M) => some M7
theorem f_Arrays_fill_2_ok {L : Nat} {xs : Nat → Int32} {dep : Nat} {w : Bool} {p1 : Int32} {p2 : Int32} {p3 : Int32} {M : im_M} {Q : im_M → Prop} (hM : lw_S w M) (h : ed (f_Arrays_fill_2 p1 p2 p3 M) Q) : ia (tb_G L xs) (dep + 1) J_Arrays_fill (rwV w Q) (0, lv_args 0 [.ref 35, .int p1, .int p2, .int p3], [], M) := by
  have hS : im_St (tb_G L xs) (dep + 1) J_Arrays_fill (ia (tb_G L xs) (dep + 1) J_Arrays_fill (rwV w Q)) := ia_St
  unfold f_Arrays_fill_2 at h
  have l0 : im_lk (lv_args 0 [.ref 35, .int p1, .int p2, .int p3]) 0 = some (.ref 35) := rfl
  have l1 : im_lk (lv_args 0 [.ref 35, .int p1, .int p2, .int p3]) 1 = some (.int p1) := rfl
  have l2 : im_lk (lv_args 0 [.ref 35, .int p1, .int p2, .int p3]) 2 = some (.int p2) := rfl
  have l3 : im_lk (lv_args 0 [.ref 35, .int p1, .int p2, .int p3]) 3 = some (.int p3) := rfl
  refine iq_aload_n hS 1 J_Arrays_fill_d0 l0 rfl ?_
  refine iq_alenv hS 2 J_Arrays_fill_d1 (v := 198) (ka_35 hM) (by decide) (by decide) (kl_35 hM) (by decide +kernel) rfl ?_
  refine iq_iload_n hS 3 J_Arrays_fill_d2 l1 rfl ?_
  refine iq_iload_n hS 4 J_Arrays_fill_d3 l2 rfl ?_
  obtain ⟨Q1, hQ1, h⟩ := bd0_ed h
  refine iq_cpV hS 7 J_Arrays_fill_d4 rfl (pr_stat (vs := [_, _, _]) lc_22_13 lT_54 rfl rfl (by decide) rfl (Nat.le_of_ble_eq_true rfl) (Nat.le_of_ble_eq_true rfl)) (f_Arrays_rangeCheck_ok (dep := dep + 0) hM h) rfl ?_
  intro h
  replace h := hQ1  h
  refine iq_iload_n hS 8 J_Arrays_fill_d7 l1 rfl ?_
  refine iq_istore hS 10 J_Arrays_fill_d8 (by decide) rfl ?_
  obtain ⟨Q2, hQ2, h⟩ := bd1_ed h
  have K2 : ∀ (M3 : im_M) (L' : List (Nat × Value)), lw_S w M3 → Q2 M3 → ia (tb_G L xs) (dep + 1) J_Arrays_fill (rwV w Q) (27, L', [], M3) := by
    intro M3 L' hM3  h
    replace h := hQ2 _ h
    exact iq_ret J_Arrays_fill_d27 rfl ⟨rfl, hM3, ed_some h⟩
  obtain ⟨r2, hr2, hq2⟩ := h
  obtain ⟨n2, hn2⟩ := lp_n hr2
  have I2 : ∀ (n : Nat) (x4 : Int32) (M5 : im_M) (L' : List (Nat × Value)), lw_S w M5 → im_lk L' 0 = some (.ref 35) → im_lk L' 2 = some (.int p2) → im_lk L' 3 = some (.int p3) → im_lk L' 4 = some (.int x4) → lpn (uc2 (f_Arrays_fill_2_L10 p2 p3)) n (x4, M5) = some r2 → ia (tb_G L xs) (dep + 1) J_Arrays_fill (rwV w Q) (10, L', [], M5) := by
    intro n
    induction n with
    | zero => intro x4 M5 L' hM5 l6 l7 l8 l9 hn; exact (lpn_0 hn).elim
    | succ n ih =>
      intro x4 M5 L' hM5 l6 l7 l8 l9 hn
      have h := lpn_ed2 hn
      unfold f_Arrays_fill_2_L10 at h
      refine iq_iload hS 12 J_Arrays_fill_d10 l9 rfl ?_
      refine iq_iload_n hS 13 J_Arrays_fill_d12 l7 rfl ?_
      refine iq_icmp_ge hS 16 J_Arrays_fill_d13 (t := 27) rfl (fun q13 => ?_) rfl (fun q13 => ?_)
      · replace h := ed_pos q13 h
        exact K2 _ _ hM5  (lq_r h hq2)
      · replace h := ed_neg q13 h
        refine iq_aload_n hS 17 J_Arrays_fill_d16 l6 rfl ?_
        refine iq_iload hS 19 J_Arrays_fill_d17 l9 rfl ?_
        refine iq_iload_n hS 20 J_Arrays_fill_d19 l8 rfl ?_
        obtain ⟨g20, h⟩ := ed_gd h
        refine iq_iastore hS 21 J_Arrays_fill_d20 ⟨(ka_35 hM5).1, (ka_35 hM5).2, g20.1, ix_lt (kl_35 hM5) g20.2⟩ rfl ?_
        refine iq_iincv hS 24 J_Arrays_fill_d21 (c := 1) (by decide +kernel) l9 (by decide) rfl ?_
        refine iq_goto hS J_Arrays_fill_d24 (t := 10) rfl ?_
        exact ih _ _ _ (lw_sI hM5) (lk_1r l6 (by decide)) (lk_1i l7 (by decide)) (lk_1i l8 (by decide)) lk_1s (lq_l h)
  exact I2 n2 _ _ _ hM (lk_1r l0 (by decide)) (lk_1i l2 (by decide)) (lk_1i l3 (by decide)) lk_1s hn2
theorem f_Arrays_fill_2_fr {p1 : Int32} {p2 : Int32} {p3 : Int32} {M : im_M} {r : im_M} (h : f_Arrays_fill_2 p1 p2 p3 M = some r) : fr 34359738368 [] M r := by
  replace h : ed (f_Arrays_fill_2 p1 p2 p3 M) (fun x => x = r) := ⟨r, h, rfl⟩
  unfold f_Arrays_fill_2 at h
  obtain ⟨Q1, hQ1, h⟩ := bd0_ed h
  obtain ⟨_, e1, h⟩ := h
  replace h := hQ1  h
  obtain ⟨Q2, hQ2, h⟩ := bd1_ed h
  have K2 : ∀ (M3 : im_M), fr 34359738368 [] M M3 → Q2 M3 → fr 34359738368 [] M r := by
    intro M3 hM3 h
    replace h := hQ2 _ h
    exact fr_retV h hM3
  obtain ⟨r2, hr2, hq2⟩ := h
  obtain ⟨n2, hn2⟩ := lp_n hr2
  have I2 : ∀ (n : Nat) (x4 : Int32) (M5 : im_M), fr 34359738368 [] M M5 → lpn (uc2 (f_Arrays_fill_2_L10 p2 p3)) n (x4, M5) = some r2 → fr 34359738368 [] M r := by
    intro n
    induction n with
    | zero => intro x4 M5 hM5 hn; exact (lpn_0 hn).elim
    | succ n ih =>
      intro x4 M5 hM5 hn
      have h := lpn_ed2 hn
      unfold f_Arrays_fill_2_L10 at h
      by_cases q13 : p2 ≤ x4
      · replace h := ed_pos q13 h
        exact K2 _ hM5 (lq_r h hq2)
      · replace h := ed_neg q13 h
        obtain ⟨g20, h⟩ := ed_gd h
        exact ih _ _ (fr_I (by decide) hM5) (lq_l h)
  exact I2 n2 _ _ fr_refl hn2
noncomputable def f_HBars_symbolFor (p0 : Int32) (p1 : Int32) (M : im_M) : Option (Int32) := gd (inb p0 65) <| if ¬ p1 = 2 then if 32 ≤ (im_i M 34 (Int32.toNatClampNeg p0)) then if ((if ¬ p1 = 0 then 128 else 96) : Int32) ≤ (im_i M 34 (Int32.toNatClampNeg p0)) then some (-1) else some ((im_i M 34 (Int32.toNatClampNeg p0)) - 32) else if ¬ p1 = 0 then some (-1) else some ((im_i M 34 (Int32.toNatClampNeg p0)) + 64) else bd1 (if (im_i M 31 6) ≤ (p0 + 1) then some (-1) else gd (inb (p0 + 1) 65) <| some ((im_i M 34 (Int32.toNatClampNeg (p0 + 1))) - 48)) fun (y3 : Int32) => if ((im_i M 34 (Int32.toNatClampNeg p0)) - 48) < 0 then some (-1) else if 9 < ((im_i M 34 (Int32.toNatClampNeg p0)) - 48) then some (-1) else if y3 < 0 then some (-1) else if 9 < y3 then some (-1) else some (((10 : Int32) * ((im_i M 34 (Int32.toNatClampNeg p0)) - 48)) + y3)
theorem J_HBars_symbolFor_d0 : decode J_HBars_symbolFor.2.1 0 = .ok (.aload_n 0, 1) := by decide +kernel
theorem J_HBars_symbolFor_d1 : decode J_HBars_symbolFor.2.1 1 = .ok (.getfield 20, 3) := by decide +kernel
theorem J_HBars_symbolFor_d4 : decode J_HBars_symbolFor.2.1 4 = .ok (.iload_n 1, 1) := by decide +kernel
theorem J_HBars_symbolFor_d5 : decode J_HBars_symbolFor.2.1 5 = .ok (.iaload, 1) := by decide +kernel
theorem J_HBars_symbolFor_d6 : decode J_HBars_symbolFor.2.1 6 = .ok (.istore_n 3, 1) := by decide +kernel
theorem J_HBars_symbolFor_d7 : decode J_HBars_symbolFor.2.1 7 = .ok (.iload_n 2, 1) := by decide +kernel
theorem J_HBars_symbolFor_d8 : decode J_HBars_symbolFor.2.1 8 = .ok (.iconst 2, 1) := by decide +kernel
theorem J_HBars_symbolFor_d9 : decode J_HBars_symbolFor.2.1 9 = .ok (.if_icmp .ne 73, 3) := by decide +kernel
theorem J_HBars_symbolFor_d12 : decode J_HBars_symbolFor.2.1 12 = .ok (.iload_n 3, 1) := by decide +kernel
theorem J_HBars_symbolFor_d13 : decode J_HBars_symbolFor.2.1 13 = .ok (.bipush 48, 2) := by decide +kernel
theorem J_HBars_symbolFor_d15 : decode J_HBars_symbolFor.2.1 15 = .ok (.isub, 1) := by decide +kernel
theorem J_HBars_symbolFor_d16 : decode J_HBars_symbolFor.2.1 16 = .ok (.istore 4, 2) := by decide +kernel
theorem J_HBars_symbolFor_d18 : decode J_HBars_symbolFor.2.1 18 = .ok (.iload_n 1, 1) := by decide +kernel
theorem J_HBars_symbolFor_d19 : decode J_HBars_symbolFor.2.1 19 = .ok (.iconst 1, 1) := by decide +kernel
theorem J_HBars_symbolFor_d20 : decode J_HBars_symbolFor.2.1 20 = .ok (.iadd, 1) := by decide +kernel
theorem J_HBars_symbolFor_d21 : decode J_HBars_symbolFor.2.1 21 = .ok (.aload_n 0, 1) := by decide +kernel
theorem J_HBars_symbolFor_d22 : decode J_HBars_symbolFor.2.1 22 = .ok (.getfield 32, 3) := by decide +kernel
theorem J_HBars_symbolFor_d25 : decode J_HBars_symbolFor.2.1 25 = .ok (.if_icmp .ge 17, 3) := by decide +kernel
theorem J_HBars_symbolFor_d28 : decode J_HBars_symbolFor.2.1 28 = .ok (.aload_n 0, 1) := by decide +kernel
theorem J_HBars_symbolFor_d29 : decode J_HBars_symbolFor.2.1 29 = .ok (.getfield 20, 3) := by decide +kernel
theorem J_HBars_symbolFor_d32 : decode J_HBars_symbolFor.2.1 32 = .ok (.iload_n 1, 1) := by decide +kernel
theorem J_HBars_symbolFor_d33 : decode J_HBars_symbolFor.2.1 33 = .ok (.iconst 1, 1) := by decide +kernel
theorem J_HBars_symbolFor_d34 : decode J_HBars_symbolFor.2.1 34 = .ok (.iadd, 1) := by decide +kernel
theorem J_HBars_symbolFor_d35 : decode J_HBars_symbolFor.2.1 35 = .ok (.iaload, 1) := by decide +kernel
theorem J_HBars_symbolFor_d36 : decode J_HBars_symbolFor.2.1 36 = .ok (.bipush 48, 2) := by decide +kernel
theorem J_HBars_symbolFor_d38 : decode J_HBars_symbolFor.2.1 38 = .ok (.isub, 1) := by decide +kernel
theorem J_HBars_symbolFor_d39 : decode J_HBars_symbolFor.2.1 39 = .ok (.goto 4, 3) := by decide +kernel
theorem J_HBars_symbolFor_d42 : decode J_HBars_symbolFor.2.1 42 = .ok (.iconst (-1), 1) := by decide +kernel
theorem J_HBars_symbolFor_d43 : decode J_HBars_symbolFor.2.1 43 = .ok (.istore 5, 2) := by decide +kernel
theorem J_HBars_symbolFor_d45 : decode J_HBars_symbolFor.2.1 45 = .ok (.iload 4, 2) := by decide +kernel
theorem J_HBars_symbolFor_d47 : decode J_HBars_symbolFor.2.1 47 = .ok (.ifCond .lt 33, 3) := by decide +kernel
theorem J_HBars_symbolFor_d50 : decode J_HBars_symbolFor.2.1 50 = .ok (.iload 4, 2) := by decide +kernel
theorem J_HBars_symbolFor_d52 : decode J_HBars_symbolFor.2.1 52 = .ok (.bipush 9, 2) := by decide +kernel
theorem J_HBars_symbolFor_d54 : decode J_HBars_symbolFor.2.1 54 = .ok (.if_icmp .gt 26, 3) := by decide +kernel
theorem J_HBars_symbolFor_d57 : decode J_HBars_symbolFor.2.1 57 = .ok (.iload 5, 2) := by decide +kernel
theorem J_HBars_symbolFor_d59 : decode J_HBars_symbolFor.2.1 59 = .ok (.ifCond .lt 21, 3) := by decide +kernel
theorem J_HBars_symbolFor_d62 : decode J_HBars_symbolFor.2.1 62 = .ok (.iload 5, 2) := by decide +kernel
theorem J_HBars_symbolFor_d64 : decode J_HBars_symbolFor.2.1 64 = .ok (.bipush 9, 2) := by decide +kernel
theorem J_HBars_symbolFor_d66 : decode J_HBars_symbolFor.2.1 66 = .ok (.if_icmp .gt 14, 3) := by decide +kernel
theorem J_HBars_symbolFor_d69 : decode J_HBars_symbolFor.2.1 69 = .ok (.bipush 10, 2) := by decide +kernel
theorem J_HBars_symbolFor_d71 : decode J_HBars_symbolFor.2.1 71 = .ok (.iload 4, 2) := by decide +kernel
theorem J_HBars_symbolFor_d73 : decode J_HBars_symbolFor.2.1 73 = .ok (.imul, 1) := by decide +kernel
theorem J_HBars_symbolFor_d74 : decode J_HBars_symbolFor.2.1 74 = .ok (.iload 5, 2) := by decide +kernel
theorem J_HBars_symbolFor_d76 : decode J_HBars_symbolFor.2.1 76 = .ok (.iadd, 1) := by decide +kernel
theorem J_HBars_symbolFor_d77 : decode J_HBars_symbolFor.2.1 77 = .ok (.goto 4, 3) := by decide +kernel
theorem J_HBars_symbolFor_d80 : decode J_HBars_symbolFor.2.1 80 = .ok (.iconst (-1), 1) := by decide +kernel
theorem J_HBars_symbolFor_d81 : decode J_HBars_symbolFor.2.1 81 = .ok (.ireturn, 1) := by decide +kernel
theorem J_HBars_symbolFor_d82 : decode J_HBars_symbolFor.2.1 82 = .ok (.iload_n 3, 1) := by decide +kernel
theorem J_HBars_symbolFor_d83 : decode J_HBars_symbolFor.2.1 83 = .ok (.bipush 32, 2) := by decide +kernel
theorem J_HBars_symbolFor_d85 : decode J_HBars_symbolFor.2.1 85 = .ok (.if_icmp .ge 16, 3) := by decide +kernel
theorem J_HBars_symbolFor_d88 : decode J_HBars_symbolFor.2.1 88 = .ok (.iload_n 2, 1) := by decide +kernel
theorem J_HBars_symbolFor_d89 : decode J_HBars_symbolFor.2.1 89 = .ok (.ifCond .ne 10, 3) := by decide +kernel
theorem J_HBars_symbolFor_d92 : decode J_HBars_symbolFor.2.1 92 = .ok (.iload_n 3, 1) := by decide +kernel
theorem J_HBars_symbolFor_d93 : decode J_HBars_symbolFor.2.1 93 = .ok (.bipush 64, 2) := by decide +kernel
theorem J_HBars_symbolFor_d95 : decode J_HBars_symbolFor.2.1 95 = .ok (.iadd, 1) := by decide +kernel
theorem J_HBars_symbolFor_d96 : decode J_HBars_symbolFor.2.1 96 = .ok (.goto 4, 3) := by decide +kernel
theorem J_HBars_symbolFor_d99 : decode J_HBars_symbolFor.2.1 99 = .ok (.iconst (-1), 1) := by decide +kernel
theorem J_HBars_symbolFor_d100 : decode J_HBars_symbolFor.2.1 100 = .ok (.ireturn, 1) := by decide +kernel
theorem J_HBars_symbolFor_d101 : decode J_HBars_symbolFor.2.1 101 = .ok (.iload_n 3, 1) := by decide +kernel
theorem J_HBars_symbolFor_d102 : decode J_HBars_symbolFor.2.1 102 = .ok (.iload_n 2, 1) := by decide +kernel
theorem J_HBars_symbolFor_d103 : decode J_HBars_symbolFor.2.1 103 = .ok (.ifCond .ne 8, 3) := by decide +kernel
theorem J_HBars_symbolFor_d106 : decode J_HBars_symbolFor.2.1 106 = .ok (.bipush 96, 2) := by decide +kernel
theorem J_HBars_symbolFor_d108 : decode J_HBars_symbolFor.2.1 108 = .ok (.goto 6, 3) := by decide +kernel
theorem J_HBars_symbolFor_d111 : decode J_HBars_symbolFor.2.1 111 = .ok (.sipush 128, 3) := by decide +kernel
theorem J_HBars_symbolFor_d114 : decode J_HBars_symbolFor.2.1 114 = .ok (.if_icmp .ge 10, 3) := by decide +kernel
theorem J_HBars_symbolFor_d117 : decode J_HBars_symbolFor.2.1 117 = .ok (.iload_n 3, 1) := by decide +kernel
theorem J_HBars_symbolFor_d118 : decode J_HBars_symbolFor.2.1 118 = .ok (.bipush 32, 2) := by decide +kernel
theorem J_HBars_symbolFor_d120 : decode J_HBars_symbolFor.2.1 120 = .ok (.isub, 1) := by decide +kernel
theorem J_HBars_symbolFor_d121 : decode J_HBars_symbolFor.2.1 121 = .ok (.goto 4, 3) := by decide +kernel
theorem J_HBars_symbolFor_d124 : decode J_HBars_symbolFor.2.1 124 = .ok (.iconst (-1), 1) := by decide +kernel
theorem J_HBars_symbolFor_d125 : decode J_HBars_symbolFor.2.1 125 = .ok (.ireturn, 1) := by decide +kernel
theorem f_HBars_symbolFor_ok {L : Nat} {xs : Nat → Int32} {dep : Nat} {w : Bool} {p0 : Int32} {p1 : Int32} {M : im_M} {Q : Int32 → Prop} (hM : lw_S w M) (h : ed (f_HBars_symbolFor p0 p1 M) Q) : ia (tb_G L xs) dep J_HBars_symbolFor (rpI M Q) (0, lv_args 0 [.ref 31, .int p0, .int p1], [], M) := by
  have hS : im_St (tb_G L xs) dep J_HBars_symbolFor (ia (tb_G L xs) dep J_HBars_symbolFor (rpI M Q)) := ia_St
  unfold f_HBars_symbolFor at h
  have l0 : im_lk (lv_args 0 [.ref 31, .int p0, .int p1]) 0 = some (.ref 31) := rfl
  have l1 : im_lk (lv_args 0 [.ref 31, .int p0, .int p1]) 1 = some (.int p0) := rfl
  have l2 : im_lk (lv_args 0 [.ref 31, .int p0, .int p1]) 2 = some (.int p1) := rfl
  refine iq_aload_n hS 1 J_HBars_symbolFor_d0 l0 rfl ?_
  refine iq_getR hS 4 J_HBars_symbolFor_d1 lf_0_20 (Or.inr ⟨_, rfl⟩) (ka_31 hM) (ra_31_5 hM) rfl ?_
  refine iq_iload_n hS 5 J_HBars_symbolFor_d4 l1 rfl ?_
  obtain ⟨g5, h⟩ := ed_gd h
  refine iq_iaload hS 6 J_HBars_symbolFor_d5 ⟨(ka_34 hM).1, (ka_34 hM).2, g5.1, ix_lt (kl_34 hM) g5.2⟩ rfl ?_
  refine iq_istore_n hS 7 J_HBars_symbolFor_d6 (by decide) rfl ?_
  refine iq_iload_n hS 8 J_HBars_symbolFor_d7 (lk_1i l2 (by decide)) rfl ?_
  refine iq_iconst hS 9 J_HBars_symbolFor_d8 (v := 2) (by decide +kernel) rfl ?_
  refine iq_icmp_ne hS 12 J_HBars_symbolFor_d9 (t := 82) rfl (fun q9 => ?_) rfl (fun q9 => ?_)
  · replace h := ed_pos q9 h
    refine iq_iload_n hS 83 J_HBars_symbolFor_d82 lk_1s rfl ?_
    refine iq_bipush hS 85 J_HBars_symbolFor_d83 (v := 32) (by decide +kernel) rfl ?_
    refine iq_icmp_ge hS 88 J_HBars_symbolFor_d85 (t := 101) rfl (fun q85 => ?_) rfl (fun q85 => ?_)
    · replace h := ed_pos q85 h
      refine iq_iload_n hS 102 J_HBars_symbolFor_d101 lk_1s rfl ?_
      refine iq_iload_n hS 103 J_HBars_symbolFor_d102 (lk_1i l2 (by decide)) rfl ?_
      have J1 : ∀ (z2 : Int32) (L' : List (Nat × Value)), z2 = ((if ¬ p1 = 0 then 128 else 96) : Int32) → im_lk L' 3 = some (.int (im_i M 34 (Int32.toNatClampNeg p0))) → ia (tb_G L xs) dep J_HBars_symbolFor (rpI M Q) (114, L', [.int z2, .int (im_i M 34 (Int32.toNatClampNeg p0))], M) := by
        intro z2 L' e3 l4
        subst e3
        refine iq_icmp_ge hS 117 J_HBars_symbolFor_d114 (t := 124) rfl (fun q114 => ?_) rfl (fun q114 => ?_)
        · replace h := ed_pos q114 h
          refine iq_iconst hS 125 J_HBars_symbolFor_d124 (v := (-1)) (by decide +kernel) rfl ?_
          exact iq_iret J_HBars_symbolFor_d125 rfl rfl ⟨_, rfl, rfl, ed_some h⟩
        · replace h := ed_neg q114 h
          refine iq_iload_n hS 118 J_HBars_symbolFor_d117 l4 rfl ?_
          refine iq_bipush hS 120 J_HBars_symbolFor_d118 (v := 32) (by decide +kernel) rfl ?_
          refine iq_isub hS 121 J_HBars_symbolFor_d120 rfl ?_
          refine iq_goto hS J_HBars_symbolFor_d121 (t := 125) rfl ?_
          exact iq_iret J_HBars_symbolFor_d125 rfl rfl ⟨_, rfl, rfl, ed_some h⟩
      refine iq_if_ne hS 106 J_HBars_symbolFor_d103 (t := 111) rfl (fun q103 => ?_) rfl (fun q103 => ?_)
      · refine iq_sipush hS 114 J_HBars_symbolFor_d111 (v := 128) (by decide +kernel) rfl ?_
        exact J1 _ _ (by simp only [if_pos q103]) lk_1s
      · refine iq_bipush hS 108 J_HBars_symbolFor_d106 (v := 96) (by decide +kernel) rfl ?_
        refine iq_goto hS J_HBars_symbolFor_d108 (t := 114) rfl ?_
        exact J1 _ _ (by simp only [if_neg q103]) lk_1s
    · replace h := ed_neg q85 h
      refine iq_iload_n hS 89 J_HBars_symbolFor_d88 (lk_1i l2 (by decide)) rfl ?_
      refine iq_if_ne hS 92 J_HBars_symbolFor_d89 (t := 99) rfl (fun q89 => ?_) rfl (fun q89 => ?_)
      · replace h := ed_pos q89 h
        refine iq_iconst hS 100 J_HBars_symbolFor_d99 (v := (-1)) (by decide +kernel) rfl ?_
        exact iq_iret J_HBars_symbolFor_d100 rfl rfl ⟨_, rfl, rfl, ed_some h⟩
      · replace h := ed_neg q89 h
        refine iq_iload_n hS 93 J_HBars_symbolFor_d92 lk_1s rfl ?_
        refine iq_bipush hS 95 J_HBars_symbolFor_d93 (v := 64) (by decide +kernel) rfl ?_
        refine iq_iadd hS 96 J_HBars_symbolFor_d95 rfl ?_
        refine iq_goto hS J_HBars_symbolFor_d96 (t := 100) rfl ?_
        exact iq_iret J_HBars_symbolFor_d100 rfl rfl ⟨_, rfl, rfl, ed_some h⟩
  · replace h := ed_neg q9 h
    refine iq_iload_n hS 13 J_HBars_symbolFor_d12 lk_1s rfl ?_
    refine iq_bipush hS 15 J_HBars_symbolFor_d13 (v := 48) (by decide +kernel) rfl ?_
    refine iq_isub hS 16 J_HBars_symbolFor_d15 rfl ?_
    refine iq_istore hS 18 J_HBars_symbolFor_d16 (by decide) rfl ?_
    refine iq_iload_n hS 19 J_HBars_symbolFor_d18 (lk_1i (lk_1i l1 (by decide)) (by decide)) rfl ?_
    refine iq_iconst hS 20 J_HBars_symbolFor_d19 (v := 1) (by decide +kernel) rfl ?_
    refine iq_iadd hS 21 J_HBars_symbolFor_d20 rfl ?_
    refine iq_aload_n hS 22 J_HBars_symbolFor_d21 (lk_1r (lk_1r l0 (by decide)) (by decide)) rfl ?_
    refine iq_getI hS 25 J_HBars_symbolFor_d22 lf_0_32 (Or.inl rfl) (ka_31 hM) rfl ?_
    obtain ⟨Q5, hQ5, h⟩ := bd1_ed h
    have J5 : ∀ (y6 : Int32) (L' : List (Nat × Value)), im_lk L' 4 = some (.int ((im_i M 34 (Int32.toNatClampNeg p0)) - 48)) → Q5 y6 → ia (tb_G L xs) dep J_HBars_symbolFor (rpI M Q) (43, L', [.int y6], M) := by
      intro y6 L' l7 h
      replace h := hQ5 _ h
      refine iq_istore hS 45 J_HBars_symbolFor_d43 (by decide) rfl ?_
      refine iq_iload hS 47 J_HBars_symbolFor_d45 (lk_1i l7 (by decide)) rfl ?_
      refine iq_if_lt hS 50 J_HBars_symbolFor_d47 (t := 80) rfl (fun q47 => ?_) rfl (fun q47 => ?_)
      · replace h := ed_pos q47 h
        refine iq_iconst hS 81 J_HBars_symbolFor_d80 (v := (-1)) (by decide +kernel) rfl ?_
        exact iq_iret J_HBars_symbolFor_d81 rfl rfl ⟨_, rfl, rfl, ed_some h⟩
      · replace h := ed_neg q47 h
        refine iq_iload hS 52 J_HBars_symbolFor_d50 (lk_1i l7 (by decide)) rfl ?_
        refine iq_bipush hS 54 J_HBars_symbolFor_d52 (v := 9) (by decide +kernel) rfl ?_
        refine iq_icmp_gt hS 57 J_HBars_symbolFor_d54 (t := 80) rfl (fun q54 => ?_) rfl (fun q54 => ?_)
        · replace h := ed_pos q54 h
          refine iq_iconst hS 81 J_HBars_symbolFor_d80 (v := (-1)) (by decide +kernel) rfl ?_
          exact iq_iret J_HBars_symbolFor_d81 rfl rfl ⟨_, rfl, rfl, ed_some h⟩
        · replace h := ed_neg q54 h
          refine iq_iload hS 59 J_HBars_symbolFor_d57 lk_1s rfl ?_
          refine iq_if_lt hS 62 J_HBars_symbolFor_d59 (t := 80) rfl (fun q59 => ?_) rfl (fun q59 => ?_)
          · replace h := ed_pos q59 h
            refine iq_iconst hS 81 J_HBars_symbolFor_d80 (v := (-1)) (by decide +kernel) rfl ?_
            exact iq_iret J_HBars_symbolFor_d81 rfl rfl ⟨_, rfl, rfl, ed_some h⟩
          · replace h := ed_neg q59 h
            refine iq_iload hS 64 J_HBars_symbolFor_d62 lk_1s rfl ?_
            refine iq_bipush hS 66 J_HBars_symbolFor_d64 (v := 9) (by decide +kernel) rfl ?_
            refine iq_icmp_gt hS 69 J_HBars_symbolFor_d66 (t := 80) rfl (fun q66 => ?_) rfl (fun q66 => ?_)
            · replace h := ed_pos q66 h
              refine iq_iconst hS 81 J_HBars_symbolFor_d80 (v := (-1)) (by decide +kernel) rfl ?_
              exact iq_iret J_HBars_symbolFor_d81 rfl rfl ⟨_, rfl, rfl, ed_some h⟩
            · replace h := ed_neg q66 h
              refine iq_bipush hS 71 J_HBars_symbolFor_d69 (v := 10) (by decide +kernel) rfl ?_
              refine iq_iload hS 73 J_HBars_symbolFor_d71 (lk_1i l7 (by decide)) rfl ?_
              refine iq_imul hS 74 J_HBars_symbolFor_d73 rfl ?_
              refine iq_iload hS 76 J_HBars_symbolFor_d74 lk_1s rfl ?_
              refine iq_iadd hS 77 J_HBars_symbolFor_d76 rfl ?_
              refine iq_goto hS J_HBars_symbolFor_d77 (t := 81) rfl ?_
              exact iq_iret J_HBars_symbolFor_d81 rfl rfl ⟨_, rfl, rfl, ed_some h⟩
    refine iq_icmp_ge hS 28 J_HBars_symbolFor_d25 (t := 42) rfl (fun q25 => ?_) rfl (fun q25 => ?_)
    · replace h := ed_pos q25 h
      refine iq_iconst hS 43 J_HBars_symbolFor_d42 (v := (-1)) (by decide +kernel) rfl ?_
      exact J5 _ _ lk_1s (ed_some h)
    · replace h := ed_neg q25 h
      refine iq_aload_n hS 29 J_HBars_symbolFor_d28 (lk_1r (lk_1r l0 (by decide)) (by decide)) rfl ?_
      refine iq_getR hS 32 J_HBars_symbolFor_d29 lf_0_20 (Or.inr ⟨_, rfl⟩) (ka_31 hM) (ra_31_5 hM) rfl ?_
      refine iq_iload_n hS 33 J_HBars_symbolFor_d32 (lk_1i (lk_1i l1 (by decide)) (by decide)) rfl ?_
      refine iq_iconst hS 34 J_HBars_symbolFor_d33 (v := 1) (by decide +kernel) rfl ?_
      refine iq_iadd hS 35 J_HBars_symbolFor_d34 rfl ?_
      obtain ⟨g35, h⟩ := ed_gd h
      refine iq_iaload hS 36 J_HBars_symbolFor_d35 ⟨(ka_34 hM).1, (ka_34 hM).2, g35.1, ix_lt (kl_34 hM) g35.2⟩ rfl ?_
      refine iq_bipush hS 38 J_HBars_symbolFor_d36 (v := 48) (by decide +kernel) rfl ?_
      refine iq_isub hS 39 J_HBars_symbolFor_d38 rfl ?_
      refine iq_goto hS J_HBars_symbolFor_d39 (t := 43) rfl ?_
      exact J5 _ _ lk_1s (ed_some h)
noncomputable def f_HBars_signsEach (p0 : Int32) (M : im_M) : Option (Int32) := if ¬ p0 = 2 then some 1 else some 2
theorem J_HBars_signsEach_d0 : decode J_HBars_signsEach.2.1 0 = .ok (.iload_n 0, 1) := by decide +kernel
theorem J_HBars_signsEach_d1 : decode J_HBars_signsEach.2.1 1 = .ok (.iconst 2, 1) := by decide +kernel
theorem J_HBars_signsEach_d2 : decode J_HBars_signsEach.2.1 2 = .ok (.if_icmp .ne 7, 3) := by decide +kernel
theorem J_HBars_signsEach_d5 : decode J_HBars_signsEach.2.1 5 = .ok (.iconst 2, 1) := by decide +kernel
theorem J_HBars_signsEach_d6 : decode J_HBars_signsEach.2.1 6 = .ok (.goto 4, 3) := by decide +kernel
theorem J_HBars_signsEach_d9 : decode J_HBars_signsEach.2.1 9 = .ok (.iconst 1, 1) := by decide +kernel
theorem J_HBars_signsEach_d10 : decode J_HBars_signsEach.2.1 10 = .ok (.ireturn, 1) := by decide +kernel
theorem f_HBars_signsEach_ok {L : Nat} {xs : Nat → Int32} {dep : Nat} {w : Bool} {p0 : Int32} {M : im_M} {Q : Int32 → Prop} (hM : lw_S w M) (h : ed (f_HBars_signsEach p0 M) Q) : ia (tb_G L xs) dep J_HBars_signsEach (rpI M Q) (0, lv_args 0 [.int p0], [], M) := by
  have hS : im_St (tb_G L xs) dep J_HBars_signsEach (ia (tb_G L xs) dep J_HBars_signsEach (rpI M Q)) := ia_St
  unfold f_HBars_signsEach at h
  have l0 : im_lk (lv_args 0 [.int p0]) 0 = some (.int p0) := rfl
  refine iq_iload_n hS 1 J_HBars_signsEach_d0 l0 rfl ?_
  refine iq_iconst hS 2 J_HBars_signsEach_d1 (v := 2) (by decide +kernel) rfl ?_
  refine iq_icmp_ne hS 5 J_HBars_signsEach_d2 (t := 9) rfl (fun q2 => ?_) rfl (fun q2 => ?_)
  · replace h := ed_pos q2 h
    refine iq_iconst hS 10 J_HBars_signsEach_d9 (v := 1) (by decide +kernel) rfl ?_
    exact iq_iret J_HBars_signsEach_d10 rfl rfl ⟨_, rfl, rfl, ed_some h⟩
  · replace h := ed_neg q2 h
    refine iq_iconst hS 6 J_HBars_signsEach_d5 (v := 2) (by decide +kernel) rfl ?_
    refine iq_goto hS J_HBars_signsEach_d6 (t := 10) rfl ?_
    exact iq_iret J_HBars_signsEach_d10 rfl rfl ⟨_, rfl, rfl, ed_some h⟩
noncomputable def f_HBars_straight (p0 : Int32) (p1 : Int32) (M : im_M) : Option (Int32) := bd1 (f_HBars_symbolFor p0 p1 M) fun (x1 : Int32) => if ¬ x1 = (-1) then bd1 (f_HBars_signsEach p1 M) fun (x2 : Int32) => gd (inb (((3 : Int32) * (p0 + x2)) + p1) 198) <| some ((1 : Int32) + (im_i M 35 (Int32.toNatClampNeg (((3 : Int32) * (p0 + x2)) + p1)))) else some 1000
theorem J_HBars_straight_d0 : decode J_HBars_straight.2.1 0 = .ok (.aload_n 0, 1) := by decide +kernel
theorem J_HBars_straight_d1 : decode J_HBars_straight.2.1 1 = .ok (.iload_n 1, 1) := by decide +kernel
theorem J_HBars_straight_d2 : decode J_HBars_straight.2.1 2 = .ok (.iload_n 2, 1) := by decide +kernel
theorem J_HBars_straight_d3 : decode J_HBars_straight.2.1 3 = .ok (.invokevirtual 66, 3) := by decide +kernel
theorem J_HBars_straight_d6 : decode J_HBars_straight.2.1 6 = .ok (.iconst (-1), 1) := by decide +kernel
theorem J_HBars_straight_d7 : decode J_HBars_straight.2.1 7 = .ok (.if_icmp .ne 9, 3) := by decide +kernel
theorem J_HBars_straight_d10 : decode J_HBars_straight.2.1 10 = .ok (.sipush 1000, 3) := by decide +kernel
theorem J_HBars_straight_d13 : decode J_HBars_straight.2.1 13 = .ok (.goto 20, 3) := by decide +kernel
theorem J_HBars_straight_d16 : decode J_HBars_straight.2.1 16 = .ok (.iconst 1, 1) := by decide +kernel
theorem J_HBars_straight_d17 : decode J_HBars_straight.2.1 17 = .ok (.aload_n 0, 1) := by decide +kernel
theorem J_HBars_straight_d18 : decode J_HBars_straight.2.1 18 = .ok (.getfield 23, 3) := by decide +kernel
theorem J_HBars_straight_d21 : decode J_HBars_straight.2.1 21 = .ok (.iconst 3, 1) := by decide +kernel
theorem J_HBars_straight_d22 : decode J_HBars_straight.2.1 22 = .ok (.iload_n 1, 1) := by decide +kernel
theorem J_HBars_straight_d23 : decode J_HBars_straight.2.1 23 = .ok (.iload_n 2, 1) := by decide +kernel
theorem J_HBars_straight_d24 : decode J_HBars_straight.2.1 24 = .ok (.invokestatic 69, 3) := by decide +kernel
theorem J_HBars_straight_d27 : decode J_HBars_straight.2.1 27 = .ok (.iadd, 1) := by decide +kernel
theorem J_HBars_straight_d28 : decode J_HBars_straight.2.1 28 = .ok (.imul, 1) := by decide +kernel
theorem J_HBars_straight_d29 : decode J_HBars_straight.2.1 29 = .ok (.iload_n 2, 1) := by decide +kernel
theorem J_HBars_straight_d30 : decode J_HBars_straight.2.1 30 = .ok (.iadd, 1) := by decide +kernel
theorem J_HBars_straight_d31 : decode J_HBars_straight.2.1 31 = .ok (.iaload, 1) := by decide +kernel
theorem J_HBars_straight_d32 : decode J_HBars_straight.2.1 32 = .ok (.iadd, 1) := by decide +kernel
theorem J_HBars_straight_d33 : decode J_HBars_straight.2.1 33 = .ok (.ireturn, 1) := by decide +kernel
theorem f_HBars_straight_ok {L : Nat} {xs : Nat → Int32} {dep : Nat} {w : Bool} {p0 : Int32} {p1 : Int32} {M : im_M} {Q : Int32 → Prop} (hM : lw_S w M) (h : ed (f_HBars_straight p0 p1 M) Q) : ia (tb_G L xs) (dep + 1) J_HBars_straight (rpI M Q) (0, lv_args 0 [.ref 31, .int p0, .int p1], [], M) := by
  have hS : im_St (tb_G L xs) (dep + 1) J_HBars_straight (ia (tb_G L xs) (dep + 1) J_HBars_straight (rpI M Q)) := ia_St
  unfold f_HBars_straight at h
  have l0 : im_lk (lv_args 0 [.ref 31, .int p0, .int p1]) 0 = some (.ref 31) := rfl
  have l1 : im_lk (lv_args 0 [.ref 31, .int p0, .int p1]) 1 = some (.int p0) := rfl
  have l2 : im_lk (lv_args 0 [.ref 31, .int p0, .int p1]) 2 = some (.int p1) := rfl
  refine iq_aload_n hS 1 J_HBars_straight_d0 l0 rfl ?_
  refine iq_iload_n hS 2 J_HBars_straight_d1 l1 rfl ?_
  refine iq_iload_n hS 3 J_HBars_straight_d2 l2 rfl ?_
  obtain ⟨Q1, hQ1, h⟩ := bd1_ed h
  refine iq_cpI hS 6 J_HBars_straight_d3 rfl (pr_inst (vs := [_, _]) lc_0_66 lT_119 rfl rfl (by decide) (by decide) rfl (Nat.le_of_ble_eq_true rfl) (Nat.le_of_ble_eq_true rfl) (fun _ => Or.inl (pr_b (ka_31 hM) (by decide) rfl))) (f_HBars_symbolFor_ok (dep := dep + 0) hM h) rfl ?_
  intro x1 h
  replace h := hQ1 _ h
  refine iq_iconst hS 7 J_HBars_straight_d6 (v := (-1)) (by decide +kernel) rfl ?_
  refine iq_icmp_ne hS 10 J_HBars_straight_d7 (t := 16) rfl (fun q7 => ?_) rfl (fun q7 => ?_)
  · replace h := ed_pos q7 h
    refine iq_iconst hS 17 J_HBars_straight_d16 (v := 1) (by decide +kernel) rfl ?_
    refine iq_aload_n hS 18 J_HBars_straight_d17 l0 rfl ?_
    refine iq_getR hS 21 J_HBars_straight_d18 lf_0_23 (Or.inr ⟨_, rfl⟩) (ka_31 hM) (ra_31_7 hM) rfl ?_
    refine iq_iconst hS 22 J_HBars_straight_d21 (v := 3) (by decide +kernel) rfl ?_
    refine iq_iload_n hS 23 J_HBars_straight_d22 l1 rfl ?_
    refine iq_iload_n hS 24 J_HBars_straight_d23 l2 rfl ?_
    obtain ⟨Q2, hQ2, h⟩ := bd1_ed h
    refine iq_cpI hS 27 J_HBars_straight_d24 rfl (pr_stat (vs := [_]) lc_0_69 lT_120 rfl rfl (by decide) rfl (Nat.le_of_ble_eq_true rfl) (Nat.le_of_ble_eq_true rfl)) (f_HBars_signsEach_ok (dep := dep + 0) hM h) rfl ?_
    intro x2 h
    replace h := hQ2 _ h
    refine iq_iadd hS 28 J_HBars_straight_d27 rfl ?_
    refine iq_imul hS 29 J_HBars_straight_d28 rfl ?_
    refine iq_iload_n hS 30 J_HBars_straight_d29 l2 rfl ?_
    refine iq_iadd hS 31 J_HBars_straight_d30 rfl ?_
    obtain ⟨g31, h⟩ := ed_gd h
    refine iq_iaload hS 32 J_HBars_straight_d31 ⟨(ka_35 hM).1, (ka_35 hM).2, g31.1, ix_lt (kl_35 hM) g31.2⟩ rfl ?_
    refine iq_iadd hS 33 J_HBars_straight_d32 rfl ?_
    exact iq_iret J_HBars_straight_d33 rfl rfl ⟨_, rfl, rfl, ed_some h⟩
  · replace h := ed_neg q7 h
    refine iq_sipush hS 13 J_HBars_straight_d10 (v := 1000) (by decide +kernel) rfl ?_
    refine iq_goto hS J_HBars_straight_d13 (t := 33) rfl ?_
    exact iq_iret J_HBars_straight_d33 rfl rfl ⟨_, rfl, rfl, ed_some h⟩
noncomputable def f_HBars_shifted (p0 : Int32) (p1 : Int32) (M : im_M) : Option (Int32) := jn0 (fun (_ : Unit) => some 1000) fun k1 => if p1 = 2 then k1 () else bd1 (f_HBars_symbolFor p0 ((1 : Int32) - p1) M) fun (x2 : Int32) => if ¬ x2 = (-1) then gd (inb (((3 : Int32) * (p0 + 1)) + p1) 198) <| some ((2 : Int32) + (im_i M 35 (Int32.toNatClampNeg (((3 : Int32) * (p0 + 1)) + p1)))) else k1 ()
theorem J_HBars_shifted_d0 : decode J_HBars_shifted.2.1 0 = .ok (.iload_n 2, 1) := by decide +kernel
theorem J_HBars_shifted_d1 : decode J_HBars_shifted.2.1 1 = .ok (.iconst 2, 1) := by decide +kernel
theorem J_HBars_shifted_d2 : decode J_HBars_shifted.2.1 2 = .ok (.if_icmp .eq 15, 3) := by decide +kernel
theorem J_HBars_shifted_d5 : decode J_HBars_shifted.2.1 5 = .ok (.aload_n 0, 1) := by decide +kernel
theorem J_HBars_shifted_d6 : decode J_HBars_shifted.2.1 6 = .ok (.iload_n 1, 1) := by decide +kernel
theorem J_HBars_shifted_d7 : decode J_HBars_shifted.2.1 7 = .ok (.iconst 1, 1) := by decide +kernel
theorem J_HBars_shifted_d8 : decode J_HBars_shifted.2.1 8 = .ok (.iload_n 2, 1) := by decide +kernel
theorem J_HBars_shifted_d9 : decode J_HBars_shifted.2.1 9 = .ok (.isub, 1) := by decide +kernel
theorem J_HBars_shifted_d10 : decode J_HBars_shifted.2.1 10 = .ok (.invokevirtual 66, 3) := by decide +kernel
theorem J_HBars_shifted_d13 : decode J_HBars_shifted.2.1 13 = .ok (.iconst (-1), 1) := by decide +kernel
theorem J_HBars_shifted_d14 : decode J_HBars_shifted.2.1 14 = .ok (.if_icmp .ne 9, 3) := by decide +kernel
theorem J_HBars_shifted_d17 : decode J_HBars_shifted.2.1 17 = .ok (.sipush 1000, 3) := by decide +kernel
theorem J_HBars_shifted_d20 : decode J_HBars_shifted.2.1 20 = .ok (.goto 17, 3) := by decide +kernel
theorem J_HBars_shifted_d23 : decode J_HBars_shifted.2.1 23 = .ok (.iconst 2, 1) := by decide +kernel
theorem J_HBars_shifted_d24 : decode J_HBars_shifted.2.1 24 = .ok (.aload_n 0, 1) := by decide +kernel
theorem J_HBars_shifted_d25 : decode J_HBars_shifted.2.1 25 = .ok (.getfield 23, 3) := by decide +kernel
theorem J_HBars_shifted_d28 : decode J_HBars_shifted.2.1 28 = .ok (.iconst 3, 1) := by decide +kernel
theorem J_HBars_shifted_d29 : decode J_HBars_shifted.2.1 29 = .ok (.iload_n 1, 1) := by decide +kernel
theorem J_HBars_shifted_d30 : decode J_HBars_shifted.2.1 30 = .ok (.iconst 1, 1) := by decide +kernel
theorem J_HBars_shifted_d31 : decode J_HBars_shifted.2.1 31 = .ok (.iadd, 1) := by decide +kernel
theorem J_HBars_shifted_d32 : decode J_HBars_shifted.2.1 32 = .ok (.imul, 1) := by decide +kernel
theorem J_HBars_shifted_d33 : decode J_HBars_shifted.2.1 33 = .ok (.iload_n 2, 1) := by decide +kernel
theorem J_HBars_shifted_d34 : decode J_HBars_shifted.2.1 34 = .ok (.iadd, 1) := by decide +kernel
theorem J_HBars_shifted_d35 : decode J_HBars_shifted.2.1 35 = .ok (.iaload, 1) := by decide +kernel
theorem J_HBars_shifted_d36 : decode J_HBars_shifted.2.1 36 = .ok (.iadd, 1) := by decide +kernel
theorem J_HBars_shifted_d37 : decode J_HBars_shifted.2.1 37 = .ok (.ireturn, 1) := by decide +kernel
theorem f_HBars_shifted_ok {L : Nat} {xs : Nat → Int32} {dep : Nat} {w : Bool} {p0 : Int32} {p1 : Int32} {M : im_M} {Q : Int32 → Prop} (hM : lw_S w M) (h : ed (f_HBars_shifted p0 p1 M) Q) : ia (tb_G L xs) (dep + 1) J_HBars_shifted (rpI M Q) (0, lv_args 0 [.ref 31, .int p0, .int p1], [], M) := by
  have hS : im_St (tb_G L xs) (dep + 1) J_HBars_shifted (ia (tb_G L xs) (dep + 1) J_HBars_shifted (rpI M Q)) := ia_St
  unfold f_HBars_shifted at h
  have l0 : im_lk (lv_args 0 [.ref 31, .int p0, .int p1]) 0 = some (.ref 31) := rfl
  have l1 : im_lk (lv_args 0 [.ref 31, .int p0, .int p1]) 1 = some (.int p0) := rfl
  have l2 : im_lk (lv_args 0 [.ref 31, .int p0, .int p1]) 2 = some (.int p1) := rfl
  refine iq_iload_n hS 1 J_HBars_shifted_d0 l2 rfl ?_
  refine iq_iconst hS 2 J_HBars_shifted_d1 (v := 2) (by decide +kernel) rfl ?_
  obtain ⟨k1, Q1, hQ1, hk1, h⟩ := jn0_ed h
  have J1 : ∀  (L' : List (Nat × Value)), Q1 () → ia (tb_G L xs) (dep + 1) J_HBars_shifted (rpI M Q) (17, L', [], M) := by
    intro  L'  h
    replace h := hQ1  h
    refine iq_sipush hS 20 J_HBars_shifted_d17 (v := 1000) (by decide +kernel) rfl ?_
    refine iq_goto hS J_HBars_shifted_d20 (t := 37) rfl ?_
    exact iq_iret J_HBars_shifted_d37 rfl rfl ⟨_, rfl, rfl, ed_some h⟩
  refine iq_icmp_eq hS 5 J_HBars_shifted_d2 (t := 17) rfl (fun q2 => ?_) rfl (fun q2 => ?_)
  · replace h := ed_pos q2 h
    exact J1  _  (hk1  h)
  · replace h := ed_neg q2 h
    refine iq_aload_n hS 6 J_HBars_shifted_d5 l0 rfl ?_
    refine iq_iload_n hS 7 J_HBars_shifted_d6 l1 rfl ?_
    refine iq_iconst hS 8 J_HBars_shifted_d7 (v := 1) (by decide +kernel) rfl ?_
    refine iq_iload_n hS 9 J_HBars_shifted_d8 l2 rfl ?_
    refine iq_isub hS 10 J_HBars_shifted_d9 rfl ?_
    obtain ⟨Q2, hQ2, h⟩ := bd1_ed h
    refine iq_cpI hS 13 J_HBars_shifted_d10 rfl (pr_inst (vs := [_, _]) lc_0_66 lT_119 rfl rfl (by decide) (by decide) rfl (Nat.le_of_ble_eq_true rfl) (Nat.le_of_ble_eq_true rfl) (fun _ => Or.inl (pr_b (ka_31 hM) (by decide) rfl))) (f_HBars_symbolFor_ok (dep := dep + 0) hM h) rfl ?_
    intro x2 h
    replace h := hQ2 _ h
    refine iq_iconst hS 14 J_HBars_shifted_d13 (v := (-1)) (by decide +kernel) rfl ?_
    refine iq_icmp_ne hS 17 J_HBars_shifted_d14 (t := 23) rfl (fun q14 => ?_) rfl (fun q14 => ?_)
    · replace h := ed_pos q14 h
      refine iq_iconst hS 24 J_HBars_shifted_d23 (v := 2) (by decide +kernel) rfl ?_
      refine iq_aload_n hS 25 J_HBars_shifted_d24 l0 rfl ?_
      refine iq_getR hS 28 J_HBars_shifted_d25 lf_0_23 (Or.inr ⟨_, rfl⟩) (ka_31 hM) (ra_31_7 hM) rfl ?_
      refine iq_iconst hS 29 J_HBars_shifted_d28 (v := 3) (by decide +kernel) rfl ?_
      refine iq_iload_n hS 30 J_HBars_shifted_d29 l1 rfl ?_
      refine iq_iconst hS 31 J_HBars_shifted_d30 (v := 1) (by decide +kernel) rfl ?_
      refine iq_iadd hS 32 J_HBars_shifted_d31 rfl ?_
      refine iq_imul hS 33 J_HBars_shifted_d32 rfl ?_
      refine iq_iload_n hS 34 J_HBars_shifted_d33 l2 rfl ?_
      refine iq_iadd hS 35 J_HBars_shifted_d34 rfl ?_
      obtain ⟨g35, h⟩ := ed_gd h
      refine iq_iaload hS 36 J_HBars_shifted_d35 ⟨(ka_35 hM).1, (ka_35 hM).2, g35.1, ix_lt (kl_35 hM) g35.2⟩ rfl ?_
      refine iq_iadd hS 37 J_HBars_shifted_d36 rfl ?_
      exact iq_iret J_HBars_shifted_d37 rfl rfl ⟨_, rfl, rfl, ed_some h⟩
    · replace h := ed_neg q14 h
      exact J1  _  (hk1  h)
noncomputable def f_HBars_fewestBySign (p0 : Int32) (p1 : Int32) (M : im_M) : Option (Int32) := gd (inb p0 65) <| if ¬ (im_i M 34 (Int32.toNatClampNeg p0)) = 128 then bd1 (f_HBars_straight p0 p1 M) fun (x1 : Int32) => bd1 (f_HBars_shifted p0 p1 M) fun (x2 : Int32) => bd1 (f_Math_min x1 x2 M) fun (x3 : Int32) => some x3 else gd (inb (((3 : Int32) * (p0 + 1)) + p1) 198) <| some ((1 : Int32) + (im_i M 35 (Int32.toNatClampNeg (((3 : Int32) * (p0 + 1)) + p1))))
theorem J_HBars_fewestBySign_d0 : decode J_HBars_fewestBySign.2.1 0 = .ok (.aload_n 0, 1) := by decide +kernel
theorem J_HBars_fewestBySign_d1 : decode J_HBars_fewestBySign.2.1 1 = .ok (.getfield 20, 3) := by decide +kernel
theorem J_HBars_fewestBySign_d4 : decode J_HBars_fewestBySign.2.1 4 = .ok (.iload_n 1, 1) := by decide +kernel
theorem J_HBars_fewestBySign_d5 : decode J_HBars_fewestBySign.2.1 5 = .ok (.iaload, 1) := by decide +kernel
theorem J_HBars_fewestBySign_d6 : decode J_HBars_fewestBySign.2.1 6 = .ok (.sipush 128, 3) := by decide +kernel
theorem J_HBars_fewestBySign_d9 : decode J_HBars_fewestBySign.2.1 9 = .ok (.if_icmp .ne 18, 3) := by decide +kernel
theorem J_HBars_fewestBySign_d12 : decode J_HBars_fewestBySign.2.1 12 = .ok (.iconst 1, 1) := by decide +kernel
theorem J_HBars_fewestBySign_d13 : decode J_HBars_fewestBySign.2.1 13 = .ok (.aload_n 0, 1) := by decide +kernel
theorem J_HBars_fewestBySign_d14 : decode J_HBars_fewestBySign.2.1 14 = .ok (.getfield 23, 3) := by decide +kernel
theorem J_HBars_fewestBySign_d17 : decode J_HBars_fewestBySign.2.1 17 = .ok (.iconst 3, 1) := by decide +kernel
theorem J_HBars_fewestBySign_d18 : decode J_HBars_fewestBySign.2.1 18 = .ok (.iload_n 1, 1) := by decide +kernel
theorem J_HBars_fewestBySign_d19 : decode J_HBars_fewestBySign.2.1 19 = .ok (.iconst 1, 1) := by decide +kernel
theorem J_HBars_fewestBySign_d20 : decode J_HBars_fewestBySign.2.1 20 = .ok (.iadd, 1) := by decide +kernel
theorem J_HBars_fewestBySign_d21 : decode J_HBars_fewestBySign.2.1 21 = .ok (.imul, 1) := by decide +kernel
theorem J_HBars_fewestBySign_d22 : decode J_HBars_fewestBySign.2.1 22 = .ok (.iload_n 2, 1) := by decide +kernel
theorem J_HBars_fewestBySign_d23 : decode J_HBars_fewestBySign.2.1 23 = .ok (.iadd, 1) := by decide +kernel
theorem J_HBars_fewestBySign_d24 : decode J_HBars_fewestBySign.2.1 24 = .ok (.iaload, 1) := by decide +kernel
theorem J_HBars_fewestBySign_d25 : decode J_HBars_fewestBySign.2.1 25 = .ok (.iadd, 1) := by decide +kernel
theorem J_HBars_fewestBySign_d26 : decode J_HBars_fewestBySign.2.1 26 = .ok (.ireturn, 1) := by decide +kernel
theorem J_HBars_fewestBySign_d27 : decode J_HBars_fewestBySign.2.1 27 = .ok (.aload_n 0, 1) := by decide +kernel
theorem J_HBars_fewestBySign_d28 : decode J_HBars_fewestBySign.2.1 28 = .ok (.iload_n 1, 1) := by decide +kernel
theorem J_HBars_fewestBySign_d29 : decode J_HBars_fewestBySign.2.1 29 = .ok (.iload_n 2, 1) := by decide +kernel
theorem J_HBars_fewestBySign_d30 : decode J_HBars_fewestBySign.2.1 30 = .ok (.invokevirtual 60, 3) := by decide +kernel
theorem J_HBars_fewestBySign_d33 : decode J_HBars_fewestBySign.2.1 33 = .ok (.aload_n 0, 1) := by decide +kernel
theorem J_HBars_fewestBySign_d34 : decode J_HBars_fewestBySign.2.1 34 = .ok (.iload_n 1, 1) := by decide +kernel
theorem J_HBars_fewestBySign_d35 : decode J_HBars_fewestBySign.2.1 35 = .ok (.iload_n 2, 1) := by decide +kernel
theorem J_HBars_fewestBySign_d36 : decode J_HBars_fewestBySign.2.1 36 = .ok (.invokevirtual 63, 3) := by decide +kernel
theorem J_HBars_fewestBySign_d39 : decode J_HBars_fewestBySign.2.1 39 = .ok (.invokestatic 55, 3) := by decide +kernel
theorem J_HBars_fewestBySign_d42 : decode J_HBars_fewestBySign.2.1 42 = .ok (.ireturn, 1) := by decide +kernel
theorem f_HBars_fewestBySign_ok {L : Nat} {xs : Nat → Int32} {dep : Nat} {w : Bool} {p0 : Int32} {p1 : Int32} {M : im_M} {Q : Int32 → Prop} (hM : lw_S w M) (h : ed (f_HBars_fewestBySign p0 p1 M) Q) : ia (tb_G L xs) (dep + 2) J_HBars_fewestBySign (rpI M Q) (0, lv_args 0 [.ref 31, .int p0, .int p1], [], M) := by
  have hS : im_St (tb_G L xs) (dep + 2) J_HBars_fewestBySign (ia (tb_G L xs) (dep + 2) J_HBars_fewestBySign (rpI M Q)) := ia_St
  unfold f_HBars_fewestBySign at h
  have l0 : im_lk (lv_args 0 [.ref 31, .int p0, .int p1]) 0 = some (.ref 31) := rfl
  have l1 : im_lk (lv_args 0 [.ref 31, .int p0, .int p1]) 1 = some (.int p0) := rfl
  have l2 : im_lk (lv_args 0 [.ref 31, .int p0, .int p1]) 2 = some (.int p1) := rfl
  refine iq_aload_n hS 1 J_HBars_fewestBySign_d0 l0 rfl ?_
  refine iq_getR hS 4 J_HBars_fewestBySign_d1 lf_0_20 (Or.inr ⟨_, rfl⟩) (ka_31 hM) (ra_31_5 hM) rfl ?_
  refine iq_iload_n hS 5 J_HBars_fewestBySign_d4 l1 rfl ?_
  obtain ⟨g5, h⟩ := ed_gd h
  refine iq_iaload hS 6 J_HBars_fewestBySign_d5 ⟨(ka_34 hM).1, (ka_34 hM).2, g5.1, ix_lt (kl_34 hM) g5.2⟩ rfl ?_
  refine iq_sipush hS 9 J_HBars_fewestBySign_d6 (v := 128) (by decide +kernel) rfl ?_
  refine iq_icmp_ne hS 12 J_HBars_fewestBySign_d9 (t := 27) rfl (fun q9 => ?_) rfl (fun q9 => ?_)
  · replace h := ed_pos q9 h
    refine iq_aload_n hS 28 J_HBars_fewestBySign_d27 l0 rfl ?_
    refine iq_iload_n hS 29 J_HBars_fewestBySign_d28 l1 rfl ?_
    refine iq_iload_n hS 30 J_HBars_fewestBySign_d29 l2 rfl ?_
    obtain ⟨Q1, hQ1, h⟩ := bd1_ed h
    refine iq_cpI hS 33 J_HBars_fewestBySign_d30 rfl (pr_inst (vs := [_, _]) lc_0_60 lT_118 rfl rfl (by decide) (by decide) rfl (Nat.le_of_ble_eq_true rfl) (Nat.le_of_ble_eq_true rfl) (fun _ => Or.inl (pr_b (ka_31 hM) (by decide) rfl))) (f_HBars_straight_ok (dep := dep + 0) hM h) rfl ?_
    intro x1 h
    replace h := hQ1 _ h
    refine iq_aload_n hS 34 J_HBars_fewestBySign_d33 l0 rfl ?_
    refine iq_iload_n hS 35 J_HBars_fewestBySign_d34 l1 rfl ?_
    refine iq_iload_n hS 36 J_HBars_fewestBySign_d35 l2 rfl ?_
    obtain ⟨Q2, hQ2, h⟩ := bd1_ed h
    refine iq_cpI hS 39 J_HBars_fewestBySign_d36 rfl (pr_inst (vs := [_, _]) lc_0_63 lT_121 rfl rfl (by decide) (by decide) rfl (Nat.le_of_ble_eq_true rfl) (Nat.le_of_ble_eq_true rfl) (fun _ => Or.inl (pr_b (ka_31 hM) (by decide) rfl))) (f_HBars_shifted_ok (dep := dep + 0) hM h) rfl ?_
    intro x2 h
    replace h := hQ2 _ h
    obtain ⟨Q3, hQ3, h⟩ := bd1_ed h
    refine iq_cpI hS 42 J_HBars_fewestBySign_d39 rfl (pr_stat (vs := [_, _]) lc_0_55 lT_28 rfl rfl (by decide) rfl (Nat.le_of_ble_eq_true rfl) (Nat.le_of_ble_eq_true rfl)) (f_Math_min_ok (dep := dep + 1) hM h) rfl ?_
    intro x3 h
    replace h := hQ3 _ h
    exact iq_iret J_HBars_fewestBySign_d42 rfl rfl ⟨_, rfl, rfl, ed_some h⟩
  · replace h := ed_neg q9 h
    refine iq_iconst hS 13 J_HBars_fewestBySign_d12 (v := 1) (by decide +kernel) rfl ?_
    refine iq_aload_n hS 14 J_HBars_fewestBySign_d13 l0 rfl ?_
    refine iq_getR hS 17 J_HBars_fewestBySign_d14 lf_0_23 (Or.inr ⟨_, rfl⟩) (ka_31 hM) (ra_31_7 hM) rfl ?_
    refine iq_iconst hS 18 J_HBars_fewestBySign_d17 (v := 3) (by decide +kernel) rfl ?_
    refine iq_iload_n hS 19 J_HBars_fewestBySign_d18 l1 rfl ?_
    refine iq_iconst hS 20 J_HBars_fewestBySign_d19 (v := 1) (by decide +kernel) rfl ?_
    refine iq_iadd hS 21 J_HBars_fewestBySign_d20 rfl ?_
    refine iq_imul hS 22 J_HBars_fewestBySign_d21 rfl ?_
    refine iq_iload_n hS 23 J_HBars_fewestBySign_d22 l2 rfl ?_
    refine iq_iadd hS 24 J_HBars_fewestBySign_d23 rfl ?_
    obtain ⟨g24, h⟩ := ed_gd h
    refine iq_iaload hS 25 J_HBars_fewestBySign_d24 ⟨(ka_35 hM).1, (ka_35 hM).2, g24.1, ix_lt (kl_35 hM) g24.2⟩ rfl ?_
    refine iq_iadd hS 26 J_HBars_fewestBySign_d25 rfl ?_
    exact iq_iret J_HBars_fewestBySign_d26 rfl rfl ⟨_, rfl, rfl, ed_some h⟩
noncomputable def f_HBars_countFewest_L29 (x3 : Int32) (M4 : im_M) : Option ((Int32 × im_M) ⊕ (im_M)) := if x3 < 0 then some (.inr M4) else bd1 (f_HBars_fewestBySign x3 0 M4) fun (x5 : Int32) => bd1 (f_HBars_fewestBySign x3 1 M4) fun (x6 : Int32) => bd1 (f_HBars_fewestBySign x3 2 M4) fun (x7 : Int32) => bd1 (f_Math_min x6 x7 M4) fun (x8 : Int32) => bd1 (f_Math_min x5 ((1 : Int32) + x8) M4) fun (x9 : Int32) => gd (inb ((3 : Int32) * x3) 198) <| bd1 (f_Math_min x5 x7 (im_setI M4 35 (Int32.toNatClampNeg ((3 : Int32) * x3)) x9)) fun (x10 : Int32) => bd1 (f_Math_min x6 ((1 : Int32) + x10) (im_setI M4 35 (Int32.toNatClampNeg ((3 : Int32) * x3)) x9)) fun (x11 : Int32) => gd (inb (((3 : Int32) * x3) + 1) 198) <| bd1 (f_Math_min x5 x6 (im_setI (im_setI M4 35 (Int32.toNatClampNeg ((3 : Int32) * x3)) x9) 35 (Int32.toNatClampNeg (((3 : Int32) * x3) + 1)) x11)) fun (x12 : Int32) => bd1 (f_Math_min x7 ((1 : Int32) + x12) (im_setI (im_setI M4 35 (Int32.toNatClampNeg ((3 : Int32) * x3)) x9) 35 (Int32.toNatClampNeg (((3 : Int32) * x3) + 1)) x11)) fun (x13 : Int32) => gd (inb (((3 : Int32) * x3) + 2) 198) <| some (.inl ((x3 + (-1)), (im_setI (im_setI (im_setI M4 35 (Int32.toNatClampNeg ((3 : Int32) * x3)) x9) 35 (Int32.toNatClampNeg (((3 : Int32) * x3) + 1)) x11) 35 (Int32.toNatClampNeg (((3 : Int32) * x3) + 2)) x13)))
noncomputable def f_HBars_countFewest (M : im_M) : Option (im_M) := bd1 (f_Arrays_fill_2 ((3 : Int32) * (im_i M 31 6)) (((3 : Int32) * (im_i M 31 6)) + 3) 0 M) fun (M1 : im_M) => bd1 (lp (uc2 (f_HBars_countFewest_L29)) (((im_i M1 31 6) - 1), M1)) fun (M14 : im_M) => some M14
theorem J_HBars_countFewest_d0 : decode J_HBars_countFewest.2.1 0 = .ok (.aload_n 0, 1) := by decide +kernel
theorem J_HBars_countFewest_d1 : decode J_HBars_countFewest.2.1 1 = .ok (.getfield 23, 3) := by decide +kernel
theorem J_HBars_countFewest_d4 : decode J_HBars_countFewest.2.1 4 = .ok (.iconst 3, 1) := by decide +kernel
theorem J_HBars_countFewest_d5 : decode J_HBars_countFewest.2.1 5 = .ok (.aload_n 0, 1) := by decide +kernel
theorem J_HBars_countFewest_d6 : decode J_HBars_countFewest.2.1 6 = .ok (.getfield 32, 3) := by decide +kernel
theorem J_HBars_countFewest_d9 : decode J_HBars_countFewest.2.1 9 = .ok (.imul, 1) := by decide +kernel
theorem J_HBars_countFewest_d10 : decode J_HBars_countFewest.2.1 10 = .ok (.iconst 3, 1) := by decide +kernel
theorem J_HBars_countFewest_d11 : decode J_HBars_countFewest.2.1 11 = .ok (.aload_n 0, 1) := by decide +kernel
theorem J_HBars_countFewest_d12 : decode J_HBars_countFewest.2.1 12 = .ok (.getfield 32, 3) := by decide +kernel
theorem J_HBars_countFewest_d15 : decode J_HBars_countFewest.2.1 15 = .ok (.imul, 1) := by decide +kernel
theorem J_HBars_countFewest_d16 : decode J_HBars_countFewest.2.1 16 = .ok (.iconst 3, 1) := by decide +kernel
theorem J_HBars_countFewest_d17 : decode J_HBars_countFewest.2.1 17 = .ok (.iadd, 1) := by decide +kernel
theorem J_HBars_countFewest_d18 : decode J_HBars_countFewest.2.1 18 = .ok (.iconst 0, 1) := by decide +kernel
theorem J_HBars_countFewest_d19 : decode J_HBars_countFewest.2.1 19 = .ok (.invokestatic 45, 3) := by decide +kernel
theorem J_HBars_countFewest_d22 : decode J_HBars_countFewest.2.1 22 = .ok (.aload_n 0, 1) := by decide +kernel
theorem J_HBars_countFewest_d23 : decode J_HBars_countFewest.2.1 23 = .ok (.getfield 32, 3) := by decide +kernel
theorem J_HBars_countFewest_d26 : decode J_HBars_countFewest.2.1 26 = .ok (.iconst 1, 1) := by decide +kernel
theorem J_HBars_countFewest_d27 : decode J_HBars_countFewest.2.1 27 = .ok (.isub, 1) := by decide +kernel
theorem J_HBars_countFewest_d28 : decode J_HBars_countFewest.2.1 28 = .ok (.istore_n 1, 1) := by decide +kernel
theorem J_HBars_countFewest_d29 : decode J_HBars_countFewest.2.1 29 = .ok (.iload_n 1, 1) := by decide +kernel
theorem J_HBars_countFewest_d30 : decode J_HBars_countFewest.2.1 30 = .ok (.ifCond .lt 95, 3) := by decide +kernel
theorem J_HBars_countFewest_d33 : decode J_HBars_countFewest.2.1 33 = .ok (.aload_n 0, 1) := by decide +kernel
theorem J_HBars_countFewest_d34 : decode J_HBars_countFewest.2.1 34 = .ok (.iload_n 1, 1) := by decide +kernel
theorem J_HBars_countFewest_d35 : decode J_HBars_countFewest.2.1 35 = .ok (.iconst 0, 1) := by decide +kernel
theorem J_HBars_countFewest_d36 : decode J_HBars_countFewest.2.1 36 = .ok (.invokevirtual 51, 3) := by decide +kernel
theorem J_HBars_countFewest_d39 : decode J_HBars_countFewest.2.1 39 = .ok (.istore_n 2, 1) := by decide +kernel
theorem J_HBars_countFewest_d40 : decode J_HBars_countFewest.2.1 40 = .ok (.aload_n 0, 1) := by decide +kernel
theorem J_HBars_countFewest_d41 : decode J_HBars_countFewest.2.1 41 = .ok (.iload_n 1, 1) := by decide +kernel
theorem J_HBars_countFewest_d42 : decode J_HBars_countFewest.2.1 42 = .ok (.iconst 1, 1) := by decide +kernel
theorem J_HBars_countFewest_d43 : decode J_HBars_countFewest.2.1 43 = .ok (.invokevirtual 51, 3) := by decide +kernel
theorem J_HBars_countFewest_d46 : decode J_HBars_countFewest.2.1 46 = .ok (.istore_n 3, 1) := by decide +kernel
theorem J_HBars_countFewest_d47 : decode J_HBars_countFewest.2.1 47 = .ok (.aload_n 0, 1) := by decide +kernel
theorem J_HBars_countFewest_d48 : decode J_HBars_countFewest.2.1 48 = .ok (.iload_n 1, 1) := by decide +kernel
theorem J_HBars_countFewest_d49 : decode J_HBars_countFewest.2.1 49 = .ok (.iconst 2, 1) := by decide +kernel
theorem J_HBars_countFewest_d50 : decode J_HBars_countFewest.2.1 50 = .ok (.invokevirtual 51, 3) := by decide +kernel
theorem J_HBars_countFewest_d53 : decode J_HBars_countFewest.2.1 53 = .ok (.istore 4, 2) := by decide +kernel
theorem J_HBars_countFewest_d55 : decode J_HBars_countFewest.2.1 55 = .ok (.aload_n 0, 1) := by decide +kernel
theorem J_HBars_countFewest_d56 : decode J_HBars_countFewest.2.1 56 = .ok (.getfield 23, 3) := by decide +kernel
theorem J_HBars_countFewest_d59 : decode J_HBars_countFewest.2.1 59 = .ok (.iconst 3, 1) := by decide +kernel
theorem J_HBars_countFewest_d60 : decode J_HBars_countFewest.2.1 60 = .ok (.iload_n 1, 1) := by decide +kernel
theorem J_HBars_countFewest_d61 : decode J_HBars_countFewest.2.1 61 = .ok (.imul, 1) := by decide +kernel
theorem J_HBars_countFewest_d62 : decode J_HBars_countFewest.2.1 62 = .ok (.iload_n 2, 1) := by decide +kernel
theorem J_HBars_countFewest_d63 : decode J_HBars_countFewest.2.1 63 = .ok (.iconst 1, 1) := by decide +kernel
theorem J_HBars_countFewest_d64 : decode J_HBars_countFewest.2.1 64 = .ok (.iload_n 3, 1) := by decide +kernel
theorem J_HBars_countFewest_d65 : decode J_HBars_countFewest.2.1 65 = .ok (.iload 4, 2) := by decide +kernel
theorem J_HBars_countFewest_d67 : decode J_HBars_countFewest.2.1 67 = .ok (.invokestatic 55, 3) := by decide +kernel
theorem J_HBars_countFewest_d70 : decode J_HBars_countFewest.2.1 70 = .ok (.iadd, 1) := by decide +kernel
theorem J_HBars_countFewest_d71 : decode J_HBars_countFewest.2.1 71 = .ok (.invokestatic 55, 3) := by decide +kernel
theorem J_HBars_countFewest_d74 : decode J_HBars_countFewest.2.1 74 = .ok (.iastore, 1) := by decide +kernel
theorem J_HBars_countFewest_d75 : decode J_HBars_countFewest.2.1 75 = .ok (.aload_n 0, 1) := by decide +kernel
theorem J_HBars_countFewest_d76 : decode J_HBars_countFewest.2.1 76 = .ok (.getfield 23, 3) := by decide +kernel
theorem J_HBars_countFewest_d79 : decode J_HBars_countFewest.2.1 79 = .ok (.iconst 3, 1) := by decide +kernel
theorem J_HBars_countFewest_d80 : decode J_HBars_countFewest.2.1 80 = .ok (.iload_n 1, 1) := by decide +kernel
theorem J_HBars_countFewest_d81 : decode J_HBars_countFewest.2.1 81 = .ok (.imul, 1) := by decide +kernel
theorem J_HBars_countFewest_d82 : decode J_HBars_countFewest.2.1 82 = .ok (.iconst 1, 1) := by decide +kernel
theorem J_HBars_countFewest_d83 : decode J_HBars_countFewest.2.1 83 = .ok (.iadd, 1) := by decide +kernel
theorem J_HBars_countFewest_d84 : decode J_HBars_countFewest.2.1 84 = .ok (.iload_n 3, 1) := by decide +kernel
theorem J_HBars_countFewest_d85 : decode J_HBars_countFewest.2.1 85 = .ok (.iconst 1, 1) := by decide +kernel
theorem J_HBars_countFewest_d86 : decode J_HBars_countFewest.2.1 86 = .ok (.iload_n 2, 1) := by decide +kernel
theorem J_HBars_countFewest_d87 : decode J_HBars_countFewest.2.1 87 = .ok (.iload 4, 2) := by decide +kernel
theorem J_HBars_countFewest_d89 : decode J_HBars_countFewest.2.1 89 = .ok (.invokestatic 55, 3) := by decide +kernel
theorem J_HBars_countFewest_d92 : decode J_HBars_countFewest.2.1 92 = .ok (.iadd, 1) := by decide +kernel
theorem J_HBars_countFewest_d93 : decode J_HBars_countFewest.2.1 93 = .ok (.invokestatic 55, 3) := by decide +kernel
theorem J_HBars_countFewest_d96 : decode J_HBars_countFewest.2.1 96 = .ok (.iastore, 1) := by decide +kernel
theorem J_HBars_countFewest_d97 : decode J_HBars_countFewest.2.1 97 = .ok (.aload_n 0, 1) := by decide +kernel
theorem J_HBars_countFewest_d98 : decode J_HBars_countFewest.2.1 98 = .ok (.getfield 23, 3) := by decide +kernel
theorem J_HBars_countFewest_d101 : decode J_HBars_countFewest.2.1 101 = .ok (.iconst 3, 1) := by decide +kernel
theorem J_HBars_countFewest_d102 : decode J_HBars_countFewest.2.1 102 = .ok (.iload_n 1, 1) := by decide +kernel
theorem J_HBars_countFewest_d103 : decode J_HBars_countFewest.2.1 103 = .ok (.imul, 1) := by decide +kernel
theorem J_HBars_countFewest_d104 : decode J_HBars_countFewest.2.1 104 = .ok (.iconst 2, 1) := by decide +kernel
theorem J_HBars_countFewest_d105 : decode J_HBars_countFewest.2.1 105 = .ok (.iadd, 1) := by decide +kernel
theorem J_HBars_countFewest_d106 : decode J_HBars_countFewest.2.1 106 = .ok (.iload 4, 2) := by decide +kernel
theorem J_HBars_countFewest_d108 : decode J_HBars_countFewest.2.1 108 = .ok (.iconst 1, 1) := by decide +kernel
theorem J_HBars_countFewest_d109 : decode J_HBars_countFewest.2.1 109 = .ok (.iload_n 2, 1) := by decide +kernel
theorem J_HBars_countFewest_d110 : decode J_HBars_countFewest.2.1 110 = .ok (.iload_n 3, 1) := by decide +kernel
theorem J_HBars_countFewest_d111 : decode J_HBars_countFewest.2.1 111 = .ok (.invokestatic 55, 3) := by decide +kernel
theorem J_HBars_countFewest_d114 : decode J_HBars_countFewest.2.1 114 = .ok (.iadd, 1) := by decide +kernel
theorem J_HBars_countFewest_d115 : decode J_HBars_countFewest.2.1 115 = .ok (.invokestatic 55, 3) := by decide +kernel
theorem J_HBars_countFewest_d118 : decode J_HBars_countFewest.2.1 118 = .ok (.iastore, 1) := by decide +kernel
theorem J_HBars_countFewest_d119 : decode J_HBars_countFewest.2.1 119 = .ok (.iinc 1 (-1), 3) := by decide +kernel
theorem J_HBars_countFewest_d122 : decode J_HBars_countFewest.2.1 122 = .ok (.goto (-93), 3) := by decide +kernel
theorem J_HBars_countFewest_d125 : decode J_HBars_countFewest.2.1 125 = .ok (.return_, 1) := by decide +kernel
theorem f_HBars_countFewest_ok {L : Nat} {xs : Nat → Int32} {dep : Nat} {w : Bool} {M : im_M} {Q : im_M → Prop} (hM : lw_S w M) (h : ed (f_HBars_countFewest M) Q) : ia (tb_G L xs) (dep + 3) J_HBars_countFewest (rwV w Q) (0, lv_args 0 [.ref 31], [], M) := by
  have hS : im_St (tb_G L xs) (dep + 3) J_HBars_countFewest (ia (tb_G L xs) (dep + 3) J_HBars_countFewest (rwV w Q)) := ia_St
  unfold f_HBars_countFewest at h
  have l0 : im_lk (lv_args 0 [.ref 31]) 0 = some (.ref 31) := rfl
  refine iq_aload_n hS 1 J_HBars_countFewest_d0 l0 rfl ?_
  refine iq_getR hS 4 J_HBars_countFewest_d1 lf_0_23 (Or.inr ⟨_, rfl⟩) (ka_31 hM) (ra_31_7 hM) rfl ?_
  refine iq_iconst hS 5 J_HBars_countFewest_d4 (v := 3) (by decide +kernel) rfl ?_
  refine iq_aload_n hS 6 J_HBars_countFewest_d5 l0 rfl ?_
  refine iq_getI hS 9 J_HBars_countFewest_d6 lf_0_32 (Or.inl rfl) (ka_31 hM) rfl ?_
  refine iq_imul hS 10 J_HBars_countFewest_d9 rfl ?_
  refine iq_iconst hS 11 J_HBars_countFewest_d10 (v := 3) (by decide +kernel) rfl ?_
  refine iq_aload_n hS 12 J_HBars_countFewest_d11 l0 rfl ?_
  refine iq_getI hS 15 J_HBars_countFewest_d12 lf_0_32 (Or.inl rfl) (ka_31 hM) rfl ?_
  refine iq_imul hS 16 J_HBars_countFewest_d15 rfl ?_
  refine iq_iconst hS 17 J_HBars_countFewest_d16 (v := 3) (by decide +kernel) rfl ?_
  refine iq_iadd hS 18 J_HBars_countFewest_d17 rfl ?_
  refine iq_iconst hS 19 J_HBars_countFewest_d18 (v := 0) (by decide +kernel) rfl ?_
  obtain ⟨Q1, hQ1, h⟩ := bd1_ed h
  refine iq_cwV hS 22 J_HBars_countFewest_d19 rfl (pr_stat (vs := [_, _, _, _]) lc_0_45 lT_53 rfl rfl (by decide) rfl (Nat.le_of_ble_eq_true rfl) (Nat.le_of_ble_eq_true rfl)) (f_Arrays_fill_2_ok (dep := dep + 1) hM h) rfl ?_
  intro M1 hM1 h
  replace h := hQ1 _ h
  refine iq_aload_n hS 23 J_HBars_countFewest_d22 l0 rfl ?_
  refine iq_getI hS 26 J_HBars_countFewest_d23 lf_0_32 (Or.inl rfl) (ka_31 hM1) rfl ?_
  refine iq_iconst hS 27 J_HBars_countFewest_d26 (v := 1) (by decide +kernel) rfl ?_
  refine iq_isub hS 28 J_HBars_countFewest_d27 rfl ?_
  refine iq_istore_n hS 29 J_HBars_countFewest_d28 (by decide) rfl ?_
  obtain ⟨Q2, hQ2, h⟩ := bd1_ed h
  have K2 : ∀ (M3 : im_M) (L' : List (Nat × Value)), lw_S w M3 → Q2 M3 → ia (tb_G L xs) (dep + 3) J_HBars_countFewest (rwV w Q) (125, L', [], M3) := by
    intro M3 L' hM3  h
    replace h := hQ2 _ h
    exact iq_ret J_HBars_countFewest_d125 rfl ⟨rfl, hM3, ed_some h⟩
  obtain ⟨r2, hr2, hq2⟩ := h
  obtain ⟨n2, hn2⟩ := lp_n hr2
  have I2 : ∀ (n : Nat) (x4 : Int32) (M5 : im_M) (L' : List (Nat × Value)), lw_S w M5 → im_lk L' 0 = some (.ref 31) → im_lk L' 1 = some (.int x4) → lpn (uc2 (f_HBars_countFewest_L29)) n (x4, M5) = some r2 → ia (tb_G L xs) (dep + 3) J_HBars_countFewest (rwV w Q) (29, L', [], M5) := by
    intro n
    induction n with
    | zero => intro x4 M5 L' hM5 l6 l7 hn; exact (lpn_0 hn).elim
    | succ n ih =>
      intro x4 M5 L' hM5 l6 l7 hn
      have h := lpn_ed2 hn
      unfold f_HBars_countFewest_L29 at h
      refine iq_iload_n hS 30 J_HBars_countFewest_d29 l7 rfl ?_
      refine iq_if_lt hS 33 J_HBars_countFewest_d30 (t := 125) rfl (fun q30 => ?_) rfl (fun q30 => ?_)
      · replace h := ed_pos q30 h
        exact K2 _ _ hM5  (lq_r h hq2)
      · replace h := ed_neg q30 h
        refine iq_aload_n hS 34 J_HBars_countFewest_d33 l6 rfl ?_
        refine iq_iload_n hS 35 J_HBars_countFewest_d34 l7 rfl ?_
        refine iq_iconst hS 36 J_HBars_countFewest_d35 (v := 0) (by decide +kernel) rfl ?_
        obtain ⟨Q8, hQ8, h⟩ := bd1_ed h
        refine iq_cpI hS 39 J_HBars_countFewest_d36 rfl (pr_inst (vs := [_, _]) lc_0_51 lT_117 rfl rfl (by decide) (by decide) rfl (Nat.le_of_ble_eq_true rfl) (Nat.le_of_ble_eq_true rfl) (fun _ => Or.inl (pr_b (ka_31 hM5) (by decide) rfl))) (f_HBars_fewestBySign_ok (dep := dep + 0) hM5 h) rfl ?_
        intro x8 h
        replace h := hQ8 _ h
        refine iq_istore_n hS 40 J_HBars_countFewest_d39 (by decide) rfl ?_
        refine iq_aload_n hS 41 J_HBars_countFewest_d40 (lk_1r l6 (by decide)) rfl ?_
        refine iq_iload_n hS 42 J_HBars_countFewest_d41 (lk_1i l7 (by decide)) rfl ?_
        refine iq_iconst hS 43 J_HBars_countFewest_d42 (v := 1) (by decide +kernel) rfl ?_
        obtain ⟨Q9, hQ9, h⟩ := bd1_ed h
        refine iq_cpI hS 46 J_HBars_countFewest_d43 rfl (pr_inst (vs := [_, _]) lc_0_51 lT_117 rfl rfl (by decide) (by decide) rfl (Nat.le_of_ble_eq_true rfl) (Nat.le_of_ble_eq_true rfl) (fun _ => Or.inl (pr_b (ka_31 hM5) (by decide) rfl))) (f_HBars_fewestBySign_ok (dep := dep + 0) hM5 h) rfl ?_
        intro x9 h
        replace h := hQ9 _ h
        refine iq_istore_n hS 47 J_HBars_countFewest_d46 (by decide) rfl ?_
        refine iq_aload_n hS 48 J_HBars_countFewest_d47 (lk_1r (lk_1r l6 (by decide)) (by decide)) rfl ?_
        refine iq_iload_n hS 49 J_HBars_countFewest_d48 (lk_1i (lk_1i l7 (by decide)) (by decide)) rfl ?_
        refine iq_iconst hS 50 J_HBars_countFewest_d49 (v := 2) (by decide +kernel) rfl ?_
        obtain ⟨Q10, hQ10, h⟩ := bd1_ed h
        refine iq_cpI hS 53 J_HBars_countFewest_d50 rfl (pr_inst (vs := [_, _]) lc_0_51 lT_117 rfl rfl (by decide) (by decide) rfl (Nat.le_of_ble_eq_true rfl) (Nat.le_of_ble_eq_true rfl) (fun _ => Or.inl (pr_b (ka_31 hM5) (by decide) rfl))) (f_HBars_fewestBySign_ok (dep := dep + 0) hM5 h) rfl ?_
        intro x10 h
        replace h := hQ10 _ h
        refine iq_istore hS 55 J_HBars_countFewest_d53 (by decide) rfl ?_
        refine iq_aload_n hS 56 J_HBars_countFewest_d55 (lk_1r (lk_1r (lk_1r l6 (by decide)) (by decide)) (by decide)) rfl ?_
        refine iq_getR hS 59 J_HBars_countFewest_d56 lf_0_23 (Or.inr ⟨_, rfl⟩) (ka_31 hM5) (ra_31_7 hM5) rfl ?_
        refine iq_iconst hS 60 J_HBars_countFewest_d59 (v := 3) (by decide +kernel) rfl ?_
        refine iq_iload_n hS 61 J_HBars_countFewest_d60 (lk_1i (lk_1i (lk_1i l7 (by decide)) (by decide)) (by decide)) rfl ?_
        refine iq_imul hS 62 J_HBars_countFewest_d61 rfl ?_
        refine iq_iload_n hS 63 J_HBars_countFewest_d62 (lk_1i (lk_1i lk_1s (by decide)) (by decide)) rfl ?_
        refine iq_iconst hS 64 J_HBars_countFewest_d63 (v := 1) (by decide +kernel) rfl ?_
        refine iq_iload_n hS 65 J_HBars_countFewest_d64 (lk_1i lk_1s (by decide)) rfl ?_
        refine iq_iload hS 67 J_HBars_countFewest_d65 lk_1s rfl ?_
        obtain ⟨Q11, hQ11, h⟩ := bd1_ed h
        refine iq_cpI hS 70 J_HBars_countFewest_d67 rfl (pr_stat (vs := [_, _]) lc_0_55 lT_28 rfl rfl (by decide) rfl (Nat.le_of_ble_eq_true rfl) (Nat.le_of_ble_eq_true rfl)) (f_Math_min_ok (dep := dep + 2) hM5 h) rfl ?_
        intro x11 h
        replace h := hQ11 _ h
        refine iq_iadd hS 71 J_HBars_countFewest_d70 rfl ?_
        obtain ⟨Q12, hQ12, h⟩ := bd1_ed h
        refine iq_cpI hS 74 J_HBars_countFewest_d71 rfl (pr_stat (vs := [_, _]) lc_0_55 lT_28 rfl rfl (by decide) rfl (Nat.le_of_ble_eq_true rfl) (Nat.le_of_ble_eq_true rfl)) (f_Math_min_ok (dep := dep + 2) hM5 h) rfl ?_
        intro x12 h
        replace h := hQ12 _ h
        obtain ⟨g74, h⟩ := ed_gd h
        refine iq_iastore hS 75 J_HBars_countFewest_d74 ⟨(ka_35 hM5).1, (ka_35 hM5).2, g74.1, ix_lt (kl_35 hM5) g74.2⟩ rfl ?_
        refine iq_aload_n hS 76 J_HBars_countFewest_d75 (lk_1r (lk_1r (lk_1r l6 (by decide)) (by decide)) (by decide)) rfl ?_
        refine iq_getR hS 79 J_HBars_countFewest_d76 lf_0_23 (Or.inr ⟨_, rfl⟩) (ka_31 (lw_sI hM5)) (ra_31_7 (lw_sI hM5)) rfl ?_
        refine iq_iconst hS 80 J_HBars_countFewest_d79 (v := 3) (by decide +kernel) rfl ?_
        refine iq_iload_n hS 81 J_HBars_countFewest_d80 (lk_1i (lk_1i (lk_1i l7 (by decide)) (by decide)) (by decide)) rfl ?_
        refine iq_imul hS 82 J_HBars_countFewest_d81 rfl ?_
        refine iq_iconst hS 83 J_HBars_countFewest_d82 (v := 1) (by decide +kernel) rfl ?_
        refine iq_iadd hS 84 J_HBars_countFewest_d83 rfl ?_
        refine iq_iload_n hS 85 J_HBars_countFewest_d84 (lk_1i lk_1s (by decide)) rfl ?_
        refine iq_iconst hS 86 J_HBars_countFewest_d85 (v := 1) (by decide +kernel) rfl ?_
        refine iq_iload_n hS 87 J_HBars_countFewest_d86 (lk_1i (lk_1i lk_1s (by decide)) (by decide)) rfl ?_
        refine iq_iload hS 89 J_HBars_countFewest_d87 lk_1s rfl ?_
        obtain ⟨Q13, hQ13, h⟩ := bd1_ed h
        refine iq_cpI hS 92 J_HBars_countFewest_d89 rfl (pr_stat (vs := [_, _]) lc_0_55 lT_28 rfl rfl (by decide) rfl (Nat.le_of_ble_eq_true rfl) (Nat.le_of_ble_eq_true rfl)) (f_Math_min_ok (dep := dep + 2) (lw_sI hM5) h) rfl ?_
        intro x13 h
        replace h := hQ13 _ h
        refine iq_iadd hS 93 J_HBars_countFewest_d92 rfl ?_
        obtain ⟨Q14, hQ14, h⟩ := bd1_ed h
        refine iq_cpI hS 96 J_HBars_countFewest_d93 rfl (pr_stat (vs := [_, _]) lc_0_55 lT_28 rfl rfl (by decide) rfl (Nat.le_of_ble_eq_true rfl) (Nat.le_of_ble_eq_true rfl)) (f_Math_min_ok (dep := dep + 2) (lw_sI hM5) h) rfl ?_
        intro x14 h
        replace h := hQ14 _ h
        obtain ⟨g96, h⟩ := ed_gd h
        refine iq_iastore hS 97 J_HBars_countFewest_d96 ⟨(ka_35 (lw_sI hM5)).1, (ka_35 (lw_sI hM5)).2, g96.1, ix_lt (kl_35 (lw_sI hM5)) g96.2⟩ rfl ?_
        refine iq_aload_n hS 98 J_HBars_countFewest_d97 (lk_1r (lk_1r (lk_1r l6 (by decide)) (by decide)) (by decide)) rfl ?_
        refine iq_getR hS 101 J_HBars_countFewest_d98 lf_0_23 (Or.inr ⟨_, rfl⟩) (ka_31 (lw_sI (lw_sI hM5))) (ra_31_7 (lw_sI (lw_sI hM5))) rfl ?_
        refine iq_iconst hS 102 J_HBars_countFewest_d101 (v := 3) (by decide +kernel) rfl ?_
        refine iq_iload_n hS 103 J_HBars_countFewest_d102 (lk_1i (lk_1i (lk_1i l7 (by decide)) (by decide)) (by decide)) rfl ?_
        refine iq_imul hS 104 J_HBars_countFewest_d103 rfl ?_
        refine iq_iconst hS 105 J_HBars_countFewest_d104 (v := 2) (by decide +kernel) rfl ?_
        refine iq_iadd hS 106 J_HBars_countFewest_d105 rfl ?_
        refine iq_iload hS 108 J_HBars_countFewest_d106 lk_1s rfl ?_
        refine iq_iconst hS 109 J_HBars_countFewest_d108 (v := 1) (by decide +kernel) rfl ?_
        refine iq_iload_n hS 110 J_HBars_countFewest_d109 (lk_1i (lk_1i lk_1s (by decide)) (by decide)) rfl ?_
        refine iq_iload_n hS 111 J_HBars_countFewest_d110 (lk_1i lk_1s (by decide)) rfl ?_
        obtain ⟨Q15, hQ15, h⟩ := bd1_ed h
        refine iq_cpI hS 114 J_HBars_countFewest_d111 rfl (pr_stat (vs := [_, _]) lc_0_55 lT_28 rfl rfl (by decide) rfl (Nat.le_of_ble_eq_true rfl) (Nat.le_of_ble_eq_true rfl)) (f_Math_min_ok (dep := dep + 2) (lw_sI (lw_sI hM5)) h) rfl ?_
        intro x15 h
        replace h := hQ15 _ h
        refine iq_iadd hS 115 J_HBars_countFewest_d114 rfl ?_
        obtain ⟨Q16, hQ16, h⟩ := bd1_ed h
        refine iq_cpI hS 118 J_HBars_countFewest_d115 rfl (pr_stat (vs := [_, _]) lc_0_55 lT_28 rfl rfl (by decide) rfl (Nat.le_of_ble_eq_true rfl) (Nat.le_of_ble_eq_true rfl)) (f_Math_min_ok (dep := dep + 2) (lw_sI (lw_sI hM5)) h) rfl ?_
        intro x16 h
        replace h := hQ16 _ h
        obtain ⟨g118, h⟩ := ed_gd h
        refine iq_iastore hS 119 J_HBars_countFewest_d118 ⟨(ka_35 (lw_sI (lw_sI hM5))).1, (ka_35 (lw_sI (lw_sI hM5))).2, g118.1, ix_lt (kl_35 (lw_sI (lw_sI hM5))) g118.2⟩ rfl ?_
        refine iq_iincv hS 122 J_HBars_countFewest_d119 (c := (-1)) (by decide +kernel) (lk_1i (lk_1i (lk_1i l7 (by decide)) (by decide)) (by decide)) (by decide) rfl ?_
        refine iq_goto hS J_HBars_countFewest_d122 (t := 29) rfl ?_
        exact ih _ _ _ (lw_sI (lw_sI (lw_sI hM5))) (lk_1r (lk_1r (lk_1r (lk_1r l6 (by decide)) (by decide)) (by decide)) (by decide)) lk_1s (lq_l h)
  exact I2 n2 _ _ _ hM1 (lk_1r l0 (by decide)) lk_1s hn2
theorem f_HBars_countFewest_fr {M : im_M} {r : im_M} (h : f_HBars_countFewest M = some r) : fr 34359738368 [] M r := by
  replace h : ed (f_HBars_countFewest M) (fun x => x = r) := ⟨r, h, rfl⟩
  unfold f_HBars_countFewest at h
  obtain ⟨Q1, hQ1, h⟩ := bd1_ed h
  obtain ⟨M1, e1, h⟩ := h
  replace h := hQ1 _ h
  obtain ⟨Q2, hQ2, h⟩ := bd1_ed h
  have K2 : ∀ (M3 : im_M), fr 34359738368 [] M M3 → Q2 M3 → fr 34359738368 [] M r := by
    intro M3 hM3 h
    replace h := hQ2 _ h
    exact fr_retV h hM3
  obtain ⟨r2, hr2, hq2⟩ := h
  obtain ⟨n2, hn2⟩ := lp_n hr2
  have I2 : ∀ (n : Nat) (x4 : Int32) (M5 : im_M), fr 34359738368 [] M M5 → lpn (uc2 (f_HBars_countFewest_L29)) n (x4, M5) = some r2 → fr 34359738368 [] M r := by
    intro n
    induction n with
    | zero => intro x4 M5 hM5 hn; exact (lpn_0 hn).elim
    | succ n ih =>
      intro x4 M5 hM5 hn
      have h := lpn_ed2 hn
      unfold f_HBars_countFewest_L29 at h
      by_cases q30 : x4 < 0
      · replace h := ed_pos q30 h
        exact K2 _ hM5 (lq_r h hq2)
      · replace h := ed_neg q30 h
        obtain ⟨Q6, hQ6, h⟩ := bd1_ed h
        obtain ⟨x6, e6, h⟩ := h
        replace h := hQ6 _ h
        obtain ⟨Q7, hQ7, h⟩ := bd1_ed h
        obtain ⟨x7, e7, h⟩ := h
        replace h := hQ7 _ h
        obtain ⟨Q8, hQ8, h⟩ := bd1_ed h
        obtain ⟨x8, e8, h⟩ := h
        replace h := hQ8 _ h
        obtain ⟨Q9, hQ9, h⟩ := bd1_ed h
        obtain ⟨x9, e9, h⟩ := h
        replace h := hQ9 _ h
        obtain ⟨Q10, hQ10, h⟩ := bd1_ed h
        obtain ⟨x10, e10, h⟩ := h
        replace h := hQ10 _ h
        obtain ⟨g74, h⟩ := ed_gd h
        obtain ⟨Q11, hQ11, h⟩ := bd1_ed h
        obtain ⟨x11, e11, h⟩ := h
        replace h := hQ11 _ h
        obtain ⟨Q12, hQ12, h⟩ := bd1_ed h
        obtain ⟨x12, e12, h⟩ := h
        replace h := hQ12 _ h
        obtain ⟨g96, h⟩ := ed_gd h
        obtain ⟨Q13, hQ13, h⟩ := bd1_ed h
        obtain ⟨x13, e13, h⟩ := h
        replace h := hQ13 _ h
        obtain ⟨Q14, hQ14, h⟩ := bd1_ed h
        obtain ⟨x14, e14, h⟩ := h
        replace h := hQ14 _ h
        obtain ⟨g118, h⟩ := ed_gd h
        exact ih _ _ (fr_I (by decide) (fr_I (by decide) (fr_I (by decide) hM5))) (lq_l h)
  exact I2 n2 _ _ (fr_tr (fr_mono (by decide) (by decide +kernel) (f_Arrays_fill_2_fr e1)) fr_refl) hn2
