/-! METHODS AS FUNCTIONS -/
noncomputable def f_MPlaceRows_isBefore_L55 (v7 : Int32) (v8 : Int32) (M11 : im_M) (x9 : Int32) (x10 : Int32) : Option ((Int32 × Int32) ⊕ (Int32)) := if 5 ≤ x10 then some (.inr x9) else bd1 (if ¬ x9 = 0 then some x9 else gd (inb (((6 : Int32) * v7) + x10) 1800) <| gd (inb (((6 : Int32) * v8) + x10) 1800) <| some ((im_i M11 134 (Int32.toNatClampNeg (((6 : Int32) * v7) + x10))) - (im_i M11 134 (Int32.toNatClampNeg (((6 : Int32) * v8) + x10))))) fun (y13 : Int32) => some (.inl (y13, (x10 + 1)))
noncomputable def f_MPlaceRows_isBefore (p0 : Int32) (p1 : Int32) (M : im_M) : Option (Int32) := gd (inb (((6 : Int32) * p0) + 1) 1800) <| gd (inb (((6 : Int32) * p1) + 1) 1800) <| bd1 (if ¬ ((im_i M 134 (Int32.toNatClampNeg (((6 : Int32) * p0) + 1))) - (im_i M 134 (Int32.toNatClampNeg (((6 : Int32) * p1) + 1)))) = 0 then some ((im_i M 134 (Int32.toNatClampNeg (((6 : Int32) * p0) + 1))) - (im_i M 134 (Int32.toNatClampNeg (((6 : Int32) * p1) + 1)))) else gd (inb ((6 : Int32) * p0) 1800) <| gd (inb ((6 : Int32) * p1) 1800) <| some ((im_i M 134 (Int32.toNatClampNeg ((6 : Int32) * p0))) - (im_i M 134 (Int32.toNatClampNeg ((6 : Int32) * p1))))) fun (y2 : Int32) => bd1 (lp (uc2 (f_MPlaceRows_isBefore_L55 p0 p1 M)) (y2, 2)) fun (y18 : Int32) => if 0 ≤ y18 then some 0 else some 1
theorem J_MPlaceRows_isBefore_d0 : decode J_MPlaceRows_isBefore.2.1 0 = .ok (.aload_n 0, 1) := by decide +kernel
theorem J_MPlaceRows_isBefore_d1 : decode J_MPlaceRows_isBefore.2.1 1 = .ok (.getfield 29, 3) := by decide +kernel
theorem J_MPlaceRows_isBefore_d4 : decode J_MPlaceRows_isBefore.2.1 4 = .ok (.bipush 6, 2) := by decide +kernel
theorem J_MPlaceRows_isBefore_d6 : decode J_MPlaceRows_isBefore.2.1 6 = .ok (.iload_n 1, 1) := by decide +kernel
theorem J_MPlaceRows_isBefore_d7 : decode J_MPlaceRows_isBefore.2.1 7 = .ok (.imul, 1) := by decide +kernel
theorem J_MPlaceRows_isBefore_d8 : decode J_MPlaceRows_isBefore.2.1 8 = .ok (.iconst 1, 1) := by decide +kernel
theorem J_MPlaceRows_isBefore_d9 : decode J_MPlaceRows_isBefore.2.1 9 = .ok (.iadd, 1) := by decide +kernel
theorem J_MPlaceRows_isBefore_d10 : decode J_MPlaceRows_isBefore.2.1 10 = .ok (.iaload, 1) := by decide +kernel
theorem J_MPlaceRows_isBefore_d11 : decode J_MPlaceRows_isBefore.2.1 11 = .ok (.aload_n 0, 1) := by decide +kernel
theorem J_MPlaceRows_isBefore_d12 : decode J_MPlaceRows_isBefore.2.1 12 = .ok (.getfield 29, 3) := by decide +kernel
theorem J_MPlaceRows_isBefore_d15 : decode J_MPlaceRows_isBefore.2.1 15 = .ok (.bipush 6, 2) := by decide +kernel
theorem J_MPlaceRows_isBefore_d17 : decode J_MPlaceRows_isBefore.2.1 17 = .ok (.iload_n 2, 1) := by decide +kernel
theorem J_MPlaceRows_isBefore_d18 : decode J_MPlaceRows_isBefore.2.1 18 = .ok (.imul, 1) := by decide +kernel
theorem J_MPlaceRows_isBefore_d19 : decode J_MPlaceRows_isBefore.2.1 19 = .ok (.iconst 1, 1) := by decide +kernel
theorem J_MPlaceRows_isBefore_d20 : decode J_MPlaceRows_isBefore.2.1 20 = .ok (.iadd, 1) := by decide +kernel
theorem J_MPlaceRows_isBefore_d21 : decode J_MPlaceRows_isBefore.2.1 21 = .ok (.iaload, 1) := by decide +kernel
theorem J_MPlaceRows_isBefore_d22 : decode J_MPlaceRows_isBefore.2.1 22 = .ok (.isub, 1) := by decide +kernel
theorem J_MPlaceRows_isBefore_d23 : decode J_MPlaceRows_isBefore.2.1 23 = .ok (.istore_n 3, 1) := by decide +kernel
theorem J_MPlaceRows_isBefore_d24 : decode J_MPlaceRows_isBefore.2.1 24 = .ok (.iload_n 3, 1) := by decide +kernel
theorem J_MPlaceRows_isBefore_d25 : decode J_MPlaceRows_isBefore.2.1 25 = .ok (.ifCond .ne 25, 3) := by decide +kernel
theorem J_MPlaceRows_isBefore_d28 : decode J_MPlaceRows_isBefore.2.1 28 = .ok (.aload_n 0, 1) := by decide +kernel
theorem J_MPlaceRows_isBefore_d29 : decode J_MPlaceRows_isBefore.2.1 29 = .ok (.getfield 29, 3) := by decide +kernel
theorem J_MPlaceRows_isBefore_d32 : decode J_MPlaceRows_isBefore.2.1 32 = .ok (.bipush 6, 2) := by decide +kernel
theorem J_MPlaceRows_isBefore_d34 : decode J_MPlaceRows_isBefore.2.1 34 = .ok (.iload_n 1, 1) := by decide +kernel
theorem J_MPlaceRows_isBefore_d35 : decode J_MPlaceRows_isBefore.2.1 35 = .ok (.imul, 1) := by decide +kernel
theorem J_MPlaceRows_isBefore_d36 : decode J_MPlaceRows_isBefore.2.1 36 = .ok (.iaload, 1) := by decide +kernel
theorem J_MPlaceRows_isBefore_d37 : decode J_MPlaceRows_isBefore.2.1 37 = .ok (.aload_n 0, 1) := by decide +kernel
theorem J_MPlaceRows_isBefore_d38 : decode J_MPlaceRows_isBefore.2.1 38 = .ok (.getfield 29, 3) := by decide +kernel
theorem J_MPlaceRows_isBefore_d41 : decode J_MPlaceRows_isBefore.2.1 41 = .ok (.bipush 6, 2) := by decide +kernel
theorem J_MPlaceRows_isBefore_d43 : decode J_MPlaceRows_isBefore.2.1 43 = .ok (.iload_n 2, 1) := by decide +kernel
theorem J_MPlaceRows_isBefore_d44 : decode J_MPlaceRows_isBefore.2.1 44 = .ok (.imul, 1) := by decide +kernel
theorem J_MPlaceRows_isBefore_d45 : decode J_MPlaceRows_isBefore.2.1 45 = .ok (.iaload, 1) := by decide +kernel
theorem J_MPlaceRows_isBefore_d46 : decode J_MPlaceRows_isBefore.2.1 46 = .ok (.isub, 1) := by decide +kernel
theorem J_MPlaceRows_isBefore_d47 : decode J_MPlaceRows_isBefore.2.1 47 = .ok (.goto 4, 3) := by decide +kernel
theorem J_MPlaceRows_isBefore_d50 : decode J_MPlaceRows_isBefore.2.1 50 = .ok (.iload_n 3, 1) := by decide +kernel
theorem J_MPlaceRows_isBefore_d51 : decode J_MPlaceRows_isBefore.2.1 51 = .ok (.istore_n 3, 1) := by decide +kernel
theorem J_MPlaceRows_isBefore_d52 : decode J_MPlaceRows_isBefore.2.1 52 = .ok (.iconst 2, 1) := by decide +kernel
theorem J_MPlaceRows_isBefore_d53 : decode J_MPlaceRows_isBefore.2.1 53 = .ok (.istore 4, 2) := by decide +kernel
theorem J_MPlaceRows_isBefore_d55 : decode J_MPlaceRows_isBefore.2.1 55 = .ok (.iload 4, 2) := by decide +kernel
theorem J_MPlaceRows_isBefore_d57 : decode J_MPlaceRows_isBefore.2.1 57 = .ok (.iconst 5, 1) := by decide +kernel
theorem J_MPlaceRows_isBefore_d58 : decode J_MPlaceRows_isBefore.2.1 58 = .ok (.if_icmp .ge 43, 3) := by decide +kernel
theorem J_MPlaceRows_isBefore_d61 : decode J_MPlaceRows_isBefore.2.1 61 = .ok (.iload_n 3, 1) := by decide +kernel
theorem J_MPlaceRows_isBefore_d62 : decode J_MPlaceRows_isBefore.2.1 62 = .ok (.ifCond .ne 31, 3) := by decide +kernel
theorem J_MPlaceRows_isBefore_d65 : decode J_MPlaceRows_isBefore.2.1 65 = .ok (.aload_n 0, 1) := by decide +kernel
theorem J_MPlaceRows_isBefore_d66 : decode J_MPlaceRows_isBefore.2.1 66 = .ok (.getfield 29, 3) := by decide +kernel
theorem J_MPlaceRows_isBefore_d69 : decode J_MPlaceRows_isBefore.2.1 69 = .ok (.bipush 6, 2) := by decide +kernel
theorem J_MPlaceRows_isBefore_d71 : decode J_MPlaceRows_isBefore.2.1 71 = .ok (.iload_n 1, 1) := by decide +kernel
theorem J_MPlaceRows_isBefore_d72 : decode J_MPlaceRows_isBefore.2.1 72 = .ok (.imul, 1) := by decide +kernel
theorem J_MPlaceRows_isBefore_d73 : decode J_MPlaceRows_isBefore.2.1 73 = .ok (.iload 4, 2) := by decide +kernel
theorem J_MPlaceRows_isBefore_d75 : decode J_MPlaceRows_isBefore.2.1 75 = .ok (.iadd, 1) := by decide +kernel
theorem J_MPlaceRows_isBefore_d76 : decode J_MPlaceRows_isBefore.2.1 76 = .ok (.iaload, 1) := by decide +kernel
theorem J_MPlaceRows_isBefore_d77 : decode J_MPlaceRows_isBefore.2.1 77 = .ok (.aload_n 0, 1) := by decide +kernel
theorem J_MPlaceRows_isBefore_d78 : decode J_MPlaceRows_isBefore.2.1 78 = .ok (.getfield 29, 3) := by decide +kernel
theorem J_MPlaceRows_isBefore_d81 : decode J_MPlaceRows_isBefore.2.1 81 = .ok (.bipush 6, 2) := by decide +kernel
theorem J_MPlaceRows_isBefore_d83 : decode J_MPlaceRows_isBefore.2.1 83 = .ok (.iload_n 2, 1) := by decide +kernel
theorem J_MPlaceRows_isBefore_d84 : decode J_MPlaceRows_isBefore.2.1 84 = .ok (.imul, 1) := by decide +kernel
theorem J_MPlaceRows_isBefore_d85 : decode J_MPlaceRows_isBefore.2.1 85 = .ok (.iload 4, 2) := by decide +kernel
theorem J_MPlaceRows_isBefore_d87 : decode J_MPlaceRows_isBefore.2.1 87 = .ok (.iadd, 1) := by decide +kernel
theorem J_MPlaceRows_isBefore_d88 : decode J_MPlaceRows_isBefore.2.1 88 = .ok (.iaload, 1) := by decide +kernel
theorem J_MPlaceRows_isBefore_d89 : decode J_MPlaceRows_isBefore.2.1 89 = .ok (.isub, 1) := by decide +kernel
theorem J_MPlaceRows_isBefore_d90 : decode J_MPlaceRows_isBefore.2.1 90 = .ok (.goto 4, 3) := by decide +kernel
theorem J_MPlaceRows_isBefore_d93 : decode J_MPlaceRows_isBefore.2.1 93 = .ok (.iload_n 3, 1) := by decide +kernel
theorem J_MPlaceRows_isBefore_d94 : decode J_MPlaceRows_isBefore.2.1 94 = .ok (.istore_n 3, 1) := by decide +kernel
theorem J_MPlaceRows_isBefore_d95 : decode J_MPlaceRows_isBefore.2.1 95 = .ok (.iinc 4 1, 3) := by decide +kernel
theorem J_MPlaceRows_isBefore_d98 : decode J_MPlaceRows_isBefore.2.1 98 = .ok (.goto (-43), 3) := by decide +kernel
theorem J_MPlaceRows_isBefore_d101 : decode J_MPlaceRows_isBefore.2.1 101 = .ok (.iload_n 3, 1) := by decide +kernel
theorem J_MPlaceRows_isBefore_d102 : decode J_MPlaceRows_isBefore.2.1 102 = .ok (.ifCond .ge 7, 3) := by decide +kernel
theorem J_MPlaceRows_isBefore_d105 : decode J_MPlaceRows_isBefore.2.1 105 = .ok (.iconst 1, 1) := by decide +kernel
theorem J_MPlaceRows_isBefore_d106 : decode J_MPlaceRows_isBefore.2.1 106 = .ok (.goto 4, 3) := by decide +kernel
theorem J_MPlaceRows_isBefore_d109 : decode J_MPlaceRows_isBefore.2.1 109 = .ok (.iconst 0, 1) := by decide +kernel
theorem J_MPlaceRows_isBefore_d110 : decode J_MPlaceRows_isBefore.2.1 110 = .ok (.ireturn, 1) := by decide +kernel
theorem f_MPlaceRows_isBefore_ok {L : Nat} {xs : Nat → Int32} {dep : Nat} {w : Bool} {p0 : Int32} {p1 : Int32} {M : im_M} {Q : Int32 → Prop} (hM : lw_S w M) (h : ed (f_MPlaceRows_isBefore p0 p1 M) Q) : ia (tb_G L xs) dep J_MPlaceRows_isBefore (rpI M Q) (0, lv_args 0 [.ref 130, .int p0, .int p1], [], M) := by
  have hS : im_St (tb_G L xs) dep J_MPlaceRows_isBefore (ia (tb_G L xs) dep J_MPlaceRows_isBefore (rpI M Q)) := ia_St
  unfold f_MPlaceRows_isBefore at h
  have l0 : im_lk (lv_args 0 [.ref 130, .int p0, .int p1]) 0 = some (.ref 130) := rfl
  have l1 : im_lk (lv_args 0 [.ref 130, .int p0, .int p1]) 1 = some (.int p0) := rfl
  have l2 : im_lk (lv_args 0 [.ref 130, .int p0, .int p1]) 2 = some (.int p1) := rfl
  refine iq_aload_n hS 1 J_MPlaceRows_isBefore_d0 l0 rfl ?_
  refine iq_getR hS 4 J_MPlaceRows_isBefore_d1 lf_14_29 (Or.inr ⟨_, rfl⟩) (ka_130 hM) (ra_130_7 hM) rfl ?_
  refine iq_bipush hS 6 J_MPlaceRows_isBefore_d4 (v := 6) (by decide +kernel) rfl ?_
  refine iq_iload_n hS 7 J_MPlaceRows_isBefore_d6 l1 rfl ?_
  refine iq_imul hS 8 J_MPlaceRows_isBefore_d7 rfl ?_
  refine iq_iconst hS 9 J_MPlaceRows_isBefore_d8 (v := 1) (by decide +kernel) rfl ?_
  refine iq_iadd hS 10 J_MPlaceRows_isBefore_d9 rfl ?_
  obtain ⟨g10, h⟩ := ed_gd h
  refine iq_iaload hS 11 J_MPlaceRows_isBefore_d10 ⟨(ka_134 hM).1, (ka_134 hM).2, g10.1, ix_lt (kl_134 hM) g10.2⟩ rfl ?_
  refine iq_aload_n hS 12 J_MPlaceRows_isBefore_d11 l0 rfl ?_
  refine iq_getR hS 15 J_MPlaceRows_isBefore_d12 lf_14_29 (Or.inr ⟨_, rfl⟩) (ka_130 hM) (ra_130_7 hM) rfl ?_
  refine iq_bipush hS 17 J_MPlaceRows_isBefore_d15 (v := 6) (by decide +kernel) rfl ?_
  refine iq_iload_n hS 18 J_MPlaceRows_isBefore_d17 l2 rfl ?_
  refine iq_imul hS 19 J_MPlaceRows_isBefore_d18 rfl ?_
  refine iq_iconst hS 20 J_MPlaceRows_isBefore_d19 (v := 1) (by decide +kernel) rfl ?_
  refine iq_iadd hS 21 J_MPlaceRows_isBefore_d20 rfl ?_
  obtain ⟨g21, h⟩ := ed_gd h
  refine iq_iaload hS 22 J_MPlaceRows_isBefore_d21 ⟨(ka_134 hM).1, (ka_134 hM).2, g21.1, ix_lt (kl_134 hM) g21.2⟩ rfl ?_
  refine iq_isub hS 23 J_MPlaceRows_isBefore_d22 rfl ?_
  refine iq_istore_n hS 24 J_MPlaceRows_isBefore_d23 (by decide) rfl ?_
  refine iq_iload_n hS 25 J_MPlaceRows_isBefore_d24 lk_1s rfl ?_
  obtain ⟨Q1, hQ1, h⟩ := bd1_ed h
  have J1 : ∀ (y2 : Int32) (L' : List (Nat × Value)), im_lk L' 0 = some (.ref 130) → im_lk L' 1 = some (.int p0) → im_lk L' 2 = some (.int p1) → Q1 y2 → ia (tb_G L xs) dep J_MPlaceRows_isBefore (rpI M Q) (51, L', [.int y2], M) := by
    intro y2 L' l3 l4 l5 h
    replace h := hQ1 _ h
    refine iq_istore_n hS 52 J_MPlaceRows_isBefore_d51 (by decide) rfl ?_
    refine iq_iconst hS 53 J_MPlaceRows_isBefore_d52 (v := 2) (by decide +kernel) rfl ?_
    refine iq_istore hS 55 J_MPlaceRows_isBefore_d53 (by decide) rfl ?_
    obtain ⟨Q6, hQ6, h⟩ := bd1_ed h
    have K6 : ∀ (y7 : Int32) (L' : List (Nat × Value)), im_lk L' 3 = some (.int y7) → Q6 y7 → ia (tb_G L xs) dep J_MPlaceRows_isBefore (rpI M Q) (101, L', [], M) := by
      intro y7 L' l8 h
      replace h := hQ6 _ h
      refine iq_iload_n hS 102 J_MPlaceRows_isBefore_d101 l8 rfl ?_
      refine iq_if_ge hS 105 J_MPlaceRows_isBefore_d102 (t := 109) rfl (fun q102 => ?_) rfl (fun q102 => ?_)
      · replace h := ed_pos q102 h
        refine iq_iconst hS 110 J_MPlaceRows_isBefore_d109 (v := 0) (by decide +kernel) rfl ?_
        exact iq_iret J_MPlaceRows_isBefore_d110 rfl rfl ⟨_, rfl, rfl, ed_some h⟩
      · replace h := ed_neg q102 h
        refine iq_iconst hS 106 J_MPlaceRows_isBefore_d105 (v := 1) (by decide +kernel) rfl ?_
        refine iq_goto hS J_MPlaceRows_isBefore_d106 (t := 110) rfl ?_
        exact iq_iret J_MPlaceRows_isBefore_d110 rfl rfl ⟨_, rfl, rfl, ed_some h⟩
    obtain ⟨r6, hr6, hq6⟩ := h
    obtain ⟨n6, hn6⟩ := lp_n hr6
    have I6 : ∀ (n : Nat) (x9 : Int32) (x10 : Int32) (L' : List (Nat × Value)), im_lk L' 0 = some (.ref 130) → im_lk L' 1 = some (.int p0) → im_lk L' 2 = some (.int p1) → im_lk L' 3 = some (.int x9) → im_lk L' 4 = some (.int x10) → lpn (uc2 (f_MPlaceRows_isBefore_L55 p0 p1 M)) n (x9, x10) = some r6 → ia (tb_G L xs) dep J_MPlaceRows_isBefore (rpI M Q) (55, L', [], M) := by
      intro n
      induction n with
      | zero => intro x9 x10 L' l11 l12 l13 l14 l15 hn; exact (lpn_0 hn).elim
      | succ n ih =>
        intro x9 x10 L' l11 l12 l13 l14 l15 hn
        have h := lpn_ed2 hn
        unfold f_MPlaceRows_isBefore_L55 at h
        refine iq_iload hS 57 J_MPlaceRows_isBefore_d55 l15 rfl ?_
        refine iq_iconst hS 58 J_MPlaceRows_isBefore_d57 (v := 5) (by decide +kernel) rfl ?_
        refine iq_icmp_ge hS 61 J_MPlaceRows_isBefore_d58 (t := 101) rfl (fun q58 => ?_) rfl (fun q58 => ?_)
        · replace h := ed_pos q58 h
          exact K6 _ _ l14 (lq_r h hq6)
        · replace h := ed_neg q58 h
          refine iq_iload_n hS 62 J_MPlaceRows_isBefore_d61 l14 rfl ?_
          obtain ⟨Q16, hQ16, h⟩ := bd1_ed h
          have J16 : ∀ (y17 : Int32) (L' : List (Nat × Value)), im_lk L' 0 = some (.ref 130) → im_lk L' 1 = some (.int p0) → im_lk L' 2 = some (.int p1) → im_lk L' 4 = some (.int x10) → Q16 y17 → ia (tb_G L xs) dep J_MPlaceRows_isBefore (rpI M Q) (94, L', [.int y17], M) := by
            intro y17 L' l18 l19 l20 l21 h
            replace h := hQ16 _ h
            refine iq_istore_n hS 95 J_MPlaceRows_isBefore_d94 (by decide) rfl ?_
            refine iq_iincv hS 98 J_MPlaceRows_isBefore_d95 (c := 1) (by decide +kernel) (lk_1i l21 (by decide)) (by decide) rfl ?_
            refine iq_goto hS J_MPlaceRows_isBefore_d98 (t := 55) rfl ?_
            exact ih _ _ _ (lk_1r (lk_1r l18 (by decide)) (by decide)) (lk_1i (lk_1i l19 (by decide)) (by decide)) (lk_1i (lk_1i l20 (by decide)) (by decide)) (lk_1i lk_1s (by decide)) lk_1s (lq_l h)
          refine iq_if_ne hS 65 J_MPlaceRows_isBefore_d62 (t := 93) rfl (fun q62 => ?_) rfl (fun q62 => ?_)
          · replace h := ed_pos q62 h
            refine iq_iload_n hS 94 J_MPlaceRows_isBefore_d93 l14 rfl ?_
            exact J16 _ _ l11 l12 l13 l15 (ed_some h)
          · replace h := ed_neg q62 h
            refine iq_aload_n hS 66 J_MPlaceRows_isBefore_d65 l11 rfl ?_
            refine iq_getR hS 69 J_MPlaceRows_isBefore_d66 lf_14_29 (Or.inr ⟨_, rfl⟩) (ka_130 hM) (ra_130_7 hM) rfl ?_
            refine iq_bipush hS 71 J_MPlaceRows_isBefore_d69 (v := 6) (by decide +kernel) rfl ?_
            refine iq_iload_n hS 72 J_MPlaceRows_isBefore_d71 l12 rfl ?_
            refine iq_imul hS 73 J_MPlaceRows_isBefore_d72 rfl ?_
            refine iq_iload hS 75 J_MPlaceRows_isBefore_d73 l15 rfl ?_
            refine iq_iadd hS 76 J_MPlaceRows_isBefore_d75 rfl ?_
            obtain ⟨g76, h⟩ := ed_gd h
            refine iq_iaload hS 77 J_MPlaceRows_isBefore_d76 ⟨(ka_134 hM).1, (ka_134 hM).2, g76.1, ix_lt (kl_134 hM) g76.2⟩ rfl ?_
            refine iq_aload_n hS 78 J_MPlaceRows_isBefore_d77 l11 rfl ?_
            refine iq_getR hS 81 J_MPlaceRows_isBefore_d78 lf_14_29 (Or.inr ⟨_, rfl⟩) (ka_130 hM) (ra_130_7 hM) rfl ?_
            refine iq_bipush hS 83 J_MPlaceRows_isBefore_d81 (v := 6) (by decide +kernel) rfl ?_
            refine iq_iload_n hS 84 J_MPlaceRows_isBefore_d83 l13 rfl ?_
            refine iq_imul hS 85 J_MPlaceRows_isBefore_d84 rfl ?_
            refine iq_iload hS 87 J_MPlaceRows_isBefore_d85 l15 rfl ?_
            refine iq_iadd hS 88 J_MPlaceRows_isBefore_d87 rfl ?_
            obtain ⟨g88, h⟩ := ed_gd h
            refine iq_iaload hS 89 J_MPlaceRows_isBefore_d88 ⟨(ka_134 hM).1, (ka_134 hM).2, g88.1, ix_lt (kl_134 hM) g88.2⟩ rfl ?_
            refine iq_isub hS 90 J_MPlaceRows_isBefore_d89 rfl ?_
            refine iq_goto hS J_MPlaceRows_isBefore_d90 (t := 94) rfl ?_
            exact J16 _ _ l11 l12 l13 l15 (ed_some h)
    exact I6 n6 _ _ _ (lk_1r (lk_1r l3 (by decide)) (by decide)) (lk_1i (lk_1i l4 (by decide)) (by decide)) (lk_1i (lk_1i l5 (by decide)) (by decide)) (lk_1i lk_1s (by decide)) lk_1s hn6
  refine iq_if_ne hS 28 J_MPlaceRows_isBefore_d25 (t := 50) rfl (fun q25 => ?_) rfl (fun q25 => ?_)
  · replace h := ed_pos q25 h
    refine iq_iload_n hS 51 J_MPlaceRows_isBefore_d50 lk_1s rfl ?_
    exact J1 _ _ (lk_1r l0 (by decide)) (lk_1i l1 (by decide)) (lk_1i l2 (by decide)) (ed_some h)
  · replace h := ed_neg q25 h
    refine iq_aload_n hS 29 J_MPlaceRows_isBefore_d28 (lk_1r l0 (by decide)) rfl ?_
    refine iq_getR hS 32 J_MPlaceRows_isBefore_d29 lf_14_29 (Or.inr ⟨_, rfl⟩) (ka_130 hM) (ra_130_7 hM) rfl ?_
    refine iq_bipush hS 34 J_MPlaceRows_isBefore_d32 (v := 6) (by decide +kernel) rfl ?_
    refine iq_iload_n hS 35 J_MPlaceRows_isBefore_d34 (lk_1i l1 (by decide)) rfl ?_
    refine iq_imul hS 36 J_MPlaceRows_isBefore_d35 rfl ?_
    obtain ⟨g36, h⟩ := ed_gd h
    refine iq_iaload hS 37 J_MPlaceRows_isBefore_d36 ⟨(ka_134 hM).1, (ka_134 hM).2, g36.1, ix_lt (kl_134 hM) g36.2⟩ rfl ?_
    refine iq_aload_n hS 38 J_MPlaceRows_isBefore_d37 (lk_1r l0 (by decide)) rfl ?_
    refine iq_getR hS 41 J_MPlaceRows_isBefore_d38 lf_14_29 (Or.inr ⟨_, rfl⟩) (ka_130 hM) (ra_130_7 hM) rfl ?_
    refine iq_bipush hS 43 J_MPlaceRows_isBefore_d41 (v := 6) (by decide +kernel) rfl ?_
    refine iq_iload_n hS 44 J_MPlaceRows_isBefore_d43 (lk_1i l2 (by decide)) rfl ?_
    refine iq_imul hS 45 J_MPlaceRows_isBefore_d44 rfl ?_
    obtain ⟨g45, h⟩ := ed_gd h
    refine iq_iaload hS 46 J_MPlaceRows_isBefore_d45 ⟨(ka_134 hM).1, (ka_134 hM).2, g45.1, ix_lt (kl_134 hM) g45.2⟩ rfl ?_
    refine iq_isub hS 47 J_MPlaceRows_isBefore_d46 rfl ?_
    refine iq_goto hS J_MPlaceRows_isBefore_d47 (t := 51) rfl ?_
    exact J1 _ _ (lk_1r l0 (by decide)) (lk_1i l1 (by decide)) (lk_1i l2 (by decide)) (ed_some h)
noncomputable def f_MPlaceRows_meet (p0 : Int32) (p1 : Int32) (M : im_M) : Option (Int32) := gd (inb (((6 : Int32) * p0) + 2) 1800) <| gd (inb (((6 : Int32) * p0) + 3) 1800) <| bd1 (f_MPlaceRows_side (im_i M 134 (Int32.toNatClampNeg (((6 : Int32) * p0) + 3))) M) fun (x1 : Int32) => gd (inb (((6 : Int32) * p1) + 2) 1800) <| gd (inb (((6 : Int32) * p1) + 3) 1800) <| bd1 (f_MPlaceRows_side (im_i M 134 (Int32.toNatClampNeg (((6 : Int32) * p1) + 3))) M) fun (x2 : Int32) => gd (inb ((6 : Int32) * p0) 1800) <| gd (inb ((6 : Int32) * p1) 1800) <| if ((im_i M 134 (Int32.toNatClampNeg ((6 : Int32) * p1))) + ((im_i M 134 (Int32.toNatClampNeg (((6 : Int32) * p1) + 2))) * x2)) ≤ (im_i M 134 (Int32.toNatClampNeg ((6 : Int32) * p0))) then some 0 else gd (inb ((6 : Int32) * p1) 1800) <| gd (inb ((6 : Int32) * p0) 1800) <| if ((im_i M 134 (Int32.toNatClampNeg ((6 : Int32) * p0))) + ((im_i M 134 (Int32.toNatClampNeg (((6 : Int32) * p0) + 2))) * x1)) ≤ (im_i M 134 (Int32.toNatClampNeg ((6 : Int32) * p1))) then some 0 else gd (inb (((6 : Int32) * p0) + 1) 1800) <| gd (inb (((6 : Int32) * p1) + 1) 1800) <| if ((im_i M 134 (Int32.toNatClampNeg (((6 : Int32) * p1) + 1))) + ((im_i M 134 (Int32.toNatClampNeg (((6 : Int32) * p1) + 2))) * x2)) ≤ (im_i M 134 (Int32.toNatClampNeg (((6 : Int32) * p0) + 1))) then some 0 else gd (inb (((6 : Int32) * p1) + 1) 1800) <| gd (inb (((6 : Int32) * p0) + 1) 1800) <| if ((im_i M 134 (Int32.toNatClampNeg (((6 : Int32) * p0) + 1))) + ((im_i M 134 (Int32.toNatClampNeg (((6 : Int32) * p0) + 2))) * x1)) ≤ (im_i M 134 (Int32.toNatClampNeg (((6 : Int32) * p1) + 1))) then some 0 else some 1
theorem J_MPlaceRows_meet_d0 : decode J_MPlaceRows_meet.2.1 0 = .ok (.aload_n 0, 1) := by decide +kernel
theorem J_MPlaceRows_meet_d1 : decode J_MPlaceRows_meet.2.1 1 = .ok (.getfield 29, 3) := by decide +kernel
theorem J_MPlaceRows_meet_d4 : decode J_MPlaceRows_meet.2.1 4 = .ok (.bipush 6, 2) := by decide +kernel
theorem J_MPlaceRows_meet_d6 : decode J_MPlaceRows_meet.2.1 6 = .ok (.iload_n 1, 1) := by decide +kernel
theorem J_MPlaceRows_meet_d7 : decode J_MPlaceRows_meet.2.1 7 = .ok (.imul, 1) := by decide +kernel
theorem J_MPlaceRows_meet_d8 : decode J_MPlaceRows_meet.2.1 8 = .ok (.iconst 2, 1) := by decide +kernel
theorem J_MPlaceRows_meet_d9 : decode J_MPlaceRows_meet.2.1 9 = .ok (.iadd, 1) := by decide +kernel
theorem J_MPlaceRows_meet_d10 : decode J_MPlaceRows_meet.2.1 10 = .ok (.iaload, 1) := by decide +kernel
theorem J_MPlaceRows_meet_d11 : decode J_MPlaceRows_meet.2.1 11 = .ok (.aload_n 0, 1) := by decide +kernel
theorem J_MPlaceRows_meet_d12 : decode J_MPlaceRows_meet.2.1 12 = .ok (.getfield 29, 3) := by decide +kernel
theorem J_MPlaceRows_meet_d15 : decode J_MPlaceRows_meet.2.1 15 = .ok (.bipush 6, 2) := by decide +kernel
theorem J_MPlaceRows_meet_d17 : decode J_MPlaceRows_meet.2.1 17 = .ok (.iload_n 1, 1) := by decide +kernel
theorem J_MPlaceRows_meet_d18 : decode J_MPlaceRows_meet.2.1 18 = .ok (.imul, 1) := by decide +kernel
theorem J_MPlaceRows_meet_d19 : decode J_MPlaceRows_meet.2.1 19 = .ok (.iconst 3, 1) := by decide +kernel
theorem J_MPlaceRows_meet_d20 : decode J_MPlaceRows_meet.2.1 20 = .ok (.iadd, 1) := by decide +kernel
theorem J_MPlaceRows_meet_d21 : decode J_MPlaceRows_meet.2.1 21 = .ok (.iaload, 1) := by decide +kernel
theorem J_MPlaceRows_meet_d22 : decode J_MPlaceRows_meet.2.1 22 = .ok (.invokestatic 59, 3) := by decide +kernel
theorem J_MPlaceRows_meet_d25 : decode J_MPlaceRows_meet.2.1 25 = .ok (.imul, 1) := by decide +kernel
theorem J_MPlaceRows_meet_d26 : decode J_MPlaceRows_meet.2.1 26 = .ok (.istore_n 3, 1) := by decide +kernel
theorem J_MPlaceRows_meet_d27 : decode J_MPlaceRows_meet.2.1 27 = .ok (.aload_n 0, 1) := by decide +kernel
theorem J_MPlaceRows_meet_d28 : decode J_MPlaceRows_meet.2.1 28 = .ok (.getfield 29, 3) := by decide +kernel
theorem J_MPlaceRows_meet_d31 : decode J_MPlaceRows_meet.2.1 31 = .ok (.bipush 6, 2) := by decide +kernel
theorem J_MPlaceRows_meet_d33 : decode J_MPlaceRows_meet.2.1 33 = .ok (.iload_n 2, 1) := by decide +kernel
theorem J_MPlaceRows_meet_d34 : decode J_MPlaceRows_meet.2.1 34 = .ok (.imul, 1) := by decide +kernel
theorem J_MPlaceRows_meet_d35 : decode J_MPlaceRows_meet.2.1 35 = .ok (.iconst 2, 1) := by decide +kernel
theorem J_MPlaceRows_meet_d36 : decode J_MPlaceRows_meet.2.1 36 = .ok (.iadd, 1) := by decide +kernel
theorem J_MPlaceRows_meet_d37 : decode J_MPlaceRows_meet.2.1 37 = .ok (.iaload, 1) := by decide +kernel
theorem J_MPlaceRows_meet_d38 : decode J_MPlaceRows_meet.2.1 38 = .ok (.aload_n 0, 1) := by decide +kernel
theorem J_MPlaceRows_meet_d39 : decode J_MPlaceRows_meet.2.1 39 = .ok (.getfield 29, 3) := by decide +kernel
theorem J_MPlaceRows_meet_d42 : decode J_MPlaceRows_meet.2.1 42 = .ok (.bipush 6, 2) := by decide +kernel
theorem J_MPlaceRows_meet_d44 : decode J_MPlaceRows_meet.2.1 44 = .ok (.iload_n 2, 1) := by decide +kernel
theorem J_MPlaceRows_meet_d45 : decode J_MPlaceRows_meet.2.1 45 = .ok (.imul, 1) := by decide +kernel
theorem J_MPlaceRows_meet_d46 : decode J_MPlaceRows_meet.2.1 46 = .ok (.iconst 3, 1) := by decide +kernel
theorem J_MPlaceRows_meet_d47 : decode J_MPlaceRows_meet.2.1 47 = .ok (.iadd, 1) := by decide +kernel
theorem J_MPlaceRows_meet_d48 : decode J_MPlaceRows_meet.2.1 48 = .ok (.iaload, 1) := by decide +kernel
theorem J_MPlaceRows_meet_d49 : decode J_MPlaceRows_meet.2.1 49 = .ok (.invokestatic 59, 3) := by decide +kernel
theorem J_MPlaceRows_meet_d52 : decode J_MPlaceRows_meet.2.1 52 = .ok (.imul, 1) := by decide +kernel
theorem J_MPlaceRows_meet_d53 : decode J_MPlaceRows_meet.2.1 53 = .ok (.istore 4, 2) := by decide +kernel
theorem J_MPlaceRows_meet_d55 : decode J_MPlaceRows_meet.2.1 55 = .ok (.aload_n 0, 1) := by decide +kernel
theorem J_MPlaceRows_meet_d56 : decode J_MPlaceRows_meet.2.1 56 = .ok (.getfield 29, 3) := by decide +kernel
theorem J_MPlaceRows_meet_d59 : decode J_MPlaceRows_meet.2.1 59 = .ok (.bipush 6, 2) := by decide +kernel
theorem J_MPlaceRows_meet_d61 : decode J_MPlaceRows_meet.2.1 61 = .ok (.iload_n 1, 1) := by decide +kernel
theorem J_MPlaceRows_meet_d62 : decode J_MPlaceRows_meet.2.1 62 = .ok (.imul, 1) := by decide +kernel
theorem J_MPlaceRows_meet_d63 : decode J_MPlaceRows_meet.2.1 63 = .ok (.iaload, 1) := by decide +kernel
theorem J_MPlaceRows_meet_d64 : decode J_MPlaceRows_meet.2.1 64 = .ok (.aload_n 0, 1) := by decide +kernel
theorem J_MPlaceRows_meet_d65 : decode J_MPlaceRows_meet.2.1 65 = .ok (.getfield 29, 3) := by decide +kernel
theorem J_MPlaceRows_meet_d68 : decode J_MPlaceRows_meet.2.1 68 = .ok (.bipush 6, 2) := by decide +kernel
theorem J_MPlaceRows_meet_d70 : decode J_MPlaceRows_meet.2.1 70 = .ok (.iload_n 2, 1) := by decide +kernel
theorem J_MPlaceRows_meet_d71 : decode J_MPlaceRows_meet.2.1 71 = .ok (.imul, 1) := by decide +kernel
theorem J_MPlaceRows_meet_d72 : decode J_MPlaceRows_meet.2.1 72 = .ok (.iaload, 1) := by decide +kernel
theorem J_MPlaceRows_meet_d73 : decode J_MPlaceRows_meet.2.1 73 = .ok (.iload 4, 2) := by decide +kernel
theorem J_MPlaceRows_meet_d75 : decode J_MPlaceRows_meet.2.1 75 = .ok (.iadd, 1) := by decide +kernel
theorem J_MPlaceRows_meet_d76 : decode J_MPlaceRows_meet.2.1 76 = .ok (.if_icmp .ge 85, 3) := by decide +kernel
theorem J_MPlaceRows_meet_d79 : decode J_MPlaceRows_meet.2.1 79 = .ok (.aload_n 0, 1) := by decide +kernel
theorem J_MPlaceRows_meet_d80 : decode J_MPlaceRows_meet.2.1 80 = .ok (.getfield 29, 3) := by decide +kernel
theorem J_MPlaceRows_meet_d83 : decode J_MPlaceRows_meet.2.1 83 = .ok (.bipush 6, 2) := by decide +kernel
theorem J_MPlaceRows_meet_d85 : decode J_MPlaceRows_meet.2.1 85 = .ok (.iload_n 2, 1) := by decide +kernel
theorem J_MPlaceRows_meet_d86 : decode J_MPlaceRows_meet.2.1 86 = .ok (.imul, 1) := by decide +kernel
theorem J_MPlaceRows_meet_d87 : decode J_MPlaceRows_meet.2.1 87 = .ok (.iaload, 1) := by decide +kernel
theorem J_MPlaceRows_meet_d88 : decode J_MPlaceRows_meet.2.1 88 = .ok (.aload_n 0, 1) := by decide +kernel
theorem J_MPlaceRows_meet_d89 : decode J_MPlaceRows_meet.2.1 89 = .ok (.getfield 29, 3) := by decide +kernel
theorem J_MPlaceRows_meet_d92 : decode J_MPlaceRows_meet.2.1 92 = .ok (.bipush 6, 2) := by decide +kernel
theorem J_MPlaceRows_meet_d94 : decode J_MPlaceRows_meet.2.1 94 = .ok (.iload_n 1, 1) := by decide +kernel
theorem J_MPlaceRows_meet_d95 : decode J_MPlaceRows_meet.2.1 95 = .ok (.imul, 1) := by decide +kernel
theorem J_MPlaceRows_meet_d96 : decode J_MPlaceRows_meet.2.1 96 = .ok (.iaload, 1) := by decide +kernel
theorem J_MPlaceRows_meet_d97 : decode J_MPlaceRows_meet.2.1 97 = .ok (.iload_n 3, 1) := by decide +kernel
theorem J_MPlaceRows_meet_d98 : decode J_MPlaceRows_meet.2.1 98 = .ok (.iadd, 1) := by decide +kernel
theorem J_MPlaceRows_meet_d99 : decode J_MPlaceRows_meet.2.1 99 = .ok (.if_icmp .ge 62, 3) := by decide +kernel
theorem J_MPlaceRows_meet_d102 : decode J_MPlaceRows_meet.2.1 102 = .ok (.aload_n 0, 1) := by decide +kernel
theorem J_MPlaceRows_meet_d103 : decode J_MPlaceRows_meet.2.1 103 = .ok (.getfield 29, 3) := by decide +kernel
theorem J_MPlaceRows_meet_d106 : decode J_MPlaceRows_meet.2.1 106 = .ok (.bipush 6, 2) := by decide +kernel
theorem J_MPlaceRows_meet_d108 : decode J_MPlaceRows_meet.2.1 108 = .ok (.iload_n 1, 1) := by decide +kernel
theorem J_MPlaceRows_meet_d109 : decode J_MPlaceRows_meet.2.1 109 = .ok (.imul, 1) := by decide +kernel
theorem J_MPlaceRows_meet_d110 : decode J_MPlaceRows_meet.2.1 110 = .ok (.iconst 1, 1) := by decide +kernel
theorem J_MPlaceRows_meet_d111 : decode J_MPlaceRows_meet.2.1 111 = .ok (.iadd, 1) := by decide +kernel
theorem J_MPlaceRows_meet_d112 : decode J_MPlaceRows_meet.2.1 112 = .ok (.iaload, 1) := by decide +kernel
theorem J_MPlaceRows_meet_d113 : decode J_MPlaceRows_meet.2.1 113 = .ok (.aload_n 0, 1) := by decide +kernel
theorem J_MPlaceRows_meet_d114 : decode J_MPlaceRows_meet.2.1 114 = .ok (.getfield 29, 3) := by decide +kernel
theorem J_MPlaceRows_meet_d117 : decode J_MPlaceRows_meet.2.1 117 = .ok (.bipush 6, 2) := by decide +kernel
theorem J_MPlaceRows_meet_d119 : decode J_MPlaceRows_meet.2.1 119 = .ok (.iload_n 2, 1) := by decide +kernel
theorem J_MPlaceRows_meet_d120 : decode J_MPlaceRows_meet.2.1 120 = .ok (.imul, 1) := by decide +kernel
theorem J_MPlaceRows_meet_d121 : decode J_MPlaceRows_meet.2.1 121 = .ok (.iconst 1, 1) := by decide +kernel
theorem J_MPlaceRows_meet_d122 : decode J_MPlaceRows_meet.2.1 122 = .ok (.iadd, 1) := by decide +kernel
theorem J_MPlaceRows_meet_d123 : decode J_MPlaceRows_meet.2.1 123 = .ok (.iaload, 1) := by decide +kernel
theorem J_MPlaceRows_meet_d124 : decode J_MPlaceRows_meet.2.1 124 = .ok (.iload 4, 2) := by decide +kernel
theorem J_MPlaceRows_meet_d126 : decode J_MPlaceRows_meet.2.1 126 = .ok (.iadd, 1) := by decide +kernel
theorem J_MPlaceRows_meet_d127 : decode J_MPlaceRows_meet.2.1 127 = .ok (.if_icmp .ge 34, 3) := by decide +kernel
theorem J_MPlaceRows_meet_d130 : decode J_MPlaceRows_meet.2.1 130 = .ok (.aload_n 0, 1) := by decide +kernel
theorem J_MPlaceRows_meet_d131 : decode J_MPlaceRows_meet.2.1 131 = .ok (.getfield 29, 3) := by decide +kernel
theorem J_MPlaceRows_meet_d134 : decode J_MPlaceRows_meet.2.1 134 = .ok (.bipush 6, 2) := by decide +kernel
theorem J_MPlaceRows_meet_d136 : decode J_MPlaceRows_meet.2.1 136 = .ok (.iload_n 2, 1) := by decide +kernel
theorem J_MPlaceRows_meet_d137 : decode J_MPlaceRows_meet.2.1 137 = .ok (.imul, 1) := by decide +kernel
theorem J_MPlaceRows_meet_d138 : decode J_MPlaceRows_meet.2.1 138 = .ok (.iconst 1, 1) := by decide +kernel
theorem J_MPlaceRows_meet_d139 : decode J_MPlaceRows_meet.2.1 139 = .ok (.iadd, 1) := by decide +kernel
theorem J_MPlaceRows_meet_d140 : decode J_MPlaceRows_meet.2.1 140 = .ok (.iaload, 1) := by decide +kernel
theorem J_MPlaceRows_meet_d141 : decode J_MPlaceRows_meet.2.1 141 = .ok (.aload_n 0, 1) := by decide +kernel
theorem J_MPlaceRows_meet_d142 : decode J_MPlaceRows_meet.2.1 142 = .ok (.getfield 29, 3) := by decide +kernel
theorem J_MPlaceRows_meet_d145 : decode J_MPlaceRows_meet.2.1 145 = .ok (.bipush 6, 2) := by decide +kernel
theorem J_MPlaceRows_meet_d147 : decode J_MPlaceRows_meet.2.1 147 = .ok (.iload_n 1, 1) := by decide +kernel
theorem J_MPlaceRows_meet_d148 : decode J_MPlaceRows_meet.2.1 148 = .ok (.imul, 1) := by decide +kernel
theorem J_MPlaceRows_meet_d149 : decode J_MPlaceRows_meet.2.1 149 = .ok (.iconst 1, 1) := by decide +kernel
theorem J_MPlaceRows_meet_d150 : decode J_MPlaceRows_meet.2.1 150 = .ok (.iadd, 1) := by decide +kernel
theorem J_MPlaceRows_meet_d151 : decode J_MPlaceRows_meet.2.1 151 = .ok (.iaload, 1) := by decide +kernel
theorem J_MPlaceRows_meet_d152 : decode J_MPlaceRows_meet.2.1 152 = .ok (.iload_n 3, 1) := by decide +kernel
theorem J_MPlaceRows_meet_d153 : decode J_MPlaceRows_meet.2.1 153 = .ok (.iadd, 1) := by decide +kernel
theorem J_MPlaceRows_meet_d154 : decode J_MPlaceRows_meet.2.1 154 = .ok (.if_icmp .ge 7, 3) := by decide +kernel
theorem J_MPlaceRows_meet_d157 : decode J_MPlaceRows_meet.2.1 157 = .ok (.iconst 1, 1) := by decide +kernel
theorem J_MPlaceRows_meet_d158 : decode J_MPlaceRows_meet.2.1 158 = .ok (.goto 4, 3) := by decide +kernel
theorem J_MPlaceRows_meet_d161 : decode J_MPlaceRows_meet.2.1 161 = .ok (.iconst 0, 1) := by decide +kernel
theorem J_MPlaceRows_meet_d162 : decode J_MPlaceRows_meet.2.1 162 = .ok (.ireturn, 1) := by decide +kernel
theorem f_MPlaceRows_meet_ok {L : Nat} {xs : Nat → Int32} {dep : Nat} {w : Bool} {p0 : Int32} {p1 : Int32} {M : im_M} {Q : Int32 → Prop} (hM : lw_S w M) (h : ed (f_MPlaceRows_meet p0 p1 M) Q) : ia (tb_G L xs) (dep + 1) J_MPlaceRows_meet (rpI M Q) (0, lv_args 0 [.ref 130, .int p0, .int p1], [], M) := by
  have hS : im_St (tb_G L xs) (dep + 1) J_MPlaceRows_meet (ia (tb_G L xs) (dep + 1) J_MPlaceRows_meet (rpI M Q)) := ia_St
  unfold f_MPlaceRows_meet at h
  have l0 : im_lk (lv_args 0 [.ref 130, .int p0, .int p1]) 0 = some (.ref 130) := rfl
  have l1 : im_lk (lv_args 0 [.ref 130, .int p0, .int p1]) 1 = some (.int p0) := rfl
  have l2 : im_lk (lv_args 0 [.ref 130, .int p0, .int p1]) 2 = some (.int p1) := rfl
  refine iq_aload_n hS 1 J_MPlaceRows_meet_d0 l0 rfl ?_
  refine iq_getR hS 4 J_MPlaceRows_meet_d1 lf_14_29 (Or.inr ⟨_, rfl⟩) (ka_130 hM) (ra_130_7 hM) rfl ?_
  refine iq_bipush hS 6 J_MPlaceRows_meet_d4 (v := 6) (by decide +kernel) rfl ?_
  refine iq_iload_n hS 7 J_MPlaceRows_meet_d6 l1 rfl ?_
  refine iq_imul hS 8 J_MPlaceRows_meet_d7 rfl ?_
  refine iq_iconst hS 9 J_MPlaceRows_meet_d8 (v := 2) (by decide +kernel) rfl ?_
  refine iq_iadd hS 10 J_MPlaceRows_meet_d9 rfl ?_
  obtain ⟨g10, h⟩ := ed_gd h
  refine iq_iaload hS 11 J_MPlaceRows_meet_d10 ⟨(ka_134 hM).1, (ka_134 hM).2, g10.1, ix_lt (kl_134 hM) g10.2⟩ rfl ?_
  refine iq_aload_n hS 12 J_MPlaceRows_meet_d11 l0 rfl ?_
  refine iq_getR hS 15 J_MPlaceRows_meet_d12 lf_14_29 (Or.inr ⟨_, rfl⟩) (ka_130 hM) (ra_130_7 hM) rfl ?_
  refine iq_bipush hS 17 J_MPlaceRows_meet_d15 (v := 6) (by decide +kernel) rfl ?_
  refine iq_iload_n hS 18 J_MPlaceRows_meet_d17 l1 rfl ?_
  refine iq_imul hS 19 J_MPlaceRows_meet_d18 rfl ?_
  refine iq_iconst hS 20 J_MPlaceRows_meet_d19 (v := 3) (by decide +kernel) rfl ?_
  refine iq_iadd hS 21 J_MPlaceRows_meet_d20 rfl ?_
  obtain ⟨g21, h⟩ := ed_gd h
  refine iq_iaload hS 22 J_MPlaceRows_meet_d21 ⟨(ka_134 hM).1, (ka_134 hM).2, g21.1, ix_lt (kl_134 hM) g21.2⟩ rfl ?_
  obtain ⟨Q1, hQ1, h⟩ := bd1_ed h
  refine iq_cpI hS 25 J_MPlaceRows_meet_d22 rfl (pr_stat (vs := [_]) lc_14_59 lT_458 rfl rfl (by decide) rfl (Nat.le_of_ble_eq_true rfl) (Nat.le_of_ble_eq_true rfl)) (f_MPlaceRows_side_ok (dep := dep + 0) hM h) rfl ?_
  intro x1 h
  replace h := hQ1 _ h
  refine iq_imul hS 26 J_MPlaceRows_meet_d25 rfl ?_
  refine iq_istore_n hS 27 J_MPlaceRows_meet_d26 (by decide) rfl ?_
  refine iq_aload_n hS 28 J_MPlaceRows_meet_d27 (lk_1r l0 (by decide)) rfl ?_
  refine iq_getR hS 31 J_MPlaceRows_meet_d28 lf_14_29 (Or.inr ⟨_, rfl⟩) (ka_130 hM) (ra_130_7 hM) rfl ?_
  refine iq_bipush hS 33 J_MPlaceRows_meet_d31 (v := 6) (by decide +kernel) rfl ?_
  refine iq_iload_n hS 34 J_MPlaceRows_meet_d33 (lk_1i l2 (by decide)) rfl ?_
  refine iq_imul hS 35 J_MPlaceRows_meet_d34 rfl ?_
  refine iq_iconst hS 36 J_MPlaceRows_meet_d35 (v := 2) (by decide +kernel) rfl ?_
  refine iq_iadd hS 37 J_MPlaceRows_meet_d36 rfl ?_
  obtain ⟨g37, h⟩ := ed_gd h
  refine iq_iaload hS 38 J_MPlaceRows_meet_d37 ⟨(ka_134 hM).1, (ka_134 hM).2, g37.1, ix_lt (kl_134 hM) g37.2⟩ rfl ?_
  refine iq_aload_n hS 39 J_MPlaceRows_meet_d38 (lk_1r l0 (by decide)) rfl ?_
  refine iq_getR hS 42 J_MPlaceRows_meet_d39 lf_14_29 (Or.inr ⟨_, rfl⟩) (ka_130 hM) (ra_130_7 hM) rfl ?_
  refine iq_bipush hS 44 J_MPlaceRows_meet_d42 (v := 6) (by decide +kernel) rfl ?_
  refine iq_iload_n hS 45 J_MPlaceRows_meet_d44 (lk_1i l2 (by decide)) rfl ?_
  refine iq_imul hS 46 J_MPlaceRows_meet_d45 rfl ?_
  refine iq_iconst hS 47 J_MPlaceRows_meet_d46 (v := 3) (by decide +kernel) rfl ?_
  refine iq_iadd hS 48 J_MPlaceRows_meet_d47 rfl ?_
  obtain ⟨g48, h⟩ := ed_gd h
  refine iq_iaload hS 49 J_MPlaceRows_meet_d48 ⟨(ka_134 hM).1, (ka_134 hM).2, g48.1, ix_lt (kl_134 hM) g48.2⟩ rfl ?_
  obtain ⟨Q2, hQ2, h⟩ := bd1_ed h
  refine iq_cpI hS 52 J_MPlaceRows_meet_d49 rfl (pr_stat (vs := [_]) lc_14_59 lT_458 rfl rfl (by decide) rfl (Nat.le_of_ble_eq_true rfl) (Nat.le_of_ble_eq_true rfl)) (f_MPlaceRows_side_ok (dep := dep + 0) hM h) rfl ?_
  intro x2 h
  replace h := hQ2 _ h
  refine iq_imul hS 53 J_MPlaceRows_meet_d52 rfl ?_
  refine iq_istore hS 55 J_MPlaceRows_meet_d53 (by decide) rfl ?_
  refine iq_aload_n hS 56 J_MPlaceRows_meet_d55 (lk_1r (lk_1r l0 (by decide)) (by decide)) rfl ?_
  refine iq_getR hS 59 J_MPlaceRows_meet_d56 lf_14_29 (Or.inr ⟨_, rfl⟩) (ka_130 hM) (ra_130_7 hM) rfl ?_
  refine iq_bipush hS 61 J_MPlaceRows_meet_d59 (v := 6) (by decide +kernel) rfl ?_
  refine iq_iload_n hS 62 J_MPlaceRows_meet_d61 (lk_1i (lk_1i l1 (by decide)) (by decide)) rfl ?_
  refine iq_imul hS 63 J_MPlaceRows_meet_d62 rfl ?_
  obtain ⟨g63, h⟩ := ed_gd h
  refine iq_iaload hS 64 J_MPlaceRows_meet_d63 ⟨(ka_134 hM).1, (ka_134 hM).2, g63.1, ix_lt (kl_134 hM) g63.2⟩ rfl ?_
  refine iq_aload_n hS 65 J_MPlaceRows_meet_d64 (lk_1r (lk_1r l0 (by decide)) (by decide)) rfl ?_
  refine iq_getR hS 68 J_MPlaceRows_meet_d65 lf_14_29 (Or.inr ⟨_, rfl⟩) (ka_130 hM) (ra_130_7 hM) rfl ?_
  refine iq_bipush hS 70 J_MPlaceRows_meet_d68 (v := 6) (by decide +kernel) rfl ?_
  refine iq_iload_n hS 71 J_MPlaceRows_meet_d70 (lk_1i (lk_1i l2 (by decide)) (by decide)) rfl ?_
  refine iq_imul hS 72 J_MPlaceRows_meet_d71 rfl ?_
  obtain ⟨g72, h⟩ := ed_gd h
  refine iq_iaload hS 73 J_MPlaceRows_meet_d72 ⟨(ka_134 hM).1, (ka_134 hM).2, g72.1, ix_lt (kl_134 hM) g72.2⟩ rfl ?_
  refine iq_iload hS 75 J_MPlaceRows_meet_d73 lk_1s rfl ?_
  refine iq_iadd hS 76 J_MPlaceRows_meet_d75 rfl ?_
  refine iq_icmp_ge hS 79 J_MPlaceRows_meet_d76 (t := 161) rfl (fun q76 => ?_) rfl (fun q76 => ?_)
  · replace h := ed_pos q76 h
    refine iq_iconst hS 162 J_MPlaceRows_meet_d161 (v := 0) (by decide +kernel) rfl ?_
    exact iq_iret J_MPlaceRows_meet_d162 rfl rfl ⟨_, rfl, rfl, ed_some h⟩
  · replace h := ed_neg q76 h
    refine iq_aload_n hS 80 J_MPlaceRows_meet_d79 (lk_1r (lk_1r l0 (by decide)) (by decide)) rfl ?_
    refine iq_getR hS 83 J_MPlaceRows_meet_d80 lf_14_29 (Or.inr ⟨_, rfl⟩) (ka_130 hM) (ra_130_7 hM) rfl ?_
    refine iq_bipush hS 85 J_MPlaceRows_meet_d83 (v := 6) (by decide +kernel) rfl ?_
    refine iq_iload_n hS 86 J_MPlaceRows_meet_d85 (lk_1i (lk_1i l2 (by decide)) (by decide)) rfl ?_
    refine iq_imul hS 87 J_MPlaceRows_meet_d86 rfl ?_
    obtain ⟨g87, h⟩ := ed_gd h
    refine iq_iaload hS 88 J_MPlaceRows_meet_d87 ⟨(ka_134 hM).1, (ka_134 hM).2, g87.1, ix_lt (kl_134 hM) g87.2⟩ rfl ?_
    refine iq_aload_n hS 89 J_MPlaceRows_meet_d88 (lk_1r (lk_1r l0 (by decide)) (by decide)) rfl ?_
    refine iq_getR hS 92 J_MPlaceRows_meet_d89 lf_14_29 (Or.inr ⟨_, rfl⟩) (ka_130 hM) (ra_130_7 hM) rfl ?_
    refine iq_bipush hS 94 J_MPlaceRows_meet_d92 (v := 6) (by decide +kernel) rfl ?_
    refine iq_iload_n hS 95 J_MPlaceRows_meet_d94 (lk_1i (lk_1i l1 (by decide)) (by decide)) rfl ?_
    refine iq_imul hS 96 J_MPlaceRows_meet_d95 rfl ?_
    obtain ⟨g96, h⟩ := ed_gd h
    refine iq_iaload hS 97 J_MPlaceRows_meet_d96 ⟨(ka_134 hM).1, (ka_134 hM).2, g96.1, ix_lt (kl_134 hM) g96.2⟩ rfl ?_
    refine iq_iload_n hS 98 J_MPlaceRows_meet_d97 (lk_1i lk_1s (by decide)) rfl ?_
    refine iq_iadd hS 99 J_MPlaceRows_meet_d98 rfl ?_
    refine iq_icmp_ge hS 102 J_MPlaceRows_meet_d99 (t := 161) rfl (fun q99 => ?_) rfl (fun q99 => ?_)
    · replace h := ed_pos q99 h
      refine iq_iconst hS 162 J_MPlaceRows_meet_d161 (v := 0) (by decide +kernel) rfl ?_
      exact iq_iret J_MPlaceRows_meet_d162 rfl rfl ⟨_, rfl, rfl, ed_some h⟩
    · replace h := ed_neg q99 h
      refine iq_aload_n hS 103 J_MPlaceRows_meet_d102 (lk_1r (lk_1r l0 (by decide)) (by decide)) rfl ?_
      refine iq_getR hS 106 J_MPlaceRows_meet_d103 lf_14_29 (Or.inr ⟨_, rfl⟩) (ka_130 hM) (ra_130_7 hM) rfl ?_
      refine iq_bipush hS 108 J_MPlaceRows_meet_d106 (v := 6) (by decide +kernel) rfl ?_
      refine iq_iload_n hS 109 J_MPlaceRows_meet_d108 (lk_1i (lk_1i l1 (by decide)) (by decide)) rfl ?_
      refine iq_imul hS 110 J_MPlaceRows_meet_d109 rfl ?_
      refine iq_iconst hS 111 J_MPlaceRows_meet_d110 (v := 1) (by decide +kernel) rfl ?_
      refine iq_iadd hS 112 J_MPlaceRows_meet_d111 rfl ?_
      obtain ⟨g112, h⟩ := ed_gd h
      refine iq_iaload hS 113 J_MPlaceRows_meet_d112 ⟨(ka_134 hM).1, (ka_134 hM).2, g112.1, ix_lt (kl_134 hM) g112.2⟩ rfl ?_
      refine iq_aload_n hS 114 J_MPlaceRows_meet_d113 (lk_1r (lk_1r l0 (by decide)) (by decide)) rfl ?_
      refine iq_getR hS 117 J_MPlaceRows_meet_d114 lf_14_29 (Or.inr ⟨_, rfl⟩) (ka_130 hM) (ra_130_7 hM) rfl ?_
      refine iq_bipush hS 119 J_MPlaceRows_meet_d117 (v := 6) (by decide +kernel) rfl ?_
      refine iq_iload_n hS 120 J_MPlaceRows_meet_d119 (lk_1i (lk_1i l2 (by decide)) (by decide)) rfl ?_
      refine iq_imul hS 121 J_MPlaceRows_meet_d120 rfl ?_
      refine iq_iconst hS 122 J_MPlaceRows_meet_d121 (v := 1) (by decide +kernel) rfl ?_
      refine iq_iadd hS 123 J_MPlaceRows_meet_d122 rfl ?_
      obtain ⟨g123, h⟩ := ed_gd h
      refine iq_iaload hS 124 J_MPlaceRows_meet_d123 ⟨(ka_134 hM).1, (ka_134 hM).2, g123.1, ix_lt (kl_134 hM) g123.2⟩ rfl ?_
      refine iq_iload hS 126 J_MPlaceRows_meet_d124 lk_1s rfl ?_
      refine iq_iadd hS 127 J_MPlaceRows_meet_d126 rfl ?_
      refine iq_icmp_ge hS 130 J_MPlaceRows_meet_d127 (t := 161) rfl (fun q127 => ?_) rfl (fun q127 => ?_)
      · replace h := ed_pos q127 h
        refine iq_iconst hS 162 J_MPlaceRows_meet_d161 (v := 0) (by decide +kernel) rfl ?_
        exact iq_iret J_MPlaceRows_meet_d162 rfl rfl ⟨_, rfl, rfl, ed_some h⟩
      · replace h := ed_neg q127 h
        refine iq_aload_n hS 131 J_MPlaceRows_meet_d130 (lk_1r (lk_1r l0 (by decide)) (by decide)) rfl ?_
        refine iq_getR hS 134 J_MPlaceRows_meet_d131 lf_14_29 (Or.inr ⟨_, rfl⟩) (ka_130 hM) (ra_130_7 hM) rfl ?_
        refine iq_bipush hS 136 J_MPlaceRows_meet_d134 (v := 6) (by decide +kernel) rfl ?_
        refine iq_iload_n hS 137 J_MPlaceRows_meet_d136 (lk_1i (lk_1i l2 (by decide)) (by decide)) rfl ?_
        refine iq_imul hS 138 J_MPlaceRows_meet_d137 rfl ?_
        refine iq_iconst hS 139 J_MPlaceRows_meet_d138 (v := 1) (by decide +kernel) rfl ?_
        refine iq_iadd hS 140 J_MPlaceRows_meet_d139 rfl ?_
        obtain ⟨g140, h⟩ := ed_gd h
        refine iq_iaload hS 141 J_MPlaceRows_meet_d140 ⟨(ka_134 hM).1, (ka_134 hM).2, g140.1, ix_lt (kl_134 hM) g140.2⟩ rfl ?_
        refine iq_aload_n hS 142 J_MPlaceRows_meet_d141 (lk_1r (lk_1r l0 (by decide)) (by decide)) rfl ?_
        refine iq_getR hS 145 J_MPlaceRows_meet_d142 lf_14_29 (Or.inr ⟨_, rfl⟩) (ka_130 hM) (ra_130_7 hM) rfl ?_
        refine iq_bipush hS 147 J_MPlaceRows_meet_d145 (v := 6) (by decide +kernel) rfl ?_
        refine iq_iload_n hS 148 J_MPlaceRows_meet_d147 (lk_1i (lk_1i l1 (by decide)) (by decide)) rfl ?_
        refine iq_imul hS 149 J_MPlaceRows_meet_d148 rfl ?_
        refine iq_iconst hS 150 J_MPlaceRows_meet_d149 (v := 1) (by decide +kernel) rfl ?_
        refine iq_iadd hS 151 J_MPlaceRows_meet_d150 rfl ?_
        obtain ⟨g151, h⟩ := ed_gd h
        refine iq_iaload hS 152 J_MPlaceRows_meet_d151 ⟨(ka_134 hM).1, (ka_134 hM).2, g151.1, ix_lt (kl_134 hM) g151.2⟩ rfl ?_
        refine iq_iload_n hS 153 J_MPlaceRows_meet_d152 (lk_1i lk_1s (by decide)) rfl ?_
        refine iq_iadd hS 154 J_MPlaceRows_meet_d153 rfl ?_
        refine iq_icmp_ge hS 157 J_MPlaceRows_meet_d154 (t := 161) rfl (fun q154 => ?_) rfl (fun q154 => ?_)
        · replace h := ed_pos q154 h
          refine iq_iconst hS 162 J_MPlaceRows_meet_d161 (v := 0) (by decide +kernel) rfl ?_
          exact iq_iret J_MPlaceRows_meet_d162 rfl rfl ⟨_, rfl, rfl, ed_some h⟩
        · replace h := ed_neg q154 h
          refine iq_iconst hS 158 J_MPlaceRows_meet_d157 (v := 1) (by decide +kernel) rfl ?_
          refine iq_goto hS J_MPlaceRows_meet_d158 (t := 162) rfl ?_
          exact iq_iret J_MPlaceRows_meet_d162 rfl rfl ⟨_, rfl, rfl, ed_some h⟩
noncomputable def f_MPlaceRows_leads_L2 (v2 : Int32) (M4 : im_M) (x3 : Int32) : Option ((Int32) ⊕ ((Unit) ⊕ (Int32))) := if (im_i M4 130 8) ≤ x3 then some (.inr (.inl ())) else gd (inb (((6 : Int32) * x3) + 5) 1800) <| gd (inb (((6 : Int32) * v2) + 5) 1800) <| jn0 (fun (_ : Unit) => some (.inl (x3 + 1))) fun k5 => if x3 = v2 then k5 () else bd1 (f_MPlaceRows_meet v2 x3 M4) fun (x6 : Int32) => if x6 = 0 then k5 () else if ((im_i M4 134 (Int32.toNatClampNeg (((6 : Int32) * x3) + 5))) - (im_i M4 134 (Int32.toNatClampNeg (((6 : Int32) * v2) + 5)))) < 0 then some (.inr (.inr 0)) else if ¬ ((im_i M4 134 (Int32.toNatClampNeg (((6 : Int32) * x3) + 5))) - (im_i M4 134 (Int32.toNatClampNeg (((6 : Int32) * v2) + 5)))) = 0 then k5 () else bd1 (f_MPlaceRows_isBefore x3 v2 M4) fun (x7 : Int32) => if x7 = 0 then k5 () else some (.inr (.inr 0))
noncomputable def f_MPlaceRows_leads (p0 : Int32) (M : im_M) : Option (Int32) := bs0 (lp (uc1 (f_MPlaceRows_leads_L2 p0 M)) 0) (fun (_ : Unit) => some 1) (fun t => some t)
theorem J_MPlaceRows_leads_d0 : decode J_MPlaceRows_leads.2.1 0 = .ok (.iconst 0, 1) := by decide +kernel
theorem J_MPlaceRows_leads_d1 : decode J_MPlaceRows_leads.2.1 1 = .ok (.istore_n 2, 1) := by decide +kernel
theorem J_MPlaceRows_leads_d2 : decode J_MPlaceRows_leads.2.1 2 = .ok (.iload_n 2, 1) := by decide +kernel
theorem J_MPlaceRows_leads_d3 : decode J_MPlaceRows_leads.2.1 3 = .ok (.aload_n 0, 1) := by decide +kernel
theorem J_MPlaceRows_leads_d4 : decode J_MPlaceRows_leads.2.1 4 = .ok (.getfield 38, 3) := by decide +kernel
theorem J_MPlaceRows_leads_d7 : decode J_MPlaceRows_leads.2.1 7 = .ok (.if_icmp .ge 66, 3) := by decide +kernel
theorem J_MPlaceRows_leads_d10 : decode J_MPlaceRows_leads.2.1 10 = .ok (.aload_n 0, 1) := by decide +kernel
theorem J_MPlaceRows_leads_d11 : decode J_MPlaceRows_leads.2.1 11 = .ok (.getfield 29, 3) := by decide +kernel
theorem J_MPlaceRows_leads_d14 : decode J_MPlaceRows_leads.2.1 14 = .ok (.bipush 6, 2) := by decide +kernel
theorem J_MPlaceRows_leads_d16 : decode J_MPlaceRows_leads.2.1 16 = .ok (.iload_n 2, 1) := by decide +kernel
theorem J_MPlaceRows_leads_d17 : decode J_MPlaceRows_leads.2.1 17 = .ok (.imul, 1) := by decide +kernel
theorem J_MPlaceRows_leads_d18 : decode J_MPlaceRows_leads.2.1 18 = .ok (.iconst 5, 1) := by decide +kernel
theorem J_MPlaceRows_leads_d19 : decode J_MPlaceRows_leads.2.1 19 = .ok (.iadd, 1) := by decide +kernel
theorem J_MPlaceRows_leads_d20 : decode J_MPlaceRows_leads.2.1 20 = .ok (.iaload, 1) := by decide +kernel
theorem J_MPlaceRows_leads_d21 : decode J_MPlaceRows_leads.2.1 21 = .ok (.aload_n 0, 1) := by decide +kernel
theorem J_MPlaceRows_leads_d22 : decode J_MPlaceRows_leads.2.1 22 = .ok (.getfield 29, 3) := by decide +kernel
theorem J_MPlaceRows_leads_d25 : decode J_MPlaceRows_leads.2.1 25 = .ok (.bipush 6, 2) := by decide +kernel
theorem J_MPlaceRows_leads_d27 : decode J_MPlaceRows_leads.2.1 27 = .ok (.iload_n 1, 1) := by decide +kernel
theorem J_MPlaceRows_leads_d28 : decode J_MPlaceRows_leads.2.1 28 = .ok (.imul, 1) := by decide +kernel
theorem J_MPlaceRows_leads_d29 : decode J_MPlaceRows_leads.2.1 29 = .ok (.iconst 5, 1) := by decide +kernel
theorem J_MPlaceRows_leads_d30 : decode J_MPlaceRows_leads.2.1 30 = .ok (.iadd, 1) := by decide +kernel
theorem J_MPlaceRows_leads_d31 : decode J_MPlaceRows_leads.2.1 31 = .ok (.iaload, 1) := by decide +kernel
theorem J_MPlaceRows_leads_d32 : decode J_MPlaceRows_leads.2.1 32 = .ok (.isub, 1) := by decide +kernel
theorem J_MPlaceRows_leads_d33 : decode J_MPlaceRows_leads.2.1 33 = .ok (.istore_n 3, 1) := by decide +kernel
theorem J_MPlaceRows_leads_d34 : decode J_MPlaceRows_leads.2.1 34 = .ok (.iload_n 2, 1) := by decide +kernel
theorem J_MPlaceRows_leads_d35 : decode J_MPlaceRows_leads.2.1 35 = .ok (.iload_n 1, 1) := by decide +kernel
theorem J_MPlaceRows_leads_d36 : decode J_MPlaceRows_leads.2.1 36 = .ok (.if_icmp .eq 31, 3) := by decide +kernel
theorem J_MPlaceRows_leads_d39 : decode J_MPlaceRows_leads.2.1 39 = .ok (.aload_n 0, 1) := by decide +kernel
theorem J_MPlaceRows_leads_d40 : decode J_MPlaceRows_leads.2.1 40 = .ok (.iload_n 1, 1) := by decide +kernel
theorem J_MPlaceRows_leads_d41 : decode J_MPlaceRows_leads.2.1 41 = .ok (.iload_n 2, 1) := by decide +kernel
theorem J_MPlaceRows_leads_d42 : decode J_MPlaceRows_leads.2.1 42 = .ok (.invokevirtual 102, 3) := by decide +kernel
theorem J_MPlaceRows_leads_d45 : decode J_MPlaceRows_leads.2.1 45 = .ok (.ifCond .eq 22, 3) := by decide +kernel
theorem J_MPlaceRows_leads_d48 : decode J_MPlaceRows_leads.2.1 48 = .ok (.iload_n 3, 1) := by decide +kernel
theorem J_MPlaceRows_leads_d49 : decode J_MPlaceRows_leads.2.1 49 = .ok (.ifCond .lt 16, 3) := by decide +kernel
theorem J_MPlaceRows_leads_d52 : decode J_MPlaceRows_leads.2.1 52 = .ok (.iload_n 3, 1) := by decide +kernel
theorem J_MPlaceRows_leads_d53 : decode J_MPlaceRows_leads.2.1 53 = .ok (.ifCond .ne 14, 3) := by decide +kernel
theorem J_MPlaceRows_leads_d56 : decode J_MPlaceRows_leads.2.1 56 = .ok (.aload_n 0, 1) := by decide +kernel
theorem J_MPlaceRows_leads_d57 : decode J_MPlaceRows_leads.2.1 57 = .ok (.iload_n 2, 1) := by decide +kernel
theorem J_MPlaceRows_leads_d58 : decode J_MPlaceRows_leads.2.1 58 = .ok (.iload_n 1, 1) := by decide +kernel
theorem J_MPlaceRows_leads_d59 : decode J_MPlaceRows_leads.2.1 59 = .ok (.invokevirtual 105, 3) := by decide +kernel
theorem J_MPlaceRows_leads_d62 : decode J_MPlaceRows_leads.2.1 62 = .ok (.ifCond .eq 5, 3) := by decide +kernel
theorem J_MPlaceRows_leads_d65 : decode J_MPlaceRows_leads.2.1 65 = .ok (.iconst 0, 1) := by decide +kernel
theorem J_MPlaceRows_leads_d66 : decode J_MPlaceRows_leads.2.1 66 = .ok (.ireturn, 1) := by decide +kernel
theorem J_MPlaceRows_leads_d67 : decode J_MPlaceRows_leads.2.1 67 = .ok (.iinc 2 1, 3) := by decide +kernel
theorem J_MPlaceRows_leads_d70 : decode J_MPlaceRows_leads.2.1 70 = .ok (.goto (-68), 3) := by decide +kernel
theorem J_MPlaceRows_leads_d73 : decode J_MPlaceRows_leads.2.1 73 = .ok (.iconst 1, 1) := by decide +kernel
theorem J_MPlaceRows_leads_d74 : decode J_MPlaceRows_leads.2.1 74 = .ok (.ireturn, 1) := by decide +kernel
theorem f_MPlaceRows_leads_ok {L : Nat} {xs : Nat → Int32} {dep : Nat} {w : Bool} {p0 : Int32} {M : im_M} {Q : Int32 → Prop} (hM : lw_S w M) (h : ed (f_MPlaceRows_leads p0 M) Q) : ia (tb_G L xs) (dep + 2) J_MPlaceRows_leads (rpI M Q) (0, lv_args 0 [.ref 130, .int p0], [], M) := by
  have hS : im_St (tb_G L xs) (dep + 2) J_MPlaceRows_leads (ia (tb_G L xs) (dep + 2) J_MPlaceRows_leads (rpI M Q)) := ia_St
  unfold f_MPlaceRows_leads at h
  have l0 : im_lk (lv_args 0 [.ref 130, .int p0]) 0 = some (.ref 130) := rfl
  have l1 : im_lk (lv_args 0 [.ref 130, .int p0]) 1 = some (.int p0) := rfl
  refine iq_iconst hS 1 J_MPlaceRows_leads_d0 (v := 0) (by decide +kernel) rfl ?_
  refine iq_istore_n hS 2 J_MPlaceRows_leads_d1 (by decide) rfl ?_
  obtain ⟨Q1, hQ1, hR1, h⟩ := bs0_ed h
  have K1 : ∀  (L' : List (Nat × Value)), Q1 (.inl ()) → ia (tb_G L xs) (dep + 2) J_MPlaceRows_leads (rpI M Q) (73, L', [], M) := by
    intro  L'  h
    replace h := hQ1  h
    refine iq_iconst hS 74 J_MPlaceRows_leads_d73 (v := 1) (by decide +kernel) rfl ?_
    exact iq_iret J_MPlaceRows_leads_d74 rfl rfl ⟨_, rfl, rfl, ed_some h⟩
  obtain ⟨r1, hr1, hq1⟩ := h
  obtain ⟨n1, hn1⟩ := lp_n hr1
  have I1 : ∀ (n : Nat) (x2 : Int32) (L' : List (Nat × Value)), im_lk L' 0 = some (.ref 130) → im_lk L' 1 = some (.int p0) → im_lk L' 2 = some (.int x2) → lpn (uc1 (f_MPlaceRows_leads_L2 p0 M)) n x2 = some r1 → ia (tb_G L xs) (dep + 2) J_MPlaceRows_leads (rpI M Q) (2, L', [], M) := by
    intro n
    induction n with
    | zero => intro x2 L' l3 l4 l5 hn; exact (lpn_0 hn).elim
    | succ n ih =>
      intro x2 L' l3 l4 l5 hn
      have h := lpn_ed1 hn
      unfold f_MPlaceRows_leads_L2 at h
      refine iq_iload_n hS 3 J_MPlaceRows_leads_d2 l5 rfl ?_
      refine iq_aload_n hS 4 J_MPlaceRows_leads_d3 l3 rfl ?_
      refine iq_getI hS 7 J_MPlaceRows_leads_d4 lf_14_38 (Or.inl rfl) (ka_130 hM) rfl ?_
      refine iq_icmp_ge hS 10 J_MPlaceRows_leads_d7 (t := 73) rfl (fun q7 => ?_) rfl (fun q7 => ?_)
      · replace h := ed_pos q7 h
        exact K1  _  (lq_r h hq1)
      · replace h := ed_neg q7 h
        refine iq_aload_n hS 11 J_MPlaceRows_leads_d10 l3 rfl ?_
        refine iq_getR hS 14 J_MPlaceRows_leads_d11 lf_14_29 (Or.inr ⟨_, rfl⟩) (ka_130 hM) (ra_130_7 hM) rfl ?_
        refine iq_bipush hS 16 J_MPlaceRows_leads_d14 (v := 6) (by decide +kernel) rfl ?_
        refine iq_iload_n hS 17 J_MPlaceRows_leads_d16 l5 rfl ?_
        refine iq_imul hS 18 J_MPlaceRows_leads_d17 rfl ?_
        refine iq_iconst hS 19 J_MPlaceRows_leads_d18 (v := 5) (by decide +kernel) rfl ?_
        refine iq_iadd hS 20 J_MPlaceRows_leads_d19 rfl ?_
        obtain ⟨g20, h⟩ := ed_gd h
        refine iq_iaload hS 21 J_MPlaceRows_leads_d20 ⟨(ka_134 hM).1, (ka_134 hM).2, g20.1, ix_lt (kl_134 hM) g20.2⟩ rfl ?_
        refine iq_aload_n hS 22 J_MPlaceRows_leads_d21 l3 rfl ?_
        refine iq_getR hS 25 J_MPlaceRows_leads_d22 lf_14_29 (Or.inr ⟨_, rfl⟩) (ka_130 hM) (ra_130_7 hM) rfl ?_
        refine iq_bipush hS 27 J_MPlaceRows_leads_d25 (v := 6) (by decide +kernel) rfl ?_
        refine iq_iload_n hS 28 J_MPlaceRows_leads_d27 l4 rfl ?_
        refine iq_imul hS 29 J_MPlaceRows_leads_d28 rfl ?_
        refine iq_iconst hS 30 J_MPlaceRows_leads_d29 (v := 5) (by decide +kernel) rfl ?_
        refine iq_iadd hS 31 J_MPlaceRows_leads_d30 rfl ?_
        obtain ⟨g31, h⟩ := ed_gd h
        refine iq_iaload hS 32 J_MPlaceRows_leads_d31 ⟨(ka_134 hM).1, (ka_134 hM).2, g31.1, ix_lt (kl_134 hM) g31.2⟩ rfl ?_
        refine iq_isub hS 33 J_MPlaceRows_leads_d32 rfl ?_
        refine iq_istore_n hS 34 J_MPlaceRows_leads_d33 (by decide) rfl ?_
        refine iq_iload_n hS 35 J_MPlaceRows_leads_d34 (lk_1i l5 (by decide)) rfl ?_
        refine iq_iload_n hS 36 J_MPlaceRows_leads_d35 (lk_1i l4 (by decide)) rfl ?_
        obtain ⟨k6, Q6, hQ6, hk6, h⟩ := jn0_ed h
        have J6 : ∀  (L' : List (Nat × Value)), im_lk L' 0 = some (.ref 130) → im_lk L' 1 = some (.int p0) → im_lk L' 2 = some (.int x2) → Q6 () → ia (tb_G L xs) (dep + 2) J_MPlaceRows_leads (rpI M Q) (67, L', [], M) := by
          intro  L' l9 l10 l11 h
          replace h := hQ6  h
          refine iq_iincv hS 70 J_MPlaceRows_leads_d67 (c := 1) (by decide +kernel) l11 (by decide) rfl ?_
          refine iq_goto hS J_MPlaceRows_leads_d70 (t := 2) rfl ?_
          exact ih _ _ (lk_1r l9 (by decide)) (lk_1i l10 (by decide)) lk_1s (lq_l h)
        refine iq_icmp_eq hS 39 J_MPlaceRows_leads_d36 (t := 67) rfl (fun q36 => ?_) rfl (fun q36 => ?_)
        · replace h := ed_pos q36 h
          exact J6  _ (lk_1r l3 (by decide)) (lk_1i l4 (by decide)) (lk_1i l5 (by decide)) (hk6  h)
        · replace h := ed_neg q36 h
          refine iq_aload_n hS 40 J_MPlaceRows_leads_d39 (lk_1r l3 (by decide)) rfl ?_
          refine iq_iload_n hS 41 J_MPlaceRows_leads_d40 (lk_1i l4 (by decide)) rfl ?_
          refine iq_iload_n hS 42 J_MPlaceRows_leads_d41 (lk_1i l5 (by decide)) rfl ?_
          obtain ⟨Q7, hQ7, h⟩ := bd1_ed h
          refine iq_cpI hS 45 J_MPlaceRows_leads_d42 rfl (pr_inst (vs := [_, _]) lc_14_102 lT_473 rfl rfl (by decide) (by decide) rfl (Nat.le_of_ble_eq_true rfl) (Nat.le_of_ble_eq_true rfl) (fun _ => Or.inl (pr_b (ka_130 hM) (by decide) rfl))) (f_MPlaceRows_meet_ok (dep := dep + 0) hM h) rfl ?_
          intro x7 h
          replace h := hQ7 _ h
          refine iq_if_eq hS 48 J_MPlaceRows_leads_d45 (t := 67) rfl (fun q45 => ?_) rfl (fun q45 => ?_)
          · replace h := ed_pos q45 h
            exact J6  _ (lk_1r l3 (by decide)) (lk_1i l4 (by decide)) (lk_1i l5 (by decide)) (hk6  h)
          · replace h := ed_neg q45 h
            refine iq_iload_n hS 49 J_MPlaceRows_leads_d48 lk_1s rfl ?_
            refine iq_if_lt hS 52 J_MPlaceRows_leads_d49 (t := 65) rfl (fun q49 => ?_) rfl (fun q49 => ?_)
            · replace h := ed_pos q49 h
              refine iq_iconst hS 66 J_MPlaceRows_leads_d65 (v := 0) (by decide +kernel) rfl ?_
              exact iq_iret J_MPlaceRows_leads_d66 rfl rfl ⟨_, rfl, rfl, ed_some (hR1 _ (lq_r h hq1))⟩
            · replace h := ed_neg q49 h
              refine iq_iload_n hS 53 J_MPlaceRows_leads_d52 lk_1s rfl ?_
              refine iq_if_ne hS 56 J_MPlaceRows_leads_d53 (t := 67) rfl (fun q53 => ?_) rfl (fun q53 => ?_)
              · replace h := ed_pos q53 h
                exact J6  _ (lk_1r l3 (by decide)) (lk_1i l4 (by decide)) (lk_1i l5 (by decide)) (hk6  h)
              · replace h := ed_neg q53 h
                refine iq_aload_n hS 57 J_MPlaceRows_leads_d56 (lk_1r l3 (by decide)) rfl ?_
                refine iq_iload_n hS 58 J_MPlaceRows_leads_d57 (lk_1i l5 (by decide)) rfl ?_
                refine iq_iload_n hS 59 J_MPlaceRows_leads_d58 (lk_1i l4 (by decide)) rfl ?_
                obtain ⟨Q8, hQ8, h⟩ := bd1_ed h
                refine iq_cpI hS 62 J_MPlaceRows_leads_d59 rfl (pr_inst (vs := [_, _]) lc_14_105 lT_471 rfl rfl (by decide) (by decide) rfl (Nat.le_of_ble_eq_true rfl) (Nat.le_of_ble_eq_true rfl) (fun _ => Or.inl (pr_b (ka_130 hM) (by decide) rfl))) (f_MPlaceRows_isBefore_ok (dep := dep + 1) hM h) rfl ?_
                intro x8 h
                replace h := hQ8 _ h
                refine iq_if_eq hS 65 J_MPlaceRows_leads_d62 (t := 67) rfl (fun q62 => ?_) rfl (fun q62 => ?_)
                · replace h := ed_pos q62 h
                  exact J6  _ (lk_1r l3 (by decide)) (lk_1i l4 (by decide)) (lk_1i l5 (by decide)) (hk6  h)
                · replace h := ed_neg q62 h
                  refine iq_iconst hS 66 J_MPlaceRows_leads_d65 (v := 0) (by decide +kernel) rfl ?_
                  exact iq_iret J_MPlaceRows_leads_d66 rfl rfl ⟨_, rfl, rfl, ed_some (hR1 _ (lq_r h hq1))⟩
  exact I1 n1 _ _ (lk_1r l0 (by decide)) (lk_1i l1 (by decide)) lk_1s hn1
noncomputable def f_MPlaceRows_order_L13 (v6 : Int32) (M9 : im_M) (x7 : Int32) (x8 : Int32) : Option ((Int32 × Int32) ⊕ (Int32)) := if (im_i M9 130 8) ≤ x8 then some (.inr x7) else bd1 (jn0 (fun (_ : Unit) => some 1) fun k11 => if v6 < 0 then k11 () else bd1 (f_MPlaceRows_isBefore v6 x8 M9) fun (x12 : Int32) => if x12 = 0 then some 0 else k11 ()) fun (y17 : Int32) => bd1 (if y17 = 0 then some x7 else bd1 (f_MPlaceRows_leads x8 M9) fun (x23 : Int32) => if x23 = 0 then some x7 else jn0 (fun (_ : Unit) => some x8) fun k24 => if x7 < 0 then k24 () else bd1 (f_MPlaceRows_isBefore x8 x7 M9) fun (x25 : Int32) => if x25 = 0 then some x7 else k24 ()) fun (y29 : Int32) => some (.inl (y29, (x8 + 1)))
noncomputable def f_MPlaceRows_order_L93 (v37 : Int32) (v38 : Int32) (x39 : Int32) (M40 : im_M) : Option ((Int32 × im_M) ⊕ (im_M)) := if 6 ≤ x39 then some (.inr M40) else if v37 = 0 then some (.inr M40) else gd (inb (((6 : Int32) * v38) + x39) 1800) <| gd (inb (((6 : Int32) * (im_i M40 130 10)) + x39) 1800) <| some (.inl ((x39 + 1), (im_setI M40 135 (Int32.toNatClampNeg (((6 : Int32) * (im_i M40 130 10)) + x39)) (im_i M40 134 (Int32.toNatClampNeg (((6 : Int32) * v38) + x39))))))
noncomputable def f_MPlaceRows_order_L4 (x2 : Int32) (x3 : Int32) (M4 : im_M) : Option ((Int32 × Int32 × im_M) ⊕ (im_M)) := if x3 = 0 then some (.inr M4) else bd1 (lp (uc2 (f_MPlaceRows_order_L13 x2 M4)) ((-1), 0)) fun (y34 : Int32) => bd1 (lp (uc2 (f_MPlaceRows_order_L93 ((if y34 < 0 then 0 else 1) : Int32) y34)) (0, M4)) fun (M41 : im_M) => some (.inl (y34, ((if y34 < 0 then 0 else 1) : Int32), (im_setI M41 130 10 ((if ((if y34 < 0 then 0 else 1) : Int32) = 0 then (im_i M41 130 10) else ((im_i M41 130 10) + 1)) : Int32))))
noncomputable def f_MPlaceRows_order (M : im_M) : Option (im_M) := bd1 (lp (uc3 (f_MPlaceRows_order_L4)) ((-1), 1, M)) fun (M43 : im_M) => some M43
theorem J_MPlaceRows_order_d0 : decode J_MPlaceRows_order.2.1 0 = .ok (.iconst (-1), 1) := by decide +kernel
theorem J_MPlaceRows_order_d1 : decode J_MPlaceRows_order.2.1 1 = .ok (.istore_n 1, 1) := by decide +kernel
theorem J_MPlaceRows_order_d2 : decode J_MPlaceRows_order.2.1 2 = .ok (.iconst 1, 1) := by decide +kernel
theorem J_MPlaceRows_order_d3 : decode J_MPlaceRows_order.2.1 3 = .ok (.istore_n 2, 1) := by decide +kernel
theorem J_MPlaceRows_order_d4 : decode J_MPlaceRows_order.2.1 4 = .ok (.iload_n 2, 1) := by decide +kernel
theorem J_MPlaceRows_order_d5 : decode J_MPlaceRows_order.2.1 5 = .ok (.ifCond .eq 158, 3) := by decide +kernel
theorem J_MPlaceRows_order_d8 : decode J_MPlaceRows_order.2.1 8 = .ok (.iconst (-1), 1) := by decide +kernel
theorem J_MPlaceRows_order_d9 : decode J_MPlaceRows_order.2.1 9 = .ok (.istore_n 3, 1) := by decide +kernel
theorem J_MPlaceRows_order_d10 : decode J_MPlaceRows_order.2.1 10 = .ok (.iconst 0, 1) := by decide +kernel
theorem J_MPlaceRows_order_d11 : decode J_MPlaceRows_order.2.1 11 = .ok (.istore 4, 2) := by decide +kernel
theorem J_MPlaceRows_order_d13 : decode J_MPlaceRows_order.2.1 13 = .ok (.iload 4, 2) := by decide +kernel
theorem J_MPlaceRows_order_d15 : decode J_MPlaceRows_order.2.1 15 = .ok (.aload_n 0, 1) := by decide +kernel
theorem J_MPlaceRows_order_d16 : decode J_MPlaceRows_order.2.1 16 = .ok (.getfield 38, 3) := by decide +kernel
theorem J_MPlaceRows_order_d19 : decode J_MPlaceRows_order.2.1 19 = .ok (.if_icmp .ge 61, 3) := by decide +kernel
theorem J_MPlaceRows_order_d22 : decode J_MPlaceRows_order.2.1 22 = .ok (.iload_n 1, 1) := by decide +kernel
theorem J_MPlaceRows_order_d23 : decode J_MPlaceRows_order.2.1 23 = .ok (.ifCond .lt 13, 3) := by decide +kernel
theorem J_MPlaceRows_order_d26 : decode J_MPlaceRows_order.2.1 26 = .ok (.aload_n 0, 1) := by decide +kernel
theorem J_MPlaceRows_order_d27 : decode J_MPlaceRows_order.2.1 27 = .ok (.iload_n 1, 1) := by decide +kernel
theorem J_MPlaceRows_order_d28 : decode J_MPlaceRows_order.2.1 28 = .ok (.iload 4, 2) := by decide +kernel
theorem J_MPlaceRows_order_d30 : decode J_MPlaceRows_order.2.1 30 = .ok (.invokevirtual 105, 3) := by decide +kernel
theorem J_MPlaceRows_order_d33 : decode J_MPlaceRows_order.2.1 33 = .ok (.ifCond .eq 7, 3) := by decide +kernel
theorem J_MPlaceRows_order_d36 : decode J_MPlaceRows_order.2.1 36 = .ok (.iconst 1, 1) := by decide +kernel
theorem J_MPlaceRows_order_d37 : decode J_MPlaceRows_order.2.1 37 = .ok (.goto 4, 3) := by decide +kernel
theorem J_MPlaceRows_order_d40 : decode J_MPlaceRows_order.2.1 40 = .ok (.iconst 0, 1) := by decide +kernel
theorem J_MPlaceRows_order_d41 : decode J_MPlaceRows_order.2.1 41 = .ok (.istore 5, 2) := by decide +kernel
theorem J_MPlaceRows_order_d43 : decode J_MPlaceRows_order.2.1 43 = .ok (.iload 5, 2) := by decide +kernel
theorem J_MPlaceRows_order_d45 : decode J_MPlaceRows_order.2.1 45 = .ok (.ifCond .eq 29, 3) := by decide +kernel
theorem J_MPlaceRows_order_d48 : decode J_MPlaceRows_order.2.1 48 = .ok (.aload_n 0, 1) := by decide +kernel
theorem J_MPlaceRows_order_d49 : decode J_MPlaceRows_order.2.1 49 = .ok (.iload 4, 2) := by decide +kernel
theorem J_MPlaceRows_order_d51 : decode J_MPlaceRows_order.2.1 51 = .ok (.invokevirtual 108, 3) := by decide +kernel
theorem J_MPlaceRows_order_d54 : decode J_MPlaceRows_order.2.1 54 = .ok (.ifCond .eq 20, 3) := by decide +kernel
theorem J_MPlaceRows_order_d57 : decode J_MPlaceRows_order.2.1 57 = .ok (.iload_n 3, 1) := by decide +kernel
theorem J_MPlaceRows_order_d58 : decode J_MPlaceRows_order.2.1 58 = .ok (.ifCond .lt 13, 3) := by decide +kernel
theorem J_MPlaceRows_order_d61 : decode J_MPlaceRows_order.2.1 61 = .ok (.aload_n 0, 1) := by decide +kernel
theorem J_MPlaceRows_order_d62 : decode J_MPlaceRows_order.2.1 62 = .ok (.iload 4, 2) := by decide +kernel
theorem J_MPlaceRows_order_d64 : decode J_MPlaceRows_order.2.1 64 = .ok (.iload_n 3, 1) := by decide +kernel
theorem J_MPlaceRows_order_d65 : decode J_MPlaceRows_order.2.1 65 = .ok (.invokevirtual 105, 3) := by decide +kernel
theorem J_MPlaceRows_order_d68 : decode J_MPlaceRows_order.2.1 68 = .ok (.ifCond .eq 6, 3) := by decide +kernel
theorem J_MPlaceRows_order_d71 : decode J_MPlaceRows_order.2.1 71 = .ok (.iload 4, 2) := by decide +kernel
theorem J_MPlaceRows_order_d73 : decode J_MPlaceRows_order.2.1 73 = .ok (.istore_n 3, 1) := by decide +kernel
theorem J_MPlaceRows_order_d74 : decode J_MPlaceRows_order.2.1 74 = .ok (.iinc 4 1, 3) := by decide +kernel
theorem J_MPlaceRows_order_d77 : decode J_MPlaceRows_order.2.1 77 = .ok (.goto (-64), 3) := by decide +kernel
theorem J_MPlaceRows_order_d80 : decode J_MPlaceRows_order.2.1 80 = .ok (.iload_n 3, 1) := by decide +kernel
theorem J_MPlaceRows_order_d81 : decode J_MPlaceRows_order.2.1 81 = .ok (.ifCond .lt 7, 3) := by decide +kernel
theorem J_MPlaceRows_order_d84 : decode J_MPlaceRows_order.2.1 84 = .ok (.iconst 1, 1) := by decide +kernel
theorem J_MPlaceRows_order_d85 : decode J_MPlaceRows_order.2.1 85 = .ok (.goto 4, 3) := by decide +kernel
theorem J_MPlaceRows_order_d88 : decode J_MPlaceRows_order.2.1 88 = .ok (.iconst 0, 1) := by decide +kernel
theorem J_MPlaceRows_order_d89 : decode J_MPlaceRows_order.2.1 89 = .ok (.istore_n 2, 1) := by decide +kernel
theorem J_MPlaceRows_order_d90 : decode J_MPlaceRows_order.2.1 90 = .ok (.iconst 0, 1) := by decide +kernel
theorem J_MPlaceRows_order_d91 : decode J_MPlaceRows_order.2.1 91 = .ok (.istore 4, 2) := by decide +kernel
theorem J_MPlaceRows_order_d93 : decode J_MPlaceRows_order.2.1 93 = .ok (.iload 4, 2) := by decide +kernel
theorem J_MPlaceRows_order_d95 : decode J_MPlaceRows_order.2.1 95 = .ok (.bipush 6, 2) := by decide +kernel
theorem J_MPlaceRows_order_d97 : decode J_MPlaceRows_order.2.1 97 = .ok (.if_icmp .ge 40, 3) := by decide +kernel
theorem J_MPlaceRows_order_d100 : decode J_MPlaceRows_order.2.1 100 = .ok (.iload_n 2, 1) := by decide +kernel
theorem J_MPlaceRows_order_d101 : decode J_MPlaceRows_order.2.1 101 = .ok (.ifCond .eq 36, 3) := by decide +kernel
theorem J_MPlaceRows_order_d104 : decode J_MPlaceRows_order.2.1 104 = .ok (.aload_n 0, 1) := by decide +kernel
theorem J_MPlaceRows_order_d105 : decode J_MPlaceRows_order.2.1 105 = .ok (.getfield 32, 3) := by decide +kernel
theorem J_MPlaceRows_order_d108 : decode J_MPlaceRows_order.2.1 108 = .ok (.bipush 6, 2) := by decide +kernel
theorem J_MPlaceRows_order_d110 : decode J_MPlaceRows_order.2.1 110 = .ok (.aload_n 0, 1) := by decide +kernel
theorem J_MPlaceRows_order_d111 : decode J_MPlaceRows_order.2.1 111 = .ok (.getfield 41, 3) := by decide +kernel
theorem J_MPlaceRows_order_d114 : decode J_MPlaceRows_order.2.1 114 = .ok (.imul, 1) := by decide +kernel
theorem J_MPlaceRows_order_d115 : decode J_MPlaceRows_order.2.1 115 = .ok (.iload 4, 2) := by decide +kernel
theorem J_MPlaceRows_order_d117 : decode J_MPlaceRows_order.2.1 117 = .ok (.iadd, 1) := by decide +kernel
theorem J_MPlaceRows_order_d118 : decode J_MPlaceRows_order.2.1 118 = .ok (.aload_n 0, 1) := by decide +kernel
theorem J_MPlaceRows_order_d119 : decode J_MPlaceRows_order.2.1 119 = .ok (.getfield 29, 3) := by decide +kernel
theorem J_MPlaceRows_order_d122 : decode J_MPlaceRows_order.2.1 122 = .ok (.bipush 6, 2) := by decide +kernel
theorem J_MPlaceRows_order_d124 : decode J_MPlaceRows_order.2.1 124 = .ok (.iload_n 3, 1) := by decide +kernel
theorem J_MPlaceRows_order_d125 : decode J_MPlaceRows_order.2.1 125 = .ok (.imul, 1) := by decide +kernel
theorem J_MPlaceRows_order_d126 : decode J_MPlaceRows_order.2.1 126 = .ok (.iload 4, 2) := by decide +kernel
theorem J_MPlaceRows_order_d128 : decode J_MPlaceRows_order.2.1 128 = .ok (.iadd, 1) := by decide +kernel
theorem J_MPlaceRows_order_d129 : decode J_MPlaceRows_order.2.1 129 = .ok (.iaload, 1) := by decide +kernel
theorem J_MPlaceRows_order_d130 : decode J_MPlaceRows_order.2.1 130 = .ok (.iastore, 1) := by decide +kernel
theorem J_MPlaceRows_order_d131 : decode J_MPlaceRows_order.2.1 131 = .ok (.iinc 4 1, 3) := by decide +kernel
theorem J_MPlaceRows_order_d134 : decode J_MPlaceRows_order.2.1 134 = .ok (.goto (-41), 3) := by decide +kernel
theorem J_MPlaceRows_order_d137 : decode J_MPlaceRows_order.2.1 137 = .ok (.aload_n 0, 1) := by decide +kernel
theorem J_MPlaceRows_order_d138 : decode J_MPlaceRows_order.2.1 138 = .ok (.iload_n 2, 1) := by decide +kernel
theorem J_MPlaceRows_order_d139 : decode J_MPlaceRows_order.2.1 139 = .ok (.ifCond .eq 12, 3) := by decide +kernel
theorem J_MPlaceRows_order_d142 : decode J_MPlaceRows_order.2.1 142 = .ok (.aload_n 0, 1) := by decide +kernel
theorem J_MPlaceRows_order_d143 : decode J_MPlaceRows_order.2.1 143 = .ok (.getfield 41, 3) := by decide +kernel
theorem J_MPlaceRows_order_d146 : decode J_MPlaceRows_order.2.1 146 = .ok (.iconst 1, 1) := by decide +kernel
theorem J_MPlaceRows_order_d147 : decode J_MPlaceRows_order.2.1 147 = .ok (.iadd, 1) := by decide +kernel
theorem J_MPlaceRows_order_d148 : decode J_MPlaceRows_order.2.1 148 = .ok (.goto 7, 3) := by decide +kernel
theorem J_MPlaceRows_order_d151 : decode J_MPlaceRows_order.2.1 151 = .ok (.aload_n 0, 1) := by decide +kernel
theorem J_MPlaceRows_order_d152 : decode J_MPlaceRows_order.2.1 152 = .ok (.getfield 41, 3) := by decide +kernel
theorem J_MPlaceRows_order_d155 : decode J_MPlaceRows_order.2.1 155 = .ok (.putfield 41, 3) := by decide +kernel
theorem J_MPlaceRows_order_d158 : decode J_MPlaceRows_order.2.1 158 = .ok (.iload_n 3, 1) := by decide +kernel
theorem J_MPlaceRows_order_d159 : decode J_MPlaceRows_order.2.1 159 = .ok (.istore_n 1, 1) := by decide +kernel
theorem J_MPlaceRows_order_d160 : decode J_MPlaceRows_order.2.1 160 = .ok (.goto (-156), 3) := by decide +kernel
theorem J_MPlaceRows_order_d163 : decode J_MPlaceRows_order.2.1 163 = .ok (.return_, 1) := by decide +kernel
theorem f_MPlaceRows_order_ok {L : Nat} {xs : Nat → Int32} {dep : Nat} {w : Bool} {M : im_M} {Q : im_M → Prop} (hM : lw_S w M) (h : ed (f_MPlaceRows_order M) Q) : ia (tb_G L xs) (dep + 3) J_MPlaceRows_order (rwV w Q) (0, lv_args 0 [.ref 130], [], M) := by
  have hS : im_St (tb_G L xs) (dep + 3) J_MPlaceRows_order (ia (tb_G L xs) (dep + 3) J_MPlaceRows_order (rwV w Q)) := ia_St
  unfold f_MPlaceRows_order at h
  have l0 : im_lk (lv_args 0 [.ref 130]) 0 = some (.ref 130) := rfl
  refine iq_iconst hS 1 J_MPlaceRows_order_d0 (v := (-1)) (by decide +kernel) rfl ?_
  refine iq_istore_n hS 2 J_MPlaceRows_order_d1 (by decide) rfl ?_
  refine iq_iconst hS 3 J_MPlaceRows_order_d2 (v := 1) (by decide +kernel) rfl ?_
  refine iq_istore_n hS 4 J_MPlaceRows_order_d3 (by decide) rfl ?_
  obtain ⟨Q1, hQ1, h⟩ := bd1_ed h
  have K1 : ∀ (M2 : im_M) (L' : List (Nat × Value)), lw_S w M2 → Q1 M2 → ia (tb_G L xs) (dep + 3) J_MPlaceRows_order (rwV w Q) (163, L', [], M2) := by
    intro M2 L' hM2  h
    replace h := hQ1 _ h
    exact iq_ret J_MPlaceRows_order_d163 rfl ⟨rfl, hM2, ed_some h⟩
  obtain ⟨r1, hr1, hq1⟩ := h
  obtain ⟨n1, hn1⟩ := lp_n hr1
  have I1 : ∀ (n : Nat) (x3 : Int32) (x4 : Int32) (M5 : im_M) (L' : List (Nat × Value)), lw_S w M5 → im_lk L' 0 = some (.ref 130) → im_lk L' 1 = some (.int x3) → im_lk L' 2 = some (.int x4) → lpn (uc3 (f_MPlaceRows_order_L4)) n (x3, x4, M5) = some r1 → ia (tb_G L xs) (dep + 3) J_MPlaceRows_order (rwV w Q) (4, L', [], M5) := by
    intro n
    induction n with
    | zero => intro x3 x4 M5 L' hM5 l6 l7 l8 hn; exact (lpn_0 hn).elim
    | succ n ih =>
      intro x3 x4 M5 L' hM5 l6 l7 l8 hn
      have h := lpn_ed3 hn
      unfold f_MPlaceRows_order_L4 at h
      refine iq_iload_n hS 5 J_MPlaceRows_order_d4 l8 rfl ?_
      refine iq_if_eq hS 8 J_MPlaceRows_order_d5 (t := 163) rfl (fun q5 => ?_) rfl (fun q5 => ?_)
      · replace h := ed_pos q5 h
        exact K1 _ _ hM5  (lq_r h hq1)
      · replace h := ed_neg q5 h
        refine iq_iconst hS 9 J_MPlaceRows_order_d8 (v := (-1)) (by decide +kernel) rfl ?_
        refine iq_istore_n hS 10 J_MPlaceRows_order_d9 (by decide) rfl ?_
        refine iq_iconst hS 11 J_MPlaceRows_order_d10 (v := 0) (by decide +kernel) rfl ?_
        refine iq_istore hS 13 J_MPlaceRows_order_d11 (by decide) rfl ?_
        obtain ⟨Q9, hQ9, h⟩ := bd1_ed h
        have K9 : ∀ (y10 : Int32) (L' : List (Nat × Value)), im_lk L' 0 = some (.ref 130) → im_lk L' 3 = some (.int y10) → Q9 y10 → ia (tb_G L xs) (dep + 3) J_MPlaceRows_order (rwV w Q) (80, L', [], M5) := by
          intro y10 L' l11 l12 h
          replace h := hQ9 _ h
          refine iq_iload_n hS 81 J_MPlaceRows_order_d80 l12 rfl ?_
          have J13 : ∀ (z14 : Int32) (L' : List (Nat × Value)), z14 = ((if y10 < 0 then 0 else 1) : Int32) → im_lk L' 0 = some (.ref 130) → im_lk L' 3 = some (.int y10) → ia (tb_G L xs) (dep + 3) J_MPlaceRows_order (rwV w Q) (89, L', [.int z14], M5) := by
            intro z14 L' e15 l16 l17
            subst e15
            refine iq_istore_n hS 90 J_MPlaceRows_order_d89 (by decide) rfl ?_
            refine iq_iconst hS 91 J_MPlaceRows_order_d90 (v := 0) (by decide +kernel) rfl ?_
            refine iq_istore hS 93 J_MPlaceRows_order_d91 (by decide) rfl ?_
            obtain ⟨Q18, hQ18, h⟩ := bd1_ed h
            have K18 : ∀ (M19 : im_M) (L' : List (Nat × Value)), lw_S w M19 → im_lk L' 0 = some (.ref 130) → im_lk L' 2 = some (.int ((if y10 < 0 then 0 else 1) : Int32)) → im_lk L' 3 = some (.int y10) → Q18 M19 → ia (tb_G L xs) (dep + 3) J_MPlaceRows_order (rwV w Q) (137, L', [], M19) := by
              intro M19 L' hM19 l20 l21 l22 h
              replace h := hQ18 _ h
              refine iq_aload_n hS 138 J_MPlaceRows_order_d137 l20 rfl ?_
              refine iq_iload_n hS 139 J_MPlaceRows_order_d138 l21 rfl ?_
              have J23 : ∀ (z24 : Int32) (L' : List (Nat × Value)), z24 = ((if ((if y10 < 0 then 0 else 1) : Int32) = 0 then (im_i M19 130 10) else ((im_i M19 130 10) + 1)) : Int32) → im_lk L' 0 = some (.ref 130) → im_lk L' 2 = some (.int ((if y10 < 0 then 0 else 1) : Int32)) → im_lk L' 3 = some (.int y10) → ia (tb_G L xs) (dep + 3) J_MPlaceRows_order (rwV w Q) (155, L', [.int z24, .ref 130], M19) := by
                intro z24 L' e25 l26 l27 l28
                subst e25
                refine iq_putI hS 158 J_MPlaceRows_order_d155 lf_14_41 (Or.inl rfl) rfl (ka_130 hM19) rfl ?_
                refine iq_iload_n hS 159 J_MPlaceRows_order_d158 l28 rfl ?_
                refine iq_istore_n hS 160 J_MPlaceRows_order_d159 (by decide) rfl ?_
                refine iq_goto hS J_MPlaceRows_order_d160 (t := 4) rfl ?_
                exact ih _ _ _ _ hM19 (lk_1r l26 (by decide)) lk_1s (lk_1i l27 (by decide)) (lq_l h)
              refine iq_if_eq hS 142 J_MPlaceRows_order_d139 (t := 151) rfl (fun q139 => ?_) rfl (fun q139 => ?_)
              · refine iq_aload_n hS 152 J_MPlaceRows_order_d151 l20 rfl ?_
                refine iq_getI hS 155 J_MPlaceRows_order_d152 lf_14_41 (Or.inl rfl) (ka_130 hM19) rfl ?_
                exact J23 _ _ (by rw [if_pos q139]) l20 l21 l22
              · refine iq_aload_n hS 143 J_MPlaceRows_order_d142 l20 rfl ?_
                refine iq_getI hS 146 J_MPlaceRows_order_d143 lf_14_41 (Or.inl rfl) (ka_130 hM19) rfl ?_
                refine iq_iconst hS 147 J_MPlaceRows_order_d146 (v := 1) (by decide +kernel) rfl ?_
                refine iq_iadd hS 148 J_MPlaceRows_order_d147 rfl ?_
                refine iq_goto hS J_MPlaceRows_order_d148 (t := 155) rfl ?_
                exact J23 _ _ (by rw [if_neg q139]) l20 l21 l22
            obtain ⟨r18, hr18, hq18⟩ := h
            obtain ⟨n18, hn18⟩ := lp_n hr18
            have I18 : ∀ (n : Nat) (x29 : Int32) (M30 : im_M) (L' : List (Nat × Value)), lw_S w M30 → im_lk L' 0 = some (.ref 130) → im_lk L' 2 = some (.int ((if y10 < 0 then 0 else 1) : Int32)) → im_lk L' 3 = some (.int y10) → im_lk L' 4 = some (.int x29) → lpn (uc2 (f_MPlaceRows_order_L93 ((if y10 < 0 then 0 else 1) : Int32) y10)) n (x29, M30) = some r18 → ia (tb_G L xs) (dep + 3) J_MPlaceRows_order (rwV w Q) (93, L', [], M30) := by
              intro n
              induction n with
              | zero => intro x29 M30 L' hM30 l31 l32 l33 l34 hn; exact (lpn_0 hn).elim
              | succ n ih =>
                intro x29 M30 L' hM30 l31 l32 l33 l34 hn
                have h := lpn_ed2 hn
                unfold f_MPlaceRows_order_L93 at h
                refine iq_iload hS 95 J_MPlaceRows_order_d93 l34 rfl ?_
                refine iq_bipush hS 97 J_MPlaceRows_order_d95 (v := 6) (by decide +kernel) rfl ?_
                refine iq_icmp_ge hS 100 J_MPlaceRows_order_d97 (t := 137) rfl (fun q97 => ?_) rfl (fun q97 => ?_)
                · replace h := ed_pos q97 h
                  exact K18 _ _ hM30 l31 l32 l33 (lq_r h hq18)
                · replace h := ed_neg q97 h
                  refine iq_iload_n hS 101 J_MPlaceRows_order_d100 l32 rfl ?_
                  refine iq_if_eq hS 104 J_MPlaceRows_order_d101 (t := 137) rfl (fun q101 => ?_) rfl (fun q101 => ?_)
                  · replace h := ed_pos q101 h
                    exact K18 _ _ hM30 l31 l32 l33 (lq_r h hq18)
                  · replace h := ed_neg q101 h
                    refine iq_aload_n hS 105 J_MPlaceRows_order_d104 l31 rfl ?_
                    refine iq_getR hS 108 J_MPlaceRows_order_d105 lf_14_32 (Or.inr ⟨_, rfl⟩) (ka_130 hM30) (ra_130_9 hM30) rfl ?_
                    refine iq_bipush hS 110 J_MPlaceRows_order_d108 (v := 6) (by decide +kernel) rfl ?_
                    refine iq_aload_n hS 111 J_MPlaceRows_order_d110 l31 rfl ?_
                    refine iq_getI hS 114 J_MPlaceRows_order_d111 lf_14_41 (Or.inl rfl) (ka_130 hM30) rfl ?_
                    refine iq_imul hS 115 J_MPlaceRows_order_d114 rfl ?_
                    refine iq_iload hS 117 J_MPlaceRows_order_d115 l34 rfl ?_
                    refine iq_iadd hS 118 J_MPlaceRows_order_d117 rfl ?_
                    refine iq_aload_n hS 119 J_MPlaceRows_order_d118 l31 rfl ?_
                    refine iq_getR hS 122 J_MPlaceRows_order_d119 lf_14_29 (Or.inr ⟨_, rfl⟩) (ka_130 hM30) (ra_130_7 hM30) rfl ?_
                    refine iq_bipush hS 124 J_MPlaceRows_order_d122 (v := 6) (by decide +kernel) rfl ?_
                    refine iq_iload_n hS 125 J_MPlaceRows_order_d124 l33 rfl ?_
                    refine iq_imul hS 126 J_MPlaceRows_order_d125 rfl ?_
                    refine iq_iload hS 128 J_MPlaceRows_order_d126 l34 rfl ?_
                    refine iq_iadd hS 129 J_MPlaceRows_order_d128 rfl ?_
                    obtain ⟨g129, h⟩ := ed_gd h
                    refine iq_iaload hS 130 J_MPlaceRows_order_d129 ⟨(ka_134 hM30).1, (ka_134 hM30).2, g129.1, ix_lt (kl_134 hM30) g129.2⟩ rfl ?_
                    obtain ⟨g130, h⟩ := ed_gd h
                    refine iq_iastore hS 131 J_MPlaceRows_order_d130 ⟨(ka_135 hM30).1, (ka_135 hM30).2, g130.1, ix_lt (kl_135 hM30) g130.2⟩ rfl ?_
                    refine iq_iincv hS 134 J_MPlaceRows_order_d131 (c := 1) (by decide +kernel) l34 (by decide) rfl ?_
                    refine iq_goto hS J_MPlaceRows_order_d134 (t := 93) rfl ?_
                    exact ih _ _ _ hM30 (lk_1r l31 (by decide)) (lk_1i l32 (by decide)) (lk_1i l33 (by decide)) lk_1s (lq_l h)
            exact I18 n18 _ _ _ hM5 (lk_1r (lk_1r l16 (by decide)) (by decide)) (lk_1i lk_1s (by decide)) (lk_1i (lk_1i l17 (by decide)) (by decide)) lk_1s hn18
          refine iq_if_lt hS 84 J_MPlaceRows_order_d81 (t := 88) rfl (fun q81 => ?_) rfl (fun q81 => ?_)
          · refine iq_iconst hS 89 J_MPlaceRows_order_d88 (v := 0) (by decide +kernel) rfl ?_
            exact J13 _ _ (by rw [if_pos q81]) l11 l12
          · refine iq_iconst hS 85 J_MPlaceRows_order_d84 (v := 1) (by decide +kernel) rfl ?_
            refine iq_goto hS J_MPlaceRows_order_d85 (t := 89) rfl ?_
            exact J13 _ _ (by rw [if_neg q81]) l11 l12
        obtain ⟨r9, hr9, hq9⟩ := h
        obtain ⟨n9, hn9⟩ := lp_n hr9
        have I9 : ∀ (n : Nat) (x35 : Int32) (x36 : Int32) (L' : List (Nat × Value)), im_lk L' 0 = some (.ref 130) → im_lk L' 1 = some (.int x3) → im_lk L' 3 = some (.int x35) → im_lk L' 4 = some (.int x36) → lpn (uc2 (f_MPlaceRows_order_L13 x3 M5)) n (x35, x36) = some r9 → ia (tb_G L xs) (dep + 3) J_MPlaceRows_order (rwV w Q) (13, L', [], M5) := by
          intro n
          induction n with
          | zero => intro x35 x36 L' l37 l38 l39 l40 hn; exact (lpn_0 hn).elim
          | succ n ih =>
            intro x35 x36 L' l37 l38 l39 l40 hn
            have h := lpn_ed2 hn
            unfold f_MPlaceRows_order_L13 at h
            refine iq_iload hS 15 J_MPlaceRows_order_d13 l40 rfl ?_
            refine iq_aload_n hS 16 J_MPlaceRows_order_d15 l37 rfl ?_
            refine iq_getI hS 19 J_MPlaceRows_order_d16 lf_14_38 (Or.inl rfl) (ka_130 hM5) rfl ?_
            refine iq_icmp_ge hS 22 J_MPlaceRows_order_d19 (t := 80) rfl (fun q19 => ?_) rfl (fun q19 => ?_)
            · replace h := ed_pos q19 h
              exact K9 _ _ l37 l39 (lq_r h hq9)
            · replace h := ed_neg q19 h
              refine iq_iload_n hS 23 J_MPlaceRows_order_d22 l38 rfl ?_
              obtain ⟨Q41, hQ41, h⟩ := bd1_ed h
              have J41 : ∀ (y48 : Int32) (L' : List (Nat × Value)), im_lk L' 0 = some (.ref 130) → im_lk L' 1 = some (.int x3) → im_lk L' 3 = some (.int x35) → im_lk L' 4 = some (.int x36) → Q41 y48 → ia (tb_G L xs) (dep + 3) J_MPlaceRows_order (rwV w Q) (41, L', [.int y48], M5) := by
                intro y48 L' l49 l50 l51 l52 h
                replace h := hQ41 _ h
                refine iq_istore hS 43 J_MPlaceRows_order_d41 (by decide) rfl ?_
                refine iq_iload hS 45 J_MPlaceRows_order_d43 lk_1s rfl ?_
                obtain ⟨Q53, hQ53, h⟩ := bd1_ed h
                have J53 : ∀ (y60 : Int32) (L' : List (Nat × Value)), im_lk L' 0 = some (.ref 130) → im_lk L' 1 = some (.int x3) → im_lk L' 3 = some (.int y60) → im_lk L' 4 = some (.int x36) → Q53 y60 → ia (tb_G L xs) (dep + 3) J_MPlaceRows_order (rwV w Q) (74, L', [], M5) := by
                  intro y60 L' l61 l62 l63 l64 h
                  replace h := hQ53 _ h
                  refine iq_iincv hS 77 J_MPlaceRows_order_d74 (c := 1) (by decide +kernel) l64 (by decide) rfl ?_
                  refine iq_goto hS J_MPlaceRows_order_d77 (t := 13) rfl ?_
                  exact ih _ _ _ (lk_1r l61 (by decide)) (lk_1i l62 (by decide)) (lk_1i l63 (by decide)) lk_1s (lq_l h)
                refine iq_if_eq hS 48 J_MPlaceRows_order_d45 (t := 74) rfl (fun q45 => ?_) rfl (fun q45 => ?_)
                · replace h := ed_pos q45 h
                  exact J53 _ _ (lk_1r l49 (by decide)) (lk_1i l50 (by decide)) (lk_1i l51 (by decide)) (lk_1i l52 (by decide)) (ed_some h)
                · replace h := ed_neg q45 h
                  refine iq_aload_n hS 49 J_MPlaceRows_order_d48 (lk_1r l49 (by decide)) rfl ?_
                  refine iq_iload hS 51 J_MPlaceRows_order_d49 (lk_1i l52 (by decide)) rfl ?_
                  obtain ⟨Q54, hQ54, h⟩ := bd1_ed h
                  refine iq_cpI hS 54 J_MPlaceRows_order_d51 rfl (pr_inst (vs := [_]) lc_14_108 lT_472 rfl rfl (by decide) (by decide) rfl (Nat.le_of_ble_eq_true rfl) (Nat.le_of_ble_eq_true rfl) (fun _ => Or.inl (pr_b (ka_130 hM5) (by decide) rfl))) (f_MPlaceRows_leads_ok (dep := dep + 0) hM5 h) rfl ?_
                  intro x54 h
                  replace h := hQ54 _ h
                  refine iq_if_eq hS 57 J_MPlaceRows_order_d54 (t := 74) rfl (fun q54 => ?_) rfl (fun q54 => ?_)
                  · replace h := ed_pos q54 h
                    exact J53 _ _ (lk_1r l49 (by decide)) (lk_1i l50 (by decide)) (lk_1i l51 (by decide)) (lk_1i l52 (by decide)) (ed_some h)
                  · replace h := ed_neg q54 h
                    refine iq_iload_n hS 58 J_MPlaceRows_order_d57 (lk_1i l51 (by decide)) rfl ?_
                    obtain ⟨k55, Q55, hQ55, hk55, h⟩ := jn0_ed h
                    have J55 : ∀  (L' : List (Nat × Value)), im_lk L' 0 = some (.ref 130) → im_lk L' 1 = some (.int x3) → im_lk L' 4 = some (.int x36) → Q55 () → ia (tb_G L xs) (dep + 3) J_MPlaceRows_order (rwV w Q) (71, L', [], M5) := by
                      intro  L' l57 l58 l59 h
                      replace h := hQ55  h
                      refine iq_iload hS 73 J_MPlaceRows_order_d71 l59 rfl ?_
                      refine iq_istore_n hS 74 J_MPlaceRows_order_d73 (by decide) rfl ?_
                      exact J53 _ _ (lk_1r l57 (by decide)) (lk_1i l58 (by decide)) lk_1s (lk_1i l59 (by decide)) (ed_some h)
                    refine iq_if_lt hS 61 J_MPlaceRows_order_d58 (t := 71) rfl (fun q58 => ?_) rfl (fun q58 => ?_)
                    · replace h := ed_pos q58 h
                      exact J55  _ (lk_1r l49 (by decide)) (lk_1i l50 (by decide)) (lk_1i l52 (by decide)) (hk55  h)
                    · replace h := ed_neg q58 h
                      refine iq_aload_n hS 62 J_MPlaceRows_order_d61 (lk_1r l49 (by decide)) rfl ?_
                      refine iq_iload hS 64 J_MPlaceRows_order_d62 (lk_1i l52 (by decide)) rfl ?_
                      refine iq_iload_n hS 65 J_MPlaceRows_order_d64 (lk_1i l51 (by decide)) rfl ?_
                      obtain ⟨Q56, hQ56, h⟩ := bd1_ed h
                      refine iq_cpI hS 68 J_MPlaceRows_order_d65 rfl (pr_inst (vs := [_, _]) lc_14_105 lT_471 rfl rfl (by decide) (by decide) rfl (Nat.le_of_ble_eq_true rfl) (Nat.le_of_ble_eq_true rfl) (fun _ => Or.inl (pr_b (ka_130 hM5) (by decide) rfl))) (f_MPlaceRows_isBefore_ok (dep := dep + 2) hM5 h) rfl ?_
                      intro x56 h
                      replace h := hQ56 _ h
                      refine iq_if_eq hS 71 J_MPlaceRows_order_d68 (t := 74) rfl (fun q68 => ?_) rfl (fun q68 => ?_)
                      · replace h := ed_pos q68 h
                        exact J53 _ _ (lk_1r l49 (by decide)) (lk_1i l50 (by decide)) (lk_1i l51 (by decide)) (lk_1i l52 (by decide)) (ed_some h)
                      · replace h := ed_neg q68 h
                        exact J55  _ (lk_1r l49 (by decide)) (lk_1i l50 (by decide)) (lk_1i l52 (by decide)) (hk55  h)
              obtain ⟨k42, Q42, hQ42, hk42, h⟩ := jn0_ed h
              have J42 : ∀  (L' : List (Nat × Value)), im_lk L' 0 = some (.ref 130) → im_lk L' 1 = some (.int x3) → im_lk L' 3 = some (.int x35) → im_lk L' 4 = some (.int x36) → Q42 () → ia (tb_G L xs) (dep + 3) J_MPlaceRows_order (rwV w Q) (36, L', [], M5) := by
                intro  L' l44 l45 l46 l47 h
                replace h := hQ42  h
                refine iq_iconst hS 37 J_MPlaceRows_order_d36 (v := 1) (by decide +kernel) rfl ?_
                refine iq_goto hS J_MPlaceRows_order_d37 (t := 41) rfl ?_
                exact J41 _ _ l44 l45 l46 l47 (ed_some h)
              refine iq_if_lt hS 26 J_MPlaceRows_order_d23 (t := 36) rfl (fun q23 => ?_) rfl (fun q23 => ?_)
              · replace h := ed_pos q23 h
                exact J42  _ l37 l38 l39 l40 (hk42  h)
              · replace h := ed_neg q23 h
                refine iq_aload_n hS 27 J_MPlaceRows_order_d26 l37 rfl ?_
                refine iq_iload_n hS 28 J_MPlaceRows_order_d27 l38 rfl ?_
                refine iq_iload hS 30 J_MPlaceRows_order_d28 l40 rfl ?_
                obtain ⟨Q43, hQ43, h⟩ := bd1_ed h
                refine iq_cpI hS 33 J_MPlaceRows_order_d30 rfl (pr_inst (vs := [_, _]) lc_14_105 lT_471 rfl rfl (by decide) (by decide) rfl (Nat.le_of_ble_eq_true rfl) (Nat.le_of_ble_eq_true rfl) (fun _ => Or.inl (pr_b (ka_130 hM5) (by decide) rfl))) (f_MPlaceRows_isBefore_ok (dep := dep + 2) hM5 h) rfl ?_
                intro x43 h
                replace h := hQ43 _ h
                refine iq_if_eq hS 36 J_MPlaceRows_order_d33 (t := 40) rfl (fun q33 => ?_) rfl (fun q33 => ?_)
                · replace h := ed_pos q33 h
                  refine iq_iconst hS 41 J_MPlaceRows_order_d40 (v := 0) (by decide +kernel) rfl ?_
                  exact J41 _ _ l37 l38 l39 l40 (ed_some h)
                · replace h := ed_neg q33 h
                  exact J42  _ l37 l38 l39 l40 (hk42  h)
        exact I9 n9 _ _ _ (lk_1r (lk_1r l6 (by decide)) (by decide)) (lk_1i (lk_1i l7 (by decide)) (by decide)) (lk_1i lk_1s (by decide)) lk_1s hn9
  exact I1 n1 _ _ _ _ hM (lk_1r (lk_1r l0 (by decide)) (by decide)) (lk_1i lk_1s (by decide)) lk_1s hn1
noncomputable def f_MPlaceRows_find_L78 (v22 : Int32) (v23 : Int32) (v24 : Int32) (v25 : Int32) (x26 : Int32) (M27 : im_M) : Option ((Int32 × im_M) ⊕ ((im_M) ⊕ (Int32 × im_M))) := if v23 < x26 then some (.inr (.inl M27)) else bd2 (f_MPlaceRows_look x26 v25 v24 M27) fun (x28 : Int32) (M28 : im_M) => if ¬ x28 = 0 then some (.inl ((x26 + 1), M28)) else bd1 (f_MPlaceRows_forget M28) fun (M29 : im_M) => some (.inr (.inr ((-1), M29)))
noncomputable def f_MPlaceRows_find_L62 (v15 : Int32) (v16 : Int32) (v17 : Int32) (x18 : Int32) (M19 : im_M) : Option ((Int32 × im_M) ⊕ ((im_M) ⊕ (Int32 × im_M))) := if 40 < x18 then some (.inr (.inl M19)) else bd1 (f_MPlaceRows_list x18 M19) fun (M20 : im_M) => bs1 (lp (uc2 (f_MPlaceRows_find_L78 v15 v16 v17 x18)) (v15, M20)) (fun (M30 : im_M) => some (.inl ((x18 + 1), M30))) (fun t => some (.inr (.inr t)))
noncomputable def f_MPlaceRows_find (p0 : Int32) (p1 : Int32) (p2 : Int32) (M : im_M) : Option (Int32 × im_M) := bd1 (jn0 (fun (_ : Unit) => some 1) fun k2 => if p0 < 1 then k2 () else if 16 < p0 then k2 () else if p1 < p0 then k2 () else if 16 < p1 then k2 () else if p2 < 0 then k2 () else if p2 ≤ 500 then some 0 else k2 ()) fun (y7 : Int32) => if (im_i (im_setI M 130 0 y7) 130 0) ≤ 0 then bd1 (f_MPlaceRows_forget (im_setI M 130 0 y7)) fun (M12 : im_M) => bd1 (f_MPlaceRows_add M12) fun (M13 : im_M) => bs1 (lp (uc2 (f_MPlaceRows_find_L62 p0 p1 p2)) (1, M13)) (fun (M31 : im_M) => bd1 (f_MPlaceRows_order M31) fun (M32 : im_M) => some ((im_i M32 130 10), M32)) (fun t => some t) else some (0, (im_setI M 130 0 y7))
theorem J_MPlaceRows_find_d0 : decode J_MPlaceRows_find.2.1 0 = .ok (.aload_n 0, 1) := by decide +kernel
theorem J_MPlaceRows_find_d1 : decode J_MPlaceRows_find.2.1 1 = .ok (.iload_n 1, 1) := by decide +kernel
theorem J_MPlaceRows_find_d2 : decode J_MPlaceRows_find.2.1 2 = .ok (.iconst 1, 1) := by decide +kernel
theorem J_MPlaceRows_find_d3 : decode J_MPlaceRows_find.2.1 3 = .ok (.if_icmp .lt 31, 3) := by decide +kernel
theorem J_MPlaceRows_find_d6 : decode J_MPlaceRows_find.2.1 6 = .ok (.iload_n 1, 1) := by decide +kernel
theorem J_MPlaceRows_find_d7 : decode J_MPlaceRows_find.2.1 7 = .ok (.bipush 16, 2) := by decide +kernel
theorem J_MPlaceRows_find_d9 : decode J_MPlaceRows_find.2.1 9 = .ok (.if_icmp .gt 25, 3) := by decide +kernel
theorem J_MPlaceRows_find_d12 : decode J_MPlaceRows_find.2.1 12 = .ok (.iload_n 2, 1) := by decide +kernel
theorem J_MPlaceRows_find_d13 : decode J_MPlaceRows_find.2.1 13 = .ok (.iload_n 1, 1) := by decide +kernel
theorem J_MPlaceRows_find_d14 : decode J_MPlaceRows_find.2.1 14 = .ok (.if_icmp .lt 20, 3) := by decide +kernel
theorem J_MPlaceRows_find_d17 : decode J_MPlaceRows_find.2.1 17 = .ok (.iload_n 2, 1) := by decide +kernel
theorem J_MPlaceRows_find_d18 : decode J_MPlaceRows_find.2.1 18 = .ok (.bipush 16, 2) := by decide +kernel
theorem J_MPlaceRows_find_d20 : decode J_MPlaceRows_find.2.1 20 = .ok (.if_icmp .gt 14, 3) := by decide +kernel
theorem J_MPlaceRows_find_d23 : decode J_MPlaceRows_find.2.1 23 = .ok (.iload_n 3, 1) := by decide +kernel
theorem J_MPlaceRows_find_d24 : decode J_MPlaceRows_find.2.1 24 = .ok (.ifCond .lt 10, 3) := by decide +kernel
theorem J_MPlaceRows_find_d27 : decode J_MPlaceRows_find.2.1 27 = .ok (.iload_n 3, 1) := by decide +kernel
theorem J_MPlaceRows_find_d28 : decode J_MPlaceRows_find.2.1 28 = .ok (.sipush 500, 3) := by decide +kernel
theorem J_MPlaceRows_find_d31 : decode J_MPlaceRows_find.2.1 31 = .ok (.if_icmp .le 7, 3) := by decide +kernel
theorem J_MPlaceRows_find_d34 : decode J_MPlaceRows_find.2.1 34 = .ok (.iconst 1, 1) := by decide +kernel
theorem J_MPlaceRows_find_d35 : decode J_MPlaceRows_find.2.1 35 = .ok (.goto 4, 3) := by decide +kernel
theorem J_MPlaceRows_find_d38 : decode J_MPlaceRows_find.2.1 38 = .ok (.iconst 0, 1) := by decide +kernel
theorem J_MPlaceRows_find_d39 : decode J_MPlaceRows_find.2.1 39 = .ok (.putfield 35, 3) := by decide +kernel
theorem J_MPlaceRows_find_d42 : decode J_MPlaceRows_find.2.1 42 = .ok (.aload_n 0, 1) := by decide +kernel
theorem J_MPlaceRows_find_d43 : decode J_MPlaceRows_find.2.1 43 = .ok (.getfield 35, 3) := by decide +kernel
theorem J_MPlaceRows_find_d46 : decode J_MPlaceRows_find.2.1 46 = .ok (.ifCond .le 5, 3) := by decide +kernel
theorem J_MPlaceRows_find_d49 : decode J_MPlaceRows_find.2.1 49 = .ok (.iconst 0, 1) := by decide +kernel
theorem J_MPlaceRows_find_d50 : decode J_MPlaceRows_find.2.1 50 = .ok (.ireturn, 1) := by decide +kernel
theorem J_MPlaceRows_find_d51 : decode J_MPlaceRows_find.2.1 51 = .ok (.aload_n 0, 1) := by decide +kernel
theorem J_MPlaceRows_find_d52 : decode J_MPlaceRows_find.2.1 52 = .ok (.invokevirtual 44, 3) := by decide +kernel
theorem J_MPlaceRows_find_d55 : decode J_MPlaceRows_find.2.1 55 = .ok (.aload_n 0, 1) := by decide +kernel
theorem J_MPlaceRows_find_d56 : decode J_MPlaceRows_find.2.1 56 = .ok (.invokevirtual 112, 3) := by decide +kernel
theorem J_MPlaceRows_find_d59 : decode J_MPlaceRows_find.2.1 59 = .ok (.iconst 1, 1) := by decide +kernel
theorem J_MPlaceRows_find_d60 : decode J_MPlaceRows_find.2.1 60 = .ok (.istore 4, 2) := by decide +kernel
theorem J_MPlaceRows_find_d62 : decode J_MPlaceRows_find.2.1 62 = .ok (.iload 4, 2) := by decide +kernel
theorem J_MPlaceRows_find_d64 : decode J_MPlaceRows_find.2.1 64 = .ok (.bipush 40, 2) := by decide +kernel
theorem J_MPlaceRows_find_d66 : decode J_MPlaceRows_find.2.1 66 = .ok (.if_icmp .gt 48, 3) := by decide +kernel
theorem J_MPlaceRows_find_d69 : decode J_MPlaceRows_find.2.1 69 = .ok (.aload_n 0, 1) := by decide +kernel
theorem J_MPlaceRows_find_d70 : decode J_MPlaceRows_find.2.1 70 = .ok (.iload 4, 2) := by decide +kernel
theorem J_MPlaceRows_find_d72 : decode J_MPlaceRows_find.2.1 72 = .ok (.invokevirtual 115, 3) := by decide +kernel
theorem J_MPlaceRows_find_d75 : decode J_MPlaceRows_find.2.1 75 = .ok (.iload_n 1, 1) := by decide +kernel
theorem J_MPlaceRows_find_d76 : decode J_MPlaceRows_find.2.1 76 = .ok (.istore 5, 2) := by decide +kernel
theorem J_MPlaceRows_find_d78 : decode J_MPlaceRows_find.2.1 78 = .ok (.iload 5, 2) := by decide +kernel
theorem J_MPlaceRows_find_d80 : decode J_MPlaceRows_find.2.1 80 = .ok (.iload_n 2, 1) := by decide +kernel
theorem J_MPlaceRows_find_d81 : decode J_MPlaceRows_find.2.1 81 = .ok (.if_icmp .gt 27, 3) := by decide +kernel
theorem J_MPlaceRows_find_d84 : decode J_MPlaceRows_find.2.1 84 = .ok (.aload_n 0, 1) := by decide +kernel
theorem J_MPlaceRows_find_d85 : decode J_MPlaceRows_find.2.1 85 = .ok (.iload 5, 2) := by decide +kernel
theorem J_MPlaceRows_find_d87 : decode J_MPlaceRows_find.2.1 87 = .ok (.iload 4, 2) := by decide +kernel
theorem J_MPlaceRows_find_d89 : decode J_MPlaceRows_find.2.1 89 = .ok (.iload_n 3, 1) := by decide +kernel
theorem J_MPlaceRows_find_d90 : decode J_MPlaceRows_find.2.1 90 = .ok (.invokevirtual 119, 3) := by decide +kernel
theorem J_MPlaceRows_find_d93 : decode J_MPlaceRows_find.2.1 93 = .ok (.ifCond .ne 9, 3) := by decide +kernel
theorem J_MPlaceRows_find_d96 : decode J_MPlaceRows_find.2.1 96 = .ok (.aload_n 0, 1) := by decide +kernel
theorem J_MPlaceRows_find_d97 : decode J_MPlaceRows_find.2.1 97 = .ok (.invokevirtual 44, 3) := by decide +kernel
theorem J_MPlaceRows_find_d100 : decode J_MPlaceRows_find.2.1 100 = .ok (.iconst (-1), 1) := by decide +kernel
theorem J_MPlaceRows_find_d101 : decode J_MPlaceRows_find.2.1 101 = .ok (.ireturn, 1) := by decide +kernel
theorem J_MPlaceRows_find_d102 : decode J_MPlaceRows_find.2.1 102 = .ok (.iinc 5 1, 3) := by decide +kernel
theorem J_MPlaceRows_find_d105 : decode J_MPlaceRows_find.2.1 105 = .ok (.goto (-27), 3) := by decide +kernel
theorem J_MPlaceRows_find_d108 : decode J_MPlaceRows_find.2.1 108 = .ok (.iinc 4 1, 3) := by decide +kernel
theorem J_MPlaceRows_find_d111 : decode J_MPlaceRows_find.2.1 111 = .ok (.goto (-49), 3) := by decide +kernel
theorem J_MPlaceRows_find_d114 : decode J_MPlaceRows_find.2.1 114 = .ok (.aload_n 0, 1) := by decide +kernel
theorem J_MPlaceRows_find_d115 : decode J_MPlaceRows_find.2.1 115 = .ok (.invokevirtual 122, 3) := by decide +kernel
theorem J_MPlaceRows_find_d118 : decode J_MPlaceRows_find.2.1 118 = .ok (.aload_n 0, 1) := by decide +kernel
theorem J_MPlaceRows_find_d119 : decode J_MPlaceRows_find.2.1 119 = .ok (.getfield 41, 3) := by decide +kernel
theorem J_MPlaceRows_find_d122 : decode J_MPlaceRows_find.2.1 122 = .ok (.ireturn, 1) := by decide +kernel
theorem f_MPlaceRows_find_ok {L : Nat} {xs : Nat → Int32} {dep : Nat} {w : Bool} {p0 : Int32} {p1 : Int32} {p2 : Int32} {M : im_M} {Q : Int32 × im_M → Prop} (hM : lw_S w M) (h : ed (f_MPlaceRows_find p0 p1 p2 M) Q) : ia (tb_G L xs) (dep + 4) J_MPlaceRows_find (rwI w Q) (0, lv_args 0 [.ref 130, .int p0, .int p1, .int p2], [], M) := by
  have hS : im_St (tb_G L xs) (dep + 4) J_MPlaceRows_find (ia (tb_G L xs) (dep + 4) J_MPlaceRows_find (rwI w Q)) := ia_St
  unfold f_MPlaceRows_find at h
  have l0 : im_lk (lv_args 0 [.ref 130, .int p0, .int p1, .int p2]) 0 = some (.ref 130) := rfl
  have l1 : im_lk (lv_args 0 [.ref 130, .int p0, .int p1, .int p2]) 1 = some (.int p0) := rfl
  have l2 : im_lk (lv_args 0 [.ref 130, .int p0, .int p1, .int p2]) 2 = some (.int p1) := rfl
  have l3 : im_lk (lv_args 0 [.ref 130, .int p0, .int p1, .int p2]) 3 = some (.int p2) := rfl
  refine iq_aload_n hS 1 J_MPlaceRows_find_d0 l0 rfl ?_
  refine iq_iload_n hS 2 J_MPlaceRows_find_d1 l1 rfl ?_
  refine iq_iconst hS 3 J_MPlaceRows_find_d2 (v := 1) (by decide +kernel) rfl ?_
  obtain ⟨Q1, hQ1, h⟩ := bd1_ed h
  have J1 : ∀ (y7 : Int32) (L' : List (Nat × Value)), im_lk L' 0 = some (.ref 130) → im_lk L' 1 = some (.int p0) → im_lk L' 2 = some (.int p1) → im_lk L' 3 = some (.int p2) → Q1 y7 → ia (tb_G L xs) (dep + 4) J_MPlaceRows_find (rwI w Q) (39, L', [.int y7, .ref 130], M) := by
    intro y7 L' l8 l9 l10 l11 h
    replace h := hQ1 _ h
    refine iq_putI hS 42 J_MPlaceRows_find_d39 lf_14_35 (Or.inl rfl) rfl (ka_130 hM) rfl ?_
    refine iq_aload_n hS 43 J_MPlaceRows_find_d42 l8 rfl ?_
    refine iq_getI hS 46 J_MPlaceRows_find_d43 lf_14_35 (Or.inl rfl) (ka_130 hM) rfl ?_
    refine iq_if_le hS 49 J_MPlaceRows_find_d46 (t := 51) rfl (fun q46 => ?_) rfl (fun q46 => ?_)
    · replace h := ed_pos q46 h
      refine iq_aload_n hS 52 J_MPlaceRows_find_d51 l8 rfl ?_
      obtain ⟨Q12, hQ12, h⟩ := bd1_ed h
      refine iq_cwV hS 55 J_MPlaceRows_find_d52 rfl (pr_inst (vs := []) lc_14_44 lT_437 rfl rfl (by decide) (by decide) rfl (Nat.le_of_ble_eq_true rfl) (Nat.le_of_ble_eq_true rfl) (fun _ => Or.inl (pr_b (ka_130 hM) (by decide) rfl))) (f_MPlaceRows_forget_ok (dep := dep + 3) hM h) rfl ?_
      intro M12 hM12 h
      replace h := hQ12 _ h
      refine iq_aload_n hS 56 J_MPlaceRows_find_d55 l8 rfl ?_
      obtain ⟨Q13, hQ13, h⟩ := bd1_ed h
      refine iq_cwV hS 59 J_MPlaceRows_find_d56 rfl (pr_inst (vs := []) lc_14_112 lT_456 rfl rfl (by decide) (by decide) rfl (Nat.le_of_ble_eq_true rfl) (Nat.le_of_ble_eq_true rfl) (fun _ => Or.inl (pr_b (ka_130 hM12) (by decide) rfl))) (f_MPlaceRows_add_ok (dep := dep + 2) hM12 h) rfl ?_
      intro M13 hM13 h
      replace h := hQ13 _ h
      refine iq_iconst hS 60 J_MPlaceRows_find_d59 (v := 1) (by decide +kernel) rfl ?_
      refine iq_istore hS 62 J_MPlaceRows_find_d60 (by decide) rfl ?_
      obtain ⟨Q14, hQ14, hR14, h⟩ := bs1_ed h
      have K14 : ∀ (M15 : im_M) (L' : List (Nat × Value)), lw_S w M15 → im_lk L' 0 = some (.ref 130) → Q14 (.inl M15) → ia (tb_G L xs) (dep + 4) J_MPlaceRows_find (rwI w Q) (114, L', [], M15) := by
        intro M15 L' hM15 l16 h
        replace h := hQ14 _ h
        refine iq_aload_n hS 115 J_MPlaceRows_find_d114 l16 rfl ?_
        obtain ⟨Q17, hQ17, h⟩ := bd1_ed h
        refine iq_cwV hS 118 J_MPlaceRows_find_d115 rfl (pr_inst (vs := []) lc_14_122 lT_470 rfl rfl (by decide) (by decide) rfl (Nat.le_of_ble_eq_true rfl) (Nat.le_of_ble_eq_true rfl) (fun _ => Or.inl (pr_b (ka_130 hM15) (by decide) rfl))) (f_MPlaceRows_order_ok (dep := dep + 0) hM15 h) rfl ?_
        intro M17 hM17 h
        replace h := hQ17 _ h
        refine iq_aload_n hS 119 J_MPlaceRows_find_d118 l16 rfl ?_
        refine iq_getI hS 122 J_MPlaceRows_find_d119 lf_14_41 (Or.inl rfl) (ka_130 hM17) rfl ?_
        exact iq_iret J_MPlaceRows_find_d122 rfl rfl ⟨_, rfl, hM17, ed_some h⟩
      obtain ⟨r14, hr14, hq14⟩ := h
      obtain ⟨n14, hn14⟩ := lp_n hr14
      have I14 : ∀ (n : Nat) (x18 : Int32) (M19 : im_M) (L' : List (Nat × Value)), lw_S w M19 → im_lk L' 0 = some (.ref 130) → im_lk L' 1 = some (.int p0) → im_lk L' 2 = some (.int p1) → im_lk L' 3 = some (.int p2) → im_lk L' 4 = some (.int x18) → lpn (uc2 (f_MPlaceRows_find_L62 p0 p1 p2)) n (x18, M19) = some r14 → ia (tb_G L xs) (dep + 4) J_MPlaceRows_find (rwI w Q) (62, L', [], M19) := by
        intro n
        induction n with
        | zero => intro x18 M19 L' hM19 l20 l21 l22 l23 l24 hn; exact (lpn_0 hn).elim
        | succ n ih =>
          intro x18 M19 L' hM19 l20 l21 l22 l23 l24 hn
          have h := lpn_ed2 hn
          unfold f_MPlaceRows_find_L62 at h
          refine iq_iload hS 64 J_MPlaceRows_find_d62 l24 rfl ?_
          refine iq_bipush hS 66 J_MPlaceRows_find_d64 (v := 40) (by decide +kernel) rfl ?_
          refine iq_icmp_gt hS 69 J_MPlaceRows_find_d66 (t := 114) rfl (fun q66 => ?_) rfl (fun q66 => ?_)
          · replace h := ed_pos q66 h
            exact K14 _ _ hM19 l20 (lq_r h hq14)
          · replace h := ed_neg q66 h
            refine iq_aload_n hS 70 J_MPlaceRows_find_d69 l20 rfl ?_
            refine iq_iload hS 72 J_MPlaceRows_find_d70 l24 rfl ?_
            obtain ⟨Q25, hQ25, h⟩ := bd1_ed h
            refine iq_cwV hS 75 J_MPlaceRows_find_d72 rfl (pr_inst (vs := [_]) lc_14_115 lT_457 rfl rfl (by decide) (by decide) rfl (Nat.le_of_ble_eq_true rfl) (Nat.le_of_ble_eq_true rfl) (fun _ => Or.inl (pr_b (ka_130 hM19) (by decide) rfl))) (f_MPlaceRows_list_ok (dep := dep + 0) hM19 h) rfl ?_
            intro M25 hM25 h
            replace h := hQ25 _ h
            refine iq_iload_n hS 76 J_MPlaceRows_find_d75 l21 rfl ?_
            refine iq_istore hS 78 J_MPlaceRows_find_d76 (by decide) rfl ?_
            obtain ⟨Q26, hQ26, hR26, h⟩ := bs1_ed h
            have K26 : ∀ (M27 : im_M) (L' : List (Nat × Value)), lw_S w M27 → im_lk L' 0 = some (.ref 130) → im_lk L' 1 = some (.int p0) → im_lk L' 2 = some (.int p1) → im_lk L' 3 = some (.int p2) → im_lk L' 4 = some (.int x18) → Q26 (.inl M27) → ia (tb_G L xs) (dep + 4) J_MPlaceRows_find (rwI w Q) (108, L', [], M27) := by
              intro M27 L' hM27 l28 l29 l30 l31 l32 h
              replace h := hQ26 _ h
              refine iq_iincv hS 111 J_MPlaceRows_find_d108 (c := 1) (by decide +kernel) l32 (by decide) rfl ?_
              refine iq_goto hS J_MPlaceRows_find_d111 (t := 62) rfl ?_
              exact ih _ _ _ hM27 (lk_1r l28 (by decide)) (lk_1i l29 (by decide)) (lk_1i l30 (by decide)) (lk_1i l31 (by decide)) lk_1s (lq_l h)
            obtain ⟨r26, hr26, hq26⟩ := h
            obtain ⟨n26, hn26⟩ := lp_n hr26
            have I26 : ∀ (n : Nat) (x33 : Int32) (M34 : im_M) (L' : List (Nat × Value)), lw_S w M34 → im_lk L' 0 = some (.ref 130) → im_lk L' 1 = some (.int p0) → im_lk L' 2 = some (.int p1) → im_lk L' 3 = some (.int p2) → im_lk L' 4 = some (.int x18) → im_lk L' 5 = some (.int x33) → lpn (uc2 (f_MPlaceRows_find_L78 p0 p1 p2 x18)) n (x33, M34) = some r26 → ia (tb_G L xs) (dep + 4) J_MPlaceRows_find (rwI w Q) (78, L', [], M34) := by
              intro n
              induction n with
              | zero => intro x33 M34 L' hM34 l35 l36 l37 l38 l39 l40 hn; exact (lpn_0 hn).elim
              | succ n ih =>
                intro x33 M34 L' hM34 l35 l36 l37 l38 l39 l40 hn
                have h := lpn_ed2 hn
                unfold f_MPlaceRows_find_L78 at h
                refine iq_iload hS 80 J_MPlaceRows_find_d78 l40 rfl ?_
                refine iq_iload_n hS 81 J_MPlaceRows_find_d80 l37 rfl ?_
                refine iq_icmp_gt hS 84 J_MPlaceRows_find_d81 (t := 108) rfl (fun q81 => ?_) rfl (fun q81 => ?_)
                · replace h := ed_pos q81 h
                  exact K26 _ _ hM34 l35 l36 l37 l38 l39 (lq_r h hq26)
                · replace h := ed_neg q81 h
                  refine iq_aload_n hS 85 J_MPlaceRows_find_d84 l35 rfl ?_
                  refine iq_iload hS 87 J_MPlaceRows_find_d85 l40 rfl ?_
                  refine iq_iload hS 89 J_MPlaceRows_find_d87 l39 rfl ?_
                  refine iq_iload_n hS 90 J_MPlaceRows_find_d89 l38 rfl ?_
                  obtain ⟨Q41, hQ41, h⟩ := bd2_ed h
                  refine iq_cwI hS 93 J_MPlaceRows_find_d90 rfl (pr_inst (vs := [_, _, _]) lc_14_119 lT_462 rfl rfl (by decide) (by decide) rfl (Nat.le_of_ble_eq_true rfl) (Nat.le_of_ble_eq_true rfl) (fun _ => Or.inl (pr_b (ka_130 hM34) (by decide) rfl))) (f_MPlaceRows_look_ok (dep := dep + 0) hM34 h) rfl ?_
                  intro x41 M41 hM41 h
                  replace h := hQ41 _ _ h
                  refine iq_if_ne hS 96 J_MPlaceRows_find_d93 (t := 102) rfl (fun q93 => ?_) rfl (fun q93 => ?_)
                  · replace h := ed_pos q93 h
                    refine iq_iincv hS 105 J_MPlaceRows_find_d102 (c := 1) (by decide +kernel) l40 (by decide) rfl ?_
                    refine iq_goto hS J_MPlaceRows_find_d105 (t := 78) rfl ?_
                    exact ih _ _ _ hM41 (lk_1r l35 (by decide)) (lk_1i l36 (by decide)) (lk_1i l37 (by decide)) (lk_1i l38 (by decide)) (lk_1i l39 (by decide)) lk_1s (lq_l h)
                  · replace h := ed_neg q93 h
                    refine iq_aload_n hS 97 J_MPlaceRows_find_d96 l35 rfl ?_
                    obtain ⟨Q42, hQ42, h⟩ := bd1_ed h
                    refine iq_cwV hS 100 J_MPlaceRows_find_d97 rfl (pr_inst (vs := []) lc_14_44 lT_437 rfl rfl (by decide) (by decide) rfl (Nat.le_of_ble_eq_true rfl) (Nat.le_of_ble_eq_true rfl) (fun _ => Or.inl (pr_b (ka_130 hM41) (by decide) rfl))) (f_MPlaceRows_forget_ok (dep := dep + 3) hM41 h) rfl ?_
                    intro M42 hM42 h
                    replace h := hQ42 _ h
                    refine iq_iconst hS 101 J_MPlaceRows_find_d100 (v := (-1)) (by decide +kernel) rfl ?_
                    exact iq_iret J_MPlaceRows_find_d101 rfl rfl ⟨_, rfl, hM42, ed_some (hR14 _ (lq_r (hR26 _ (lq_r h hq26)) hq14))⟩
            exact I26 n26 _ _ _ hM25 (lk_1r l20 (by decide)) (lk_1i l21 (by decide)) (lk_1i l22 (by decide)) (lk_1i l23 (by decide)) (lk_1i l24 (by decide)) lk_1s hn26
      exact I14 n14 _ _ _ hM13 (lk_1r l8 (by decide)) (lk_1i l9 (by decide)) (lk_1i l10 (by decide)) (lk_1i l11 (by decide)) lk_1s hn14
    · replace h := ed_neg q46 h
      refine iq_iconst hS 50 J_MPlaceRows_find_d49 (v := 0) (by decide +kernel) rfl ?_
      exact iq_iret J_MPlaceRows_find_d50 rfl rfl ⟨_, rfl, hM, ed_some h⟩
  obtain ⟨k2, Q2, hQ2, hk2, h⟩ := jn0_ed h
  have J2 : ∀  (L' : List (Nat × Value)), im_lk L' 0 = some (.ref 130) → im_lk L' 1 = some (.int p0) → im_lk L' 2 = some (.int p1) → im_lk L' 3 = some (.int p2) → Q2 () → ia (tb_G L xs) (dep + 4) J_MPlaceRows_find (rwI w Q) (34, L', [.ref 130], M) := by
    intro  L' l3 l4 l5 l6 h
    replace h := hQ2  h
    refine iq_iconst hS 35 J_MPlaceRows_find_d34 (v := 1) (by decide +kernel) rfl ?_
    refine iq_goto hS J_MPlaceRows_find_d35 (t := 39) rfl ?_
    exact J1 _ _ l3 l4 l5 l6 (ed_some h)
  refine iq_icmp_lt hS 6 J_MPlaceRows_find_d3 (t := 34) rfl (fun q3 => ?_) rfl (fun q3 => ?_)
  · replace h := ed_pos q3 h
    exact J2  _ l0 l1 l2 l3 (hk2  h)
  · replace h := ed_neg q3 h
    refine iq_iload_n hS 7 J_MPlaceRows_find_d6 l1 rfl ?_
    refine iq_bipush hS 9 J_MPlaceRows_find_d7 (v := 16) (by decide +kernel) rfl ?_
    refine iq_icmp_gt hS 12 J_MPlaceRows_find_d9 (t := 34) rfl (fun q9 => ?_) rfl (fun q9 => ?_)
    · replace h := ed_pos q9 h
      exact J2  _ l0 l1 l2 l3 (hk2  h)
    · replace h := ed_neg q9 h
      refine iq_iload_n hS 13 J_MPlaceRows_find_d12 l2 rfl ?_
      refine iq_iload_n hS 14 J_MPlaceRows_find_d13 l1 rfl ?_
      refine iq_icmp_lt hS 17 J_MPlaceRows_find_d14 (t := 34) rfl (fun q14 => ?_) rfl (fun q14 => ?_)
      · replace h := ed_pos q14 h
        exact J2  _ l0 l1 l2 l3 (hk2  h)
      · replace h := ed_neg q14 h
        refine iq_iload_n hS 18 J_MPlaceRows_find_d17 l2 rfl ?_
        refine iq_bipush hS 20 J_MPlaceRows_find_d18 (v := 16) (by decide +kernel) rfl ?_
        refine iq_icmp_gt hS 23 J_MPlaceRows_find_d20 (t := 34) rfl (fun q20 => ?_) rfl (fun q20 => ?_)
        · replace h := ed_pos q20 h
          exact J2  _ l0 l1 l2 l3 (hk2  h)
        · replace h := ed_neg q20 h
          refine iq_iload_n hS 24 J_MPlaceRows_find_d23 l3 rfl ?_
          refine iq_if_lt hS 27 J_MPlaceRows_find_d24 (t := 34) rfl (fun q24 => ?_) rfl (fun q24 => ?_)
          · replace h := ed_pos q24 h
            exact J2  _ l0 l1 l2 l3 (hk2  h)
          · replace h := ed_neg q24 h
            refine iq_iload_n hS 28 J_MPlaceRows_find_d27 l3 rfl ?_
            refine iq_sipush hS 31 J_MPlaceRows_find_d28 (v := 500) (by decide +kernel) rfl ?_
            refine iq_icmp_le hS 34 J_MPlaceRows_find_d31 (t := 38) rfl (fun q31 => ?_) rfl (fun q31 => ?_)
            · replace h := ed_pos q31 h
              refine iq_iconst hS 39 J_MPlaceRows_find_d38 (v := 0) (by decide +kernel) rfl ?_
              exact J1 _ _ l0 l1 l2 l3 (ed_some h)
            · replace h := ed_neg q31 h
              exact J2  _ l0 l1 l2 l3 (hk2  h)
noncomputable def f_MPlaceRows_thrown (M : im_M) : Option (Int32) := some (im_i M 130 0)
theorem J_MPlaceRows_thrown_d0 : decode J_MPlaceRows_thrown.2.1 0 = .ok (.aload_n 0, 1) := by decide +kernel
theorem J_MPlaceRows_thrown_d1 : decode J_MPlaceRows_thrown.2.1 1 = .ok (.getfield 35, 3) := by decide +kernel
theorem J_MPlaceRows_thrown_d4 : decode J_MPlaceRows_thrown.2.1 4 = .ok (.ireturn, 1) := by decide +kernel
theorem f_MPlaceRows_thrown_ok {L : Nat} {xs : Nat → Int32} {dep : Nat} {w : Bool} {M : im_M} {Q : Int32 → Prop} (hM : lw_S w M) (h : ed (f_MPlaceRows_thrown M) Q) : ia (tb_G L xs) dep J_MPlaceRows_thrown (rpI M Q) (0, lv_args 0 [.ref 130], [], M) := by
  have hS : im_St (tb_G L xs) dep J_MPlaceRows_thrown (ia (tb_G L xs) dep J_MPlaceRows_thrown (rpI M Q)) := ia_St
  unfold f_MPlaceRows_thrown at h
  have l0 : im_lk (lv_args 0 [.ref 130]) 0 = some (.ref 130) := rfl
  refine iq_aload_n hS 1 J_MPlaceRows_thrown_d0 l0 rfl ?_
  refine iq_getI hS 4 J_MPlaceRows_thrown_d1 lf_14_35 (Or.inl rfl) (ka_130 hM) rfl ?_
  exact iq_iret J_MPlaceRows_thrown_d4 rfl rfl ⟨_, rfl, rfl, ed_some h⟩
noncomputable def f_M_scan (p0 : Int32) (p1 : Int32) (p2 : Int32) (M : im_M) : Option (Int32 × im_M) := bd2 (f_MPlaceRows_find p0 p1 p2 M) fun (x1 : Int32) (M1 : im_M) => bd1 (f_MPlaceRows_thrown M1) fun (x2 : Int32) => some (x1, (im_setI M1 69 0 x2))
theorem J_M_scan_d0 : decode J_M_scan.2.1 0 = .ok (.aload_n 0, 1) := by decide +kernel
theorem J_M_scan_d1 : decode J_M_scan.2.1 1 = .ok (.getfield 44, 3) := by decide +kernel
theorem J_M_scan_d4 : decode J_M_scan.2.1 4 = .ok (.iload_n 1, 1) := by decide +kernel
theorem J_M_scan_d5 : decode J_M_scan.2.1 5 = .ok (.iload_n 2, 1) := by decide +kernel
theorem J_M_scan_d6 : decode J_M_scan.2.1 6 = .ok (.iload_n 3, 1) := by decide +kernel
theorem J_M_scan_d7 : decode J_M_scan.2.1 7 = .ok (.invokevirtual 223, 3) := by decide +kernel
theorem J_M_scan_d10 : decode J_M_scan.2.1 10 = .ok (.istore 4, 2) := by decide +kernel
theorem J_M_scan_d12 : decode J_M_scan.2.1 12 = .ok (.aload_n 0, 1) := by decide +kernel
theorem J_M_scan_d13 : decode J_M_scan.2.1 13 = .ok (.aload_n 0, 1) := by decide +kernel
theorem J_M_scan_d14 : decode J_M_scan.2.1 14 = .ok (.getfield 44, 3) := by decide +kernel
theorem J_M_scan_d17 : decode J_M_scan.2.1 17 = .ok (.invokevirtual 226, 3) := by decide +kernel
theorem J_M_scan_d20 : decode J_M_scan.2.1 20 = .ok (.putfield 58, 3) := by decide +kernel
theorem J_M_scan_d23 : decode J_M_scan.2.1 23 = .ok (.iload 4, 2) := by decide +kernel
theorem J_M_scan_d25 : decode J_M_scan.2.1 25 = .ok (.ireturn, 1) := by decide +kernel
theorem f_M_scan_ok {L : Nat} {xs : Nat → Int32} {dep : Nat} {w : Bool} {p0 : Int32} {p1 : Int32} {p2 : Int32} {M : im_M} {Q : Int32 × im_M → Prop} (hM : lw_S w M) (h : ed (f_M_scan p0 p1 p2 M) Q) : ia (tb_G L xs) (dep + 5) J_M_scan (rwI w Q) (0, lv_args 0 [.ref 69, .int p0, .int p1, .int p2], [], M) := by
  have hS : im_St (tb_G L xs) (dep + 5) J_M_scan (ia (tb_G L xs) (dep + 5) J_M_scan (rwI w Q)) := ia_St
  unfold f_M_scan at h
  have l0 : im_lk (lv_args 0 [.ref 69, .int p0, .int p1, .int p2]) 0 = some (.ref 69) := rfl
  have l1 : im_lk (lv_args 0 [.ref 69, .int p0, .int p1, .int p2]) 1 = some (.int p0) := rfl
  have l2 : im_lk (lv_args 0 [.ref 69, .int p0, .int p1, .int p2]) 2 = some (.int p1) := rfl
  have l3 : im_lk (lv_args 0 [.ref 69, .int p0, .int p1, .int p2]) 3 = some (.int p2) := rfl
  refine iq_aload_n hS 1 J_M_scan_d0 l0 rfl ?_
  refine iq_getR hS 4 J_M_scan_d1 lf_17_44 (Or.inl ⟨_, rfl⟩) (ka_69 hM) (ra_69_7 hM) rfl ?_
  refine iq_iload_n hS 5 J_M_scan_d4 l1 rfl ?_
  refine iq_iload_n hS 6 J_M_scan_d5 l2 rfl ?_
  refine iq_iload_n hS 7 J_M_scan_d6 l3 rfl ?_
  obtain ⟨Q1, hQ1, h⟩ := bd2_ed h
  refine iq_cwI hS 10 J_M_scan_d7 rfl (pr_inst (vs := [_, _, _]) lc_17_223 lT_455 rfl rfl (by decide) (by decide) rfl (Nat.le_of_ble_eq_true rfl) (Nat.le_of_ble_eq_true rfl) (fun _ => Or.inl (pr_b (ka_130 hM) (by decide) rfl))) (f_MPlaceRows_find_ok (dep := dep + 0) hM h) rfl ?_
  intro x1 M1 hM1 h
  replace h := hQ1 _ _ h
  refine iq_istore hS 12 J_M_scan_d10 (by decide) rfl ?_
  refine iq_aload_n hS 13 J_M_scan_d12 (lk_1r l0 (by decide)) rfl ?_
  refine iq_aload_n hS 14 J_M_scan_d13 (lk_1r l0 (by decide)) rfl ?_
  refine iq_getR hS 17 J_M_scan_d14 lf_17_44 (Or.inl ⟨_, rfl⟩) (ka_69 hM1) (ra_69_7 hM1) rfl ?_
  obtain ⟨Q2, hQ2, h⟩ := bd1_ed h
  refine iq_cpI hS 20 J_M_scan_d17 rfl (pr_inst (vs := []) lc_17_226 lT_474 rfl rfl (by decide) (by decide) rfl (Nat.le_of_ble_eq_true rfl) (Nat.le_of_ble_eq_true rfl) (fun _ => Or.inl (pr_b (ka_130 hM1) (by decide) rfl))) (f_MPlaceRows_thrown_ok (dep := dep + 4) hM1 h) rfl ?_
  intro x2 h
  replace h := hQ2 _ h
  refine iq_putI hS 23 J_M_scan_d20 lf_17_58 (Or.inl rfl) rfl (ka_69 hM1) rfl ?_
  refine iq_iload hS 25 J_M_scan_d23 lk_1s rfl ?_
  exact iq_iret J_M_scan_d25 rfl rfl ⟨_, rfl, hM1, ed_some h⟩
noncomputable def f_MPlaceRows_place (p0 : Int32) (p1 : Int32) (M : im_M) : Option (Int32 × im_M) := if (im_i (im_setI M 130 0 ((if p1 < 0 then 1 else (if p1 ≤ 5 then 0 else 1)) : Int32)) 130 0) ≤ 0 then jn0 (fun (_ : Unit) => some ((-1), (im_setI M 130 0 ((if p1 < 0 then 1 else (if p1 ≤ 5 then 0 else 1)) : Int32)))) fun k2 => if p0 < 0 then k2 () else if p0 < (im_i (im_setI M 130 0 ((if p1 < 0 then 1 else (if p1 ≤ 5 then 0 else 1)) : Int32)) 130 10) then gd (inb (((6 : Int32) * p0) + p1) 1800) <| some ((im_i (im_setI M 130 0 ((if p1 < 0 then 1 else (if p1 ≤ 5 then 0 else 1)) : Int32)) 135 (Int32.toNatClampNeg (((6 : Int32) * p0) + p1))), (im_setI M 130 0 ((if p1 < 0 then 1 else (if p1 ≤ 5 then 0 else 1)) : Int32))) else k2 () else some (0, (im_setI M 130 0 ((if p1 < 0 then 1 else (if p1 ≤ 5 then 0 else 1)) : Int32)))
theorem J_MPlaceRows_place_d0 : decode J_MPlaceRows_place.2.1 0 = .ok (.aload_n 0, 1) := by decide +kernel
theorem J_MPlaceRows_place_d1 : decode J_MPlaceRows_place.2.1 1 = .ok (.iload_n 2, 1) := by decide +kernel
theorem J_MPlaceRows_place_d2 : decode J_MPlaceRows_place.2.1 2 = .ok (.ifCond .lt 8, 3) := by decide +kernel
theorem J_MPlaceRows_place_d5 : decode J_MPlaceRows_place.2.1 5 = .ok (.iload_n 2, 1) := by decide +kernel
theorem J_MPlaceRows_place_d6 : decode J_MPlaceRows_place.2.1 6 = .ok (.iconst 5, 1) := by decide +kernel
theorem J_MPlaceRows_place_d7 : decode J_MPlaceRows_place.2.1 7 = .ok (.if_icmp .le 7, 3) := by decide +kernel
theorem J_MPlaceRows_place_d10 : decode J_MPlaceRows_place.2.1 10 = .ok (.iconst 1, 1) := by decide +kernel
theorem J_MPlaceRows_place_d11 : decode J_MPlaceRows_place.2.1 11 = .ok (.goto 4, 3) := by decide +kernel
theorem J_MPlaceRows_place_d14 : decode J_MPlaceRows_place.2.1 14 = .ok (.iconst 0, 1) := by decide +kernel
theorem J_MPlaceRows_place_d15 : decode J_MPlaceRows_place.2.1 15 = .ok (.putfield 35, 3) := by decide +kernel
theorem J_MPlaceRows_place_d18 : decode J_MPlaceRows_place.2.1 18 = .ok (.aload_n 0, 1) := by decide +kernel
theorem J_MPlaceRows_place_d19 : decode J_MPlaceRows_place.2.1 19 = .ok (.getfield 35, 3) := by decide +kernel
theorem J_MPlaceRows_place_d22 : decode J_MPlaceRows_place.2.1 22 = .ok (.ifCond .le 5, 3) := by decide +kernel
theorem J_MPlaceRows_place_d25 : decode J_MPlaceRows_place.2.1 25 = .ok (.iconst 0, 1) := by decide +kernel
theorem J_MPlaceRows_place_d26 : decode J_MPlaceRows_place.2.1 26 = .ok (.ireturn, 1) := by decide +kernel
theorem J_MPlaceRows_place_d27 : decode J_MPlaceRows_place.2.1 27 = .ok (.iload_n 1, 1) := by decide +kernel
theorem J_MPlaceRows_place_d28 : decode J_MPlaceRows_place.2.1 28 = .ok (.ifCond .lt 11, 3) := by decide +kernel
theorem J_MPlaceRows_place_d31 : decode J_MPlaceRows_place.2.1 31 = .ok (.iload_n 1, 1) := by decide +kernel
theorem J_MPlaceRows_place_d32 : decode J_MPlaceRows_place.2.1 32 = .ok (.aload_n 0, 1) := by decide +kernel
theorem J_MPlaceRows_place_d33 : decode J_MPlaceRows_place.2.1 33 = .ok (.getfield 41, 3) := by decide +kernel
theorem J_MPlaceRows_place_d36 : decode J_MPlaceRows_place.2.1 36 = .ok (.if_icmp .lt 7, 3) := by decide +kernel
theorem J_MPlaceRows_place_d39 : decode J_MPlaceRows_place.2.1 39 = .ok (.iconst (-1), 1) := by decide +kernel
theorem J_MPlaceRows_place_d40 : decode J_MPlaceRows_place.2.1 40 = .ok (.goto 14, 3) := by decide +kernel
theorem J_MPlaceRows_place_d43 : decode J_MPlaceRows_place.2.1 43 = .ok (.aload_n 0, 1) := by decide +kernel
theorem J_MPlaceRows_place_d44 : decode J_MPlaceRows_place.2.1 44 = .ok (.getfield 32, 3) := by decide +kernel
theorem J_MPlaceRows_place_d47 : decode J_MPlaceRows_place.2.1 47 = .ok (.bipush 6, 2) := by decide +kernel
theorem J_MPlaceRows_place_d49 : decode J_MPlaceRows_place.2.1 49 = .ok (.iload_n 1, 1) := by decide +kernel
theorem J_MPlaceRows_place_d50 : decode J_MPlaceRows_place.2.1 50 = .ok (.imul, 1) := by decide +kernel
theorem J_MPlaceRows_place_d51 : decode J_MPlaceRows_place.2.1 51 = .ok (.iload_n 2, 1) := by decide +kernel
theorem J_MPlaceRows_place_d52 : decode J_MPlaceRows_place.2.1 52 = .ok (.iadd, 1) := by decide +kernel
theorem J_MPlaceRows_place_d53 : decode J_MPlaceRows_place.2.1 53 = .ok (.iaload, 1) := by decide +kernel
theorem J_MPlaceRows_place_d54 : decode J_MPlaceRows_place.2.1 54 = .ok (.ireturn, 1) := by decide +kernel
theorem f_MPlaceRows_place_ok {L : Nat} {xs : Nat → Int32} {dep : Nat} {w : Bool} {p0 : Int32} {p1 : Int32} {M : im_M} {Q : Int32 × im_M → Prop} (hM : lw_S w M) (h : ed (f_MPlaceRows_place p0 p1 M) Q) : ia (tb_G L xs) dep J_MPlaceRows_place (rwI w Q) (0, lv_args 0 [.ref 130, .int p0, .int p1], [], M) := by
  have hS : im_St (tb_G L xs) dep J_MPlaceRows_place (ia (tb_G L xs) dep J_MPlaceRows_place (rwI w Q)) := ia_St
  unfold f_MPlaceRows_place at h
  have l0 : im_lk (lv_args 0 [.ref 130, .int p0, .int p1]) 0 = some (.ref 130) := rfl
  have l1 : im_lk (lv_args 0 [.ref 130, .int p0, .int p1]) 1 = some (.int p0) := rfl
  have l2 : im_lk (lv_args 0 [.ref 130, .int p0, .int p1]) 2 = some (.int p1) := rfl
  refine iq_aload_n hS 1 J_MPlaceRows_place_d0 l0 rfl ?_
  refine iq_iload_n hS 2 J_MPlaceRows_place_d1 l2 rfl ?_
  have J1 : ∀ (z2 : Int32) (L' : List (Nat × Value)), z2 = ((if p1 < 0 then 1 else (if p1 ≤ 5 then 0 else 1)) : Int32) → im_lk L' 0 = some (.ref 130) → im_lk L' 1 = some (.int p0) → im_lk L' 2 = some (.int p1) → ia (tb_G L xs) dep J_MPlaceRows_place (rwI w Q) (15, L', [.int z2, .ref 130], M) := by
    intro z2 L' e3 l4 l5 l6
    subst e3
    refine iq_putI hS 18 J_MPlaceRows_place_d15 lf_14_35 (Or.inl rfl) rfl (ka_130 hM) rfl ?_
    refine iq_aload_n hS 19 J_MPlaceRows_place_d18 l4 rfl ?_
    refine iq_getI hS 22 J_MPlaceRows_place_d19 lf_14_35 (Or.inl rfl) (ka_130 hM) rfl ?_
    refine iq_if_le hS 25 J_MPlaceRows_place_d22 (t := 27) rfl (fun q22 => ?_) rfl (fun q22 => ?_)
    · replace h := ed_pos q22 h
      refine iq_iload_n hS 28 J_MPlaceRows_place_d27 l5 rfl ?_
      obtain ⟨k7, Q7, hQ7, hk7, h⟩ := jn0_ed h
      have J7 : ∀  (L' : List (Nat × Value)), Q7 () → ia (tb_G L xs) dep J_MPlaceRows_place (rwI w Q) (39, L', [], (im_setI M 130 0 ((if p1 < 0 then 1 else (if p1 ≤ 5 then 0 else 1)) : Int32))) := by
        intro  L'  h
        replace h := hQ7  h
        refine iq_iconst hS 40 J_MPlaceRows_place_d39 (v := (-1)) (by decide +kernel) rfl ?_
        refine iq_goto hS J_MPlaceRows_place_d40 (t := 54) rfl ?_
        exact iq_iret J_MPlaceRows_place_d54 rfl rfl ⟨_, rfl, hM, ed_some h⟩
      refine iq_if_lt hS 31 J_MPlaceRows_place_d28 (t := 39) rfl (fun q28 => ?_) rfl (fun q28 => ?_)
      · replace h := ed_pos q28 h
        exact J7  _  (hk7  h)
      · replace h := ed_neg q28 h
        refine iq_iload_n hS 32 J_MPlaceRows_place_d31 l5 rfl ?_
        refine iq_aload_n hS 33 J_MPlaceRows_place_d32 l4 rfl ?_
        refine iq_getI hS 36 J_MPlaceRows_place_d33 lf_14_41 (Or.inl rfl) (ka_130 hM) rfl ?_
        refine iq_icmp_lt hS 39 J_MPlaceRows_place_d36 (t := 43) rfl (fun q36 => ?_) rfl (fun q36 => ?_)
        · replace h := ed_pos q36 h
          refine iq_aload_n hS 44 J_MPlaceRows_place_d43 l4 rfl ?_
          refine iq_getR hS 47 J_MPlaceRows_place_d44 lf_14_32 (Or.inr ⟨_, rfl⟩) (ka_130 hM) (ra_130_9 hM) rfl ?_
          refine iq_bipush hS 49 J_MPlaceRows_place_d47 (v := 6) (by decide +kernel) rfl ?_
          refine iq_iload_n hS 50 J_MPlaceRows_place_d49 l5 rfl ?_
          refine iq_imul hS 51 J_MPlaceRows_place_d50 rfl ?_
          refine iq_iload_n hS 52 J_MPlaceRows_place_d51 l6 rfl ?_
          refine iq_iadd hS 53 J_MPlaceRows_place_d52 rfl ?_
          obtain ⟨g53, h⟩ := ed_gd h
          refine iq_iaload hS 54 J_MPlaceRows_place_d53 ⟨(ka_135 hM).1, (ka_135 hM).2, g53.1, ix_lt (kl_135 hM) g53.2⟩ rfl ?_
          exact iq_iret J_MPlaceRows_place_d54 rfl rfl ⟨_, rfl, hM, ed_some h⟩
        · replace h := ed_neg q36 h
          exact J7  _  (hk7  h)
    · replace h := ed_neg q22 h
      refine iq_iconst hS 26 J_MPlaceRows_place_d25 (v := 0) (by decide +kernel) rfl ?_
      exact iq_iret J_MPlaceRows_place_d26 rfl rfl ⟨_, rfl, hM, ed_some h⟩
  refine iq_if_lt hS 5 J_MPlaceRows_place_d2 (t := 10) rfl (fun q2 => ?_) rfl (fun q2 => ?_)
  · refine iq_iconst hS 11 J_MPlaceRows_place_d10 (v := 1) (by decide +kernel) rfl ?_
    refine iq_goto hS J_MPlaceRows_place_d11 (t := 15) rfl ?_
    exact J1 _ _ (by rw [if_pos q2]) l0 l1 l2
  · refine iq_iload_n hS 6 J_MPlaceRows_place_d5 l2 rfl ?_
    refine iq_iconst hS 7 J_MPlaceRows_place_d6 (v := 5) (by decide +kernel) rfl ?_
    refine iq_icmp_le hS 10 J_MPlaceRows_place_d7 (t := 14) rfl (fun q7 => ?_) rfl (fun q7 => ?_)
    · refine iq_iconst hS 15 J_MPlaceRows_place_d14 (v := 0) (by decide +kernel) rfl ?_
      exact J1 _ _ (by rw [if_neg q2, if_pos q7]) l0 l1 l2
    · refine iq_iconst hS 11 J_MPlaceRows_place_d10 (v := 1) (by decide +kernel) rfl ?_
      refine iq_goto hS J_MPlaceRows_place_d11 (t := 15) rfl ?_
      exact J1 _ _ (by rw [if_neg q2, if_neg q7]) l0 l1 l2
noncomputable def f_M_found (p0 : Int32) (p1 : Int32) (M : im_M) : Option (Int32 × im_M) := bd2 (f_MPlaceRows_place p0 p1 M) fun (x1 : Int32) (M1 : im_M) => bd1 (f_MPlaceRows_thrown M1) fun (x2 : Int32) => some (x1, (im_setI M1 69 0 x2))
theorem J_M_found_d0 : decode J_M_found.2.1 0 = .ok (.aload_n 0, 1) := by decide +kernel
theorem J_M_found_d1 : decode J_M_found.2.1 1 = .ok (.getfield 44, 3) := by decide +kernel
theorem J_M_found_d4 : decode J_M_found.2.1 4 = .ok (.iload_n 1, 1) := by decide +kernel
theorem J_M_found_d5 : decode J_M_found.2.1 5 = .ok (.iload_n 2, 1) := by decide +kernel
theorem J_M_found_d6 : decode J_M_found.2.1 6 = .ok (.invokevirtual 227, 3) := by decide +kernel
theorem J_M_found_d9 : decode J_M_found.2.1 9 = .ok (.istore_n 3, 1) := by decide +kernel
theorem J_M_found_d10 : decode J_M_found.2.1 10 = .ok (.aload_n 0, 1) := by decide +kernel
theorem J_M_found_d11 : decode J_M_found.2.1 11 = .ok (.aload_n 0, 1) := by decide +kernel
theorem J_M_found_d12 : decode J_M_found.2.1 12 = .ok (.getfield 44, 3) := by decide +kernel
theorem J_M_found_d15 : decode J_M_found.2.1 15 = .ok (.invokevirtual 226, 3) := by decide +kernel
theorem J_M_found_d18 : decode J_M_found.2.1 18 = .ok (.putfield 58, 3) := by decide +kernel
theorem J_M_found_d21 : decode J_M_found.2.1 21 = .ok (.iload_n 3, 1) := by decide +kernel
theorem J_M_found_d22 : decode J_M_found.2.1 22 = .ok (.ireturn, 1) := by decide +kernel
theorem f_M_found_ok {L : Nat} {xs : Nat → Int32} {dep : Nat} {w : Bool} {p0 : Int32} {p1 : Int32} {M : im_M} {Q : Int32 × im_M → Prop} (hM : lw_S w M) (h : ed (f_M_found p0 p1 M) Q) : ia (tb_G L xs) (dep + 1) J_M_found (rwI w Q) (0, lv_args 0 [.ref 69, .int p0, .int p1], [], M) := by
  have hS : im_St (tb_G L xs) (dep + 1) J_M_found (ia (tb_G L xs) (dep + 1) J_M_found (rwI w Q)) := ia_St
  unfold f_M_found at h
  have l0 : im_lk (lv_args 0 [.ref 69, .int p0, .int p1]) 0 = some (.ref 69) := rfl
  have l1 : im_lk (lv_args 0 [.ref 69, .int p0, .int p1]) 1 = some (.int p0) := rfl
  have l2 : im_lk (lv_args 0 [.ref 69, .int p0, .int p1]) 2 = some (.int p1) := rfl
  refine iq_aload_n hS 1 J_M_found_d0 l0 rfl ?_
  refine iq_getR hS 4 J_M_found_d1 lf_17_44 (Or.inl ⟨_, rfl⟩) (ka_69 hM) (ra_69_7 hM) rfl ?_
  refine iq_iload_n hS 5 J_M_found_d4 l1 rfl ?_
  refine iq_iload_n hS 6 J_M_found_d5 l2 rfl ?_
  obtain ⟨Q1, hQ1, h⟩ := bd2_ed h
  refine iq_cwI hS 9 J_M_found_d6 rfl (pr_inst (vs := [_, _]) lc_17_227 lT_476 rfl rfl (by decide) (by decide) rfl (Nat.le_of_ble_eq_true rfl) (Nat.le_of_ble_eq_true rfl) (fun _ => Or.inl (pr_b (ka_130 hM) (by decide) rfl))) (f_MPlaceRows_place_ok (dep := dep + 0) hM h) rfl ?_
  intro x1 M1 hM1 h
  replace h := hQ1 _ _ h
  refine iq_istore_n hS 10 J_M_found_d9 (by decide) rfl ?_
  refine iq_aload_n hS 11 J_M_found_d10 (lk_1r l0 (by decide)) rfl ?_
  refine iq_aload_n hS 12 J_M_found_d11 (lk_1r l0 (by decide)) rfl ?_
  refine iq_getR hS 15 J_M_found_d12 lf_17_44 (Or.inl ⟨_, rfl⟩) (ka_69 hM1) (ra_69_7 hM1) rfl ?_
  obtain ⟨Q2, hQ2, h⟩ := bd1_ed h
  refine iq_cpI hS 18 J_M_found_d15 rfl (pr_inst (vs := []) lc_17_226 lT_474 rfl rfl (by decide) (by decide) rfl (Nat.le_of_ble_eq_true rfl) (Nat.le_of_ble_eq_true rfl) (fun _ => Or.inl (pr_b (ka_130 hM1) (by decide) rfl))) (f_MPlaceRows_thrown_ok (dep := dep + 0) hM1 h) rfl ?_
  intro x2 h
  replace h := hQ2 _ h
  refine iq_putI hS 21 J_M_found_d18 lf_17_58 (Or.inl rfl) rfl (ka_69 hM1) rfl ?_
  refine iq_iload_n hS 22 J_M_found_d21 lk_1s rfl ?_
  exact iq_iret J_M_found_d22 rfl rfl ⟨_, rfl, hM1, ed_some h⟩
noncomputable def f_MSquareRows_blank_L41 (x4 : Int32) (M5 : im_M) : Option ((Int32 × im_M) ⊕ (im_M)) := if 31329 ≤ x4 then some (.inr M5) else gd (inb x4 31329) <| some (.inl ((x4 + 1), (im_setI M5 112 (Int32.toNatClampNeg x4) 0)))
noncomputable def f_MSquareRows_blank (p0 : Int32) (M : im_M) : Option (Int32 × im_M) := if (im_i (im_setI M 108 0 ((if p0 < 1 then 1 else (if p0 ≤ 40 then 0 else 1)) : Int32)) 108 0) ≤ 0 then bd1 (f_MSquareRows_frame p0 (im_setI (im_setI M 108 0 ((if p0 < 1 then 1 else (if p0 ≤ 40 then 0 else 1)) : Int32)) 108 7 p0)) fun (M2 : im_M) => bd1 (lp (uc2 (f_MSquareRows_blank_L41)) (0, M2)) fun (M6 : im_M) => some ((im_i (im_setI M6 108 9 0) 108 8), (im_setI M6 108 9 0)) else some (0, (im_setI M 108 0 ((if p0 < 1 then 1 else (if p0 ≤ 40 then 0 else 1)) : Int32)))
theorem J_MSquareRows_blank_d0 : decode J_MSquareRows_blank.2.1 0 = .ok (.aload_n 0, 1) := by decide +kernel
theorem J_MSquareRows_blank_d1 : decode J_MSquareRows_blank.2.1 1 = .ok (.iload_n 1, 1) := by decide +kernel
theorem J_MSquareRows_blank_d2 : decode J_MSquareRows_blank.2.1 2 = .ok (.iconst 1, 1) := by decide +kernel
theorem J_MSquareRows_blank_d3 : decode J_MSquareRows_blank.2.1 3 = .ok (.if_icmp .lt 9, 3) := by decide +kernel
theorem J_MSquareRows_blank_d6 : decode J_MSquareRows_blank.2.1 6 = .ok (.iload_n 1, 1) := by decide +kernel
theorem J_MSquareRows_blank_d7 : decode J_MSquareRows_blank.2.1 7 = .ok (.bipush 40, 2) := by decide +kernel
theorem J_MSquareRows_blank_d9 : decode J_MSquareRows_blank.2.1 9 = .ok (.if_icmp .le 7, 3) := by decide +kernel
theorem J_MSquareRows_blank_d12 : decode J_MSquareRows_blank.2.1 12 = .ok (.iconst 1, 1) := by decide +kernel
theorem J_MSquareRows_blank_d13 : decode J_MSquareRows_blank.2.1 13 = .ok (.goto 4, 3) := by decide +kernel
theorem J_MSquareRows_blank_d16 : decode J_MSquareRows_blank.2.1 16 = .ok (.iconst 0, 1) := by decide +kernel
theorem J_MSquareRows_blank_d17 : decode J_MSquareRows_blank.2.1 17 = .ok (.putfield 73, 3) := by decide +kernel
theorem J_MSquareRows_blank_d20 : decode J_MSquareRows_blank.2.1 20 = .ok (.aload_n 0, 1) := by decide +kernel
theorem J_MSquareRows_blank_d21 : decode J_MSquareRows_blank.2.1 21 = .ok (.getfield 73, 3) := by decide +kernel
theorem J_MSquareRows_blank_d24 : decode J_MSquareRows_blank.2.1 24 = .ok (.ifCond .le 5, 3) := by decide +kernel
theorem J_MSquareRows_blank_d27 : decode J_MSquareRows_blank.2.1 27 = .ok (.iconst 0, 1) := by decide +kernel
theorem J_MSquareRows_blank_d28 : decode J_MSquareRows_blank.2.1 28 = .ok (.ireturn, 1) := by decide +kernel
theorem J_MSquareRows_blank_d29 : decode J_MSquareRows_blank.2.1 29 = .ok (.aload_n 0, 1) := by decide +kernel
theorem J_MSquareRows_blank_d30 : decode J_MSquareRows_blank.2.1 30 = .ok (.iload_n 1, 1) := by decide +kernel
theorem J_MSquareRows_blank_d31 : decode J_MSquareRows_blank.2.1 31 = .ok (.putfield 229, 3) := by decide +kernel
theorem J_MSquareRows_blank_d34 : decode J_MSquareRows_blank.2.1 34 = .ok (.aload_n 0, 1) := by decide +kernel
theorem J_MSquareRows_blank_d35 : decode J_MSquareRows_blank.2.1 35 = .ok (.iload_n 1, 1) := by decide +kernel
theorem J_MSquareRows_blank_d36 : decode J_MSquareRows_blank.2.1 36 = .ok (.invokevirtual 232, 3) := by decide +kernel
theorem J_MSquareRows_blank_d39 : decode J_MSquareRows_blank.2.1 39 = .ok (.iconst 0, 1) := by decide +kernel
theorem J_MSquareRows_blank_d40 : decode J_MSquareRows_blank.2.1 40 = .ok (.istore_n 2, 1) := by decide +kernel
theorem J_MSquareRows_blank_d41 : decode J_MSquareRows_blank.2.1 41 = .ok (.iload_n 2, 1) := by decide +kernel
theorem J_MSquareRows_blank_d42 : decode J_MSquareRows_blank.2.1 42 = .ok (.aload_n 0, 1) := by decide +kernel
theorem J_MSquareRows_blank_d43 : decode J_MSquareRows_blank.2.1 43 = .ok (.getfield 19, 3) := by decide +kernel
theorem J_MSquareRows_blank_d46 : decode J_MSquareRows_blank.2.1 46 = .ok (.arraylength, 1) := by decide +kernel
theorem J_MSquareRows_blank_d47 : decode J_MSquareRows_blank.2.1 47 = .ok (.if_icmp .ge 16, 3) := by decide +kernel
theorem J_MSquareRows_blank_d50 : decode J_MSquareRows_blank.2.1 50 = .ok (.aload_n 0, 1) := by decide +kernel
theorem J_MSquareRows_blank_d51 : decode J_MSquareRows_blank.2.1 51 = .ok (.getfield 19, 3) := by decide +kernel
theorem J_MSquareRows_blank_d54 : decode J_MSquareRows_blank.2.1 54 = .ok (.iload_n 2, 1) := by decide +kernel
theorem J_MSquareRows_blank_d55 : decode J_MSquareRows_blank.2.1 55 = .ok (.iconst 0, 1) := by decide +kernel
theorem J_MSquareRows_blank_d56 : decode J_MSquareRows_blank.2.1 56 = .ok (.iastore, 1) := by decide +kernel
theorem J_MSquareRows_blank_d57 : decode J_MSquareRows_blank.2.1 57 = .ok (.iinc 2 1, 3) := by decide +kernel
theorem J_MSquareRows_blank_d60 : decode J_MSquareRows_blank.2.1 60 = .ok (.goto (-19), 3) := by decide +kernel
theorem J_MSquareRows_blank_d63 : decode J_MSquareRows_blank.2.1 63 = .ok (.aload_n 0, 1) := by decide +kernel
theorem J_MSquareRows_blank_d64 : decode J_MSquareRows_blank.2.1 64 = .ok (.iconst 0, 1) := by decide +kernel
theorem J_MSquareRows_blank_d65 : decode J_MSquareRows_blank.2.1 65 = .ok (.putfield 246, 3) := by decide +kernel
theorem J_MSquareRows_blank_d68 : decode J_MSquareRows_blank.2.1 68 = .ok (.aload_n 0, 1) := by decide +kernel
theorem J_MSquareRows_blank_d69 : decode J_MSquareRows_blank.2.1 69 = .ok (.getfield 163, 3) := by decide +kernel
theorem J_MSquareRows_blank_d72 : decode J_MSquareRows_blank.2.1 72 = .ok (.ireturn, 1) := by decide +kernel
theorem f_MSquareRows_blank_ok {L : Nat} {xs : Nat → Int32} {dep : Nat} {w : Bool} {p0 : Int32} {M : im_M} {Q : Int32 × im_M → Prop} (hM : lw_S w M) (h : ed (f_MSquareRows_blank p0 M) Q) : ia (tb_G L xs) (dep + 4) J_MSquareRows_blank (rwI w Q) (0, lv_args 0 [.ref 108, .int p0], [], M) := by
  have hS : im_St (tb_G L xs) (dep + 4) J_MSquareRows_blank (ia (tb_G L xs) (dep + 4) J_MSquareRows_blank (rwI w Q)) := ia_St
  unfold f_MSquareRows_blank at h
  have l0 : im_lk (lv_args 0 [.ref 108, .int p0]) 0 = some (.ref 108) := rfl
  have l1 : im_lk (lv_args 0 [.ref 108, .int p0]) 1 = some (.int p0) := rfl
  refine iq_aload_n hS 1 J_MSquareRows_blank_d0 l0 rfl ?_
  refine iq_iload_n hS 2 J_MSquareRows_blank_d1 l1 rfl ?_
  refine iq_iconst hS 3 J_MSquareRows_blank_d2 (v := 1) (by decide +kernel) rfl ?_
  have J1 : ∀ (z2 : Int32) (L' : List (Nat × Value)), z2 = ((if p0 < 1 then 1 else (if p0 ≤ 40 then 0 else 1)) : Int32) → im_lk L' 0 = some (.ref 108) → im_lk L' 1 = some (.int p0) → ia (tb_G L xs) (dep + 4) J_MSquareRows_blank (rwI w Q) (17, L', [.int z2, .ref 108], M) := by
    intro z2 L' e3 l4 l5
    subst e3
    refine iq_putI hS 20 J_MSquareRows_blank_d17 lf_16_73 (Or.inl rfl) rfl (ka_108 hM) rfl ?_
    refine iq_aload_n hS 21 J_MSquareRows_blank_d20 l4 rfl ?_
    refine iq_getI hS 24 J_MSquareRows_blank_d21 lf_16_73 (Or.inl rfl) (ka_108 hM) rfl ?_
    refine iq_if_le hS 27 J_MSquareRows_blank_d24 (t := 29) rfl (fun q24 => ?_) rfl (fun q24 => ?_)
    · replace h := ed_pos q24 h
      refine iq_aload_n hS 30 J_MSquareRows_blank_d29 l4 rfl ?_
      refine iq_iload_n hS 31 J_MSquareRows_blank_d30 l5 rfl ?_
      refine iq_putI hS 34 J_MSquareRows_blank_d31 lf_16_229 (Or.inl rfl) rfl (ka_108 hM) rfl ?_
      refine iq_aload_n hS 35 J_MSquareRows_blank_d34 l4 rfl ?_
      refine iq_iload_n hS 36 J_MSquareRows_blank_d35 l5 rfl ?_
      obtain ⟨Q6, hQ6, h⟩ := bd1_ed h
      refine iq_cwV hS 39 J_MSquareRows_blank_d36 rfl (pr_inst (vs := [_]) lc_16_232 lT_409 rfl rfl (by decide) (by decide) rfl (Nat.le_of_ble_eq_true rfl) (Nat.le_of_ble_eq_true rfl) (fun _ => Or.inl (pr_b (ka_108 hM) (by decide) rfl))) (f_MSquareRows_frame_ok (dep := dep + 0) hM h) rfl ?_
      intro M6 hM6 h
      replace h := hQ6 _ h
      refine iq_iconst hS 40 J_MSquareRows_blank_d39 (v := 0) (by decide +kernel) rfl ?_
      refine iq_istore_n hS 41 J_MSquareRows_blank_d40 (by decide) rfl ?_
      obtain ⟨Q7, hQ7, h⟩ := bd1_ed h
      have K7 : ∀ (M8 : im_M) (L' : List (Nat × Value)), lw_S w M8 → im_lk L' 0 = some (.ref 108) → Q7 M8 → ia (tb_G L xs) (dep + 4) J_MSquareRows_blank (rwI w Q) (63, L', [], M8) := by
        intro M8 L' hM8 l9 h
        replace h := hQ7 _ h
        refine iq_aload_n hS 64 J_MSquareRows_blank_d63 l9 rfl ?_
        refine iq_iconst hS 65 J_MSquareRows_blank_d64 (v := 0) (by decide +kernel) rfl ?_
        refine iq_putZ hS 68 J_MSquareRows_blank_d65 lf_16_246 (Or.inl rfl) rfl (ka_108 hM8) (Or.inl rfl) rfl ?_
        refine iq_aload_n hS 69 J_MSquareRows_blank_d68 l9 rfl ?_
        refine iq_getI hS 72 J_MSquareRows_blank_d69 lf_16_163 (Or.inl rfl) (ka_108 hM8) rfl ?_
        exact iq_iret J_MSquareRows_blank_d72 rfl rfl ⟨_, rfl, hM8, ed_some h⟩
      obtain ⟨r7, hr7, hq7⟩ := h
      obtain ⟨n7, hn7⟩ := lp_n hr7
      have I7 : ∀ (n : Nat) (x10 : Int32) (M11 : im_M) (L' : List (Nat × Value)), lw_S w M11 → im_lk L' 0 = some (.ref 108) → im_lk L' 2 = some (.int x10) → lpn (uc2 (f_MSquareRows_blank_L41)) n (x10, M11) = some r7 → ia (tb_G L xs) (dep + 4) J_MSquareRows_blank (rwI w Q) (41, L', [], M11) := by
        intro n
        induction n with
        | zero => intro x10 M11 L' hM11 l12 l13 hn; exact (lpn_0 hn).elim
        | succ n ih =>
          intro x10 M11 L' hM11 l12 l13 hn
          have h := lpn_ed2 hn
          unfold f_MSquareRows_blank_L41 at h
          refine iq_iload_n hS 42 J_MSquareRows_blank_d41 l13 rfl ?_
          refine iq_aload_n hS 43 J_MSquareRows_blank_d42 l12 rfl ?_
          refine iq_getR hS 46 J_MSquareRows_blank_d43 lf_16_19 (Or.inr ⟨_, rfl⟩) (ka_108 hM11) (ra_108_5 hM11) rfl ?_
          refine iq_alenv hS 47 J_MSquareRows_blank_d46 (v := 31329) (ka_112 hM11) (by decide) (by decide) (kl_112 hM11) (by decide +kernel) rfl ?_
          refine iq_icmp_ge hS 50 J_MSquareRows_blank_d47 (t := 63) rfl (fun q47 => ?_) rfl (fun q47 => ?_)
          · replace h := ed_pos q47 h
            exact K7 _ _ hM11 l12 (lq_r h hq7)
          · replace h := ed_neg q47 h
            refine iq_aload_n hS 51 J_MSquareRows_blank_d50 l12 rfl ?_
            refine iq_getR hS 54 J_MSquareRows_blank_d51 lf_16_19 (Or.inr ⟨_, rfl⟩) (ka_108 hM11) (ra_108_5 hM11) rfl ?_
            refine iq_iload_n hS 55 J_MSquareRows_blank_d54 l13 rfl ?_
            refine iq_iconst hS 56 J_MSquareRows_blank_d55 (v := 0) (by decide +kernel) rfl ?_
            obtain ⟨g56, h⟩ := ed_gd h
            refine iq_iastore hS 57 J_MSquareRows_blank_d56 ⟨(ka_112 hM11).1, (ka_112 hM11).2, g56.1, ix_lt (kl_112 hM11) g56.2⟩ rfl ?_
            refine iq_iincv hS 60 J_MSquareRows_blank_d57 (c := 1) (by decide +kernel) l13 (by decide) rfl ?_
            refine iq_goto hS J_MSquareRows_blank_d60 (t := 41) rfl ?_
            exact ih _ _ _ hM11 (lk_1r l12 (by decide)) lk_1s (lq_l h)
      exact I7 n7 _ _ _ hM6 (lk_1r l4 (by decide)) lk_1s hn7
    · replace h := ed_neg q24 h
      refine iq_iconst hS 28 J_MSquareRows_blank_d27 (v := 0) (by decide +kernel) rfl ?_
      exact iq_iret J_MSquareRows_blank_d28 rfl rfl ⟨_, rfl, hM, ed_some h⟩
  refine iq_icmp_lt hS 6 J_MSquareRows_blank_d3 (t := 12) rfl (fun q3 => ?_) rfl (fun q3 => ?_)
  · refine iq_iconst hS 13 J_MSquareRows_blank_d12 (v := 1) (by decide +kernel) rfl ?_
    refine iq_goto hS J_MSquareRows_blank_d13 (t := 17) rfl ?_
    exact J1 _ _ (by rw [if_pos q3]) l0 l1
  · refine iq_iload_n hS 7 J_MSquareRows_blank_d6 l1 rfl ?_
    refine iq_bipush hS 9 J_MSquareRows_blank_d7 (v := 40) (by decide +kernel) rfl ?_
    refine iq_icmp_le hS 12 J_MSquareRows_blank_d9 (t := 16) rfl (fun q9 => ?_) rfl (fun q9 => ?_)
    · refine iq_iconst hS 17 J_MSquareRows_blank_d16 (v := 0) (by decide +kernel) rfl ?_
      exact J1 _ _ (by rw [if_neg q3, if_pos q9]) l0 l1
    · refine iq_iconst hS 13 J_MSquareRows_blank_d12 (v := 1) (by decide +kernel) rfl ?_
      refine iq_goto hS J_MSquareRows_blank_d13 (t := 17) rfl ?_
      exact J1 _ _ (by rw [if_neg q3, if_neg q9]) l0 l1
noncomputable def f_MPlaceRows_differ_L17 (v11 : Int32) (v12 : Int32) (v13 : Int32) (v14 : Int32) (v15 : Int32) (v16 : Int32) (x17 : Int32) (x18 : Int32) (M19 : im_M) : Option ((Int32 × Int32 × im_M) ⊕ (Int32 × im_M)) := if (v11 + v13) ≤ x18 then some (.inr (x17, M19)) else bd1 (f_MPlaceRows_isDark x18 v16 M19) fun (x20 : Int32) => bd1 (if v15 = 0 then bd1 (f_MPlaceRows_isDark x18 v16 M19) fun (x23 : Int32) => some x23 else some v14) fun (y24 : Int32) => gd (inb (((512 : Int32) * v16) + x18) 262144) <| some (.inl ((x17 + ((if ¬ x20 = v14 then 1 else 0) : Int32)), (x18 + 1), (im_setI M19 131 (Int32.toNatClampNeg (((512 : Int32) * v16) + x18)) (vp_nar .boolean y24))))
noncomputable def f_MPlaceRows_differ_L6 (v2 : Int32) (v3 : Int32) (v4 : Int32) (v5 : Int32) (v6 : Int32) (x7 : Int32) (x8 : Int32) (M9 : im_M) : Option ((Int32 × Int32 × im_M) ⊕ (Int32 × im_M)) := if (v3 + v4) ≤ x8 then some (.inr (x7, M9)) else bd2 (lp (uc3 (f_MPlaceRows_differ_L17 v2 v3 v4 v5 v6 x8)) (x7, v2, M9)) fun (y34 : Int32) (M35 : im_M) => some (.inl (y34, (x8 + 1), M35))
noncomputable def f_MPlaceRows_differ (p0 : Int32) (p1 : Int32) (p2 : Int32) (p3 : Int32) (p4 : Int32) (M : im_M) : Option (Int32 × im_M) := bd2 (lp (uc3 (f_MPlaceRows_differ_L6 p0 p1 p2 p3 p4)) (0, p1, M)) fun (y36 : Int32) (M37 : im_M) => some (y36, M37)
theorem J_MPlaceRows_differ_d0 : decode J_MPlaceRows_differ.2.1 0 = .ok (.iconst 0, 1) := by decide +kernel
theorem J_MPlaceRows_differ_d1 : decode J_MPlaceRows_differ.2.1 1 = .ok (.istore 6, 2) := by decide +kernel
theorem J_MPlaceRows_differ_d3 : decode J_MPlaceRows_differ.2.1 3 = .ok (.iload_n 2, 1) := by decide +kernel
theorem J_MPlaceRows_differ_d4 : decode J_MPlaceRows_differ.2.1 4 = .ok (.istore 7, 2) := by decide +kernel
theorem J_MPlaceRows_differ_d6 : decode J_MPlaceRows_differ.2.1 6 = .ok (.iload 7, 2) := by decide +kernel
theorem J_MPlaceRows_differ_d8 : decode J_MPlaceRows_differ.2.1 8 = .ok (.iload_n 2, 1) := by decide +kernel
theorem J_MPlaceRows_differ_d9 : decode J_MPlaceRows_differ.2.1 9 = .ok (.iload_n 3, 1) := by decide +kernel
theorem J_MPlaceRows_differ_d10 : decode J_MPlaceRows_differ.2.1 10 = .ok (.iadd, 1) := by decide +kernel
theorem J_MPlaceRows_differ_d11 : decode J_MPlaceRows_differ.2.1 11 = .ok (.if_icmp .ge 81, 3) := by decide +kernel
theorem J_MPlaceRows_differ_d14 : decode J_MPlaceRows_differ.2.1 14 = .ok (.iload_n 1, 1) := by decide +kernel
theorem J_MPlaceRows_differ_d15 : decode J_MPlaceRows_differ.2.1 15 = .ok (.istore 8, 2) := by decide +kernel
theorem J_MPlaceRows_differ_d17 : decode J_MPlaceRows_differ.2.1 17 = .ok (.iload 8, 2) := by decide +kernel
theorem J_MPlaceRows_differ_d19 : decode J_MPlaceRows_differ.2.1 19 = .ok (.iload_n 1, 1) := by decide +kernel
theorem J_MPlaceRows_differ_d20 : decode J_MPlaceRows_differ.2.1 20 = .ok (.iload_n 3, 1) := by decide +kernel
theorem J_MPlaceRows_differ_d21 : decode J_MPlaceRows_differ.2.1 21 = .ok (.iadd, 1) := by decide +kernel
theorem J_MPlaceRows_differ_d22 : decode J_MPlaceRows_differ.2.1 22 = .ok (.if_icmp .ge 64, 3) := by decide +kernel
theorem J_MPlaceRows_differ_d25 : decode J_MPlaceRows_differ.2.1 25 = .ok (.iload 6, 2) := by decide +kernel
theorem J_MPlaceRows_differ_d27 : decode J_MPlaceRows_differ.2.1 27 = .ok (.aload_n 0, 1) := by decide +kernel
theorem J_MPlaceRows_differ_d28 : decode J_MPlaceRows_differ.2.1 28 = .ok (.iload 8, 2) := by decide +kernel
theorem J_MPlaceRows_differ_d30 : decode J_MPlaceRows_differ.2.1 30 = .ok (.iload 7, 2) := by decide +kernel
theorem J_MPlaceRows_differ_d32 : decode J_MPlaceRows_differ.2.1 32 = .ok (.invokevirtual 51, 3) := by decide +kernel
theorem J_MPlaceRows_differ_d35 : decode J_MPlaceRows_differ.2.1 35 = .ok (.iload 4, 2) := by decide +kernel
theorem J_MPlaceRows_differ_d37 : decode J_MPlaceRows_differ.2.1 37 = .ok (.if_icmp .ne 7, 3) := by decide +kernel
theorem J_MPlaceRows_differ_d40 : decode J_MPlaceRows_differ.2.1 40 = .ok (.iconst 0, 1) := by decide +kernel
theorem J_MPlaceRows_differ_d41 : decode J_MPlaceRows_differ.2.1 41 = .ok (.goto 4, 3) := by decide +kernel
theorem J_MPlaceRows_differ_d44 : decode J_MPlaceRows_differ.2.1 44 = .ok (.iconst 1, 1) := by decide +kernel
theorem J_MPlaceRows_differ_d45 : decode J_MPlaceRows_differ.2.1 45 = .ok (.iadd, 1) := by decide +kernel
theorem J_MPlaceRows_differ_d46 : decode J_MPlaceRows_differ.2.1 46 = .ok (.istore 6, 2) := by decide +kernel
theorem J_MPlaceRows_differ_d48 : decode J_MPlaceRows_differ.2.1 48 = .ok (.aload_n 0, 1) := by decide +kernel
theorem J_MPlaceRows_differ_d49 : decode J_MPlaceRows_differ.2.1 49 = .ok (.getfield 17, 3) := by decide +kernel
theorem J_MPlaceRows_differ_d52 : decode J_MPlaceRows_differ.2.1 52 = .ok (.sipush 512, 3) := by decide +kernel
theorem J_MPlaceRows_differ_d55 : decode J_MPlaceRows_differ.2.1 55 = .ok (.iload 7, 2) := by decide +kernel
theorem J_MPlaceRows_differ_d57 : decode J_MPlaceRows_differ.2.1 57 = .ok (.imul, 1) := by decide +kernel
theorem J_MPlaceRows_differ_d58 : decode J_MPlaceRows_differ.2.1 58 = .ok (.iload 8, 2) := by decide +kernel
theorem J_MPlaceRows_differ_d60 : decode J_MPlaceRows_differ.2.1 60 = .ok (.iadd, 1) := by decide +kernel
theorem J_MPlaceRows_differ_d61 : decode J_MPlaceRows_differ.2.1 61 = .ok (.iload 5, 2) := by decide +kernel
theorem J_MPlaceRows_differ_d63 : decode J_MPlaceRows_differ.2.1 63 = .ok (.ifCond .eq 8, 3) := by decide +kernel
theorem J_MPlaceRows_differ_d66 : decode J_MPlaceRows_differ.2.1 66 = .ok (.iload 4, 2) := by decide +kernel
theorem J_MPlaceRows_differ_d68 : decode J_MPlaceRows_differ.2.1 68 = .ok (.goto 11, 3) := by decide +kernel
theorem J_MPlaceRows_differ_d71 : decode J_MPlaceRows_differ.2.1 71 = .ok (.aload_n 0, 1) := by decide +kernel
theorem J_MPlaceRows_differ_d72 : decode J_MPlaceRows_differ.2.1 72 = .ok (.iload 8, 2) := by decide +kernel
theorem J_MPlaceRows_differ_d74 : decode J_MPlaceRows_differ.2.1 74 = .ok (.iload 7, 2) := by decide +kernel
theorem J_MPlaceRows_differ_d76 : decode J_MPlaceRows_differ.2.1 76 = .ok (.invokevirtual 51, 3) := by decide +kernel
theorem J_MPlaceRows_differ_d79 : decode J_MPlaceRows_differ.2.1 79 = .ok (.bastore, 1) := by decide +kernel
theorem J_MPlaceRows_differ_d80 : decode J_MPlaceRows_differ.2.1 80 = .ok (.iinc 8 1, 3) := by decide +kernel
theorem J_MPlaceRows_differ_d83 : decode J_MPlaceRows_differ.2.1 83 = .ok (.goto (-66), 3) := by decide +kernel
theorem J_MPlaceRows_differ_d86 : decode J_MPlaceRows_differ.2.1 86 = .ok (.iinc 7 1, 3) := by decide +kernel
theorem J_MPlaceRows_differ_d89 : decode J_MPlaceRows_differ.2.1 89 = .ok (.goto (-83), 3) := by decide +kernel
theorem J_MPlaceRows_differ_d92 : decode J_MPlaceRows_differ.2.1 92 = .ok (.iload 6, 2) := by decide +kernel
theorem J_MPlaceRows_differ_d94 : decode J_MPlaceRows_differ.2.1 94 = .ok (.ireturn, 1) := by decide +kernel
theorem f_MPlaceRows_differ_ok {L : Nat} {xs : Nat → Int32} {dep : Nat} {w : Bool} {p0 : Int32} {p1 : Int32} {p2 : Int32} {p3 : Int32} {p4 : Int32} {M : im_M} {Q : Int32 × im_M → Prop} (hM : lw_S w M) (h : ed (f_MPlaceRows_differ p0 p1 p2 p3 p4 M) Q) : ia (tb_G L xs) (dep + 1) J_MPlaceRows_differ (rwI w Q) (0, lv_args 0 [.ref 130, .int p0, .int p1, .int p2, .int p3, .int p4], [], M) := by
  have hS : im_St (tb_G L xs) (dep + 1) J_MPlaceRows_differ (ia (tb_G L xs) (dep + 1) J_MPlaceRows_differ (rwI w Q)) := ia_St
  unfold f_MPlaceRows_differ at h
  have l0 : im_lk (lv_args 0 [.ref 130, .int p0, .int p1, .int p2, .int p3, .int p4]) 0 = some (.ref 130) := rfl
  have l1 : im_lk (lv_args 0 [.ref 130, .int p0, .int p1, .int p2, .int p3, .int p4]) 1 = some (.int p0) := rfl
  have l2 : im_lk (lv_args 0 [.ref 130, .int p0, .int p1, .int p2, .int p3, .int p4]) 2 = some (.int p1) := rfl
  have l3 : im_lk (lv_args 0 [.ref 130, .int p0, .int p1, .int p2, .int p3, .int p4]) 3 = some (.int p2) := rfl
  have l4 : im_lk (lv_args 0 [.ref 130, .int p0, .int p1, .int p2, .int p3, .int p4]) 4 = some (.int p3) := rfl
  have l5 : im_lk (lv_args 0 [.ref 130, .int p0, .int p1, .int p2, .int p3, .int p4]) 5 = some (.int p4) := rfl
  refine iq_iconst hS 1 J_MPlaceRows_differ_d0 (v := 0) (by decide +kernel) rfl ?_
  refine iq_istore hS 3 J_MPlaceRows_differ_d1 (by decide) rfl ?_
  refine iq_iload_n hS 4 J_MPlaceRows_differ_d3 (lk_1i l2 (by decide)) rfl ?_
  refine iq_istore hS 6 J_MPlaceRows_differ_d4 (by decide) rfl ?_
  obtain ⟨Q1, hQ1, h⟩ := bd2_ed h
  have K1 : ∀ (y2 : Int32) (M3 : im_M) (L' : List (Nat × Value)), lw_S w M3 → im_lk L' 6 = some (.int y2) → Q1 (y2, M3) → ia (tb_G L xs) (dep + 1) J_MPlaceRows_differ (rwI w Q) (92, L', [], M3) := by
    intro y2 M3 L' hM3 l4 h
    replace h := hQ1 _ _ h
    refine iq_iload hS 94 J_MPlaceRows_differ_d92 l4 rfl ?_
    exact iq_iret J_MPlaceRows_differ_d94 rfl rfl ⟨_, rfl, hM3, ed_some h⟩
  obtain ⟨r1, hr1, hq1⟩ := h
  obtain ⟨n1, hn1⟩ := lp_n hr1
  have I1 : ∀ (n : Nat) (x5 : Int32) (x6 : Int32) (M7 : im_M) (L' : List (Nat × Value)), lw_S w M7 → im_lk L' 0 = some (.ref 130) → im_lk L' 1 = some (.int p0) → im_lk L' 2 = some (.int p1) → im_lk L' 3 = some (.int p2) → im_lk L' 4 = some (.int p3) → im_lk L' 5 = some (.int p4) → im_lk L' 6 = some (.int x5) → im_lk L' 7 = some (.int x6) → lpn (uc3 (f_MPlaceRows_differ_L6 p0 p1 p2 p3 p4)) n (x5, x6, M7) = some r1 → ia (tb_G L xs) (dep + 1) J_MPlaceRows_differ (rwI w Q) (6, L', [], M7) := by
    intro n
    induction n with
    | zero => intro x5 x6 M7 L' hM7 l8 l9 l10 l11 l12 l13 l14 l15 hn; exact (lpn_0 hn).elim
    | succ n ih =>
      intro x5 x6 M7 L' hM7 l8 l9 l10 l11 l12 l13 l14 l15 hn
      have h := lpn_ed3 hn
      unfold f_MPlaceRows_differ_L6 at h
      refine iq_iload hS 8 J_MPlaceRows_differ_d6 l15 rfl ?_
      refine iq_iload_n hS 9 J_MPlaceRows_differ_d8 l10 rfl ?_
      refine iq_iload_n hS 10 J_MPlaceRows_differ_d9 l11 rfl ?_
      refine iq_iadd hS 11 J_MPlaceRows_differ_d10 rfl ?_
      refine iq_icmp_ge hS 14 J_MPlaceRows_differ_d11 (t := 92) rfl (fun q11 => ?_) rfl (fun q11 => ?_)
      · replace h := ed_pos q11 h
        exact K1 _ _ _ hM7 l14 (lq_r h hq1)
      · replace h := ed_neg q11 h
        refine iq_iload_n hS 15 J_MPlaceRows_differ_d14 l9 rfl ?_
        refine iq_istore hS 17 J_MPlaceRows_differ_d15 (by decide) rfl ?_
        obtain ⟨Q16, hQ16, h⟩ := bd2_ed h
        have K16 : ∀ (y17 : Int32) (M18 : im_M) (L' : List (Nat × Value)), lw_S w M18 → im_lk L' 0 = some (.ref 130) → im_lk L' 1 = some (.int p0) → im_lk L' 2 = some (.int p1) → im_lk L' 3 = some (.int p2) → im_lk L' 4 = some (.int p3) → im_lk L' 5 = some (.int p4) → im_lk L' 6 = some (.int y17) → im_lk L' 7 = some (.int x6) → Q16 (y17, M18) → ia (tb_G L xs) (dep + 1) J_MPlaceRows_differ (rwI w Q) (86, L', [], M18) := by
          intro y17 M18 L' hM18 l19 l20 l21 l22 l23 l24 l25 l26 h
          replace h := hQ16 _ _ h
          refine iq_iincv hS 89 J_MPlaceRows_differ_d86 (c := 1) (by decide +kernel) l26 (by decide) rfl ?_
          refine iq_goto hS J_MPlaceRows_differ_d89 (t := 6) rfl ?_
          exact ih _ _ _ _ hM18 (lk_1r l19 (by decide)) (lk_1i l20 (by decide)) (lk_1i l21 (by decide)) (lk_1i l22 (by decide)) (lk_1i l23 (by decide)) (lk_1i l24 (by decide)) (lk_1i l25 (by decide)) lk_1s (lq_l h)
        obtain ⟨r16, hr16, hq16⟩ := h
        obtain ⟨n16, hn16⟩ := lp_n hr16
        have I16 : ∀ (n : Nat) (x27 : Int32) (x28 : Int32) (M29 : im_M) (L' : List (Nat × Value)), lw_S w M29 → im_lk L' 0 = some (.ref 130) → im_lk L' 1 = some (.int p0) → im_lk L' 2 = some (.int p1) → im_lk L' 3 = some (.int p2) → im_lk L' 4 = some (.int p3) → im_lk L' 5 = some (.int p4) → im_lk L' 6 = some (.int x27) → im_lk L' 7 = some (.int x6) → im_lk L' 8 = some (.int x28) → lpn (uc3 (f_MPlaceRows_differ_L17 p0 p1 p2 p3 p4 x6)) n (x27, x28, M29) = some r16 → ia (tb_G L xs) (dep + 1) J_MPlaceRows_differ (rwI w Q) (17, L', [], M29) := by
          intro n
          induction n with
          | zero => intro x27 x28 M29 L' hM29 l30 l31 l32 l33 l34 l35 l36 l37 l38 hn; exact (lpn_0 hn).elim
          | succ n ih =>
            intro x27 x28 M29 L' hM29 l30 l31 l32 l33 l34 l35 l36 l37 l38 hn
            have h := lpn_ed3 hn
            unfold f_MPlaceRows_differ_L17 at h
            refine iq_iload hS 19 J_MPlaceRows_differ_d17 l38 rfl ?_
            refine iq_iload_n hS 20 J_MPlaceRows_differ_d19 l31 rfl ?_
            refine iq_iload_n hS 21 J_MPlaceRows_differ_d20 l33 rfl ?_
            refine iq_iadd hS 22 J_MPlaceRows_differ_d21 rfl ?_
            refine iq_icmp_ge hS 25 J_MPlaceRows_differ_d22 (t := 86) rfl (fun q22 => ?_) rfl (fun q22 => ?_)
            · replace h := ed_pos q22 h
              exact K16 _ _ _ hM29 l30 l31 l32 l33 l34 l35 l36 l37 (lq_r h hq16)
            · replace h := ed_neg q22 h
              refine iq_iload hS 27 J_MPlaceRows_differ_d25 l36 rfl ?_
              refine iq_aload_n hS 28 J_MPlaceRows_differ_d27 l30 rfl ?_
              refine iq_iload hS 30 J_MPlaceRows_differ_d28 l38 rfl ?_
              refine iq_iload hS 32 J_MPlaceRows_differ_d30 l37 rfl ?_
              obtain ⟨Q39, hQ39, h⟩ := bd1_ed h
              refine iq_cpI hS 35 J_MPlaceRows_differ_d32 rfl (pr_inst (vs := [_, _]) lc_14_51 lT_444 rfl rfl (by decide) (by decide) rfl (Nat.le_of_ble_eq_true rfl) (Nat.le_of_ble_eq_true rfl) (fun _ => Or.inl (pr_b (ka_130 hM29) (by decide) rfl))) (f_MPlaceRows_isDark_ok (dep := dep + 0) hM29 h) rfl ?_
              intro x39 h
              replace h := hQ39 _ h
              refine iq_iload hS 37 J_MPlaceRows_differ_d35 l34 rfl ?_
              have J40 : ∀ (z41 : Int32) (L' : List (Nat × Value)), z41 = ((if ¬ x39 = p3 then 1 else 0) : Int32) → im_lk L' 0 = some (.ref 130) → im_lk L' 1 = some (.int p0) → im_lk L' 2 = some (.int p1) → im_lk L' 3 = some (.int p2) → im_lk L' 4 = some (.int p3) → im_lk L' 5 = some (.int p4) → im_lk L' 7 = some (.int x6) → im_lk L' 8 = some (.int x28) → ia (tb_G L xs) (dep + 1) J_MPlaceRows_differ (rwI w Q) (45, L', [.int z41, .int x27], M29) := by
                intro z41 L' e42 l43 l44 l45 l46 l47 l48 l49 l50
                subst e42
                refine iq_iadd hS 46 J_MPlaceRows_differ_d45 rfl ?_
                refine iq_istore hS 48 J_MPlaceRows_differ_d46 (by decide) rfl ?_
                refine iq_aload_n hS 49 J_MPlaceRows_differ_d48 (lk_1r l43 (by decide)) rfl ?_
                refine iq_getR hS 52 J_MPlaceRows_differ_d49 lf_14_17 (Or.inr ⟨_, rfl⟩) (ka_130 hM29) (ra_130_3 hM29) rfl ?_
                refine iq_sipush hS 55 J_MPlaceRows_differ_d52 (v := 512) (by decide +kernel) rfl ?_
                refine iq_iload hS 57 J_MPlaceRows_differ_d55 (lk_1i l49 (by decide)) rfl ?_
                refine iq_imul hS 58 J_MPlaceRows_differ_d57 rfl ?_
                refine iq_iload hS 60 J_MPlaceRows_differ_d58 (lk_1i l50 (by decide)) rfl ?_
                refine iq_iadd hS 61 J_MPlaceRows_differ_d60 rfl ?_
                refine iq_iload hS 63 J_MPlaceRows_differ_d61 (lk_1i l48 (by decide)) rfl ?_
                obtain ⟨Q51, hQ51, h⟩ := bd1_ed h
                have J51 : ∀ (y53 : Int32) (L' : List (Nat × Value)), im_lk L' 0 = some (.ref 130) → im_lk L' 1 = some (.int p0) → im_lk L' 2 = some (.int p1) → im_lk L' 3 = some (.int p2) → im_lk L' 4 = some (.int p3) → im_lk L' 5 = some (.int p4) → im_lk L' 6 = some (.int (x27 + ((if ¬ x39 = p3 then 1 else 0) : Int32))) → im_lk L' 7 = some (.int x6) → im_lk L' 8 = some (.int x28) → Q51 y53 → ia (tb_G L xs) (dep + 1) J_MPlaceRows_differ (rwI w Q) (79, L', [.int y53, .int (((512 : Int32) * x6) + x28), .ref 131], M29) := by
                  intro y53 L' l54 l55 l56 l57 l58 l59 l60 l61 l62 h
                  replace h := hQ51 _ h
                  obtain ⟨g79, h⟩ := ed_gd h
                  refine iq_zastore hS 80 J_MPlaceRows_differ_d79 ⟨(ka_131 hM29).1, (ka_131 hM29).2, g79.1, ix_lt (kl_131 hM29) g79.2⟩ rfl ?_
                  refine iq_iincv hS 83 J_MPlaceRows_differ_d80 (c := 1) (by decide +kernel) l62 (by decide) rfl ?_
                  refine iq_goto hS J_MPlaceRows_differ_d83 (t := 17) rfl ?_
                  exact ih _ _ _ _ hM29 (lk_1r l54 (by decide)) (lk_1i l55 (by decide)) (lk_1i l56 (by decide)) (lk_1i l57 (by decide)) (lk_1i l58 (by decide)) (lk_1i l59 (by decide)) (lk_1i l60 (by decide)) (lk_1i l61 (by decide)) lk_1s (lq_l h)
                refine iq_if_eq hS 66 J_MPlaceRows_differ_d63 (t := 71) rfl (fun q63 => ?_) rfl (fun q63 => ?_)
                · replace h := ed_pos q63 h
                  refine iq_aload_n hS 72 J_MPlaceRows_differ_d71 (lk_1r l43 (by decide)) rfl ?_
                  refine iq_iload hS 74 J_MPlaceRows_differ_d72 (lk_1i l50 (by decide)) rfl ?_
                  refine iq_iload hS 76 J_MPlaceRows_differ_d74 (lk_1i l49 (by decide)) rfl ?_
                  obtain ⟨Q52, hQ52, h⟩ := bd1_ed h
                  refine iq_cpI hS 79 J_MPlaceRows_differ_d76 rfl (pr_inst (vs := [_, _]) lc_14_51 lT_444 rfl rfl (by decide) (by decide) rfl (Nat.le_of_ble_eq_true rfl) (Nat.le_of_ble_eq_true rfl) (fun _ => Or.inl (pr_b (ka_130 hM29) (by decide) rfl))) (f_MPlaceRows_isDark_ok (dep := dep + 0) hM29 h) rfl ?_
                  intro x52 h
                  replace h := hQ52 _ h
                  exact J51 _ _ (lk_1r l43 (by decide)) (lk_1i l44 (by decide)) (lk_1i l45 (by decide)) (lk_1i l46 (by decide)) (lk_1i l47 (by decide)) (lk_1i l48 (by decide)) lk_1s (lk_1i l49 (by decide)) (lk_1i l50 (by decide)) (ed_some h)
                · replace h := ed_neg q63 h
                  refine iq_iload hS 68 J_MPlaceRows_differ_d66 (lk_1i l47 (by decide)) rfl ?_
                  refine iq_goto hS J_MPlaceRows_differ_d68 (t := 79) rfl ?_
                  exact J51 _ _ (lk_1r l43 (by decide)) (lk_1i l44 (by decide)) (lk_1i l45 (by decide)) (lk_1i l46 (by decide)) (lk_1i l47 (by decide)) (lk_1i l48 (by decide)) lk_1s (lk_1i l49 (by decide)) (lk_1i l50 (by decide)) (ed_some h)
              refine iq_icmp_ne hS 40 J_MPlaceRows_differ_d37 (t := 44) rfl (fun q37 => ?_) rfl (fun q37 => ?_)
              · refine iq_iconst hS 45 J_MPlaceRows_differ_d44 (v := 1) (by decide +kernel) rfl ?_
                exact J40 _ _ (by rw [if_pos q37]) l30 l31 l32 l33 l34 l35 l37 l38
              · refine iq_iconst hS 41 J_MPlaceRows_differ_d40 (v := 0) (by decide +kernel) rfl ?_
                refine iq_goto hS J_MPlaceRows_differ_d41 (t := 45) rfl ?_
                exact J40 _ _ (by rw [if_neg q37]) l30 l31 l32 l33 l34 l35 l37 l38
        exact I16 n16 _ _ _ _ hM7 (lk_1r l8 (by decide)) (lk_1i l9 (by decide)) (lk_1i l10 (by decide)) (lk_1i l11 (by decide)) (lk_1i l12 (by decide)) (lk_1i l13 (by decide)) (lk_1i l14 (by decide)) (lk_1i l15 (by decide)) lk_1s hn16
  exact I1 n1 _ _ _ _ hM (lk_1r (lk_1r l0 (by decide)) (by decide)) (lk_1i (lk_1i l1 (by decide)) (by decide)) (lk_1i (lk_1i l2 (by decide)) (by decide)) (lk_1i (lk_1i l3 (by decide)) (by decide)) (lk_1i (lk_1i l4 (by decide)) (by decide)) (lk_1i (lk_1i l5 (by decide)) (by decide)) (lk_1i lk_1s (by decide)) lk_1s hn1
noncomputable def f_MPlaceRows_modules_L78 (v4 : Int32) (v5 : Int32) (v6 : Int32) (v7 : Int32) (v8 : Int32) (v9 : Int32) (x10 : Int64) (x11 : Int32) (M12 : im_M) : Option ((Int64 × Int32 × im_M) ⊕ (Int64 × im_M)) := if 64 ≤ x11 then some (.inr (x10, M12)) else bd2 (if (lg_cmp ((Int32.toInt64 v5) + (Int32.toInt64 x11)) 0) < 0 then some (x10, M12) else if 0 ≤ (lg_cmp ((Int32.toInt64 v5) + (Int32.toInt64 x11)) (Int32.toInt64 v8)) then some (x10, M12) else if v6 < 0 then some (x10, M12) else if v8 ≤ v6 then some (x10, M12) else gd (inb ((6 : Int32) * v4) 1800) <| bd1 (f_MPlaceRows_blockX v8 (Int64.toInt32 ((Int32.toInt64 v5) + (Int32.toInt64 x11))) v6 v9 M12) fun (x14 : Int32) => gd (inb (((6 : Int32) * v4) + 1) 1800) <| bd1 (f_MPlaceRows_blockY v8 (Int64.toInt32 ((Int32.toInt64 v5) + (Int32.toInt64 x11))) v6 v9 M12) fun (x15 : Int32) => bd2 (f_MPlaceRows_differ ((im_i M12 135 (Int32.toNatClampNeg ((6 : Int32) * v4))) + (v7 * x14)) ((im_i M12 135 (Int32.toNatClampNeg (((6 : Int32) * v4) + 1))) + (v7 * x15)) v7 0 0 M12) fun (x16 : Int32) (M16 : im_M) => some ((x10 ||| ((if ((2 : Int32) * x16) ≤ (v7 * v7) then 0 else ((1 : Int64) <<< (Int32.toInt64 x11 &&& 63))) : Int64)), M16)) fun (y18 : Int64) (M19 : im_M) => some (.inl (y18, (x11 + 1), M19))
noncomputable def f_MPlaceRows_modules (p0 : Int32) (p1 : Int32) (p2 : Int32) (M : im_M) : Option (Int64 × im_M) := if (im_i (im_setI M 130 0 ((if p0 < 0 then 1 else (if p0 < (im_i M 130 10) then 0 else 1)) : Int32)) 130 0) ≤ 0 then gd (inb (((6 : Int32) * p0) + 2) 1800) <| gd (inb (((6 : Int32) * p0) + 3) 1800) <| bd1 (f_MPlaceRows_side (im_i (im_setI M 130 0 ((if p0 < 0 then 1 else (if p0 < (im_i M 130 10) then 0 else 1)) : Int32)) 135 (Int32.toNatClampNeg (((6 : Int32) * p0) + 3))) (im_setI M 130 0 ((if p0 < 0 then 1 else (if p0 < (im_i M 130 10) then 0 else 1)) : Int32))) fun (x2 : Int32) => gd (inb (((6 : Int32) * p0) + 4) 1800) <| bd2 (lp (uc3 (f_MPlaceRows_modules_L78 p0 p1 p2 (im_i (im_setI M 130 0 ((if p0 < 0 then 1 else (if p0 < (im_i M 130 10) then 0 else 1)) : Int32)) 135 (Int32.toNatClampNeg (((6 : Int32) * p0) + 2))) x2 (im_i (im_setI M 130 0 ((if p0 < 0 then 1 else (if p0 < (im_i M 130 10) then 0 else 1)) : Int32)) 135 (Int32.toNatClampNeg (((6 : Int32) * p0) + 4))))) (0, 0, (im_setI M 130 0 ((if p0 < 0 then 1 else (if p0 < (im_i M 130 10) then 0 else 1)) : Int32)))) fun (y29 : Int64) (M30 : im_M) => some (y29, M30) else some (0, (im_setI M 130 0 ((if p0 < 0 then 1 else (if p0 < (im_i M 130 10) then 0 else 1)) : Int32)))
theorem J_MPlaceRows_modules_d0 : decode J_MPlaceRows_modules.2.1 0 = .ok (.aload_n 0, 1) := by decide +kernel
theorem J_MPlaceRows_modules_d1 : decode J_MPlaceRows_modules.2.1 1 = .ok (.iload_n 1, 1) := by decide +kernel
theorem J_MPlaceRows_modules_d2 : decode J_MPlaceRows_modules.2.1 2 = .ok (.ifCond .lt 11, 3) := by decide +kernel
theorem J_MPlaceRows_modules_d5 : decode J_MPlaceRows_modules.2.1 5 = .ok (.iload_n 1, 1) := by decide +kernel
theorem J_MPlaceRows_modules_d6 : decode J_MPlaceRows_modules.2.1 6 = .ok (.aload_n 0, 1) := by decide +kernel
theorem J_MPlaceRows_modules_d7 : decode J_MPlaceRows_modules.2.1 7 = .ok (.getfield 41, 3) := by decide +kernel
theorem J_MPlaceRows_modules_d10 : decode J_MPlaceRows_modules.2.1 10 = .ok (.if_icmp .lt 7, 3) := by decide +kernel
theorem J_MPlaceRows_modules_d13 : decode J_MPlaceRows_modules.2.1 13 = .ok (.iconst 1, 1) := by decide +kernel
theorem J_MPlaceRows_modules_d14 : decode J_MPlaceRows_modules.2.1 14 = .ok (.goto 4, 3) := by decide +kernel
theorem J_MPlaceRows_modules_d17 : decode J_MPlaceRows_modules.2.1 17 = .ok (.iconst 0, 1) := by decide +kernel
theorem J_MPlaceRows_modules_d18 : decode J_MPlaceRows_modules.2.1 18 = .ok (.putfield 35, 3) := by decide +kernel
theorem J_MPlaceRows_modules_d21 : decode J_MPlaceRows_modules.2.1 21 = .ok (.aload_n 0, 1) := by decide +kernel
theorem J_MPlaceRows_modules_d22 : decode J_MPlaceRows_modules.2.1 22 = .ok (.getfield 35, 3) := by decide +kernel
theorem J_MPlaceRows_modules_d25 : decode J_MPlaceRows_modules.2.1 25 = .ok (.ifCond .le 5, 3) := by decide +kernel
theorem J_MPlaceRows_modules_d28 : decode J_MPlaceRows_modules.2.1 28 = .ok (.lconst 0, 1) := by decide +kernel
theorem J_MPlaceRows_modules_d29 : decode J_MPlaceRows_modules.2.1 29 = .ok (.lreturn, 1) := by decide +kernel
theorem J_MPlaceRows_modules_d30 : decode J_MPlaceRows_modules.2.1 30 = .ok (.aload_n 0, 1) := by decide +kernel
theorem J_MPlaceRows_modules_d31 : decode J_MPlaceRows_modules.2.1 31 = .ok (.getfield 32, 3) := by decide +kernel
theorem J_MPlaceRows_modules_d34 : decode J_MPlaceRows_modules.2.1 34 = .ok (.bipush 6, 2) := by decide +kernel
theorem J_MPlaceRows_modules_d36 : decode J_MPlaceRows_modules.2.1 36 = .ok (.iload_n 1, 1) := by decide +kernel
theorem J_MPlaceRows_modules_d37 : decode J_MPlaceRows_modules.2.1 37 = .ok (.imul, 1) := by decide +kernel
theorem J_MPlaceRows_modules_d38 : decode J_MPlaceRows_modules.2.1 38 = .ok (.iconst 2, 1) := by decide +kernel
theorem J_MPlaceRows_modules_d39 : decode J_MPlaceRows_modules.2.1 39 = .ok (.iadd, 1) := by decide +kernel
theorem J_MPlaceRows_modules_d40 : decode J_MPlaceRows_modules.2.1 40 = .ok (.iaload, 1) := by decide +kernel
theorem J_MPlaceRows_modules_d41 : decode J_MPlaceRows_modules.2.1 41 = .ok (.istore 4, 2) := by decide +kernel
theorem J_MPlaceRows_modules_d43 : decode J_MPlaceRows_modules.2.1 43 = .ok (.aload_n 0, 1) := by decide +kernel
theorem J_MPlaceRows_modules_d44 : decode J_MPlaceRows_modules.2.1 44 = .ok (.getfield 32, 3) := by decide +kernel
theorem J_MPlaceRows_modules_d47 : decode J_MPlaceRows_modules.2.1 47 = .ok (.bipush 6, 2) := by decide +kernel
theorem J_MPlaceRows_modules_d49 : decode J_MPlaceRows_modules.2.1 49 = .ok (.iload_n 1, 1) := by decide +kernel
theorem J_MPlaceRows_modules_d50 : decode J_MPlaceRows_modules.2.1 50 = .ok (.imul, 1) := by decide +kernel
theorem J_MPlaceRows_modules_d51 : decode J_MPlaceRows_modules.2.1 51 = .ok (.iconst 3, 1) := by decide +kernel
theorem J_MPlaceRows_modules_d52 : decode J_MPlaceRows_modules.2.1 52 = .ok (.iadd, 1) := by decide +kernel
theorem J_MPlaceRows_modules_d53 : decode J_MPlaceRows_modules.2.1 53 = .ok (.iaload, 1) := by decide +kernel
theorem J_MPlaceRows_modules_d54 : decode J_MPlaceRows_modules.2.1 54 = .ok (.invokestatic 59, 3) := by decide +kernel
theorem J_MPlaceRows_modules_d57 : decode J_MPlaceRows_modules.2.1 57 = .ok (.istore 5, 2) := by decide +kernel
theorem J_MPlaceRows_modules_d59 : decode J_MPlaceRows_modules.2.1 59 = .ok (.aload_n 0, 1) := by decide +kernel
theorem J_MPlaceRows_modules_d60 : decode J_MPlaceRows_modules.2.1 60 = .ok (.getfield 32, 3) := by decide +kernel
theorem J_MPlaceRows_modules_d63 : decode J_MPlaceRows_modules.2.1 63 = .ok (.bipush 6, 2) := by decide +kernel
theorem J_MPlaceRows_modules_d65 : decode J_MPlaceRows_modules.2.1 65 = .ok (.iload_n 1, 1) := by decide +kernel
theorem J_MPlaceRows_modules_d66 : decode J_MPlaceRows_modules.2.1 66 = .ok (.imul, 1) := by decide +kernel
theorem J_MPlaceRows_modules_d67 : decode J_MPlaceRows_modules.2.1 67 = .ok (.iconst 4, 1) := by decide +kernel
theorem J_MPlaceRows_modules_d68 : decode J_MPlaceRows_modules.2.1 68 = .ok (.iadd, 1) := by decide +kernel
theorem J_MPlaceRows_modules_d69 : decode J_MPlaceRows_modules.2.1 69 = .ok (.iaload, 1) := by decide +kernel
theorem J_MPlaceRows_modules_d70 : decode J_MPlaceRows_modules.2.1 70 = .ok (.istore 6, 2) := by decide +kernel
theorem J_MPlaceRows_modules_d72 : decode J_MPlaceRows_modules.2.1 72 = .ok (.lconst 0, 1) := by decide +kernel
theorem J_MPlaceRows_modules_d73 : decode J_MPlaceRows_modules.2.1 73 = .ok (.lstore 7, 2) := by decide +kernel
theorem J_MPlaceRows_modules_d75 : decode J_MPlaceRows_modules.2.1 75 = .ok (.iconst 0, 1) := by decide +kernel
theorem J_MPlaceRows_modules_d76 : decode J_MPlaceRows_modules.2.1 76 = .ok (.istore 9, 2) := by decide +kernel
theorem J_MPlaceRows_modules_d78 : decode J_MPlaceRows_modules.2.1 78 = .ok (.iload 9, 2) := by decide +kernel
theorem J_MPlaceRows_modules_d80 : decode J_MPlaceRows_modules.2.1 80 = .ok (.bipush 64, 2) := by decide +kernel
theorem J_MPlaceRows_modules_d82 : decode J_MPlaceRows_modules.2.1 82 = .ok (.if_icmp .ge 136, 3) := by decide +kernel
theorem J_MPlaceRows_modules_d85 : decode J_MPlaceRows_modules.2.1 85 = .ok (.iload_n 2, 1) := by decide +kernel
theorem J_MPlaceRows_modules_d86 : decode J_MPlaceRows_modules.2.1 86 = .ok (.i2l, 1) := by decide +kernel
theorem J_MPlaceRows_modules_d87 : decode J_MPlaceRows_modules.2.1 87 = .ok (.iload 9, 2) := by decide +kernel
theorem J_MPlaceRows_modules_d89 : decode J_MPlaceRows_modules.2.1 89 = .ok (.i2l, 1) := by decide +kernel
theorem J_MPlaceRows_modules_d90 : decode J_MPlaceRows_modules.2.1 90 = .ok (.ladd, 1) := by decide +kernel
theorem J_MPlaceRows_modules_d91 : decode J_MPlaceRows_modules.2.1 91 = .ok (.lstore 10, 2) := by decide +kernel
theorem J_MPlaceRows_modules_d93 : decode J_MPlaceRows_modules.2.1 93 = .ok (.lload 10, 2) := by decide +kernel
theorem J_MPlaceRows_modules_d95 : decode J_MPlaceRows_modules.2.1 95 = .ok (.lconst 0, 1) := by decide +kernel
theorem J_MPlaceRows_modules_d96 : decode J_MPlaceRows_modules.2.1 96 = .ok (.lcmp, 1) := by decide +kernel
theorem J_MPlaceRows_modules_d97 : decode J_MPlaceRows_modules.2.1 97 = .ok (.ifCond .lt 115, 3) := by decide +kernel
theorem J_MPlaceRows_modules_d100 : decode J_MPlaceRows_modules.2.1 100 = .ok (.lload 10, 2) := by decide +kernel
theorem J_MPlaceRows_modules_d102 : decode J_MPlaceRows_modules.2.1 102 = .ok (.iload 5, 2) := by decide +kernel
theorem J_MPlaceRows_modules_d104 : decode J_MPlaceRows_modules.2.1 104 = .ok (.i2l, 1) := by decide +kernel
theorem J_MPlaceRows_modules_d105 : decode J_MPlaceRows_modules.2.1 105 = .ok (.lcmp, 1) := by decide +kernel
theorem J_MPlaceRows_modules_d106 : decode J_MPlaceRows_modules.2.1 106 = .ok (.ifCond .ge 106, 3) := by decide +kernel
theorem J_MPlaceRows_modules_d109 : decode J_MPlaceRows_modules.2.1 109 = .ok (.iload_n 3, 1) := by decide +kernel
theorem J_MPlaceRows_modules_d110 : decode J_MPlaceRows_modules.2.1 110 = .ok (.ifCond .lt 102, 3) := by decide +kernel
theorem J_MPlaceRows_modules_d113 : decode J_MPlaceRows_modules.2.1 113 = .ok (.iload_n 3, 1) := by decide +kernel
theorem J_MPlaceRows_modules_d114 : decode J_MPlaceRows_modules.2.1 114 = .ok (.iload 5, 2) := by decide +kernel
theorem J_MPlaceRows_modules_d116 : decode J_MPlaceRows_modules.2.1 116 = .ok (.if_icmp .ge 96, 3) := by decide +kernel
theorem J_MPlaceRows_modules_d119 : decode J_MPlaceRows_modules.2.1 119 = .ok (.aload_n 0, 1) := by decide +kernel
theorem J_MPlaceRows_modules_d120 : decode J_MPlaceRows_modules.2.1 120 = .ok (.getfield 32, 3) := by decide +kernel
theorem J_MPlaceRows_modules_d123 : decode J_MPlaceRows_modules.2.1 123 = .ok (.bipush 6, 2) := by decide +kernel
theorem J_MPlaceRows_modules_d125 : decode J_MPlaceRows_modules.2.1 125 = .ok (.iload_n 1, 1) := by decide +kernel
theorem J_MPlaceRows_modules_d126 : decode J_MPlaceRows_modules.2.1 126 = .ok (.imul, 1) := by decide +kernel
theorem J_MPlaceRows_modules_d127 : decode J_MPlaceRows_modules.2.1 127 = .ok (.iaload, 1) := by decide +kernel
theorem J_MPlaceRows_modules_d128 : decode J_MPlaceRows_modules.2.1 128 = .ok (.iload 4, 2) := by decide +kernel
theorem J_MPlaceRows_modules_d130 : decode J_MPlaceRows_modules.2.1 130 = .ok (.iload 5, 2) := by decide +kernel
theorem J_MPlaceRows_modules_d132 : decode J_MPlaceRows_modules.2.1 132 = .ok (.lload 10, 2) := by decide +kernel
theorem J_MPlaceRows_modules_d134 : decode J_MPlaceRows_modules.2.1 134 = .ok (.l2i, 1) := by decide +kernel
theorem J_MPlaceRows_modules_d135 : decode J_MPlaceRows_modules.2.1 135 = .ok (.iload_n 3, 1) := by decide +kernel
theorem J_MPlaceRows_modules_d136 : decode J_MPlaceRows_modules.2.1 136 = .ok (.iload 6, 2) := by decide +kernel
theorem J_MPlaceRows_modules_d138 : decode J_MPlaceRows_modules.2.1 138 = .ok (.invokestatic 75, 3) := by decide +kernel
theorem J_MPlaceRows_modules_d141 : decode J_MPlaceRows_modules.2.1 141 = .ok (.imul, 1) := by decide +kernel
theorem J_MPlaceRows_modules_d142 : decode J_MPlaceRows_modules.2.1 142 = .ok (.iadd, 1) := by decide +kernel
theorem J_MPlaceRows_modules_d143 : decode J_MPlaceRows_modules.2.1 143 = .ok (.istore 12, 2) := by decide +kernel
theorem J_MPlaceRows_modules_d145 : decode J_MPlaceRows_modules.2.1 145 = .ok (.aload_n 0, 1) := by decide +kernel
theorem J_MPlaceRows_modules_d146 : decode J_MPlaceRows_modules.2.1 146 = .ok (.getfield 32, 3) := by decide +kernel
theorem J_MPlaceRows_modules_d149 : decode J_MPlaceRows_modules.2.1 149 = .ok (.bipush 6, 2) := by decide +kernel
theorem J_MPlaceRows_modules_d151 : decode J_MPlaceRows_modules.2.1 151 = .ok (.iload_n 1, 1) := by decide +kernel
theorem J_MPlaceRows_modules_d152 : decode J_MPlaceRows_modules.2.1 152 = .ok (.imul, 1) := by decide +kernel
theorem J_MPlaceRows_modules_d153 : decode J_MPlaceRows_modules.2.1 153 = .ok (.iconst 1, 1) := by decide +kernel
theorem J_MPlaceRows_modules_d154 : decode J_MPlaceRows_modules.2.1 154 = .ok (.iadd, 1) := by decide +kernel
theorem J_MPlaceRows_modules_d155 : decode J_MPlaceRows_modules.2.1 155 = .ok (.iaload, 1) := by decide +kernel
theorem J_MPlaceRows_modules_d156 : decode J_MPlaceRows_modules.2.1 156 = .ok (.iload 4, 2) := by decide +kernel
theorem J_MPlaceRows_modules_d158 : decode J_MPlaceRows_modules.2.1 158 = .ok (.iload 5, 2) := by decide +kernel
theorem J_MPlaceRows_modules_d160 : decode J_MPlaceRows_modules.2.1 160 = .ok (.lload 10, 2) := by decide +kernel
theorem J_MPlaceRows_modules_d162 : decode J_MPlaceRows_modules.2.1 162 = .ok (.l2i, 1) := by decide +kernel
theorem J_MPlaceRows_modules_d163 : decode J_MPlaceRows_modules.2.1 163 = .ok (.iload_n 3, 1) := by decide +kernel
theorem J_MPlaceRows_modules_d164 : decode J_MPlaceRows_modules.2.1 164 = .ok (.iload 6, 2) := by decide +kernel
theorem J_MPlaceRows_modules_d166 : decode J_MPlaceRows_modules.2.1 166 = .ok (.invokestatic 78, 3) := by decide +kernel
theorem J_MPlaceRows_modules_d169 : decode J_MPlaceRows_modules.2.1 169 = .ok (.imul, 1) := by decide +kernel
theorem J_MPlaceRows_modules_d170 : decode J_MPlaceRows_modules.2.1 170 = .ok (.iadd, 1) := by decide +kernel
theorem J_MPlaceRows_modules_d171 : decode J_MPlaceRows_modules.2.1 171 = .ok (.istore 13, 2) := by decide +kernel
theorem J_MPlaceRows_modules_d173 : decode J_MPlaceRows_modules.2.1 173 = .ok (.aload_n 0, 1) := by decide +kernel
theorem J_MPlaceRows_modules_d174 : decode J_MPlaceRows_modules.2.1 174 = .ok (.iload 12, 2) := by decide +kernel
theorem J_MPlaceRows_modules_d176 : decode J_MPlaceRows_modules.2.1 176 = .ok (.iload 13, 2) := by decide +kernel
theorem J_MPlaceRows_modules_d178 : decode J_MPlaceRows_modules.2.1 178 = .ok (.iload 4, 2) := by decide +kernel
theorem J_MPlaceRows_modules_d180 : decode J_MPlaceRows_modules.2.1 180 = .ok (.iconst 0, 1) := by decide +kernel
theorem J_MPlaceRows_modules_d181 : decode J_MPlaceRows_modules.2.1 181 = .ok (.iconst 0, 1) := by decide +kernel
theorem J_MPlaceRows_modules_d182 : decode J_MPlaceRows_modules.2.1 182 = .ok (.invokevirtual 81, 3) := by decide +kernel
theorem J_MPlaceRows_modules_d185 : decode J_MPlaceRows_modules.2.1 185 = .ok (.istore 14, 2) := by decide +kernel
theorem J_MPlaceRows_modules_d187 : decode J_MPlaceRows_modules.2.1 187 = .ok (.lload 7, 2) := by decide +kernel
theorem J_MPlaceRows_modules_d189 : decode J_MPlaceRows_modules.2.1 189 = .ok (.iconst 2, 1) := by decide +kernel
theorem J_MPlaceRows_modules_d190 : decode J_MPlaceRows_modules.2.1 190 = .ok (.iload 14, 2) := by decide +kernel
theorem J_MPlaceRows_modules_d192 : decode J_MPlaceRows_modules.2.1 192 = .ok (.imul, 1) := by decide +kernel
theorem J_MPlaceRows_modules_d193 : decode J_MPlaceRows_modules.2.1 193 = .ok (.iload 4, 2) := by decide +kernel
theorem J_MPlaceRows_modules_d195 : decode J_MPlaceRows_modules.2.1 195 = .ok (.iload 4, 2) := by decide +kernel
theorem J_MPlaceRows_modules_d197 : decode J_MPlaceRows_modules.2.1 197 = .ok (.imul, 1) := by decide +kernel
theorem J_MPlaceRows_modules_d198 : decode J_MPlaceRows_modules.2.1 198 = .ok (.if_icmp .le 10, 3) := by decide +kernel
theorem J_MPlaceRows_modules_d201 : decode J_MPlaceRows_modules.2.1 201 = .ok (.lconst 1, 1) := by decide +kernel
theorem J_MPlaceRows_modules_d202 : decode J_MPlaceRows_modules.2.1 202 = .ok (.iload 9, 2) := by decide +kernel
theorem J_MPlaceRows_modules_d204 : decode J_MPlaceRows_modules.2.1 204 = .ok (.lshl, 1) := by decide +kernel
theorem J_MPlaceRows_modules_d205 : decode J_MPlaceRows_modules.2.1 205 = .ok (.goto 4, 3) := by decide +kernel
theorem J_MPlaceRows_modules_d208 : decode J_MPlaceRows_modules.2.1 208 = .ok (.lconst 0, 1) := by decide +kernel
theorem J_MPlaceRows_modules_d209 : decode J_MPlaceRows_modules.2.1 209 = .ok (.lor, 1) := by decide +kernel
theorem J_MPlaceRows_modules_d210 : decode J_MPlaceRows_modules.2.1 210 = .ok (.lstore 7, 2) := by decide +kernel
theorem J_MPlaceRows_modules_d212 : decode J_MPlaceRows_modules.2.1 212 = .ok (.iinc 9 1, 3) := by decide +kernel
theorem J_MPlaceRows_modules_d215 : decode J_MPlaceRows_modules.2.1 215 = .ok (.goto (-137), 3) := by decide +kernel
theorem J_MPlaceRows_modules_d218 : decode J_MPlaceRows_modules.2.1 218 = .ok (.lload 7, 2) := by decide +kernel
theorem J_MPlaceRows_modules_d220 : decode J_MPlaceRows_modules.2.1 220 = .ok (.lreturn, 1) := by decide +kernel
theorem f_MPlaceRows_modules_ok {L : Nat} {xs : Nat → Int32} {dep : Nat} {w : Bool} {p0 : Int32} {p1 : Int32} {p2 : Int32} {M : im_M} {Q : Int64 × im_M → Prop} (hM : lw_S w M) (h : ed (f_MPlaceRows_modules p0 p1 p2 M) Q) : ia (tb_G L xs) (dep + 2) J_MPlaceRows_modules (rwL w Q) (0, lv_args 0 [.ref 130, .int p0, .int p1, .int p2], [], M) := by
  have hS : im_St (tb_G L xs) (dep + 2) J_MPlaceRows_modules (ia (tb_G L xs) (dep + 2) J_MPlaceRows_modules (rwL w Q)) := ia_St
  unfold f_MPlaceRows_modules at h
  have l0 : im_lk (lv_args 0 [.ref 130, .int p0, .int p1, .int p2]) 0 = some (.ref 130) := rfl
  have l1 : im_lk (lv_args 0 [.ref 130, .int p0, .int p1, .int p2]) 1 = some (.int p0) := rfl
  have l2 : im_lk (lv_args 0 [.ref 130, .int p0, .int p1, .int p2]) 2 = some (.int p1) := rfl
  have l3 : im_lk (lv_args 0 [.ref 130, .int p0, .int p1, .int p2]) 3 = some (.int p2) := rfl
  refine iq_aload_n hS 1 J_MPlaceRows_modules_d0 l0 rfl ?_
  refine iq_iload_n hS 2 J_MPlaceRows_modules_d1 l1 rfl ?_
  have J1 : ∀ (z2 : Int32) (L' : List (Nat × Value)), z2 = ((if p0 < 0 then 1 else (if p0 < (im_i M 130 10) then 0 else 1)) : Int32) → im_lk L' 0 = some (.ref 130) → im_lk L' 1 = some (.int p0) → im_lk L' 2 = some (.int p1) → im_lk L' 3 = some (.int p2) → ia (tb_G L xs) (dep + 2) J_MPlaceRows_modules (rwL w Q) (18, L', [.int z2, .ref 130], M) := by
    intro z2 L' e3 l4 l5 l6 l7
    subst e3
    refine iq_putI hS 21 J_MPlaceRows_modules_d18 lf_14_35 (Or.inl rfl) rfl (ka_130 hM) rfl ?_
    refine iq_aload_n hS 22 J_MPlaceRows_modules_d21 l4 rfl ?_
    refine iq_getI hS 25 J_MPlaceRows_modules_d22 lf_14_35 (Or.inl rfl) (ka_130 hM) rfl ?_
    refine iq_if_le hS 28 J_MPlaceRows_modules_d25 (t := 30) rfl (fun q25 => ?_) rfl (fun q25 => ?_)
    · replace h := ed_pos q25 h
      refine iq_aload_n hS 31 J_MPlaceRows_modules_d30 l4 rfl ?_
      refine iq_getR hS 34 J_MPlaceRows_modules_d31 lf_14_32 (Or.inr ⟨_, rfl⟩) (ka_130 hM) (ra_130_9 hM) rfl ?_
      refine iq_bipush hS 36 J_MPlaceRows_modules_d34 (v := 6) (by decide +kernel) rfl ?_
      refine iq_iload_n hS 37 J_MPlaceRows_modules_d36 l5 rfl ?_
      refine iq_imul hS 38 J_MPlaceRows_modules_d37 rfl ?_
      refine iq_iconst hS 39 J_MPlaceRows_modules_d38 (v := 2) (by decide +kernel) rfl ?_
      refine iq_iadd hS 40 J_MPlaceRows_modules_d39 rfl ?_
      obtain ⟨g40, h⟩ := ed_gd h
      refine iq_iaload hS 41 J_MPlaceRows_modules_d40 ⟨(ka_135 hM).1, (ka_135 hM).2, g40.1, ix_lt (kl_135 hM) g40.2⟩ rfl ?_
      refine iq_istore hS 43 J_MPlaceRows_modules_d41 (by decide) rfl ?_
      refine iq_aload_n hS 44 J_MPlaceRows_modules_d43 (lk_1r l4 (by decide)) rfl ?_
      refine iq_getR hS 47 J_MPlaceRows_modules_d44 lf_14_32 (Or.inr ⟨_, rfl⟩) (ka_130 hM) (ra_130_9 hM) rfl ?_
      refine iq_bipush hS 49 J_MPlaceRows_modules_d47 (v := 6) (by decide +kernel) rfl ?_
      refine iq_iload_n hS 50 J_MPlaceRows_modules_d49 (lk_1i l5 (by decide)) rfl ?_
      refine iq_imul hS 51 J_MPlaceRows_modules_d50 rfl ?_
      refine iq_iconst hS 52 J_MPlaceRows_modules_d51 (v := 3) (by decide +kernel) rfl ?_
      refine iq_iadd hS 53 J_MPlaceRows_modules_d52 rfl ?_
      obtain ⟨g53, h⟩ := ed_gd h
      refine iq_iaload hS 54 J_MPlaceRows_modules_d53 ⟨(ka_135 hM).1, (ka_135 hM).2, g53.1, ix_lt (kl_135 hM) g53.2⟩ rfl ?_
      obtain ⟨Q8, hQ8, h⟩ := bd1_ed h
      refine iq_cpI hS 57 J_MPlaceRows_modules_d54 rfl (pr_stat (vs := [_]) lc_14_59 lT_458 rfl rfl (by decide) rfl (Nat.le_of_ble_eq_true rfl) (Nat.le_of_ble_eq_true rfl)) (f_MPlaceRows_side_ok (dep := dep + 1) hM h) rfl ?_
      intro x8 h
      replace h := hQ8 _ h
      refine iq_istore hS 59 J_MPlaceRows_modules_d57 (by decide) rfl ?_
      refine iq_aload_n hS 60 J_MPlaceRows_modules_d59 (lk_1r (lk_1r l4 (by decide)) (by decide)) rfl ?_
      refine iq_getR hS 63 J_MPlaceRows_modules_d60 lf_14_32 (Or.inr ⟨_, rfl⟩) (ka_130 hM) (ra_130_9 hM) rfl ?_
      refine iq_bipush hS 65 J_MPlaceRows_modules_d63 (v := 6) (by decide +kernel) rfl ?_
      refine iq_iload_n hS 66 J_MPlaceRows_modules_d65 (lk_1i (lk_1i l5 (by decide)) (by decide)) rfl ?_
      refine iq_imul hS 67 J_MPlaceRows_modules_d66 rfl ?_
      refine iq_iconst hS 68 J_MPlaceRows_modules_d67 (v := 4) (by decide +kernel) rfl ?_
      refine iq_iadd hS 69 J_MPlaceRows_modules_d68 rfl ?_
      obtain ⟨g69, h⟩ := ed_gd h
      refine iq_iaload hS 70 J_MPlaceRows_modules_d69 ⟨(ka_135 hM).1, (ka_135 hM).2, g69.1, ix_lt (kl_135 hM) g69.2⟩ rfl ?_
      refine iq_istore hS 72 J_MPlaceRows_modules_d70 (by decide) rfl ?_
      refine iq_lconst hS 73 J_MPlaceRows_modules_d72 (v := 0) (by decide +kernel) rfl ?_
      refine iq_lstore hS 75 J_MPlaceRows_modules_d73 (by decide) rfl ?_
      refine iq_iconst hS 76 J_MPlaceRows_modules_d75 (v := 0) (by decide +kernel) rfl ?_
      refine iq_istore hS 78 J_MPlaceRows_modules_d76 (by decide) rfl ?_
      obtain ⟨Q9, hQ9, h⟩ := bd2_ed h
      have K9 : ∀ (y10 : Int64) (M11 : im_M) (L' : List (Nat × Value)), lw_S w M11 → im_lk L' 7 = some (.long y10) → Q9 (y10, M11) → ia (tb_G L xs) (dep + 2) J_MPlaceRows_modules (rwL w Q) (218, L', [], M11) := by
        intro y10 M11 L' hM11 l12 h
        replace h := hQ9 _ _ h
        refine iq_lload hS 220 J_MPlaceRows_modules_d218 l12 rfl ?_
        exact iq_lret J_MPlaceRows_modules_d220 rfl ⟨_, rfl, hM11, ed_some h⟩
      obtain ⟨r9, hr9, hq9⟩ := h
      obtain ⟨n9, hn9⟩ := lp_n hr9
      have I9 : ∀ (n : Nat) (x13 : Int64) (x14 : Int32) (M15 : im_M) (L' : List (Nat × Value)), lw_S w M15 → im_lk L' 0 = some (.ref 130) → im_lk L' 1 = some (.int p0) → im_lk L' 2 = some (.int p1) → im_lk L' 3 = some (.int p2) → im_lk L' 4 = some (.int (im_i (im_setI M 130 0 ((if p0 < 0 then 1 else (if p0 < (im_i M 130 10) then 0 else 1)) : Int32)) 135 (Int32.toNatClampNeg (((6 : Int32) * p0) + 2)))) → im_lk L' 5 = some (.int x8) → im_lk L' 6 = some (.int (im_i (im_setI M 130 0 ((if p0 < 0 then 1 else (if p0 < (im_i M 130 10) then 0 else 1)) : Int32)) 135 (Int32.toNatClampNeg (((6 : Int32) * p0) + 4)))) → im_lk L' 7 = some (.long x13) → im_lk L' 9 = some (.int x14) → lpn (uc3 (f_MPlaceRows_modules_L78 p0 p1 p2 (im_i (im_setI M 130 0 ((if p0 < 0 then 1 else (if p0 < (im_i M 130 10) then 0 else 1)) : Int32)) 135 (Int32.toNatClampNeg (((6 : Int32) * p0) + 2))) x8 (im_i (im_setI M 130 0 ((if p0 < 0 then 1 else (if p0 < (im_i M 130 10) then 0 else 1)) : Int32)) 135 (Int32.toNatClampNeg (((6 : Int32) * p0) + 4))))) n (x13, x14, M15) = some r9 → ia (tb_G L xs) (dep + 2) J_MPlaceRows_modules (rwL w Q) (78, L', [], M15) := by
        intro n
        induction n with
        | zero => intro x13 x14 M15 L' hM15 l16 l17 l18 l19 l20 l21 l22 l23 l24 hn; exact (lpn_0 hn).elim
        | succ n ih =>
          intro x13 x14 M15 L' hM15 l16 l17 l18 l19 l20 l21 l22 l23 l24 hn
          have h := lpn_ed3 hn
          unfold f_MPlaceRows_modules_L78 at h
          refine iq_iload hS 80 J_MPlaceRows_modules_d78 l24 rfl ?_
          refine iq_bipush hS 82 J_MPlaceRows_modules_d80 (v := 64) (by decide +kernel) rfl ?_
          refine iq_icmp_ge hS 85 J_MPlaceRows_modules_d82 (t := 218) rfl (fun q82 => ?_) rfl (fun q82 => ?_)
          · replace h := ed_pos q82 h
            exact K9 _ _ _ hM15 l23 (lq_r h hq9)
          · replace h := ed_neg q82 h
            refine iq_iload_n hS 86 J_MPlaceRows_modules_d85 l18 rfl ?_
            refine iq_i2l hS 87 J_MPlaceRows_modules_d86 rfl ?_
            refine iq_iload hS 89 J_MPlaceRows_modules_d87 l24 rfl ?_
            refine iq_i2l hS 90 J_MPlaceRows_modules_d89 rfl ?_
            refine iq_ladd hS 91 J_MPlaceRows_modules_d90 rfl ?_
            refine iq_lstore hS 93 J_MPlaceRows_modules_d91 (by decide) rfl ?_
            refine iq_lload hS 95 J_MPlaceRows_modules_d93 lk_2s rfl ?_
            refine iq_lconst hS 96 J_MPlaceRows_modules_d95 (v := 0) (by decide +kernel) rfl ?_
            refine iq_lcmp hS 97 J_MPlaceRows_modules_d96 rfl ?_
            obtain ⟨Q25, hQ25, h⟩ := bd2_ed h
            have J25 : ∀ (y40 : Int64) (M41 : im_M) (L' : List (Nat × Value)), lw_S w M41 → im_lk L' 0 = some (.ref 130) → im_lk L' 1 = some (.int p0) → im_lk L' 2 = some (.int p1) → im_lk L' 3 = some (.int p2) → im_lk L' 4 = some (.int (im_i (im_setI M 130 0 ((if p0 < 0 then 1 else (if p0 < (im_i M 130 10) then 0 else 1)) : Int32)) 135 (Int32.toNatClampNeg (((6 : Int32) * p0) + 2)))) → im_lk L' 5 = some (.int x8) → im_lk L' 6 = some (.int (im_i (im_setI M 130 0 ((if p0 < 0 then 1 else (if p0 < (im_i M 130 10) then 0 else 1)) : Int32)) 135 (Int32.toNatClampNeg (((6 : Int32) * p0) + 4)))) → im_lk L' 7 = some (.long y40) → im_lk L' 9 = some (.int x14) → Q25 (y40, M41) → ia (tb_G L xs) (dep + 2) J_MPlaceRows_modules (rwL w Q) (212, L', [], M41) := by
              intro y40 M41 L' hM41 l42 l43 l44 l45 l46 l47 l48 l49 l50 h
              replace h := hQ25 _ _ h
              refine iq_iincv hS 215 J_MPlaceRows_modules_d212 (c := 1) (by decide +kernel) l50 (by decide) rfl ?_
              refine iq_goto hS J_MPlaceRows_modules_d215 (t := 78) rfl ?_
              exact ih _ _ _ _ hM41 (lk_1r l42 (by decide)) (lk_1i l43 (by decide)) (lk_1i l44 (by decide)) (lk_1i l45 (by decide)) (lk_1i l46 (by decide)) (lk_1i l47 (by decide)) (lk_1i l48 (by decide)) (lk_1l l49 (by decide) (by decide)) lk_1s (lq_l h)
            refine iq_if_lt hS 100 J_MPlaceRows_modules_d97 (t := 212) rfl (fun q97 => ?_) rfl (fun q97 => ?_)
            · replace h := ed_pos q97 h
              exact J25 _ _ _ hM15 (lk_2r l16 (by decide) (by decide)) (lk_2i l17 (by decide) (by decide)) (lk_2i l18 (by decide) (by decide)) (lk_2i l19 (by decide) (by decide)) (lk_2i l20 (by decide) (by decide)) (lk_2i l21 (by decide) (by decide)) (lk_2i l22 (by decide) (by decide)) (lk_2l l23 (by decide) (by decide) (by decide)) (lk_2i l24 (by decide) (by decide)) (ed_some h)
            · replace h := ed_neg q97 h
              refine iq_lload hS 102 J_MPlaceRows_modules_d100 lk_2s rfl ?_
              refine iq_iload hS 104 J_MPlaceRows_modules_d102 (lk_2i l21 (by decide) (by decide)) rfl ?_
              refine iq_i2l hS 105 J_MPlaceRows_modules_d104 rfl ?_
              refine iq_lcmp hS 106 J_MPlaceRows_modules_d105 rfl ?_
              refine iq_if_ge hS 109 J_MPlaceRows_modules_d106 (t := 212) rfl (fun q106 => ?_) rfl (fun q106 => ?_)
              · replace h := ed_pos q106 h
                exact J25 _ _ _ hM15 (lk_2r l16 (by decide) (by decide)) (lk_2i l17 (by decide) (by decide)) (lk_2i l18 (by decide) (by decide)) (lk_2i l19 (by decide) (by decide)) (lk_2i l20 (by decide) (by decide)) (lk_2i l21 (by decide) (by decide)) (lk_2i l22 (by decide) (by decide)) (lk_2l l23 (by decide) (by decide) (by decide)) (lk_2i l24 (by decide) (by decide)) (ed_some h)
              · replace h := ed_neg q106 h
                refine iq_iload_n hS 110 J_MPlaceRows_modules_d109 (lk_2i l19 (by decide) (by decide)) rfl ?_
                refine iq_if_lt hS 113 J_MPlaceRows_modules_d110 (t := 212) rfl (fun q110 => ?_) rfl (fun q110 => ?_)
                · replace h := ed_pos q110 h
                  exact J25 _ _ _ hM15 (lk_2r l16 (by decide) (by decide)) (lk_2i l17 (by decide) (by decide)) (lk_2i l18 (by decide) (by decide)) (lk_2i l19 (by decide) (by decide)) (lk_2i l20 (by decide) (by decide)) (lk_2i l21 (by decide) (by decide)) (lk_2i l22 (by decide) (by decide)) (lk_2l l23 (by decide) (by decide) (by decide)) (lk_2i l24 (by decide) (by decide)) (ed_some h)
                · replace h := ed_neg q110 h
                  refine iq_iload_n hS 114 J_MPlaceRows_modules_d113 (lk_2i l19 (by decide) (by decide)) rfl ?_
                  refine iq_iload hS 116 J_MPlaceRows_modules_d114 (lk_2i l21 (by decide) (by decide)) rfl ?_
                  refine iq_icmp_ge hS 119 J_MPlaceRows_modules_d116 (t := 212) rfl (fun q116 => ?_) rfl (fun q116 => ?_)
                  · replace h := ed_pos q116 h
                    exact J25 _ _ _ hM15 (lk_2r l16 (by decide) (by decide)) (lk_2i l17 (by decide) (by decide)) (lk_2i l18 (by decide) (by decide)) (lk_2i l19 (by decide) (by decide)) (lk_2i l20 (by decide) (by decide)) (lk_2i l21 (by decide) (by decide)) (lk_2i l22 (by decide) (by decide)) (lk_2l l23 (by decide) (by decide) (by decide)) (lk_2i l24 (by decide) (by decide)) (ed_some h)
                  · replace h := ed_neg q116 h
                    refine iq_aload_n hS 120 J_MPlaceRows_modules_d119 (lk_2r l16 (by decide) (by decide)) rfl ?_
                    refine iq_getR hS 123 J_MPlaceRows_modules_d120 lf_14_32 (Or.inr ⟨_, rfl⟩) (ka_130 hM15) (ra_130_9 hM15) rfl ?_
                    refine iq_bipush hS 125 J_MPlaceRows_modules_d123 (v := 6) (by decide +kernel) rfl ?_
                    refine iq_iload_n hS 126 J_MPlaceRows_modules_d125 (lk_2i l17 (by decide) (by decide)) rfl ?_
                    refine iq_imul hS 127 J_MPlaceRows_modules_d126 rfl ?_
                    obtain ⟨g127, h⟩ := ed_gd h
                    refine iq_iaload hS 128 J_MPlaceRows_modules_d127 ⟨(ka_135 hM15).1, (ka_135 hM15).2, g127.1, ix_lt (kl_135 hM15) g127.2⟩ rfl ?_
                    refine iq_iload hS 130 J_MPlaceRows_modules_d128 (lk_2i l20 (by decide) (by decide)) rfl ?_
                    refine iq_iload hS 132 J_MPlaceRows_modules_d130 (lk_2i l21 (by decide) (by decide)) rfl ?_
                    refine iq_lload hS 134 J_MPlaceRows_modules_d132 lk_2s rfl ?_
                    refine iq_l2i hS 135 J_MPlaceRows_modules_d134 rfl ?_
                    refine iq_iload_n hS 136 J_MPlaceRows_modules_d135 (lk_2i l19 (by decide) (by decide)) rfl ?_
                    refine iq_iload hS 138 J_MPlaceRows_modules_d136 (lk_2i l22 (by decide) (by decide)) rfl ?_
                    obtain ⟨Q26, hQ26, h⟩ := bd1_ed h
                    refine iq_cpI hS 141 J_MPlaceRows_modules_d138 rfl (pr_stat (vs := [_, _, _, _]) lc_14_75 lT_466 rfl rfl (by decide) rfl (Nat.le_of_ble_eq_true rfl) (Nat.le_of_ble_eq_true rfl)) (f_MPlaceRows_blockX_ok (dep := dep + 1) hM15 h) rfl ?_
                    intro x26 h
                    replace h := hQ26 _ h
                    refine iq_imul hS 142 J_MPlaceRows_modules_d141 rfl ?_
                    refine iq_iadd hS 143 J_MPlaceRows_modules_d142 rfl ?_
                    refine iq_istore hS 145 J_MPlaceRows_modules_d143 (by decide) rfl ?_
                    refine iq_aload_n hS 146 J_MPlaceRows_modules_d145 (lk_1r (lk_2r l16 (by decide) (by decide)) (by decide)) rfl ?_
                    refine iq_getR hS 149 J_MPlaceRows_modules_d146 lf_14_32 (Or.inr ⟨_, rfl⟩) (ka_130 hM15) (ra_130_9 hM15) rfl ?_
                    refine iq_bipush hS 151 J_MPlaceRows_modules_d149 (v := 6) (by decide +kernel) rfl ?_
                    refine iq_iload_n hS 152 J_MPlaceRows_modules_d151 (lk_1i (lk_2i l17 (by decide) (by decide)) (by decide)) rfl ?_
                    refine iq_imul hS 153 J_MPlaceRows_modules_d152 rfl ?_
                    refine iq_iconst hS 154 J_MPlaceRows_modules_d153 (v := 1) (by decide +kernel) rfl ?_
                    refine iq_iadd hS 155 J_MPlaceRows_modules_d154 rfl ?_
                    obtain ⟨g155, h⟩ := ed_gd h
                    refine iq_iaload hS 156 J_MPlaceRows_modules_d155 ⟨(ka_135 hM15).1, (ka_135 hM15).2, g155.1, ix_lt (kl_135 hM15) g155.2⟩ rfl ?_
                    refine iq_iload hS 158 J_MPlaceRows_modules_d156 (lk_1i (lk_2i l20 (by decide) (by decide)) (by decide)) rfl ?_
                    refine iq_iload hS 160 J_MPlaceRows_modules_d158 (lk_1i (lk_2i l21 (by decide) (by decide)) (by decide)) rfl ?_
                    refine iq_lload hS 162 J_MPlaceRows_modules_d160 (lk_1l lk_2s (by decide) (by decide)) rfl ?_
                    refine iq_l2i hS 163 J_MPlaceRows_modules_d162 rfl ?_
                    refine iq_iload_n hS 164 J_MPlaceRows_modules_d163 (lk_1i (lk_2i l19 (by decide) (by decide)) (by decide)) rfl ?_
                    refine iq_iload hS 166 J_MPlaceRows_modules_d164 (lk_1i (lk_2i l22 (by decide) (by decide)) (by decide)) rfl ?_
                    obtain ⟨Q27, hQ27, h⟩ := bd1_ed h
                    refine iq_cpI hS 169 J_MPlaceRows_modules_d166 rfl (pr_stat (vs := [_, _, _, _]) lc_14_78 lT_468 rfl rfl (by decide) rfl (Nat.le_of_ble_eq_true rfl) (Nat.le_of_ble_eq_true rfl)) (f_MPlaceRows_blockY_ok (dep := dep + 1) hM15 h) rfl ?_
                    intro x27 h
                    replace h := hQ27 _ h
                    refine iq_imul hS 170 J_MPlaceRows_modules_d169 rfl ?_
                    refine iq_iadd hS 171 J_MPlaceRows_modules_d170 rfl ?_
                    refine iq_istore hS 173 J_MPlaceRows_modules_d171 (by decide) rfl ?_
                    refine iq_aload_n hS 174 J_MPlaceRows_modules_d173 (lk_1r (lk_1r (lk_2r l16 (by decide) (by decide)) (by decide)) (by decide)) rfl ?_
                    refine iq_iload hS 176 J_MPlaceRows_modules_d174 (lk_1i lk_1s (by decide)) rfl ?_
                    refine iq_iload hS 178 J_MPlaceRows_modules_d176 lk_1s rfl ?_
                    refine iq_iload hS 180 J_MPlaceRows_modules_d178 (lk_1i (lk_1i (lk_2i l20 (by decide) (by decide)) (by decide)) (by decide)) rfl ?_
                    refine iq_iconst hS 181 J_MPlaceRows_modules_d180 (v := 0) (by decide +kernel) rfl ?_
                    refine iq_iconst hS 182 J_MPlaceRows_modules_d181 (v := 0) (by decide +kernel) rfl ?_
                    obtain ⟨Q28, hQ28, h⟩ := bd2_ed h
                    refine iq_cwI hS 185 J_MPlaceRows_modules_d182 rfl (pr_inst (vs := [_, _, _, _, _]) lc_14_81 lT_480 rfl rfl (by decide) (by decide) rfl (Nat.le_of_ble_eq_true rfl) (Nat.le_of_ble_eq_true rfl) (fun _ => Or.inl (pr_b (ka_130 hM15) (by decide) rfl))) (f_MPlaceRows_differ_ok (dep := dep + 0) hM15 h) rfl ?_
                    intro x28 M28 hM28 h
                    replace h := hQ28 _ _ h
                    refine iq_istore hS 187 J_MPlaceRows_modules_d185 (by decide) rfl ?_
                    refine iq_lload hS 189 J_MPlaceRows_modules_d187 (lk_1l (lk_1l (lk_1l (lk_2l l23 (by decide) (by decide) (by decide)) (by decide) (by decide)) (by decide) (by decide)) (by decide) (by decide)) rfl ?_
                    refine iq_iconst hS 190 J_MPlaceRows_modules_d189 (v := 2) (by decide +kernel) rfl ?_
                    refine iq_iload hS 192 J_MPlaceRows_modules_d190 lk_1s rfl ?_
                    refine iq_imul hS 193 J_MPlaceRows_modules_d192 rfl ?_
                    refine iq_iload hS 195 J_MPlaceRows_modules_d193 (lk_1i (lk_1i (lk_1i (lk_2i l20 (by decide) (by decide)) (by decide)) (by decide)) (by decide)) rfl ?_
                    refine iq_iload hS 197 J_MPlaceRows_modules_d195 (lk_1i (lk_1i (lk_1i (lk_2i l20 (by decide) (by decide)) (by decide)) (by decide)) (by decide)) rfl ?_
                    refine iq_imul hS 198 J_MPlaceRows_modules_d197 rfl ?_
                    have J29 : ∀ (z30 : Int64) (L' : List (Nat × Value)), z30 = ((if ((2 : Int32) * x28) ≤ ((im_i (im_setI M 130 0 ((if p0 < 0 then 1 else (if p0 < (im_i M 130 10) then 0 else 1)) : Int32)) 135 (Int32.toNatClampNeg (((6 : Int32) * p0) + 2))) * (im_i (im_setI M 130 0 ((if p0 < 0 then 1 else (if p0 < (im_i M 130 10) then 0 else 1)) : Int32)) 135 (Int32.toNatClampNeg (((6 : Int32) * p0) + 2)))) then 0 else ((1 : Int64) <<< (Int32.toInt64 x14 &&& 63))) : Int64) → im_lk L' 0 = some (.ref 130) → im_lk L' 1 = some (.int p0) → im_lk L' 2 = some (.int p1) → im_lk L' 3 = some (.int p2) → im_lk L' 4 = some (.int (im_i (im_setI M 130 0 ((if p0 < 0 then 1 else (if p0 < (im_i M 130 10) then 0 else 1)) : Int32)) 135 (Int32.toNatClampNeg (((6 : Int32) * p0) + 2)))) → im_lk L' 5 = some (.int x8) → im_lk L' 6 = some (.int (im_i (im_setI M 130 0 ((if p0 < 0 then 1 else (if p0 < (im_i M 130 10) then 0 else 1)) : Int32)) 135 (Int32.toNatClampNeg (((6 : Int32) * p0) + 4)))) → im_lk L' 9 = some (.int x14) → ia (tb_G L xs) (dep + 2) J_MPlaceRows_modules (rwL w Q) (209, L', [.long z30, .long x13], M28) := by
                      intro z30 L' e31 l32 l33 l34 l35 l36 l37 l38 l39
                      subst e31
                      refine iq_lor hS 210 J_MPlaceRows_modules_d209 rfl ?_
                      refine iq_lstore hS 212 J_MPlaceRows_modules_d210 (by decide) rfl ?_
                      exact J25 _ _ _ hM28 (lk_2r l32 (by decide) (by decide)) (lk_2i l33 (by decide) (by decide)) (lk_2i l34 (by decide) (by decide)) (lk_2i l35 (by decide) (by decide)) (lk_2i l36 (by decide) (by decide)) (lk_2i l37 (by decide) (by decide)) (lk_2i l38 (by decide) (by decide)) lk_2s (lk_2i l39 (by decide) (by decide)) (ed_some h)
                    refine iq_icmp_le hS 201 J_MPlaceRows_modules_d198 (t := 208) rfl (fun q198 => ?_) rfl (fun q198 => ?_)
                    · refine iq_lconst hS 209 J_MPlaceRows_modules_d208 (v := 0) (by decide +kernel) rfl ?_
                      exact J29 _ _ (by rw [if_pos q198]) (lk_1r (lk_1r (lk_1r (lk_2r l16 (by decide) (by decide)) (by decide)) (by decide)) (by decide)) (lk_1i (lk_1i (lk_1i (lk_2i l17 (by decide) (by decide)) (by decide)) (by decide)) (by decide)) (lk_1i (lk_1i (lk_1i (lk_2i l18 (by decide) (by decide)) (by decide)) (by decide)) (by decide)) (lk_1i (lk_1i (lk_1i (lk_2i l19 (by decide) (by decide)) (by decide)) (by decide)) (by decide)) (lk_1i (lk_1i (lk_1i (lk_2i l20 (by decide) (by decide)) (by decide)) (by decide)) (by decide)) (lk_1i (lk_1i (lk_1i (lk_2i l21 (by decide) (by decide)) (by decide)) (by decide)) (by decide)) (lk_1i (lk_1i (lk_1i (lk_2i l22 (by decide) (by decide)) (by decide)) (by decide)) (by decide)) (lk_1i (lk_1i (lk_1i (lk_2i l24 (by decide) (by decide)) (by decide)) (by decide)) (by decide))
                    · refine iq_lconst hS 202 J_MPlaceRows_modules_d201 (v := 1) (by decide +kernel) rfl ?_
                      refine iq_iload hS 204 J_MPlaceRows_modules_d202 (lk_1i (lk_1i (lk_1i (lk_2i l24 (by decide) (by decide)) (by decide)) (by decide)) (by decide)) rfl ?_
                      refine iq_lshl hS 205 J_MPlaceRows_modules_d204 rfl ?_
                      refine iq_goto hS J_MPlaceRows_modules_d205 (t := 209) rfl ?_
                      exact J29 _ _ (by rw [if_neg q198]) (lk_1r (lk_1r (lk_1r (lk_2r l16 (by decide) (by decide)) (by decide)) (by decide)) (by decide)) (lk_1i (lk_1i (lk_1i (lk_2i l17 (by decide) (by decide)) (by decide)) (by decide)) (by decide)) (lk_1i (lk_1i (lk_1i (lk_2i l18 (by decide) (by decide)) (by decide)) (by decide)) (by decide)) (lk_1i (lk_1i (lk_1i (lk_2i l19 (by decide) (by decide)) (by decide)) (by decide)) (by decide)) (lk_1i (lk_1i (lk_1i (lk_2i l20 (by decide) (by decide)) (by decide)) (by decide)) (by decide)) (lk_1i (lk_1i (lk_1i (lk_2i l21 (by decide) (by decide)) (by decide)) (by decide)) (by decide)) (lk_1i (lk_1i (lk_1i (lk_2i l22 (by decide) (by decide)) (by decide)) (by decide)) (by decide)) (lk_1i (lk_1i (lk_1i (lk_2i l24 (by decide) (by decide)) (by decide)) (by decide)) (by decide))
      exact I9 n9 _ _ _ _ hM (lk_1r (lk_2r (lk_1r (lk_1r (lk_1r l4 (by decide)) (by decide)) (by decide)) (by decide) (by decide)) (by decide)) (lk_1i (lk_2i (lk_1i (lk_1i (lk_1i l5 (by decide)) (by decide)) (by decide)) (by decide) (by decide)) (by decide)) (lk_1i (lk_2i (lk_1i (lk_1i (lk_1i l6 (by decide)) (by decide)) (by decide)) (by decide) (by decide)) (by decide)) (lk_1i (lk_2i (lk_1i (lk_1i (lk_1i l7 (by decide)) (by decide)) (by decide)) (by decide) (by decide)) (by decide)) (lk_1i (lk_2i (lk_1i (lk_1i lk_1s (by decide)) (by decide)) (by decide) (by decide)) (by decide)) (lk_1i (lk_2i (lk_1i lk_1s (by decide)) (by decide) (by decide)) (by decide)) (lk_1i (lk_2i lk_1s (by decide) (by decide)) (by decide)) (lk_1l lk_2s (by decide) (by decide)) lk_1s hn9
    · replace h := ed_neg q25 h
      refine iq_lconst hS 29 J_MPlaceRows_modules_d28 (v := 0) (by decide +kernel) rfl ?_
      exact iq_lret J_MPlaceRows_modules_d29 rfl ⟨_, rfl, hM, ed_some h⟩
  refine iq_if_lt hS 5 J_MPlaceRows_modules_d2 (t := 13) rfl (fun q2 => ?_) rfl (fun q2 => ?_)
  · refine iq_iconst hS 14 J_MPlaceRows_modules_d13 (v := 1) (by decide +kernel) rfl ?_
    refine iq_goto hS J_MPlaceRows_modules_d14 (t := 18) rfl ?_
    exact J1 _ _ (by rw [if_pos q2]) l0 l1 l2 l3
  · refine iq_iload_n hS 6 J_MPlaceRows_modules_d5 l1 rfl ?_
    refine iq_aload_n hS 7 J_MPlaceRows_modules_d6 l0 rfl ?_
    refine iq_getI hS 10 J_MPlaceRows_modules_d7 lf_14_41 (Or.inl rfl) (ka_130 hM) rfl ?_
    refine iq_icmp_lt hS 13 J_MPlaceRows_modules_d10 (t := 17) rfl (fun q10 => ?_) rfl (fun q10 => ?_)
    · refine iq_iconst hS 18 J_MPlaceRows_modules_d17 (v := 0) (by decide +kernel) rfl ?_
      exact J1 _ _ (by rw [if_neg q2, if_pos q10]) l0 l1 l2 l3
    · refine iq_iconst hS 14 J_MPlaceRows_modules_d13 (v := 1) (by decide +kernel) rfl ?_
      refine iq_goto hS J_MPlaceRows_modules_d14 (t := 18) rfl ?_
      exact J1 _ _ (by rw [if_neg q2, if_neg q10]) l0 l1 l2 l3
noncomputable def f_MSquareRows_spoil_L11 (v2 : Int32) (v3 : Int32) (v4 : Int64) (x5 : Int32) (x6 : Int32) (M7 : im_M) : Option ((Int32 × Int32 × im_M) ⊕ (Int32 × im_M)) := if 64 ≤ x6 then some (.inr (x5, M7)) else bd2 (if ((if (im_i M7 108 7) ≤ 0 then 0 else (if v3 < 0 then 0 else (if (im_i M7 108 8) ≤ v3 then 0 else (if (lg_cmp ((Int32.toInt64 v2) + (Int32.toInt64 x6)) 0) < 0 then 0 else (if 0 ≤ (lg_cmp ((Int32.toInt64 v2) + (Int32.toInt64 x6)) (Int32.toInt64 (im_i M7 108 8))) then 0 else 1))))) : Int32) = 0 then some (x5, M7) else if ¬ (lg_cmp ((v4 >>> (Int32.toInt64 x6 &&& 63)) &&& 1) 1) = 0 then some (x5, M7) else bd1 (f_MSquareRows_moduleAt (Int64.toInt32 ((Int32.toInt64 v2) + (Int32.toInt64 x6))) v3 M7) fun (x10 : Int32) => bd1 (f_MSquareRows_moduleAt (Int64.toInt32 ((Int32.toInt64 v2) + (Int32.toInt64 x6))) v3 M7) fun (x11 : Int32) => gd (inb x11 31329) <| gd (inb x10 31329) <| some ((x5 + 1), (im_setI M7 112 (Int32.toNatClampNeg x10) ((1 : Int32) - (im_i M7 112 (Int32.toNatClampNeg x11)))))) fun (y12 : Int32) (M13 : im_M) => some (.inl (y12, (x6 + 1), M13))
noncomputable def f_MSquareRows_spoil (p0 : Int32) (p1 : Int32) (p2 : Int64) (M : im_M) : Option (Int32 × im_M) := bd2 (lp (uc3 (f_MSquareRows_spoil_L11 p0 p1 p2)) (0, 0, (im_setI M 108 0 0))) fun (y20 : Int32) (M21 : im_M) => some (y20, M21)
theorem J_MSquareRows_spoil_d0 : decode J_MSquareRows_spoil.2.1 0 = .ok (.aload_n 0, 1) := by decide +kernel
theorem J_MSquareRows_spoil_d1 : decode J_MSquareRows_spoil.2.1 1 = .ok (.iconst 0, 1) := by decide +kernel
theorem J_MSquareRows_spoil_d2 : decode J_MSquareRows_spoil.2.1 2 = .ok (.putfield 73, 3) := by decide +kernel
theorem J_MSquareRows_spoil_d5 : decode J_MSquareRows_spoil.2.1 5 = .ok (.iconst 0, 1) := by decide +kernel
theorem J_MSquareRows_spoil_d6 : decode J_MSquareRows_spoil.2.1 6 = .ok (.istore 5, 2) := by decide +kernel
theorem J_MSquareRows_spoil_d8 : decode J_MSquareRows_spoil.2.1 8 = .ok (.iconst 0, 1) := by decide +kernel
theorem J_MSquareRows_spoil_d9 : decode J_MSquareRows_spoil.2.1 9 = .ok (.istore 6, 2) := by decide +kernel
theorem J_MSquareRows_spoil_d11 : decode J_MSquareRows_spoil.2.1 11 = .ok (.iload 6, 2) := by decide +kernel
theorem J_MSquareRows_spoil_d13 : decode J_MSquareRows_spoil.2.1 13 = .ok (.bipush 64, 2) := by decide +kernel
theorem J_MSquareRows_spoil_d15 : decode J_MSquareRows_spoil.2.1 15 = .ok (.if_icmp .ge 108, 3) := by decide +kernel
theorem J_MSquareRows_spoil_d18 : decode J_MSquareRows_spoil.2.1 18 = .ok (.iload_n 1, 1) := by decide +kernel
theorem J_MSquareRows_spoil_d19 : decode J_MSquareRows_spoil.2.1 19 = .ok (.i2l, 1) := by decide +kernel
theorem J_MSquareRows_spoil_d20 : decode J_MSquareRows_spoil.2.1 20 = .ok (.iload 6, 2) := by decide +kernel
theorem J_MSquareRows_spoil_d22 : decode J_MSquareRows_spoil.2.1 22 = .ok (.i2l, 1) := by decide +kernel
theorem J_MSquareRows_spoil_d23 : decode J_MSquareRows_spoil.2.1 23 = .ok (.ladd, 1) := by decide +kernel
theorem J_MSquareRows_spoil_d24 : decode J_MSquareRows_spoil.2.1 24 = .ok (.lstore 7, 2) := by decide +kernel
theorem J_MSquareRows_spoil_d26 : decode J_MSquareRows_spoil.2.1 26 = .ok (.aload_n 0, 1) := by decide +kernel
theorem J_MSquareRows_spoil_d27 : decode J_MSquareRows_spoil.2.1 27 = .ok (.getfield 229, 3) := by decide +kernel
theorem J_MSquareRows_spoil_d30 : decode J_MSquareRows_spoil.2.1 30 = .ok (.ifCond .le 37, 3) := by decide +kernel
theorem J_MSquareRows_spoil_d33 : decode J_MSquareRows_spoil.2.1 33 = .ok (.iload_n 2, 1) := by decide +kernel
theorem J_MSquareRows_spoil_d34 : decode J_MSquareRows_spoil.2.1 34 = .ok (.ifCond .lt 33, 3) := by decide +kernel
theorem J_MSquareRows_spoil_d37 : decode J_MSquareRows_spoil.2.1 37 = .ok (.iload_n 2, 1) := by decide +kernel
theorem J_MSquareRows_spoil_d38 : decode J_MSquareRows_spoil.2.1 38 = .ok (.aload_n 0, 1) := by decide +kernel
theorem J_MSquareRows_spoil_d39 : decode J_MSquareRows_spoil.2.1 39 = .ok (.getfield 163, 3) := by decide +kernel
theorem J_MSquareRows_spoil_d42 : decode J_MSquareRows_spoil.2.1 42 = .ok (.if_icmp .ge 25, 3) := by decide +kernel
theorem J_MSquareRows_spoil_d45 : decode J_MSquareRows_spoil.2.1 45 = .ok (.lload 7, 2) := by decide +kernel
theorem J_MSquareRows_spoil_d47 : decode J_MSquareRows_spoil.2.1 47 = .ok (.lconst 0, 1) := by decide +kernel
theorem J_MSquareRows_spoil_d48 : decode J_MSquareRows_spoil.2.1 48 = .ok (.lcmp, 1) := by decide +kernel
theorem J_MSquareRows_spoil_d49 : decode J_MSquareRows_spoil.2.1 49 = .ok (.ifCond .lt 18, 3) := by decide +kernel
theorem J_MSquareRows_spoil_d52 : decode J_MSquareRows_spoil.2.1 52 = .ok (.lload 7, 2) := by decide +kernel
theorem J_MSquareRows_spoil_d54 : decode J_MSquareRows_spoil.2.1 54 = .ok (.aload_n 0, 1) := by decide +kernel
theorem J_MSquareRows_spoil_d55 : decode J_MSquareRows_spoil.2.1 55 = .ok (.getfield 163, 3) := by decide +kernel
theorem J_MSquareRows_spoil_d58 : decode J_MSquareRows_spoil.2.1 58 = .ok (.i2l, 1) := by decide +kernel
theorem J_MSquareRows_spoil_d59 : decode J_MSquareRows_spoil.2.1 59 = .ok (.lcmp, 1) := by decide +kernel
theorem J_MSquareRows_spoil_d60 : decode J_MSquareRows_spoil.2.1 60 = .ok (.ifCond .ge 7, 3) := by decide +kernel
theorem J_MSquareRows_spoil_d63 : decode J_MSquareRows_spoil.2.1 63 = .ok (.iconst 1, 1) := by decide +kernel
theorem J_MSquareRows_spoil_d64 : decode J_MSquareRows_spoil.2.1 64 = .ok (.goto 4, 3) := by decide +kernel
theorem J_MSquareRows_spoil_d67 : decode J_MSquareRows_spoil.2.1 67 = .ok (.iconst 0, 1) := by decide +kernel
theorem J_MSquareRows_spoil_d68 : decode J_MSquareRows_spoil.2.1 68 = .ok (.istore 9, 2) := by decide +kernel
theorem J_MSquareRows_spoil_d70 : decode J_MSquareRows_spoil.2.1 70 = .ok (.iload 9, 2) := by decide +kernel
theorem J_MSquareRows_spoil_d72 : decode J_MSquareRows_spoil.2.1 72 = .ok (.ifCond .eq 45, 3) := by decide +kernel
theorem J_MSquareRows_spoil_d75 : decode J_MSquareRows_spoil.2.1 75 = .ok (.lload_n 3, 1) := by decide +kernel
theorem J_MSquareRows_spoil_d76 : decode J_MSquareRows_spoil.2.1 76 = .ok (.iload 6, 2) := by decide +kernel
theorem J_MSquareRows_spoil_d78 : decode J_MSquareRows_spoil.2.1 78 = .ok (.lshr, 1) := by decide +kernel
theorem J_MSquareRows_spoil_d79 : decode J_MSquareRows_spoil.2.1 79 = .ok (.lconst 1, 1) := by decide +kernel
theorem J_MSquareRows_spoil_d80 : decode J_MSquareRows_spoil.2.1 80 = .ok (.land, 1) := by decide +kernel
theorem J_MSquareRows_spoil_d81 : decode J_MSquareRows_spoil.2.1 81 = .ok (.lconst 1, 1) := by decide +kernel
theorem J_MSquareRows_spoil_d82 : decode J_MSquareRows_spoil.2.1 82 = .ok (.lcmp, 1) := by decide +kernel
theorem J_MSquareRows_spoil_d83 : decode J_MSquareRows_spoil.2.1 83 = .ok (.ifCond .ne 34, 3) := by decide +kernel
theorem J_MSquareRows_spoil_d86 : decode J_MSquareRows_spoil.2.1 86 = .ok (.aload_n 0, 1) := by decide +kernel
theorem J_MSquareRows_spoil_d87 : decode J_MSquareRows_spoil.2.1 87 = .ok (.getfield 19, 3) := by decide +kernel
theorem J_MSquareRows_spoil_d90 : decode J_MSquareRows_spoil.2.1 90 = .ok (.aload_n 0, 1) := by decide +kernel
theorem J_MSquareRows_spoil_d91 : decode J_MSquareRows_spoil.2.1 91 = .ok (.lload 7, 2) := by decide +kernel
theorem J_MSquareRows_spoil_d93 : decode J_MSquareRows_spoil.2.1 93 = .ok (.l2i, 1) := by decide +kernel
theorem J_MSquareRows_spoil_d94 : decode J_MSquareRows_spoil.2.1 94 = .ok (.iload_n 2, 1) := by decide +kernel
theorem J_MSquareRows_spoil_d95 : decode J_MSquareRows_spoil.2.1 95 = .ok (.invokevirtual 166, 3) := by decide +kernel
theorem J_MSquareRows_spoil_d98 : decode J_MSquareRows_spoil.2.1 98 = .ok (.iconst 1, 1) := by decide +kernel
theorem J_MSquareRows_spoil_d99 : decode J_MSquareRows_spoil.2.1 99 = .ok (.aload_n 0, 1) := by decide +kernel
theorem J_MSquareRows_spoil_d100 : decode J_MSquareRows_spoil.2.1 100 = .ok (.getfield 19, 3) := by decide +kernel
theorem J_MSquareRows_spoil_d103 : decode J_MSquareRows_spoil.2.1 103 = .ok (.aload_n 0, 1) := by decide +kernel
theorem J_MSquareRows_spoil_d104 : decode J_MSquareRows_spoil.2.1 104 = .ok (.lload 7, 2) := by decide +kernel
theorem J_MSquareRows_spoil_d106 : decode J_MSquareRows_spoil.2.1 106 = .ok (.l2i, 1) := by decide +kernel
theorem J_MSquareRows_spoil_d107 : decode J_MSquareRows_spoil.2.1 107 = .ok (.iload_n 2, 1) := by decide +kernel
theorem J_MSquareRows_spoil_d108 : decode J_MSquareRows_spoil.2.1 108 = .ok (.invokevirtual 166, 3) := by decide +kernel
theorem J_MSquareRows_spoil_d111 : decode J_MSquareRows_spoil.2.1 111 = .ok (.iaload, 1) := by decide +kernel
theorem J_MSquareRows_spoil_d112 : decode J_MSquareRows_spoil.2.1 112 = .ok (.isub, 1) := by decide +kernel
theorem J_MSquareRows_spoil_d113 : decode J_MSquareRows_spoil.2.1 113 = .ok (.iastore, 1) := by decide +kernel
theorem J_MSquareRows_spoil_d114 : decode J_MSquareRows_spoil.2.1 114 = .ok (.iinc 5 1, 3) := by decide +kernel
theorem J_MSquareRows_spoil_d117 : decode J_MSquareRows_spoil.2.1 117 = .ok (.iinc 6 1, 3) := by decide +kernel
theorem J_MSquareRows_spoil_d120 : decode J_MSquareRows_spoil.2.1 120 = .ok (.goto (-109), 3) := by decide +kernel
theorem J_MSquareRows_spoil_d123 : decode J_MSquareRows_spoil.2.1 123 = .ok (.iload 5, 2) := by decide +kernel
theorem J_MSquareRows_spoil_d125 : decode J_MSquareRows_spoil.2.1 125 = .ok (.ireturn, 1) := by decide +kernel
theorem f_MSquareRows_spoil_ok {L : Nat} {xs : Nat → Int32} {dep : Nat} {w : Bool} {p0 : Int32} {p1 : Int32} {p2 : Int64} {M : im_M} {Q : Int32 × im_M → Prop} (hM : lw_S w M) (h : ed (f_MSquareRows_spoil p0 p1 p2 M) Q) : ia (tb_G L xs) (dep + 1) J_MSquareRows_spoil (rwI w Q) (0, lv_args 0 [.ref 108, .int p0, .int p1, .long p2], [], M) := by
  have hS : im_St (tb_G L xs) (dep + 1) J_MSquareRows_spoil (ia (tb_G L xs) (dep + 1) J_MSquareRows_spoil (rwI w Q)) := ia_St
  unfold f_MSquareRows_spoil at h
  have l0 : im_lk (lv_args 0 [.ref 108, .int p0, .int p1, .long p2]) 0 = some (.ref 108) := rfl
  have l1 : im_lk (lv_args 0 [.ref 108, .int p0, .int p1, .long p2]) 1 = some (.int p0) := rfl
  have l2 : im_lk (lv_args 0 [.ref 108, .int p0, .int p1, .long p2]) 2 = some (.int p1) := rfl
  have l3 : im_lk (lv_args 0 [.ref 108, .int p0, .int p1, .long p2]) 3 = some (.long p2) := rfl
  refine iq_aload_n hS 1 J_MSquareRows_spoil_d0 l0 rfl ?_
  refine iq_iconst hS 2 J_MSquareRows_spoil_d1 (v := 0) (by decide +kernel) rfl ?_
  refine iq_putI hS 5 J_MSquareRows_spoil_d2 lf_16_73 (Or.inl rfl) rfl (ka_108 hM) rfl ?_
  refine iq_iconst hS 6 J_MSquareRows_spoil_d5 (v := 0) (by decide +kernel) rfl ?_
  refine iq_istore hS 8 J_MSquareRows_spoil_d6 (by decide) rfl ?_
  refine iq_iconst hS 9 J_MSquareRows_spoil_d8 (v := 0) (by decide +kernel) rfl ?_
  refine iq_istore hS 11 J_MSquareRows_spoil_d9 (by decide) rfl ?_
  obtain ⟨Q1, hQ1, h⟩ := bd2_ed h
  have K1 : ∀ (y2 : Int32) (M3 : im_M) (L' : List (Nat × Value)), lw_S w M3 → im_lk L' 5 = some (.int y2) → Q1 (y2, M3) → ia (tb_G L xs) (dep + 1) J_MSquareRows_spoil (rwI w Q) (123, L', [], M3) := by
    intro y2 M3 L' hM3 l4 h
    replace h := hQ1 _ _ h
    refine iq_iload hS 125 J_MSquareRows_spoil_d123 l4 rfl ?_
    exact iq_iret J_MSquareRows_spoil_d125 rfl rfl ⟨_, rfl, hM3, ed_some h⟩
  obtain ⟨r1, hr1, hq1⟩ := h
  obtain ⟨n1, hn1⟩ := lp_n hr1
  have I1 : ∀ (n : Nat) (x5 : Int32) (x6 : Int32) (M7 : im_M) (L' : List (Nat × Value)), lw_S w M7 → im_lk L' 0 = some (.ref 108) → im_lk L' 1 = some (.int p0) → im_lk L' 2 = some (.int p1) → im_lk L' 3 = some (.long p2) → im_lk L' 5 = some (.int x5) → im_lk L' 6 = some (.int x6) → lpn (uc3 (f_MSquareRows_spoil_L11 p0 p1 p2)) n (x5, x6, M7) = some r1 → ia (tb_G L xs) (dep + 1) J_MSquareRows_spoil (rwI w Q) (11, L', [], M7) := by
    intro n
    induction n with
    | zero => intro x5 x6 M7 L' hM7 l8 l9 l10 l11 l12 l13 hn; exact (lpn_0 hn).elim
    | succ n ih =>
      intro x5 x6 M7 L' hM7 l8 l9 l10 l11 l12 l13 hn
      have h := lpn_ed3 hn
      unfold f_MSquareRows_spoil_L11 at h
      refine iq_iload hS 13 J_MSquareRows_spoil_d11 l13 rfl ?_
      refine iq_bipush hS 15 J_MSquareRows_spoil_d13 (v := 64) (by decide +kernel) rfl ?_
      refine iq_icmp_ge hS 18 J_MSquareRows_spoil_d15 (t := 123) rfl (fun q15 => ?_) rfl (fun q15 => ?_)
      · replace h := ed_pos q15 h
        exact K1 _ _ _ hM7 l12 (lq_r h hq1)
      · replace h := ed_neg q15 h
        refine iq_iload_n hS 19 J_MSquareRows_spoil_d18 l9 rfl ?_
        refine iq_i2l hS 20 J_MSquareRows_spoil_d19 rfl ?_
        refine iq_iload hS 22 J_MSquareRows_spoil_d20 l13 rfl ?_
        refine iq_i2l hS 23 J_MSquareRows_spoil_d22 rfl ?_
        refine iq_ladd hS 24 J_MSquareRows_spoil_d23 rfl ?_
        refine iq_lstore hS 26 J_MSquareRows_spoil_d24 (by decide) rfl ?_
        refine iq_aload_n hS 27 J_MSquareRows_spoil_d26 (lk_2r l8 (by decide) (by decide)) rfl ?_
        refine iq_getI hS 30 J_MSquareRows_spoil_d27 lf_16_229 (Or.inl rfl) (ka_108 hM7) rfl ?_
        have J14 : ∀ (z15 : Int32) (L' : List (Nat × Value)), z15 = ((if (im_i M7 108 7) ≤ 0 then 0 else (if p1 < 0 then 0 else (if (im_i M7 108 8) ≤ p1 then 0 else (if (lg_cmp ((Int32.toInt64 p0) + (Int32.toInt64 x6)) 0) < 0 then 0 else (if 0 ≤ (lg_cmp ((Int32.toInt64 p0) + (Int32.toInt64 x6)) (Int32.toInt64 (im_i M7 108 8))) then 0 else 1))))) : Int32) → im_lk L' 0 = some (.ref 108) → im_lk L' 1 = some (.int p0) → im_lk L' 2 = some (.int p1) → im_lk L' 3 = some (.long p2) → im_lk L' 5 = some (.int x5) → im_lk L' 6 = some (.int x6) → im_lk L' 7 = some (.long ((Int32.toInt64 p0) + (Int32.toInt64 x6))) → ia (tb_G L xs) (dep + 1) J_MSquareRows_spoil (rwI w Q) (68, L', [.int z15], M7) := by
          intro z15 L' e16 l17 l18 l19 l20 l21 l22 l23
          subst e16
          refine iq_istore hS 70 J_MSquareRows_spoil_d68 (by decide) rfl ?_
          refine iq_iload hS 72 J_MSquareRows_spoil_d70 lk_1s rfl ?_
          obtain ⟨Q24, hQ24, h⟩ := bd2_ed h
          have J24 : ∀ (y27 : Int32) (M28 : im_M) (L' : List (Nat × Value)), lw_S w M28 → im_lk L' 0 = some (.ref 108) → im_lk L' 1 = some (.int p0) → im_lk L' 2 = some (.int p1) → im_lk L' 3 = some (.long p2) → im_lk L' 5 = some (.int y27) → im_lk L' 6 = some (.int x6) → Q24 (y27, M28) → ia (tb_G L xs) (dep + 1) J_MSquareRows_spoil (rwI w Q) (117, L', [], M28) := by
            intro y27 M28 L' hM28 l29 l30 l31 l32 l33 l34 h
            replace h := hQ24 _ _ h
            refine iq_iincv hS 120 J_MSquareRows_spoil_d117 (c := 1) (by decide +kernel) l34 (by decide) rfl ?_
            refine iq_goto hS J_MSquareRows_spoil_d120 (t := 11) rfl ?_
            exact ih _ _ _ _ hM28 (lk_1r l29 (by decide)) (lk_1i l30 (by decide)) (lk_1i l31 (by decide)) (lk_1l l32 (by decide) (by decide)) (lk_1i l33 (by decide)) lk_1s (lq_l h)
          refine iq_if_eq hS 75 J_MSquareRows_spoil_d72 (t := 117) rfl (fun q72 => ?_) rfl (fun q72 => ?_)
          · replace h := ed_pos q72 h
            exact J24 _ _ _ hM7 (lk_1r l17 (by decide)) (lk_1i l18 (by decide)) (lk_1i l19 (by decide)) (lk_1l l20 (by decide) (by decide)) (lk_1i l21 (by decide)) (lk_1i l22 (by decide)) (ed_some h)
          · replace h := ed_neg q72 h
            refine iq_lload_n hS 76 J_MSquareRows_spoil_d75 (lk_1l l20 (by decide) (by decide)) rfl ?_
            refine iq_iload hS 78 J_MSquareRows_spoil_d76 (lk_1i l22 (by decide)) rfl ?_
            refine iq_lshr hS 79 J_MSquareRows_spoil_d78 rfl ?_
            refine iq_lconst hS 80 J_MSquareRows_spoil_d79 (v := 1) (by decide +kernel) rfl ?_
            refine iq_land hS 81 J_MSquareRows_spoil_d80 rfl ?_
            refine iq_lconst hS 82 J_MSquareRows_spoil_d81 (v := 1) (by decide +kernel) rfl ?_
            refine iq_lcmp hS 83 J_MSquareRows_spoil_d82 rfl ?_
            refine iq_if_ne hS 86 J_MSquareRows_spoil_d83 (t := 117) rfl (fun q83 => ?_) rfl (fun q83 => ?_)
            · replace h := ed_pos q83 h
              exact J24 _ _ _ hM7 (lk_1r l17 (by decide)) (lk_1i l18 (by decide)) (lk_1i l19 (by decide)) (lk_1l l20 (by decide) (by decide)) (lk_1i l21 (by decide)) (lk_1i l22 (by decide)) (ed_some h)
            · replace h := ed_neg q83 h
              refine iq_aload_n hS 87 J_MSquareRows_spoil_d86 (lk_1r l17 (by decide)) rfl ?_
              refine iq_getR hS 90 J_MSquareRows_spoil_d87 lf_16_19 (Or.inr ⟨_, rfl⟩) (ka_108 hM7) (ra_108_5 hM7) rfl ?_
              refine iq_aload_n hS 91 J_MSquareRows_spoil_d90 (lk_1r l17 (by decide)) rfl ?_
              refine iq_lload hS 93 J_MSquareRows_spoil_d91 (lk_1l l23 (by decide) (by decide)) rfl ?_
              refine iq_l2i hS 94 J_MSquareRows_spoil_d93 rfl ?_
              refine iq_iload_n hS 95 J_MSquareRows_spoil_d94 (lk_1i l19 (by decide)) rfl ?_
              obtain ⟨Q25, hQ25, h⟩ := bd1_ed h
              refine iq_cpI hS 98 J_MSquareRows_spoil_d95 rfl (pr_inst (vs := [_, _]) lc_16_166 lT_412 rfl rfl (by decide) (by decide) rfl (Nat.le_of_ble_eq_true rfl) (Nat.le_of_ble_eq_true rfl) (fun _ => Or.inl (pr_b (ka_108 hM7) (by decide) rfl))) (f_MSquareRows_moduleAt_ok (dep := dep + 0) hM7 h) rfl ?_
              intro x25 h
              replace h := hQ25 _ h
              refine iq_iconst hS 99 J_MSquareRows_spoil_d98 (v := 1) (by decide +kernel) rfl ?_
              refine iq_aload_n hS 100 J_MSquareRows_spoil_d99 (lk_1r l17 (by decide)) rfl ?_
              refine iq_getR hS 103 J_MSquareRows_spoil_d100 lf_16_19 (Or.inr ⟨_, rfl⟩) (ka_108 hM7) (ra_108_5 hM7) rfl ?_
              refine iq_aload_n hS 104 J_MSquareRows_spoil_d103 (lk_1r l17 (by decide)) rfl ?_
              refine iq_lload hS 106 J_MSquareRows_spoil_d104 (lk_1l l23 (by decide) (by decide)) rfl ?_
              refine iq_l2i hS 107 J_MSquareRows_spoil_d106 rfl ?_
              refine iq_iload_n hS 108 J_MSquareRows_spoil_d107 (lk_1i l19 (by decide)) rfl ?_
              obtain ⟨Q26, hQ26, h⟩ := bd1_ed h
              refine iq_cpI hS 111 J_MSquareRows_spoil_d108 rfl (pr_inst (vs := [_, _]) lc_16_166 lT_412 rfl rfl (by decide) (by decide) rfl (Nat.le_of_ble_eq_true rfl) (Nat.le_of_ble_eq_true rfl) (fun _ => Or.inl (pr_b (ka_108 hM7) (by decide) rfl))) (f_MSquareRows_moduleAt_ok (dep := dep + 0) hM7 h) rfl ?_
              intro x26 h
              replace h := hQ26 _ h
              obtain ⟨g111, h⟩ := ed_gd h
              refine iq_iaload hS 112 J_MSquareRows_spoil_d111 ⟨(ka_112 hM7).1, (ka_112 hM7).2, g111.1, ix_lt (kl_112 hM7) g111.2⟩ rfl ?_
              refine iq_isub hS 113 J_MSquareRows_spoil_d112 rfl ?_
              obtain ⟨g113, h⟩ := ed_gd h
              refine iq_iastore hS 114 J_MSquareRows_spoil_d113 ⟨(ka_112 hM7).1, (ka_112 hM7).2, g113.1, ix_lt (kl_112 hM7) g113.2⟩ rfl ?_
              refine iq_iincv hS 117 J_MSquareRows_spoil_d114 (c := 1) (by decide +kernel) (lk_1i l21 (by decide)) (by decide) rfl ?_
              exact J24 _ _ _ hM7 (lk_1r (lk_1r l17 (by decide)) (by decide)) (lk_1i (lk_1i l18 (by decide)) (by decide)) (lk_1i (lk_1i l19 (by decide)) (by decide)) (lk_1l (lk_1l l20 (by decide) (by decide)) (by decide) (by decide)) lk_1s (lk_1i (lk_1i l22 (by decide)) (by decide)) (ed_some h)
        refine iq_if_le hS 33 J_MSquareRows_spoil_d30 (t := 67) rfl (fun q30 => ?_) rfl (fun q30 => ?_)
        · refine iq_iconst hS 68 J_MSquareRows_spoil_d67 (v := 0) (by decide +kernel) rfl ?_
          exact J14 _ _ (by rw [if_pos q30]) (lk_2r l8 (by decide) (by decide)) (lk_2i l9 (by decide) (by decide)) (lk_2i l10 (by decide) (by decide)) (lk_2l l11 (by decide) (by decide) (by decide)) (lk_2i l12 (by decide) (by decide)) (lk_2i l13 (by decide) (by decide)) lk_2s
        · refine iq_iload_n hS 34 J_MSquareRows_spoil_d33 (lk_2i l10 (by decide) (by decide)) rfl ?_
          refine iq_if_lt hS 37 J_MSquareRows_spoil_d34 (t := 67) rfl (fun q34 => ?_) rfl (fun q34 => ?_)
          · refine iq_iconst hS 68 J_MSquareRows_spoil_d67 (v := 0) (by decide +kernel) rfl ?_
            exact J14 _ _ (by rw [if_neg q30, if_pos q34]) (lk_2r l8 (by decide) (by decide)) (lk_2i l9 (by decide) (by decide)) (lk_2i l10 (by decide) (by decide)) (lk_2l l11 (by decide) (by decide) (by decide)) (lk_2i l12 (by decide) (by decide)) (lk_2i l13 (by decide) (by decide)) lk_2s
          · refine iq_iload_n hS 38 J_MSquareRows_spoil_d37 (lk_2i l10 (by decide) (by decide)) rfl ?_
            refine iq_aload_n hS 39 J_MSquareRows_spoil_d38 (lk_2r l8 (by decide) (by decide)) rfl ?_
            refine iq_getI hS 42 J_MSquareRows_spoil_d39 lf_16_163 (Or.inl rfl) (ka_108 hM7) rfl ?_
            refine iq_icmp_ge hS 45 J_MSquareRows_spoil_d42 (t := 67) rfl (fun q42 => ?_) rfl (fun q42 => ?_)
            · refine iq_iconst hS 68 J_MSquareRows_spoil_d67 (v := 0) (by decide +kernel) rfl ?_
              exact J14 _ _ (by rw [if_neg q30, if_neg q34, if_pos q42]) (lk_2r l8 (by decide) (by decide)) (lk_2i l9 (by decide) (by decide)) (lk_2i l10 (by decide) (by decide)) (lk_2l l11 (by decide) (by decide) (by decide)) (lk_2i l12 (by decide) (by decide)) (lk_2i l13 (by decide) (by decide)) lk_2s
            · refine iq_lload hS 47 J_MSquareRows_spoil_d45 lk_2s rfl ?_
              refine iq_lconst hS 48 J_MSquareRows_spoil_d47 (v := 0) (by decide +kernel) rfl ?_
              refine iq_lcmp hS 49 J_MSquareRows_spoil_d48 rfl ?_
              refine iq_if_lt hS 52 J_MSquareRows_spoil_d49 (t := 67) rfl (fun q49 => ?_) rfl (fun q49 => ?_)
              · refine iq_iconst hS 68 J_MSquareRows_spoil_d67 (v := 0) (by decide +kernel) rfl ?_
                exact J14 _ _ (by rw [if_neg q30, if_neg q34, if_neg q42, if_pos q49]) (lk_2r l8 (by decide) (by decide)) (lk_2i l9 (by decide) (by decide)) (lk_2i l10 (by decide) (by decide)) (lk_2l l11 (by decide) (by decide) (by decide)) (lk_2i l12 (by decide) (by decide)) (lk_2i l13 (by decide) (by decide)) lk_2s
              · refine iq_lload hS 54 J_MSquareRows_spoil_d52 lk_2s rfl ?_
                refine iq_aload_n hS 55 J_MSquareRows_spoil_d54 (lk_2r l8 (by decide) (by decide)) rfl ?_
                refine iq_getI hS 58 J_MSquareRows_spoil_d55 lf_16_163 (Or.inl rfl) (ka_108 hM7) rfl ?_
                refine iq_i2l hS 59 J_MSquareRows_spoil_d58 rfl ?_
                refine iq_lcmp hS 60 J_MSquareRows_spoil_d59 rfl ?_
                refine iq_if_ge hS 63 J_MSquareRows_spoil_d60 (t := 67) rfl (fun q60 => ?_) rfl (fun q60 => ?_)
                · refine iq_iconst hS 68 J_MSquareRows_spoil_d67 (v := 0) (by decide +kernel) rfl ?_
                  exact J14 _ _ (by rw [if_neg q30, if_neg q34, if_neg q42, if_neg q49, if_pos q60]) (lk_2r l8 (by decide) (by decide)) (lk_2i l9 (by decide) (by decide)) (lk_2i l10 (by decide) (by decide)) (lk_2l l11 (by decide) (by decide) (by decide)) (lk_2i l12 (by decide) (by decide)) (lk_2i l13 (by decide) (by decide)) lk_2s
                · refine iq_iconst hS 64 J_MSquareRows_spoil_d63 (v := 1) (by decide +kernel) rfl ?_
                  refine iq_goto hS J_MSquareRows_spoil_d64 (t := 68) rfl ?_
                  exact J14 _ _ (by rw [if_neg q30, if_neg q34, if_neg q42, if_neg q49, if_neg q60]) (lk_2r l8 (by decide) (by decide)) (lk_2i l9 (by decide) (by decide)) (lk_2i l10 (by decide) (by decide)) (lk_2l l11 (by decide) (by decide) (by decide)) (lk_2i l12 (by decide) (by decide)) (lk_2i l13 (by decide) (by decide)) lk_2s
  exact I1 n1 _ _ _ _ hM (lk_1r (lk_1r l0 (by decide)) (by decide)) (lk_1i (lk_1i l1 (by decide)) (by decide)) (lk_1i (lk_1i l2 (by decide)) (by decide)) (lk_1l (lk_1l l3 (by decide) (by decide)) (by decide) (by decide)) (lk_1i lk_1s (by decide)) lk_1s hn1
noncomputable def f_MSquareRows_formBits_L4 (v2 : Int32) (M5 : im_M) (x3 : Int32) (x4 : Int32) : Option ((Int32 × Int32) ⊕ (Int32)) := if 15 ≤ x4 then some (.inr x3) else bd1 (f_MSquareRows_formX x4 v2 (im_i M5 108 8) M5) fun (x6 : Int32) => bd1 (f_MSquareRows_formY x4 v2 (im_i M5 108 8) M5) fun (x7 : Int32) => bd1 (f_MSquareRows_moduleAt x6 x7 M5) fun (x8 : Int32) => gd (inb x8 31329) <| some (.inl ((x3 ||| ((im_i M5 112 (Int32.toNatClampNeg x8)) <<< (x4 &&& 31))), (x4 + 1)))
noncomputable def f_MSquareRows_formBits (p0 : Int32) (M : im_M) : Option (Int32) := bd1 (lp (uc2 (f_MSquareRows_formBits_L4 p0 M)) (0, 0)) fun (y9 : Int32) => some y9
theorem J_MSquareRows_formBits_d0 : decode J_MSquareRows_formBits.2.1 0 = .ok (.iconst 0, 1) := by decide +kernel
theorem J_MSquareRows_formBits_d1 : decode J_MSquareRows_formBits.2.1 1 = .ok (.istore_n 2, 1) := by decide +kernel
theorem J_MSquareRows_formBits_d2 : decode J_MSquareRows_formBits.2.1 2 = .ok (.iconst 0, 1) := by decide +kernel
theorem J_MSquareRows_formBits_d3 : decode J_MSquareRows_formBits.2.1 3 = .ok (.istore_n 3, 1) := by decide +kernel
theorem J_MSquareRows_formBits_d4 : decode J_MSquareRows_formBits.2.1 4 = .ok (.iload_n 3, 1) := by decide +kernel
theorem J_MSquareRows_formBits_d5 : decode J_MSquareRows_formBits.2.1 5 = .ok (.bipush 15, 2) := by decide +kernel
theorem J_MSquareRows_formBits_d7 : decode J_MSquareRows_formBits.2.1 7 = .ok (.if_icmp .ge 41, 3) := by decide +kernel
theorem J_MSquareRows_formBits_d10 : decode J_MSquareRows_formBits.2.1 10 = .ok (.iload_n 2, 1) := by decide +kernel
theorem J_MSquareRows_formBits_d11 : decode J_MSquareRows_formBits.2.1 11 = .ok (.aload_n 0, 1) := by decide +kernel
theorem J_MSquareRows_formBits_d12 : decode J_MSquareRows_formBits.2.1 12 = .ok (.getfield 19, 3) := by decide +kernel
theorem J_MSquareRows_formBits_d15 : decode J_MSquareRows_formBits.2.1 15 = .ok (.aload_n 0, 1) := by decide +kernel
theorem J_MSquareRows_formBits_d16 : decode J_MSquareRows_formBits.2.1 16 = .ok (.iload_n 3, 1) := by decide +kernel
theorem J_MSquareRows_formBits_d17 : decode J_MSquareRows_formBits.2.1 17 = .ok (.iload_n 1, 1) := by decide +kernel
theorem J_MSquareRows_formBits_d18 : decode J_MSquareRows_formBits.2.1 18 = .ok (.aload_n 0, 1) := by decide +kernel
theorem J_MSquareRows_formBits_d19 : decode J_MSquareRows_formBits.2.1 19 = .ok (.getfield 163, 3) := by decide +kernel
theorem J_MSquareRows_formBits_d22 : decode J_MSquareRows_formBits.2.1 22 = .ok (.invokestatic 178, 3) := by decide +kernel
theorem J_MSquareRows_formBits_d25 : decode J_MSquareRows_formBits.2.1 25 = .ok (.iload_n 3, 1) := by decide +kernel
theorem J_MSquareRows_formBits_d26 : decode J_MSquareRows_formBits.2.1 26 = .ok (.iload_n 1, 1) := by decide +kernel
theorem J_MSquareRows_formBits_d27 : decode J_MSquareRows_formBits.2.1 27 = .ok (.aload_n 0, 1) := by decide +kernel
theorem J_MSquareRows_formBits_d28 : decode J_MSquareRows_formBits.2.1 28 = .ok (.getfield 163, 3) := by decide +kernel
theorem J_MSquareRows_formBits_d31 : decode J_MSquareRows_formBits.2.1 31 = .ok (.invokestatic 182, 3) := by decide +kernel
theorem J_MSquareRows_formBits_d34 : decode J_MSquareRows_formBits.2.1 34 = .ok (.invokevirtual 166, 3) := by decide +kernel
theorem J_MSquareRows_formBits_d37 : decode J_MSquareRows_formBits.2.1 37 = .ok (.iaload, 1) := by decide +kernel
theorem J_MSquareRows_formBits_d38 : decode J_MSquareRows_formBits.2.1 38 = .ok (.iload_n 3, 1) := by decide +kernel
theorem J_MSquareRows_formBits_d39 : decode J_MSquareRows_formBits.2.1 39 = .ok (.ishl, 1) := by decide +kernel
theorem J_MSquareRows_formBits_d40 : decode J_MSquareRows_formBits.2.1 40 = .ok (.ior, 1) := by decide +kernel
theorem J_MSquareRows_formBits_d41 : decode J_MSquareRows_formBits.2.1 41 = .ok (.istore_n 2, 1) := by decide +kernel
theorem J_MSquareRows_formBits_d42 : decode J_MSquareRows_formBits.2.1 42 = .ok (.iinc 3 1, 3) := by decide +kernel
theorem J_MSquareRows_formBits_d45 : decode J_MSquareRows_formBits.2.1 45 = .ok (.goto (-41), 3) := by decide +kernel
theorem J_MSquareRows_formBits_d48 : decode J_MSquareRows_formBits.2.1 48 = .ok (.iload_n 2, 1) := by decide +kernel
theorem J_MSquareRows_formBits_d49 : decode J_MSquareRows_formBits.2.1 49 = .ok (.ireturn, 1) := by decide +kernel
theorem f_MSquareRows_formBits_ok {L : Nat} {xs : Nat → Int32} {dep : Nat} {w : Bool} {p0 : Int32} {M : im_M} {Q : Int32 → Prop} (hM : lw_S w M) (h : ed (f_MSquareRows_formBits p0 M) Q) : ia (tb_G L xs) (dep + 1) J_MSquareRows_formBits (rpI M Q) (0, lv_args 0 [.ref 108, .int p0], [], M) := by
  have hS : im_St (tb_G L xs) (dep + 1) J_MSquareRows_formBits (ia (tb_G L xs) (dep + 1) J_MSquareRows_formBits (rpI M Q)) := ia_St
  unfold f_MSquareRows_formBits at h
  have l0 : im_lk (lv_args 0 [.ref 108, .int p0]) 0 = some (.ref 108) := rfl
  have l1 : im_lk (lv_args 0 [.ref 108, .int p0]) 1 = some (.int p0) := rfl
  refine iq_iconst hS 1 J_MSquareRows_formBits_d0 (v := 0) (by decide +kernel) rfl ?_
  refine iq_istore_n hS 2 J_MSquareRows_formBits_d1 (by decide) rfl ?_
  refine iq_iconst hS 3 J_MSquareRows_formBits_d2 (v := 0) (by decide +kernel) rfl ?_
  refine iq_istore_n hS 4 J_MSquareRows_formBits_d3 (by decide) rfl ?_
  obtain ⟨Q1, hQ1, h⟩ := bd1_ed h
  have K1 : ∀ (y2 : Int32) (L' : List (Nat × Value)), im_lk L' 2 = some (.int y2) → Q1 y2 → ia (tb_G L xs) (dep + 1) J_MSquareRows_formBits (rpI M Q) (48, L', [], M) := by
    intro y2 L' l3 h
    replace h := hQ1 _ h
    refine iq_iload_n hS 49 J_MSquareRows_formBits_d48 l3 rfl ?_
    exact iq_iret J_MSquareRows_formBits_d49 rfl rfl ⟨_, rfl, rfl, ed_some h⟩
  obtain ⟨r1, hr1, hq1⟩ := h
  obtain ⟨n1, hn1⟩ := lp_n hr1
  have I1 : ∀ (n : Nat) (x4 : Int32) (x5 : Int32) (L' : List (Nat × Value)), im_lk L' 0 = some (.ref 108) → im_lk L' 1 = some (.int p0) → im_lk L' 2 = some (.int x4) → im_lk L' 3 = some (.int x5) → lpn (uc2 (f_MSquareRows_formBits_L4 p0 M)) n (x4, x5) = some r1 → ia (tb_G L xs) (dep + 1) J_MSquareRows_formBits (rpI M Q) (4, L', [], M) := by
    intro n
    induction n with
    | zero => intro x4 x5 L' l6 l7 l8 l9 hn; exact (lpn_0 hn).elim
    | succ n ih =>
      intro x4 x5 L' l6 l7 l8 l9 hn
      have h := lpn_ed2 hn
      unfold f_MSquareRows_formBits_L4 at h
      refine iq_iload_n hS 5 J_MSquareRows_formBits_d4 l9 rfl ?_
      refine iq_bipush hS 7 J_MSquareRows_formBits_d5 (v := 15) (by decide +kernel) rfl ?_
      refine iq_icmp_ge hS 10 J_MSquareRows_formBits_d7 (t := 48) rfl (fun q7 => ?_) rfl (fun q7 => ?_)
      · replace h := ed_pos q7 h
        exact K1 _ _ l8 (lq_r h hq1)
      · replace h := ed_neg q7 h
        refine iq_iload_n hS 11 J_MSquareRows_formBits_d10 l8 rfl ?_
        refine iq_aload_n hS 12 J_MSquareRows_formBits_d11 l6 rfl ?_
        refine iq_getR hS 15 J_MSquareRows_formBits_d12 lf_16_19 (Or.inr ⟨_, rfl⟩) (ka_108 hM) (ra_108_5 hM) rfl ?_
        refine iq_aload_n hS 16 J_MSquareRows_formBits_d15 l6 rfl ?_
        refine iq_iload_n hS 17 J_MSquareRows_formBits_d16 l9 rfl ?_
        refine iq_iload_n hS 18 J_MSquareRows_formBits_d17 l7 rfl ?_
        refine iq_aload_n hS 19 J_MSquareRows_formBits_d18 l6 rfl ?_
        refine iq_getI hS 22 J_MSquareRows_formBits_d19 lf_16_163 (Or.inl rfl) (ka_108 hM) rfl ?_
        obtain ⟨Q10, hQ10, h⟩ := bd1_ed h
        refine iq_cpI hS 25 J_MSquareRows_formBits_d22 rfl (pr_stat (vs := [_, _, _]) lc_16_178 lT_419 rfl rfl (by decide) rfl (Nat.le_of_ble_eq_true rfl) (Nat.le_of_ble_eq_true rfl)) (f_MSquareRows_formX_ok (dep := dep + 0) hM h) rfl ?_
        intro x10 h
        replace h := hQ10 _ h
        refine iq_iload_n hS 26 J_MSquareRows_formBits_d25 l9 rfl ?_
        refine iq_iload_n hS 27 J_MSquareRows_formBits_d26 l7 rfl ?_
        refine iq_aload_n hS 28 J_MSquareRows_formBits_d27 l6 rfl ?_
        refine iq_getI hS 31 J_MSquareRows_formBits_d28 lf_16_163 (Or.inl rfl) (ka_108 hM) rfl ?_
        obtain ⟨Q11, hQ11, h⟩ := bd1_ed h
        refine iq_cpI hS 34 J_MSquareRows_formBits_d31 rfl (pr_stat (vs := [_, _, _]) lc_16_182 lT_420 rfl rfl (by decide) rfl (Nat.le_of_ble_eq_true rfl) (Nat.le_of_ble_eq_true rfl)) (f_MSquareRows_formY_ok (dep := dep + 0) hM h) rfl ?_
        intro x11 h
        replace h := hQ11 _ h
        obtain ⟨Q12, hQ12, h⟩ := bd1_ed h
        refine iq_cpI hS 37 J_MSquareRows_formBits_d34 rfl (pr_inst (vs := [_, _]) lc_16_166 lT_412 rfl rfl (by decide) (by decide) rfl (Nat.le_of_ble_eq_true rfl) (Nat.le_of_ble_eq_true rfl) (fun _ => Or.inl (pr_b (ka_108 hM) (by decide) rfl))) (f_MSquareRows_moduleAt_ok (dep := dep + 0) hM h) rfl ?_
        intro x12 h
        replace h := hQ12 _ h
        obtain ⟨g37, h⟩ := ed_gd h
        refine iq_iaload hS 38 J_MSquareRows_formBits_d37 ⟨(ka_112 hM).1, (ka_112 hM).2, g37.1, ix_lt (kl_112 hM) g37.2⟩ rfl ?_
        refine iq_iload_n hS 39 J_MSquareRows_formBits_d38 l9 rfl ?_
        refine iq_ishl hS 40 J_MSquareRows_formBits_d39 rfl ?_
        refine iq_ior hS 41 J_MSquareRows_formBits_d40 rfl ?_
        refine iq_istore_n hS 42 J_MSquareRows_formBits_d41 (by decide) rfl ?_
        refine iq_iincv hS 45 J_MSquareRows_formBits_d42 (c := 1) (by decide +kernel) (lk_1i l9 (by decide)) (by decide) rfl ?_
        refine iq_goto hS J_MSquareRows_formBits_d45 (t := 4) rfl ?_
        exact ih _ _ _ (lk_1r (lk_1r l6 (by decide)) (by decide)) (lk_1i (lk_1i l7 (by decide)) (by decide)) (lk_1i lk_1s (by decide)) lk_1s (lq_l h)
  exact I1 n1 _ _ _ (lk_1r (lk_1r l0 (by decide)) (by decide)) (lk_1i (lk_1i l1 (by decide)) (by decide)) (lk_1i lk_1s (by decide)) lk_1s hn1
noncomputable def f_MSquareRows_ones_L4 (v2 : Int32) (M5 : im_M) (x3 : Int32) (x4 : Int32) : Option ((Int32 × Int32) ⊕ (Int32)) := if 15 ≤ x4 then some (.inr x3) else some (.inl ((x3 + ((v2 >>> (x4 &&& 31)) &&& 1)), (x4 + 1)))
noncomputable def f_MSquareRows_ones (p0 : Int32) (M : im_M) : Option (Int32) := bd1 (lp (uc2 (f_MSquareRows_ones_L4 p0 M)) (0, 0)) fun (y6 : Int32) => some y6
theorem J_MSquareRows_ones_d0 : decode J_MSquareRows_ones.2.1 0 = .ok (.iconst 0, 1) := by decide +kernel
theorem J_MSquareRows_ones_d1 : decode J_MSquareRows_ones.2.1 1 = .ok (.istore_n 1, 1) := by decide +kernel
theorem J_MSquareRows_ones_d2 : decode J_MSquareRows_ones.2.1 2 = .ok (.iconst 0, 1) := by decide +kernel
theorem J_MSquareRows_ones_d3 : decode J_MSquareRows_ones.2.1 3 = .ok (.istore_n 2, 1) := by decide +kernel
theorem J_MSquareRows_ones_d4 : decode J_MSquareRows_ones.2.1 4 = .ok (.iload_n 2, 1) := by decide +kernel
theorem J_MSquareRows_ones_d5 : decode J_MSquareRows_ones.2.1 5 = .ok (.bipush 15, 2) := by decide +kernel
theorem J_MSquareRows_ones_d7 : decode J_MSquareRows_ones.2.1 7 = .ok (.if_icmp .ge 17, 3) := by decide +kernel
theorem J_MSquareRows_ones_d10 : decode J_MSquareRows_ones.2.1 10 = .ok (.iload_n 1, 1) := by decide +kernel
theorem J_MSquareRows_ones_d11 : decode J_MSquareRows_ones.2.1 11 = .ok (.iload_n 0, 1) := by decide +kernel
theorem J_MSquareRows_ones_d12 : decode J_MSquareRows_ones.2.1 12 = .ok (.iload_n 2, 1) := by decide +kernel
theorem J_MSquareRows_ones_d13 : decode J_MSquareRows_ones.2.1 13 = .ok (.ishr, 1) := by decide +kernel
theorem J_MSquareRows_ones_d14 : decode J_MSquareRows_ones.2.1 14 = .ok (.iconst 1, 1) := by decide +kernel
theorem J_MSquareRows_ones_d15 : decode J_MSquareRows_ones.2.1 15 = .ok (.iand, 1) := by decide +kernel
theorem J_MSquareRows_ones_d16 : decode J_MSquareRows_ones.2.1 16 = .ok (.iadd, 1) := by decide +kernel
theorem J_MSquareRows_ones_d17 : decode J_MSquareRows_ones.2.1 17 = .ok (.istore_n 1, 1) := by decide +kernel
theorem J_MSquareRows_ones_d18 : decode J_MSquareRows_ones.2.1 18 = .ok (.iinc 2 1, 3) := by decide +kernel
theorem J_MSquareRows_ones_d21 : decode J_MSquareRows_ones.2.1 21 = .ok (.goto (-17), 3) := by decide +kernel
theorem J_MSquareRows_ones_d24 : decode J_MSquareRows_ones.2.1 24 = .ok (.iload_n 1, 1) := by decide +kernel
theorem J_MSquareRows_ones_d25 : decode J_MSquareRows_ones.2.1 25 = .ok (.ireturn, 1) := by decide +kernel
theorem f_MSquareRows_ones_ok {L : Nat} {xs : Nat → Int32} {dep : Nat} {w : Bool} {p0 : Int32} {M : im_M} {Q : Int32 → Prop} (hM : lw_S w M) (h : ed (f_MSquareRows_ones p0 M) Q) : ia (tb_G L xs) dep J_MSquareRows_ones (rpI M Q) (0, lv_args 0 [.int p0], [], M) := by
  have hS : im_St (tb_G L xs) dep J_MSquareRows_ones (ia (tb_G L xs) dep J_MSquareRows_ones (rpI M Q)) := ia_St
  unfold f_MSquareRows_ones at h
  have l0 : im_lk (lv_args 0 [.int p0]) 0 = some (.int p0) := rfl
  refine iq_iconst hS 1 J_MSquareRows_ones_d0 (v := 0) (by decide +kernel) rfl ?_
  refine iq_istore_n hS 2 J_MSquareRows_ones_d1 (by decide) rfl ?_
  refine iq_iconst hS 3 J_MSquareRows_ones_d2 (v := 0) (by decide +kernel) rfl ?_
  refine iq_istore_n hS 4 J_MSquareRows_ones_d3 (by decide) rfl ?_
  obtain ⟨Q1, hQ1, h⟩ := bd1_ed h
  have K1 : ∀ (y2 : Int32) (L' : List (Nat × Value)), im_lk L' 1 = some (.int y2) → Q1 y2 → ia (tb_G L xs) dep J_MSquareRows_ones (rpI M Q) (24, L', [], M) := by
    intro y2 L' l3 h
    replace h := hQ1 _ h
    refine iq_iload_n hS 25 J_MSquareRows_ones_d24 l3 rfl ?_
    exact iq_iret J_MSquareRows_ones_d25 rfl rfl ⟨_, rfl, rfl, ed_some h⟩
  obtain ⟨r1, hr1, hq1⟩ := h
  obtain ⟨n1, hn1⟩ := lp_n hr1
  have I1 : ∀ (n : Nat) (x4 : Int32) (x5 : Int32) (L' : List (Nat × Value)), im_lk L' 0 = some (.int p0) → im_lk L' 1 = some (.int x4) → im_lk L' 2 = some (.int x5) → lpn (uc2 (f_MSquareRows_ones_L4 p0 M)) n (x4, x5) = some r1 → ia (tb_G L xs) dep J_MSquareRows_ones (rpI M Q) (4, L', [], M) := by
    intro n
    induction n with
    | zero => intro x4 x5 L' l6 l7 l8 hn; exact (lpn_0 hn).elim
    | succ n ih =>
      intro x4 x5 L' l6 l7 l8 hn
      have h := lpn_ed2 hn
      unfold f_MSquareRows_ones_L4 at h
      refine iq_iload_n hS 5 J_MSquareRows_ones_d4 l8 rfl ?_
      refine iq_bipush hS 7 J_MSquareRows_ones_d5 (v := 15) (by decide +kernel) rfl ?_
      refine iq_icmp_ge hS 10 J_MSquareRows_ones_d7 (t := 24) rfl (fun q7 => ?_) rfl (fun q7 => ?_)
      · replace h := ed_pos q7 h
        exact K1 _ _ l7 (lq_r h hq1)
      · replace h := ed_neg q7 h
        refine iq_iload_n hS 11 J_MSquareRows_ones_d10 l7 rfl ?_
        refine iq_iload_n hS 12 J_MSquareRows_ones_d11 l6 rfl ?_
        refine iq_iload_n hS 13 J_MSquareRows_ones_d12 l8 rfl ?_
        refine iq_ishr hS 14 J_MSquareRows_ones_d13 rfl ?_
        refine iq_iconst hS 15 J_MSquareRows_ones_d14 (v := 1) (by decide +kernel) rfl ?_
        refine iq_iand hS 16 J_MSquareRows_ones_d15 rfl ?_
        refine iq_iadd hS 17 J_MSquareRows_ones_d16 rfl ?_
        refine iq_istore_n hS 18 J_MSquareRows_ones_d17 (by decide) rfl ?_
        refine iq_iincv hS 21 J_MSquareRows_ones_d18 (c := 1) (by decide +kernel) (lk_1i l8 (by decide)) (by decide) rfl ?_
        refine iq_goto hS J_MSquareRows_ones_d21 (t := 4) rfl ?_
        exact ih _ _ _ (lk_1i (lk_1i l6 (by decide)) (by decide)) (lk_1i lk_1s (by decide)) lk_1s (lq_l h)
  exact I1 n1 _ _ _ (lk_1i (lk_1i l0 (by decide)) (by decide)) (lk_1i lk_1s (by decide)) lk_1s hn1
noncomputable def f_MSquareRows_formNumberRead_L24 (v7 : Int32) (v8 : Int32) (M10 : im_M) (x9 : Int32) : Option ((Int32) ⊕ ((Unit) ⊕ (Int32))) := if 32 ≤ x9 then some (.inr (.inl ())) else bd1 (f_MSquareRows_formWord x9 M10) fun (x11 : Int32) => bd1 (f_MSquareRows_ones (v8 ^^^ x11) M10) fun (x12 : Int32) => if 3 < x12 then some (.inl (x9 + 1)) else some (.inr (.inr x9))
noncomputable def f_MSquareRows_formNumberRead_L2 (M3 : im_M) (x2 : Int32) : Option ((Int32) ⊕ ((Unit) ⊕ (Int32))) := if 2 ≤ x2 then some (.inr (.inl ())) else bd1 (f_MSquareRows_formBits ((if ¬ x2 = 1 then 0 else 1) : Int32) M3) fun (x5 : Int32) => bs0 (lp (uc1 (f_MSquareRows_formNumberRead_L24 x2 x5 M3)) 0) (fun (_ : Unit) => some (.inl (x2 + 1))) (fun t => some (.inr (.inr t)))
noncomputable def f_MSquareRows_formNumberRead (M : im_M) : Option (Int32) := bs0 (lp (uc1 (f_MSquareRows_formNumberRead_L2 M)) 0) (fun (_ : Unit) => some (-1)) (fun t => some t)
theorem J_MSquareRows_formNumberRead_d0 : decode J_MSquareRows_formNumberRead.2.1 0 = .ok (.iconst 0, 1) := by decide +kernel
theorem J_MSquareRows_formNumberRead_d1 : decode J_MSquareRows_formNumberRead.2.1 1 = .ok (.istore_n 1, 1) := by decide +kernel
theorem J_MSquareRows_formNumberRead_d2 : decode J_MSquareRows_formNumberRead.2.1 2 = .ok (.iload_n 1, 1) := by decide +kernel
theorem J_MSquareRows_formNumberRead_d3 : decode J_MSquareRows_formNumberRead.2.1 3 = .ok (.iconst 2, 1) := by decide +kernel
theorem J_MSquareRows_formNumberRead_d4 : decode J_MSquareRows_formNumberRead.2.1 4 = .ok (.if_icmp .ge 53, 3) := by decide +kernel
theorem J_MSquareRows_formNumberRead_d7 : decode J_MSquareRows_formNumberRead.2.1 7 = .ok (.aload_n 0, 1) := by decide +kernel
theorem J_MSquareRows_formNumberRead_d8 : decode J_MSquareRows_formNumberRead.2.1 8 = .ok (.iload_n 1, 1) := by decide +kernel
theorem J_MSquareRows_formNumberRead_d9 : decode J_MSquareRows_formNumberRead.2.1 9 = .ok (.iconst 1, 1) := by decide +kernel
theorem J_MSquareRows_formNumberRead_d10 : decode J_MSquareRows_formNumberRead.2.1 10 = .ok (.if_icmp .ne 7, 3) := by decide +kernel
theorem J_MSquareRows_formNumberRead_d13 : decode J_MSquareRows_formNumberRead.2.1 13 = .ok (.iconst 1, 1) := by decide +kernel
theorem J_MSquareRows_formNumberRead_d14 : decode J_MSquareRows_formNumberRead.2.1 14 = .ok (.goto 4, 3) := by decide +kernel
theorem J_MSquareRows_formNumberRead_d17 : decode J_MSquareRows_formNumberRead.2.1 17 = .ok (.iconst 0, 1) := by decide +kernel
theorem J_MSquareRows_formNumberRead_d18 : decode J_MSquareRows_formNumberRead.2.1 18 = .ok (.invokevirtual 267, 3) := by decide +kernel
theorem J_MSquareRows_formNumberRead_d21 : decode J_MSquareRows_formNumberRead.2.1 21 = .ok (.istore_n 2, 1) := by decide +kernel
theorem J_MSquareRows_formNumberRead_d22 : decode J_MSquareRows_formNumberRead.2.1 22 = .ok (.iconst 0, 1) := by decide +kernel
theorem J_MSquareRows_formNumberRead_d23 : decode J_MSquareRows_formNumberRead.2.1 23 = .ok (.istore_n 3, 1) := by decide +kernel
theorem J_MSquareRows_formNumberRead_d24 : decode J_MSquareRows_formNumberRead.2.1 24 = .ok (.iload_n 3, 1) := by decide +kernel
theorem J_MSquareRows_formNumberRead_d25 : decode J_MSquareRows_formNumberRead.2.1 25 = .ok (.bipush 32, 2) := by decide +kernel
theorem J_MSquareRows_formNumberRead_d27 : decode J_MSquareRows_formNumberRead.2.1 27 = .ok (.if_icmp .ge 24, 3) := by decide +kernel
theorem J_MSquareRows_formNumberRead_d30 : decode J_MSquareRows_formNumberRead.2.1 30 = .ok (.iload_n 2, 1) := by decide +kernel
theorem J_MSquareRows_formNumberRead_d31 : decode J_MSquareRows_formNumberRead.2.1 31 = .ok (.iload_n 3, 1) := by decide +kernel
theorem J_MSquareRows_formNumberRead_d32 : decode J_MSquareRows_formNumberRead.2.1 32 = .ok (.invokestatic 175, 3) := by decide +kernel
theorem J_MSquareRows_formNumberRead_d35 : decode J_MSquareRows_formNumberRead.2.1 35 = .ok (.ixor, 1) := by decide +kernel
theorem J_MSquareRows_formNumberRead_d36 : decode J_MSquareRows_formNumberRead.2.1 36 = .ok (.invokestatic 270, 3) := by decide +kernel
theorem J_MSquareRows_formNumberRead_d39 : decode J_MSquareRows_formNumberRead.2.1 39 = .ok (.iconst 3, 1) := by decide +kernel
theorem J_MSquareRows_formNumberRead_d40 : decode J_MSquareRows_formNumberRead.2.1 40 = .ok (.if_icmp .gt 5, 3) := by decide +kernel
theorem J_MSquareRows_formNumberRead_d43 : decode J_MSquareRows_formNumberRead.2.1 43 = .ok (.iload_n 3, 1) := by decide +kernel
theorem J_MSquareRows_formNumberRead_d44 : decode J_MSquareRows_formNumberRead.2.1 44 = .ok (.ireturn, 1) := by decide +kernel
theorem J_MSquareRows_formNumberRead_d45 : decode J_MSquareRows_formNumberRead.2.1 45 = .ok (.iinc 3 1, 3) := by decide +kernel
theorem J_MSquareRows_formNumberRead_d48 : decode J_MSquareRows_formNumberRead.2.1 48 = .ok (.goto (-24), 3) := by decide +kernel
theorem J_MSquareRows_formNumberRead_d51 : decode J_MSquareRows_formNumberRead.2.1 51 = .ok (.iinc 1 1, 3) := by decide +kernel
theorem J_MSquareRows_formNumberRead_d54 : decode J_MSquareRows_formNumberRead.2.1 54 = .ok (.goto (-52), 3) := by decide +kernel
theorem J_MSquareRows_formNumberRead_d57 : decode J_MSquareRows_formNumberRead.2.1 57 = .ok (.iconst (-1), 1) := by decide +kernel
theorem J_MSquareRows_formNumberRead_d58 : decode J_MSquareRows_formNumberRead.2.1 58 = .ok (.ireturn, 1) := by decide +kernel
theorem f_MSquareRows_formNumberRead_ok {L : Nat} {xs : Nat → Int32} {dep : Nat} {w : Bool} {M : im_M} {Q : Int32 → Prop} (hM : lw_S w M) (h : ed (f_MSquareRows_formNumberRead M) Q) : ia (tb_G L xs) (dep + 2) J_MSquareRows_formNumberRead (rpI M Q) (0, lv_args 0 [.ref 108], [], M) := by
  have hS : im_St (tb_G L xs) (dep + 2) J_MSquareRows_formNumberRead (ia (tb_G L xs) (dep + 2) J_MSquareRows_formNumberRead (rpI M Q)) := ia_St
  unfold f_MSquareRows_formNumberRead at h
  have l0 : im_lk (lv_args 0 [.ref 108]) 0 = some (.ref 108) := rfl
  refine iq_iconst hS 1 J_MSquareRows_formNumberRead_d0 (v := 0) (by decide +kernel) rfl ?_
  refine iq_istore_n hS 2 J_MSquareRows_formNumberRead_d1 (by decide) rfl ?_
  obtain ⟨Q1, hQ1, hR1, h⟩ := bs0_ed h
  have K1 : ∀  (L' : List (Nat × Value)), Q1 (.inl ()) → ia (tb_G L xs) (dep + 2) J_MSquareRows_formNumberRead (rpI M Q) (57, L', [], M) := by
    intro  L'  h
    replace h := hQ1  h
    refine iq_iconst hS 58 J_MSquareRows_formNumberRead_d57 (v := (-1)) (by decide +kernel) rfl ?_
    exact iq_iret J_MSquareRows_formNumberRead_d58 rfl rfl ⟨_, rfl, rfl, ed_some h⟩
  obtain ⟨r1, hr1, hq1⟩ := h
  obtain ⟨n1, hn1⟩ := lp_n hr1
  have I1 : ∀ (n : Nat) (x2 : Int32) (L' : List (Nat × Value)), im_lk L' 0 = some (.ref 108) → im_lk L' 1 = some (.int x2) → lpn (uc1 (f_MSquareRows_formNumberRead_L2 M)) n x2 = some r1 → ia (tb_G L xs) (dep + 2) J_MSquareRows_formNumberRead (rpI M Q) (2, L', [], M) := by
    intro n
    induction n with
    | zero => intro x2 L' l3 l4 hn; exact (lpn_0 hn).elim
    | succ n ih =>
      intro x2 L' l3 l4 hn
      have h := lpn_ed1 hn
      unfold f_MSquareRows_formNumberRead_L2 at h
      refine iq_iload_n hS 3 J_MSquareRows_formNumberRead_d2 l4 rfl ?_
      refine iq_iconst hS 4 J_MSquareRows_formNumberRead_d3 (v := 2) (by decide +kernel) rfl ?_
      refine iq_icmp_ge hS 7 J_MSquareRows_formNumberRead_d4 (t := 57) rfl (fun q4 => ?_) rfl (fun q4 => ?_)
      · replace h := ed_pos q4 h
        exact K1  _  (lq_r h hq1)
      · replace h := ed_neg q4 h
        refine iq_aload_n hS 8 J_MSquareRows_formNumberRead_d7 l3 rfl ?_
        refine iq_iload_n hS 9 J_MSquareRows_formNumberRead_d8 l4 rfl ?_
        refine iq_iconst hS 10 J_MSquareRows_formNumberRead_d9 (v := 1) (by decide +kernel) rfl ?_
        have J5 : ∀ (z6 : Int32) (L' : List (Nat × Value)), z6 = ((if ¬ x2 = 1 then 0 else 1) : Int32) → im_lk L' 0 = some (.ref 108) → im_lk L' 1 = some (.int x2) → ia (tb_G L xs) (dep + 2) J_MSquareRows_formNumberRead (rpI M Q) (18, L', [.int z6, .ref 108], M) := by
          intro z6 L' e7 l8 l9
          subst e7
          obtain ⟨Q10, hQ10, h⟩ := bd1_ed h
          refine iq_cpI hS 21 J_MSquareRows_formNumberRead_d18 rfl (pr_inst (vs := [_]) lc_16_267 lT_484 rfl rfl (by decide) (by decide) rfl (Nat.le_of_ble_eq_true rfl) (Nat.le_of_ble_eq_true rfl) (fun _ => Or.inl (pr_b (ka_108 hM) (by decide) rfl))) (f_MSquareRows_formBits_ok (dep := dep + 0) hM h) rfl ?_
          intro x10 h
          replace h := hQ10 _ h
          refine iq_istore_n hS 22 J_MSquareRows_formNumberRead_d21 (by decide) rfl ?_
          refine iq_iconst hS 23 J_MSquareRows_formNumberRead_d22 (v := 0) (by decide +kernel) rfl ?_
          refine iq_istore_n hS 24 J_MSquareRows_formNumberRead_d23 (by decide) rfl ?_
          obtain ⟨Q11, hQ11, hR11, h⟩ := bs0_ed h
          have K11 : ∀  (L' : List (Nat × Value)), im_lk L' 0 = some (.ref 108) → im_lk L' 1 = some (.int x2) → Q11 (.inl ()) → ia (tb_G L xs) (dep + 2) J_MSquareRows_formNumberRead (rpI M Q) (51, L', [], M) := by
            intro  L' l12 l13 h
            replace h := hQ11  h
            refine iq_iincv hS 54 J_MSquareRows_formNumberRead_d51 (c := 1) (by decide +kernel) l13 (by decide) rfl ?_
            refine iq_goto hS J_MSquareRows_formNumberRead_d54 (t := 2) rfl ?_
            exact ih _ _ (lk_1r l12 (by decide)) lk_1s (lq_l h)
          obtain ⟨r11, hr11, hq11⟩ := h
          obtain ⟨n11, hn11⟩ := lp_n hr11
          have I11 : ∀ (n : Nat) (x14 : Int32) (L' : List (Nat × Value)), im_lk L' 0 = some (.ref 108) → im_lk L' 1 = some (.int x2) → im_lk L' 2 = some (.int x10) → im_lk L' 3 = some (.int x14) → lpn (uc1 (f_MSquareRows_formNumberRead_L24 x2 x10 M)) n x14 = some r11 → ia (tb_G L xs) (dep + 2) J_MSquareRows_formNumberRead (rpI M Q) (24, L', [], M) := by
            intro n
            induction n with
            | zero => intro x14 L' l15 l16 l17 l18 hn; exact (lpn_0 hn).elim
            | succ n ih =>
              intro x14 L' l15 l16 l17 l18 hn
              have h := lpn_ed1 hn
              unfold f_MSquareRows_formNumberRead_L24 at h
              refine iq_iload_n hS 25 J_MSquareRows_formNumberRead_d24 l18 rfl ?_
              refine iq_bipush hS 27 J_MSquareRows_formNumberRead_d25 (v := 32) (by decide +kernel) rfl ?_
              refine iq_icmp_ge hS 30 J_MSquareRows_formNumberRead_d27 (t := 51) rfl (fun q27 => ?_) rfl (fun q27 => ?_)
              · replace h := ed_pos q27 h
                exact K11  _ l15 l16 (lq_r h hq11)
              · replace h := ed_neg q27 h
                refine iq_iload_n hS 31 J_MSquareRows_formNumberRead_d30 l17 rfl ?_
                refine iq_iload_n hS 32 J_MSquareRows_formNumberRead_d31 l18 rfl ?_
                obtain ⟨Q19, hQ19, h⟩ := bd1_ed h
                refine iq_cpI hS 35 J_MSquareRows_formNumberRead_d32 rfl (pr_stat (vs := [_]) lc_16_175 lT_417 rfl rfl (by decide) rfl (Nat.le_of_ble_eq_true rfl) (Nat.le_of_ble_eq_true rfl)) (f_MSquareRows_formWord_ok (dep := dep + 0) hM h) rfl ?_
                intro x19 h
                replace h := hQ19 _ h
                refine iq_ixor hS 36 J_MSquareRows_formNumberRead_d35 rfl ?_
                obtain ⟨Q20, hQ20, h⟩ := bd1_ed h
                refine iq_cpI hS 39 J_MSquareRows_formNumberRead_d36 rfl (pr_stat (vs := [_]) lc_16_270 lT_485 rfl rfl (by decide) rfl (Nat.le_of_ble_eq_true rfl) (Nat.le_of_ble_eq_true rfl)) (f_MSquareRows_ones_ok (dep := dep + 1) hM h) rfl ?_
                intro x20 h
                replace h := hQ20 _ h
                refine iq_iconst hS 40 J_MSquareRows_formNumberRead_d39 (v := 3) (by decide +kernel) rfl ?_
                refine iq_icmp_gt hS 43 J_MSquareRows_formNumberRead_d40 (t := 45) rfl (fun q40 => ?_) rfl (fun q40 => ?_)
                · replace h := ed_pos q40 h
                  refine iq_iincv hS 48 J_MSquareRows_formNumberRead_d45 (c := 1) (by decide +kernel) l18 (by decide) rfl ?_
                  refine iq_goto hS J_MSquareRows_formNumberRead_d48 (t := 24) rfl ?_
                  exact ih _ _ (lk_1r l15 (by decide)) (lk_1i l16 (by decide)) (lk_1i l17 (by decide)) lk_1s (lq_l h)
                · replace h := ed_neg q40 h
                  refine iq_iload_n hS 44 J_MSquareRows_formNumberRead_d43 l18 rfl ?_
                  exact iq_iret J_MSquareRows_formNumberRead_d44 rfl rfl ⟨_, rfl, rfl, ed_some (hR1 _ (lq_r (hR11 _ (lq_r h hq11)) hq1))⟩
          exact I11 n11 _ _ (lk_1r (lk_1r l8 (by decide)) (by decide)) (lk_1i (lk_1i l9 (by decide)) (by decide)) (lk_1i lk_1s (by decide)) lk_1s hn11
        refine iq_icmp_ne hS 13 J_MSquareRows_formNumberRead_d10 (t := 17) rfl (fun q10 => ?_) rfl (fun q10 => ?_)
        · refine iq_iconst hS 18 J_MSquareRows_formNumberRead_d17 (v := 0) (by decide +kernel) rfl ?_
          exact J5 _ _ (by rw [if_pos q10]) l3 l4
        · refine iq_iconst hS 14 J_MSquareRows_formNumberRead_d13 (v := 1) (by decide +kernel) rfl ?_
          refine iq_goto hS J_MSquareRows_formNumberRead_d14 (t := 18) rfl ?_
          exact J5 _ _ (by rw [if_neg q10]) l3 l4
  exact I1 n1 _ _ (lk_1r l0 (by decide)) lk_1s hn1
