/-! METHODS AS FUNCTIONS -/
noncomputable def f_MSquareRows_spared (p0 : Int32) (p1 : Int32) (M : im_M) : Option (Int32) := if ¬ p0 = 1 then if p1 ≤ 0 then if ¬ p0 = 2 then if ¬ p0 = 3 then some 0 else some 1 else some 2 else some 0 else if ¬ p1 = 0 then if ¬ p1 = 1 then some 1 else some 2 else some 3
theorem J_MSquareRows_spared_d0 : decode J_MSquareRows_spared.2.1 0 = .ok (.iload_n 0, 1) := by decide +kernel
theorem J_MSquareRows_spared_d1 : decode J_MSquareRows_spared.2.1 1 = .ok (.iconst 1, 1) := by decide +kernel
theorem J_MSquareRows_spared_d2 : decode J_MSquareRows_spared.2.1 2 = .ok (.if_icmp .ne 22, 3) := by decide +kernel
theorem J_MSquareRows_spared_d5 : decode J_MSquareRows_spared.2.1 5 = .ok (.iload_n 1, 1) := by decide +kernel
theorem J_MSquareRows_spared_d6 : decode J_MSquareRows_spared.2.1 6 = .ok (.ifCond .ne 7, 3) := by decide +kernel
theorem J_MSquareRows_spared_d9 : decode J_MSquareRows_spared.2.1 9 = .ok (.iconst 3, 1) := by decide +kernel
theorem J_MSquareRows_spared_d10 : decode J_MSquareRows_spared.2.1 10 = .ok (.goto 13, 3) := by decide +kernel
theorem J_MSquareRows_spared_d13 : decode J_MSquareRows_spared.2.1 13 = .ok (.iload_n 1, 1) := by decide +kernel
theorem J_MSquareRows_spared_d14 : decode J_MSquareRows_spared.2.1 14 = .ok (.iconst 1, 1) := by decide +kernel
theorem J_MSquareRows_spared_d15 : decode J_MSquareRows_spared.2.1 15 = .ok (.if_icmp .ne 7, 3) := by decide +kernel
theorem J_MSquareRows_spared_d18 : decode J_MSquareRows_spared.2.1 18 = .ok (.iconst 2, 1) := by decide +kernel
theorem J_MSquareRows_spared_d19 : decode J_MSquareRows_spared.2.1 19 = .ok (.goto 4, 3) := by decide +kernel
theorem J_MSquareRows_spared_d22 : decode J_MSquareRows_spared.2.1 22 = .ok (.iconst 1, 1) := by decide +kernel
theorem J_MSquareRows_spared_d23 : decode J_MSquareRows_spared.2.1 23 = .ok (.ireturn, 1) := by decide +kernel
theorem J_MSquareRows_spared_d24 : decode J_MSquareRows_spared.2.1 24 = .ok (.iload_n 1, 1) := by decide +kernel
theorem J_MSquareRows_spared_d25 : decode J_MSquareRows_spared.2.1 25 = .ok (.ifCond .le 7, 3) := by decide +kernel
theorem J_MSquareRows_spared_d28 : decode J_MSquareRows_spared.2.1 28 = .ok (.iconst 0, 1) := by decide +kernel
theorem J_MSquareRows_spared_d29 : decode J_MSquareRows_spared.2.1 29 = .ok (.goto 22, 3) := by decide +kernel
theorem J_MSquareRows_spared_d32 : decode J_MSquareRows_spared.2.1 32 = .ok (.iload_n 0, 1) := by decide +kernel
theorem J_MSquareRows_spared_d33 : decode J_MSquareRows_spared.2.1 33 = .ok (.iconst 2, 1) := by decide +kernel
theorem J_MSquareRows_spared_d34 : decode J_MSquareRows_spared.2.1 34 = .ok (.if_icmp .ne 7, 3) := by decide +kernel
theorem J_MSquareRows_spared_d37 : decode J_MSquareRows_spared.2.1 37 = .ok (.iconst 2, 1) := by decide +kernel
theorem J_MSquareRows_spared_d38 : decode J_MSquareRows_spared.2.1 38 = .ok (.goto 13, 3) := by decide +kernel
theorem J_MSquareRows_spared_d41 : decode J_MSquareRows_spared.2.1 41 = .ok (.iload_n 0, 1) := by decide +kernel
theorem J_MSquareRows_spared_d42 : decode J_MSquareRows_spared.2.1 42 = .ok (.iconst 3, 1) := by decide +kernel
theorem J_MSquareRows_spared_d43 : decode J_MSquareRows_spared.2.1 43 = .ok (.if_icmp .ne 7, 3) := by decide +kernel
theorem J_MSquareRows_spared_d46 : decode J_MSquareRows_spared.2.1 46 = .ok (.iconst 1, 1) := by decide +kernel
theorem J_MSquareRows_spared_d47 : decode J_MSquareRows_spared.2.1 47 = .ok (.goto 4, 3) := by decide +kernel
theorem J_MSquareRows_spared_d50 : decode J_MSquareRows_spared.2.1 50 = .ok (.iconst 0, 1) := by decide +kernel
theorem J_MSquareRows_spared_d51 : decode J_MSquareRows_spared.2.1 51 = .ok (.ireturn, 1) := by decide +kernel
theorem f_MSquareRows_spared_ok {L : Nat} {xs : Nat → Int32} {dep : Nat} {w : Bool} {p0 : Int32} {p1 : Int32} {M : im_M} {Q : Int32 → Prop} (hM : lw_S w M) (h : ed (f_MSquareRows_spared p0 p1 M) Q) : ia (tb_G L xs) dep J_MSquareRows_spared (rpI M Q) (0, lv_args 0 [.int p0, .int p1], [], M) := by
  have hS : im_St (tb_G L xs) dep J_MSquareRows_spared (ia (tb_G L xs) dep J_MSquareRows_spared (rpI M Q)) := ia_St
  unfold f_MSquareRows_spared at h
  have l0 : im_lk (lv_args 0 [.int p0, .int p1]) 0 = some (.int p0) := rfl
  have l1 : im_lk (lv_args 0 [.int p0, .int p1]) 1 = some (.int p1) := rfl
  refine iq_iload_n hS 1 J_MSquareRows_spared_d0 l0 rfl ?_
  refine iq_iconst hS 2 J_MSquareRows_spared_d1 (v := 1) (by decide +kernel) rfl ?_
  refine iq_icmp_ne hS 5 J_MSquareRows_spared_d2 (t := 24) rfl (fun q2 => ?_) rfl (fun q2 => ?_)
  · replace h := ed_pos q2 h
    refine iq_iload_n hS 25 J_MSquareRows_spared_d24 l1 rfl ?_
    refine iq_if_le hS 28 J_MSquareRows_spared_d25 (t := 32) rfl (fun q25 => ?_) rfl (fun q25 => ?_)
    · replace h := ed_pos q25 h
      refine iq_iload_n hS 33 J_MSquareRows_spared_d32 l0 rfl ?_
      refine iq_iconst hS 34 J_MSquareRows_spared_d33 (v := 2) (by decide +kernel) rfl ?_
      refine iq_icmp_ne hS 37 J_MSquareRows_spared_d34 (t := 41) rfl (fun q34 => ?_) rfl (fun q34 => ?_)
      · replace h := ed_pos q34 h
        refine iq_iload_n hS 42 J_MSquareRows_spared_d41 l0 rfl ?_
        refine iq_iconst hS 43 J_MSquareRows_spared_d42 (v := 3) (by decide +kernel) rfl ?_
        refine iq_icmp_ne hS 46 J_MSquareRows_spared_d43 (t := 50) rfl (fun q43 => ?_) rfl (fun q43 => ?_)
        · replace h := ed_pos q43 h
          refine iq_iconst hS 51 J_MSquareRows_spared_d50 (v := 0) (by decide +kernel) rfl ?_
          exact iq_iret J_MSquareRows_spared_d51 rfl rfl ⟨_, rfl, rfl, ed_some h⟩
        · replace h := ed_neg q43 h
          refine iq_iconst hS 47 J_MSquareRows_spared_d46 (v := 1) (by decide +kernel) rfl ?_
          refine iq_goto hS J_MSquareRows_spared_d47 (t := 51) rfl ?_
          exact iq_iret J_MSquareRows_spared_d51 rfl rfl ⟨_, rfl, rfl, ed_some h⟩
      · replace h := ed_neg q34 h
        refine iq_iconst hS 38 J_MSquareRows_spared_d37 (v := 2) (by decide +kernel) rfl ?_
        refine iq_goto hS J_MSquareRows_spared_d38 (t := 51) rfl ?_
        exact iq_iret J_MSquareRows_spared_d51 rfl rfl ⟨_, rfl, rfl, ed_some h⟩
    · replace h := ed_neg q25 h
      refine iq_iconst hS 29 J_MSquareRows_spared_d28 (v := 0) (by decide +kernel) rfl ?_
      refine iq_goto hS J_MSquareRows_spared_d29 (t := 51) rfl ?_
      exact iq_iret J_MSquareRows_spared_d51 rfl rfl ⟨_, rfl, rfl, ed_some h⟩
  · replace h := ed_neg q2 h
    refine iq_iload_n hS 6 J_MSquareRows_spared_d5 l1 rfl ?_
    refine iq_if_ne hS 9 J_MSquareRows_spared_d6 (t := 13) rfl (fun q6 => ?_) rfl (fun q6 => ?_)
    · replace h := ed_pos q6 h
      refine iq_iload_n hS 14 J_MSquareRows_spared_d13 l1 rfl ?_
      refine iq_iconst hS 15 J_MSquareRows_spared_d14 (v := 1) (by decide +kernel) rfl ?_
      refine iq_icmp_ne hS 18 J_MSquareRows_spared_d15 (t := 22) rfl (fun q15 => ?_) rfl (fun q15 => ?_)
      · replace h := ed_pos q15 h
        refine iq_iconst hS 23 J_MSquareRows_spared_d22 (v := 1) (by decide +kernel) rfl ?_
        exact iq_iret J_MSquareRows_spared_d23 rfl rfl ⟨_, rfl, rfl, ed_some h⟩
      · replace h := ed_neg q15 h
        refine iq_iconst hS 19 J_MSquareRows_spared_d18 (v := 2) (by decide +kernel) rfl ?_
        refine iq_goto hS J_MSquareRows_spared_d19 (t := 23) rfl ?_
        exact iq_iret J_MSquareRows_spared_d23 rfl rfl ⟨_, rfl, rfl, ed_some h⟩
    · replace h := ed_neg q6 h
      refine iq_iconst hS 10 J_MSquareRows_spared_d9 (v := 3) (by decide +kernel) rfl ?_
      refine iq_goto hS J_MSquareRows_spared_d10 (t := 23) rfl ?_
      exact iq_iret J_MSquareRows_spared_d23 rfl rfl ⟨_, rfl, rfl, ed_some h⟩
noncomputable def f_MSquareRows_isZero_L25 (v9 : Int32) (v10 : Int32) (v11 : Int32) (v12 : Int32) (v13 : Int32) (M16 : im_M) (x14 : Int32) (x15 : Int32) : Option ((Int32 × Int32) ⊕ (Int32)) := if v9 ≤ x15 then some (.inr x14) else bd1 (f_MSquareRows_times x14 v13 M16) fun (x17 : Int32) => gd (inb x15 256) <| some (.inl ((x17 ^^^ (im_i M16 121 (Int32.toNatClampNeg x15))), (x15 + 1)))
noncomputable def f_MSquareRows_isZero_L6 (v2 : Int32) (v3 : Int32) (x4 : Int32) (x5 : Int32) (M6 : im_M) : Option ((Int32 × Int32 × im_M) ⊕ (Int32 × im_M)) := if v3 ≤ x5 then some (.inr (x4, M6)) else bd1 (f_MSquareRows_two x5 M6) fun (x7 : Int32) => bd1 (lp (uc2 (f_MSquareRows_isZero_L25 v2 v3 x4 x5 x7 M6)) (0, 0)) fun (y18 : Int32) => gd (inb x5 32) <| some (.inl (((if x4 = 0 then 0 else (if ¬ y18 = 0 then 0 else 1)) : Int32), (x5 + 1), (im_setI M6 123 (Int32.toNatClampNeg x5) y18)))
noncomputable def f_MSquareRows_isZero (p1 : Int32) (p2 : Int32) (M : im_M) : Option (Int32 × im_M) := bd2 (lp (uc3 (f_MSquareRows_isZero_L6 p1 p2)) (1, 0, M)) fun (y20 : Int32) (M21 : im_M) => gd (y20 = 0 ∨ y20 = 1) <| some (y20, M21)
theorem J_MSquareRows_isZero_d0 : decode J_MSquareRows_isZero.2.1 0 = .ok (.iconst 1, 1) := by decide +kernel
theorem J_MSquareRows_isZero_d1 : decode J_MSquareRows_isZero.2.1 1 = .ok (.istore 4, 2) := by decide +kernel
theorem J_MSquareRows_isZero_d3 : decode J_MSquareRows_isZero.2.1 3 = .ok (.iconst 0, 1) := by decide +kernel
theorem J_MSquareRows_isZero_d4 : decode J_MSquareRows_isZero.2.1 4 = .ok (.istore 5, 2) := by decide +kernel
theorem J_MSquareRows_isZero_d6 : decode J_MSquareRows_isZero.2.1 6 = .ok (.iload 5, 2) := by decide +kernel
theorem J_MSquareRows_isZero_d8 : decode J_MSquareRows_isZero.2.1 8 = .ok (.iload_n 3, 1) := by decide +kernel
theorem J_MSquareRows_isZero_d9 : decode J_MSquareRows_isZero.2.1 9 = .ok (.if_icmp .ge 74, 3) := by decide +kernel
theorem J_MSquareRows_isZero_d12 : decode J_MSquareRows_isZero.2.1 12 = .ok (.iload 5, 2) := by decide +kernel
theorem J_MSquareRows_isZero_d14 : decode J_MSquareRows_isZero.2.1 14 = .ok (.invokestatic 144, 3) := by decide +kernel
theorem J_MSquareRows_isZero_d17 : decode J_MSquareRows_isZero.2.1 17 = .ok (.istore 6, 2) := by decide +kernel
theorem J_MSquareRows_isZero_d19 : decode J_MSquareRows_isZero.2.1 19 = .ok (.iconst 0, 1) := by decide +kernel
theorem J_MSquareRows_isZero_d20 : decode J_MSquareRows_isZero.2.1 20 = .ok (.istore 7, 2) := by decide +kernel
theorem J_MSquareRows_isZero_d22 : decode J_MSquareRows_isZero.2.1 22 = .ok (.iconst 0, 1) := by decide +kernel
theorem J_MSquareRows_isZero_d23 : decode J_MSquareRows_isZero.2.1 23 = .ok (.istore 8, 2) := by decide +kernel
theorem J_MSquareRows_isZero_d25 : decode J_MSquareRows_isZero.2.1 25 = .ok (.iload 8, 2) := by decide +kernel
theorem J_MSquareRows_isZero_d27 : decode J_MSquareRows_isZero.2.1 27 = .ok (.iload_n 2, 1) := by decide +kernel
theorem J_MSquareRows_isZero_d28 : decode J_MSquareRows_isZero.2.1 28 = .ok (.if_icmp .ge 23, 3) := by decide +kernel
theorem J_MSquareRows_isZero_d31 : decode J_MSquareRows_isZero.2.1 31 = .ok (.iload 7, 2) := by decide +kernel
theorem J_MSquareRows_isZero_d33 : decode J_MSquareRows_isZero.2.1 33 = .ok (.iload 6, 2) := by decide +kernel
theorem J_MSquareRows_isZero_d35 : decode J_MSquareRows_isZero.2.1 35 = .ok (.invokestatic 147, 3) := by decide +kernel
theorem J_MSquareRows_isZero_d38 : decode J_MSquareRows_isZero.2.1 38 = .ok (.aload_n 1, 1) := by decide +kernel
theorem J_MSquareRows_isZero_d39 : decode J_MSquareRows_isZero.2.1 39 = .ok (.iload 8, 2) := by decide +kernel
theorem J_MSquareRows_isZero_d41 : decode J_MSquareRows_isZero.2.1 41 = .ok (.iaload, 1) := by decide +kernel
theorem J_MSquareRows_isZero_d42 : decode J_MSquareRows_isZero.2.1 42 = .ok (.ixor, 1) := by decide +kernel
theorem J_MSquareRows_isZero_d43 : decode J_MSquareRows_isZero.2.1 43 = .ok (.istore 7, 2) := by decide +kernel
theorem J_MSquareRows_isZero_d45 : decode J_MSquareRows_isZero.2.1 45 = .ok (.iinc 8 1, 3) := by decide +kernel
theorem J_MSquareRows_isZero_d48 : decode J_MSquareRows_isZero.2.1 48 = .ok (.goto (-23), 3) := by decide +kernel
theorem J_MSquareRows_isZero_d51 : decode J_MSquareRows_isZero.2.1 51 = .ok (.aload_n 0, 1) := by decide +kernel
theorem J_MSquareRows_isZero_d52 : decode J_MSquareRows_isZero.2.1 52 = .ok (.getfield 52, 3) := by decide +kernel
theorem J_MSquareRows_isZero_d55 : decode J_MSquareRows_isZero.2.1 55 = .ok (.iload 5, 2) := by decide +kernel
theorem J_MSquareRows_isZero_d57 : decode J_MSquareRows_isZero.2.1 57 = .ok (.iload 7, 2) := by decide +kernel
theorem J_MSquareRows_isZero_d59 : decode J_MSquareRows_isZero.2.1 59 = .ok (.iastore, 1) := by decide +kernel
theorem J_MSquareRows_isZero_d60 : decode J_MSquareRows_isZero.2.1 60 = .ok (.iload 4, 2) := by decide +kernel
theorem J_MSquareRows_isZero_d62 : decode J_MSquareRows_isZero.2.1 62 = .ok (.ifCond .eq 12, 3) := by decide +kernel
theorem J_MSquareRows_isZero_d65 : decode J_MSquareRows_isZero.2.1 65 = .ok (.iload 7, 2) := by decide +kernel
theorem J_MSquareRows_isZero_d67 : decode J_MSquareRows_isZero.2.1 67 = .ok (.ifCond .ne 7, 3) := by decide +kernel
theorem J_MSquareRows_isZero_d70 : decode J_MSquareRows_isZero.2.1 70 = .ok (.iconst 1, 1) := by decide +kernel
theorem J_MSquareRows_isZero_d71 : decode J_MSquareRows_isZero.2.1 71 = .ok (.goto 4, 3) := by decide +kernel
theorem J_MSquareRows_isZero_d74 : decode J_MSquareRows_isZero.2.1 74 = .ok (.iconst 0, 1) := by decide +kernel
theorem J_MSquareRows_isZero_d75 : decode J_MSquareRows_isZero.2.1 75 = .ok (.istore 4, 2) := by decide +kernel
theorem J_MSquareRows_isZero_d77 : decode J_MSquareRows_isZero.2.1 77 = .ok (.iinc 5 1, 3) := by decide +kernel
theorem J_MSquareRows_isZero_d80 : decode J_MSquareRows_isZero.2.1 80 = .ok (.goto (-74), 3) := by decide +kernel
theorem J_MSquareRows_isZero_d83 : decode J_MSquareRows_isZero.2.1 83 = .ok (.iload 4, 2) := by decide +kernel
theorem J_MSquareRows_isZero_d85 : decode J_MSquareRows_isZero.2.1 85 = .ok (.ireturn, 1) := by decide +kernel
theorem f_MSquareRows_isZero_ok {L : Nat} {xs : Nat → Int32} {dep : Nat} {w : Bool} {p1 : Int32} {p2 : Int32} {M : im_M} {Q : Int32 × im_M → Prop} (hM : lw_S w M) (h : ed (f_MSquareRows_isZero p1 p2 M) Q) : ia (tb_G L xs) (dep + 1) J_MSquareRows_isZero (rwI w Q) (0, lv_args 0 [.ref 108, .ref 121, .int p1, .int p2], [], M) := by
  have hS : im_St (tb_G L xs) (dep + 1) J_MSquareRows_isZero (ia (tb_G L xs) (dep + 1) J_MSquareRows_isZero (rwI w Q)) := ia_St
  unfold f_MSquareRows_isZero at h
  have l0 : im_lk (lv_args 0 [.ref 108, .ref 121, .int p1, .int p2]) 0 = some (.ref 108) := rfl
  have l1 : im_lk (lv_args 0 [.ref 108, .ref 121, .int p1, .int p2]) 1 = some (.ref 121) := rfl
  have l2 : im_lk (lv_args 0 [.ref 108, .ref 121, .int p1, .int p2]) 2 = some (.int p1) := rfl
  have l3 : im_lk (lv_args 0 [.ref 108, .ref 121, .int p1, .int p2]) 3 = some (.int p2) := rfl
  refine iq_iconst hS 1 J_MSquareRows_isZero_d0 (v := 1) (by decide +kernel) rfl ?_
  refine iq_istore hS 3 J_MSquareRows_isZero_d1 (by decide) rfl ?_
  refine iq_iconst hS 4 J_MSquareRows_isZero_d3 (v := 0) (by decide +kernel) rfl ?_
  refine iq_istore hS 6 J_MSquareRows_isZero_d4 (by decide) rfl ?_
  obtain ⟨Q1, hQ1, h⟩ := bd2_ed h
  have K1 : ∀ (y2 : Int32) (M3 : im_M) (L' : List (Nat × Value)), lw_S w M3 → im_lk L' 4 = some (.int y2) → Q1 (y2, M3) → ia (tb_G L xs) (dep + 1) J_MSquareRows_isZero (rwI w Q) (83, L', [], M3) := by
    intro y2 M3 L' hM3 l4 h
    replace h := hQ1 _ _ h
    refine iq_iload hS 85 J_MSquareRows_isZero_d83 l4 rfl ?_
    obtain ⟨g85, h⟩ := ed_gd h
    exact iq_iret J_MSquareRows_isZero_d85 rfl (nar_z g85) ⟨_, rfl, hM3, ed_some h⟩
  obtain ⟨r1, hr1, hq1⟩ := h
  obtain ⟨n1, hn1⟩ := lp_n hr1
  have I1 : ∀ (n : Nat) (x5 : Int32) (x6 : Int32) (M7 : im_M) (L' : List (Nat × Value)), lw_S w M7 → im_lk L' 0 = some (.ref 108) → im_lk L' 1 = some (.ref 121) → im_lk L' 2 = some (.int p1) → im_lk L' 3 = some (.int p2) → im_lk L' 4 = some (.int x5) → im_lk L' 5 = some (.int x6) → lpn (uc3 (f_MSquareRows_isZero_L6 p1 p2)) n (x5, x6, M7) = some r1 → ia (tb_G L xs) (dep + 1) J_MSquareRows_isZero (rwI w Q) (6, L', [], M7) := by
    intro n
    induction n with
    | zero => intro x5 x6 M7 L' hM7 l8 l9 l10 l11 l12 l13 hn; exact (lpn_0 hn).elim
    | succ n ih =>
      intro x5 x6 M7 L' hM7 l8 l9 l10 l11 l12 l13 hn
      have h := lpn_ed3 hn
      unfold f_MSquareRows_isZero_L6 at h
      refine iq_iload hS 8 J_MSquareRows_isZero_d6 l13 rfl ?_
      refine iq_iload_n hS 9 J_MSquareRows_isZero_d8 l11 rfl ?_
      refine iq_icmp_ge hS 12 J_MSquareRows_isZero_d9 (t := 83) rfl (fun q9 => ?_) rfl (fun q9 => ?_)
      · replace h := ed_pos q9 h
        exact K1 _ _ _ hM7 l12 (lq_r h hq1)
      · replace h := ed_neg q9 h
        refine iq_iload hS 14 J_MSquareRows_isZero_d12 l13 rfl ?_
        obtain ⟨Q14, hQ14, h⟩ := bd1_ed h
        refine iq_cpI hS 17 J_MSquareRows_isZero_d14 rfl (pr_stat (vs := [_]) lc_16_144 lT_404 rfl rfl (by decide) rfl (Nat.le_of_ble_eq_true rfl) (Nat.le_of_ble_eq_true rfl)) (f_MSquareRows_two_ok (dep := dep + 0) hM7 h) rfl ?_
        intro x14 h
        replace h := hQ14 _ h
        refine iq_istore hS 19 J_MSquareRows_isZero_d17 (by decide) rfl ?_
        refine iq_iconst hS 20 J_MSquareRows_isZero_d19 (v := 0) (by decide +kernel) rfl ?_
        refine iq_istore hS 22 J_MSquareRows_isZero_d20 (by decide) rfl ?_
        refine iq_iconst hS 23 J_MSquareRows_isZero_d22 (v := 0) (by decide +kernel) rfl ?_
        refine iq_istore hS 25 J_MSquareRows_isZero_d23 (by decide) rfl ?_
        obtain ⟨Q15, hQ15, h⟩ := bd1_ed h
        have K15 : ∀ (y16 : Int32) (L' : List (Nat × Value)), im_lk L' 0 = some (.ref 108) → im_lk L' 1 = some (.ref 121) → im_lk L' 2 = some (.int p1) → im_lk L' 3 = some (.int p2) → im_lk L' 4 = some (.int x5) → im_lk L' 5 = some (.int x6) → im_lk L' 7 = some (.int y16) → Q15 y16 → ia (tb_G L xs) (dep + 1) J_MSquareRows_isZero (rwI w Q) (51, L', [], M7) := by
          intro y16 L' l17 l18 l19 l20 l21 l22 l23 h
          replace h := hQ15 _ h
          refine iq_aload_n hS 52 J_MSquareRows_isZero_d51 l17 rfl ?_
          refine iq_getR hS 55 J_MSquareRows_isZero_d52 lf_16_52 (Or.inr ⟨_, rfl⟩) (ka_108 hM7) (ra_108_22 hM7) rfl ?_
          refine iq_iload hS 57 J_MSquareRows_isZero_d55 l22 rfl ?_
          refine iq_iload hS 59 J_MSquareRows_isZero_d57 l23 rfl ?_
          obtain ⟨g59, h⟩ := ed_gd h
          refine iq_iastore hS 60 J_MSquareRows_isZero_d59 ⟨(ka_123 hM7).1, (ka_123 hM7).2, g59.1, ix_lt (kl_123 hM7) g59.2⟩ rfl ?_
          refine iq_iload hS 62 J_MSquareRows_isZero_d60 l21 rfl ?_
          have J24 : ∀ (z25 : Int32) (L' : List (Nat × Value)), z25 = ((if x5 = 0 then 0 else (if ¬ y16 = 0 then 0 else 1)) : Int32) → im_lk L' 0 = some (.ref 108) → im_lk L' 1 = some (.ref 121) → im_lk L' 2 = some (.int p1) → im_lk L' 3 = some (.int p2) → im_lk L' 5 = some (.int x6) → ia (tb_G L xs) (dep + 1) J_MSquareRows_isZero (rwI w Q) (75, L', [.int z25], (im_setI M7 123 (Int32.toNatClampNeg x6) y16)) := by
            intro z25 L' e26 l27 l28 l29 l30 l31
            subst e26
            refine iq_istore hS 77 J_MSquareRows_isZero_d75 (by decide) rfl ?_
            refine iq_iincv hS 80 J_MSquareRows_isZero_d77 (c := 1) (by decide +kernel) (lk_1i l31 (by decide)) (by decide) rfl ?_
            refine iq_goto hS J_MSquareRows_isZero_d80 (t := 6) rfl ?_
            exact ih _ _ _ _ hM7 (lk_1r (lk_1r l27 (by decide)) (by decide)) (lk_1r (lk_1r l28 (by decide)) (by decide)) (lk_1i (lk_1i l29 (by decide)) (by decide)) (lk_1i (lk_1i l30 (by decide)) (by decide)) (lk_1i lk_1s (by decide)) lk_1s (lq_l h)
          refine iq_if_eq hS 65 J_MSquareRows_isZero_d62 (t := 74) rfl (fun q62 => ?_) rfl (fun q62 => ?_)
          · refine iq_iconst hS 75 J_MSquareRows_isZero_d74 (v := 0) (by decide +kernel) rfl ?_
            exact J24 _ _ (by rw [if_pos q62]) l17 l18 l19 l20 l22
          · refine iq_iload hS 67 J_MSquareRows_isZero_d65 l23 rfl ?_
            refine iq_if_ne hS 70 J_MSquareRows_isZero_d67 (t := 74) rfl (fun q67 => ?_) rfl (fun q67 => ?_)
            · refine iq_iconst hS 75 J_MSquareRows_isZero_d74 (v := 0) (by decide +kernel) rfl ?_
              exact J24 _ _ (by rw [if_neg q62, if_pos q67]) l17 l18 l19 l20 l22
            · refine iq_iconst hS 71 J_MSquareRows_isZero_d70 (v := 1) (by decide +kernel) rfl ?_
              refine iq_goto hS J_MSquareRows_isZero_d71 (t := 75) rfl ?_
              exact J24 _ _ (by rw [if_neg q62, if_neg q67]) l17 l18 l19 l20 l22
        obtain ⟨r15, hr15, hq15⟩ := h
        obtain ⟨n15, hn15⟩ := lp_n hr15
        have I15 : ∀ (n : Nat) (x32 : Int32) (x33 : Int32) (L' : List (Nat × Value)), im_lk L' 0 = some (.ref 108) → im_lk L' 1 = some (.ref 121) → im_lk L' 2 = some (.int p1) → im_lk L' 3 = some (.int p2) → im_lk L' 4 = some (.int x5) → im_lk L' 5 = some (.int x6) → im_lk L' 6 = some (.int x14) → im_lk L' 7 = some (.int x32) → im_lk L' 8 = some (.int x33) → lpn (uc2 (f_MSquareRows_isZero_L25 p1 p2 x5 x6 x14 M7)) n (x32, x33) = some r15 → ia (tb_G L xs) (dep + 1) J_MSquareRows_isZero (rwI w Q) (25, L', [], M7) := by
          intro n
          induction n with
          | zero => intro x32 x33 L' l34 l35 l36 l37 l38 l39 l40 l41 l42 hn; exact (lpn_0 hn).elim
          | succ n ih =>
            intro x32 x33 L' l34 l35 l36 l37 l38 l39 l40 l41 l42 hn
            have h := lpn_ed2 hn
            unfold f_MSquareRows_isZero_L25 at h
            refine iq_iload hS 27 J_MSquareRows_isZero_d25 l42 rfl ?_
            refine iq_iload_n hS 28 J_MSquareRows_isZero_d27 l36 rfl ?_
            refine iq_icmp_ge hS 31 J_MSquareRows_isZero_d28 (t := 51) rfl (fun q28 => ?_) rfl (fun q28 => ?_)
            · replace h := ed_pos q28 h
              exact K15 _ _ l34 l35 l36 l37 l38 l39 l41 (lq_r h hq15)
            · replace h := ed_neg q28 h
              refine iq_iload hS 33 J_MSquareRows_isZero_d31 l41 rfl ?_
              refine iq_iload hS 35 J_MSquareRows_isZero_d33 l40 rfl ?_
              obtain ⟨Q43, hQ43, h⟩ := bd1_ed h
              refine iq_cpI hS 38 J_MSquareRows_isZero_d35 rfl (pr_stat (vs := [_, _]) lc_16_147 lT_405 rfl rfl (by decide) rfl (Nat.le_of_ble_eq_true rfl) (Nat.le_of_ble_eq_true rfl)) (f_MSquareRows_times_ok (dep := dep + 0) hM7 h) rfl ?_
              intro x43 h
              replace h := hQ43 _ h
              refine iq_aload_n hS 39 J_MSquareRows_isZero_d38 l35 rfl ?_
              refine iq_iload hS 41 J_MSquareRows_isZero_d39 l42 rfl ?_
              obtain ⟨g41, h⟩ := ed_gd h
              refine iq_iaload hS 42 J_MSquareRows_isZero_d41 ⟨(ka_121 hM7).1, (ka_121 hM7).2, g41.1, ix_lt (kl_121 hM7) g41.2⟩ rfl ?_
              refine iq_ixor hS 43 J_MSquareRows_isZero_d42 rfl ?_
              refine iq_istore hS 45 J_MSquareRows_isZero_d43 (by decide) rfl ?_
              refine iq_iincv hS 48 J_MSquareRows_isZero_d45 (c := 1) (by decide +kernel) (lk_1i l42 (by decide)) (by decide) rfl ?_
              refine iq_goto hS J_MSquareRows_isZero_d48 (t := 25) rfl ?_
              exact ih _ _ _ (lk_1r (lk_1r l34 (by decide)) (by decide)) (lk_1r (lk_1r l35 (by decide)) (by decide)) (lk_1i (lk_1i l36 (by decide)) (by decide)) (lk_1i (lk_1i l37 (by decide)) (by decide)) (lk_1i (lk_1i l38 (by decide)) (by decide)) (lk_1i (lk_1i l39 (by decide)) (by decide)) (lk_1i (lk_1i l40 (by decide)) (by decide)) (lk_1i lk_1s (by decide)) lk_1s (lq_l h)
        exact I15 n15 _ _ _ (lk_1r (lk_1r (lk_1r l8 (by decide)) (by decide)) (by decide)) (lk_1r (lk_1r (lk_1r l9 (by decide)) (by decide)) (by decide)) (lk_1i (lk_1i (lk_1i l10 (by decide)) (by decide)) (by decide)) (lk_1i (lk_1i (lk_1i l11 (by decide)) (by decide)) (by decide)) (lk_1i (lk_1i (lk_1i l12 (by decide)) (by decide)) (by decide)) (lk_1i (lk_1i (lk_1i l13 (by decide)) (by decide)) (by decide)) (lk_1i (lk_1i lk_1s (by decide)) (by decide)) (lk_1i lk_1s (by decide)) lk_1s hn15
  exact I1 n1 _ _ _ _ hM (lk_1r (lk_1r l0 (by decide)) (by decide)) (lk_1r (lk_1r l1 (by decide)) (by decide)) (lk_1i (lk_1i l2 (by decide)) (by decide)) (lk_1i (lk_1i l3 (by decide)) (by decide)) (lk_1i lk_1s (by decide)) lk_1s hn1
noncomputable def f_MSquareRows_inverse_L2 (v2 : Int32) (M4 : im_M) (x3 : Int32) : Option ((Int32) ⊕ (Int32)) := bd1 (f_MSquareRows_times x3 v2 M4) fun (x5 : Int32) => if x5 = 1 then some (.inr x3) else some (.inl (x3 + 1))
noncomputable def f_MSquareRows_inverse (p0 : Int32) (M : im_M) : Option (Int32) := bd1 (lp (uc1 (f_MSquareRows_inverse_L2 p0 M)) 1) fun (y6 : Int32) => some y6
theorem J_MSquareRows_inverse_d0 : decode J_MSquareRows_inverse.2.1 0 = .ok (.iconst 1, 1) := by decide +kernel
theorem J_MSquareRows_inverse_d1 : decode J_MSquareRows_inverse.2.1 1 = .ok (.istore_n 1, 1) := by decide +kernel
theorem J_MSquareRows_inverse_d2 : decode J_MSquareRows_inverse.2.1 2 = .ok (.iload_n 1, 1) := by decide +kernel
theorem J_MSquareRows_inverse_d3 : decode J_MSquareRows_inverse.2.1 3 = .ok (.iload_n 0, 1) := by decide +kernel
theorem J_MSquareRows_inverse_d4 : decode J_MSquareRows_inverse.2.1 4 = .ok (.invokestatic 147, 3) := by decide +kernel
theorem J_MSquareRows_inverse_d7 : decode J_MSquareRows_inverse.2.1 7 = .ok (.iconst 1, 1) := by decide +kernel
theorem J_MSquareRows_inverse_d8 : decode J_MSquareRows_inverse.2.1 8 = .ok (.if_icmp .eq 9, 3) := by decide +kernel
theorem J_MSquareRows_inverse_d11 : decode J_MSquareRows_inverse.2.1 11 = .ok (.iinc 1 1, 3) := by decide +kernel
theorem J_MSquareRows_inverse_d14 : decode J_MSquareRows_inverse.2.1 14 = .ok (.goto (-12), 3) := by decide +kernel
theorem J_MSquareRows_inverse_d17 : decode J_MSquareRows_inverse.2.1 17 = .ok (.iload_n 1, 1) := by decide +kernel
theorem J_MSquareRows_inverse_d18 : decode J_MSquareRows_inverse.2.1 18 = .ok (.ireturn, 1) := by decide +kernel
theorem f_MSquareRows_inverse_ok {L : Nat} {xs : Nat → Int32} {dep : Nat} {w : Bool} {p0 : Int32} {M : im_M} {Q : Int32 → Prop} (hM : lw_S w M) (h : ed (f_MSquareRows_inverse p0 M) Q) : ia (tb_G L xs) (dep + 1) J_MSquareRows_inverse (rpI M Q) (0, lv_args 0 [.int p0], [], M) := by
  have hS : im_St (tb_G L xs) (dep + 1) J_MSquareRows_inverse (ia (tb_G L xs) (dep + 1) J_MSquareRows_inverse (rpI M Q)) := ia_St
  unfold f_MSquareRows_inverse at h
  have l0 : im_lk (lv_args 0 [.int p0]) 0 = some (.int p0) := rfl
  refine iq_iconst hS 1 J_MSquareRows_inverse_d0 (v := 1) (by decide +kernel) rfl ?_
  refine iq_istore_n hS 2 J_MSquareRows_inverse_d1 (by decide) rfl ?_
  obtain ⟨Q1, hQ1, h⟩ := bd1_ed h
  have K1 : ∀ (y2 : Int32) (L' : List (Nat × Value)), im_lk L' 1 = some (.int y2) → Q1 y2 → ia (tb_G L xs) (dep + 1) J_MSquareRows_inverse (rpI M Q) (17, L', [], M) := by
    intro y2 L' l3 h
    replace h := hQ1 _ h
    refine iq_iload_n hS 18 J_MSquareRows_inverse_d17 l3 rfl ?_
    exact iq_iret J_MSquareRows_inverse_d18 rfl rfl ⟨_, rfl, rfl, ed_some h⟩
  obtain ⟨r1, hr1, hq1⟩ := h
  obtain ⟨n1, hn1⟩ := lp_n hr1
  have I1 : ∀ (n : Nat) (x4 : Int32) (L' : List (Nat × Value)), im_lk L' 0 = some (.int p0) → im_lk L' 1 = some (.int x4) → lpn (uc1 (f_MSquareRows_inverse_L2 p0 M)) n x4 = some r1 → ia (tb_G L xs) (dep + 1) J_MSquareRows_inverse (rpI M Q) (2, L', [], M) := by
    intro n
    induction n with
    | zero => intro x4 L' l5 l6 hn; exact (lpn_0 hn).elim
    | succ n ih =>
      intro x4 L' l5 l6 hn
      have h := lpn_ed1 hn
      unfold f_MSquareRows_inverse_L2 at h
      refine iq_iload_n hS 3 J_MSquareRows_inverse_d2 l6 rfl ?_
      refine iq_iload_n hS 4 J_MSquareRows_inverse_d3 l5 rfl ?_
      obtain ⟨Q7, hQ7, h⟩ := bd1_ed h
      refine iq_cpI hS 7 J_MSquareRows_inverse_d4 rfl (pr_stat (vs := [_, _]) lc_16_147 lT_405 rfl rfl (by decide) rfl (Nat.le_of_ble_eq_true rfl) (Nat.le_of_ble_eq_true rfl)) (f_MSquareRows_times_ok (dep := dep + 0) hM h) rfl ?_
      intro x7 h
      replace h := hQ7 _ h
      refine iq_iconst hS 8 J_MSquareRows_inverse_d7 (v := 1) (by decide +kernel) rfl ?_
      refine iq_icmp_eq hS 11 J_MSquareRows_inverse_d8 (t := 17) rfl (fun q8 => ?_) rfl (fun q8 => ?_)
      · replace h := ed_pos q8 h
        exact K1 _ _ l6 (lq_r h hq1)
      · replace h := ed_neg q8 h
        refine iq_iincv hS 14 J_MSquareRows_inverse_d11 (c := 1) (by decide +kernel) l6 (by decide) rfl ?_
        refine iq_goto hS J_MSquareRows_inverse_d14 (t := 2) rfl ?_
        exact ih _ _ (lk_1i l5 (by decide)) lk_1s (lq_l h)
  exact I1 n1 _ _ (lk_1i l0 (by decide)) lk_1s hn1
noncomputable def f_MSquareRows_solves_L9 (v6 : Int32) (v7 : Int32) (M9 : im_M) (x8 : Int32) : Option ((Int32) ⊕ (Int32)) := if v6 ≤ x8 then some (.inr x8) else gd (inb (((17 : Int32) * x8) + v7) 272) <| if ¬ (im_i M9 124 (Int32.toNatClampNeg (((17 : Int32) * x8) + v7))) = 0 then some (.inr x8) else some (.inl (x8 + 1))
noncomputable def f_MSquareRows_solves_L44 (v12 : Int32) (v13 : Int32) (v14 : Int32) (x15 : Int32) (M16 : im_M) : Option ((Int32 × im_M) ⊕ (im_M)) := if v12 < x15 then some (.inr M16) else gd (inb (((17 : Int32) * v14) + x15) 272) <| gd (inb (((17 : Int32) * v13) + x15) 272) <| gd (inb (((17 : Int32) * v14) + x15) 272) <| gd (inb (((17 : Int32) * v13) + x15) 272) <| some (.inl ((x15 + 1), (im_setI (im_setI M16 124 (Int32.toNatClampNeg (((17 : Int32) * v14) + x15)) (im_i M16 124 (Int32.toNatClampNeg (((17 : Int32) * v13) + x15)))) 124 (Int32.toNatClampNeg (((17 : Int32) * v13) + x15)) (im_i M16 124 (Int32.toNatClampNeg (((17 : Int32) * v14) + x15))))))
noncomputable def f_MSquareRows_solves_L127 (v20 : Int32) (v21 : Int32) (v22 : Int32) (x23 : Int32) (M24 : im_M) : Option ((Int32 × im_M) ⊕ (im_M)) := if v20 < x23 then some (.inr M24) else gd (inb (((17 : Int32) * v21) + x23) 272) <| bd1 (f_MSquareRows_times (im_i M24 124 (Int32.toNatClampNeg (((17 : Int32) * v21) + x23))) v22 M24) fun (x25 : Int32) => gd (inb (((17 : Int32) * v21) + x23) 272) <| some (.inl ((x23 + 1), (im_setI M24 124 (Int32.toNatClampNeg (((17 : Int32) * v21) + x23)) x25)))
noncomputable def f_MSquareRows_solves_L194 (v33 : Int32) (v34 : Int32) (v35 : Int32) (v36 : Int32) (x37 : Int32) (M38 : im_M) : Option ((Int32 × im_M) ⊕ (im_M)) := if v33 < x37 then some (.inr M38) else if v35 = v34 then some (.inr M38) else gd (inb (((17 : Int32) * v35) + x37) 272) <| gd (inb (((17 : Int32) * v34) + x37) 272) <| bd1 (f_MSquareRows_times v36 (im_i M38 124 (Int32.toNatClampNeg (((17 : Int32) * v34) + x37))) M38) fun (x39 : Int32) => gd (inb (((17 : Int32) * v35) + x37) 272) <| some (.inl ((x37 + 1), (im_setI M38 124 (Int32.toNatClampNeg (((17 : Int32) * v35) + x37)) ((im_i M38 124 (Int32.toNatClampNeg (((17 : Int32) * v35) + x37))) ^^^ x39))))
noncomputable def f_MSquareRows_solves_L171 (v28 : Int32) (v29 : Int32) (x30 : Int32) (M31 : im_M) : Option ((Int32 × im_M) ⊕ (im_M)) := if v28 ≤ x30 then some (.inr M31) else gd (inb (((17 : Int32) * x30) + v29) 272) <| bd1 (lp (uc2 (f_MSquareRows_solves_L194 v28 v29 x30 (im_i M31 124 (Int32.toNatClampNeg (((17 : Int32) * x30) + v29))))) (0, M31)) fun (M40 : im_M) => some (.inl ((x30 + 1), M40))
noncomputable def f_MSquareRows_solves_L2 (v2 : Int32) (x3 : Int32) (M4 : im_M) : Option ((Int32 × im_M) ⊕ ((im_M) ⊕ (Int32 × im_M))) := if v2 ≤ x3 then some (.inr (.inl M4)) else bd1 (lp (uc1 (f_MSquareRows_solves_L9 v2 x3 M4)) x3) fun (y10 : Int32) => if ¬ y10 = v2 then bd1 (lp (uc2 (f_MSquareRows_solves_L44 v2 x3 y10)) (0, M4)) fun (M17 : im_M) => gd (inb (((17 : Int32) * x3) + x3) 272) <| bd1 (f_MSquareRows_inverse (im_i M17 124 (Int32.toNatClampNeg (((17 : Int32) * x3) + x3))) M17) fun (x18 : Int32) => bd1 (lp (uc2 (f_MSquareRows_solves_L127 v2 x3 x18)) (0, M17)) fun (M26 : im_M) => bd1 (lp (uc2 (f_MSquareRows_solves_L171 v2 x3)) (0, M26)) fun (M41 : im_M) => some (.inl ((x3 + 1), M41)) else some (.inr (.inr (0, M4)))
noncomputable def f_MSquareRows_solves_L270 (v44 : Int32) (x45 : Int32) (M46 : im_M) : Option ((Int32 × im_M) ⊕ (im_M)) := if v44 ≤ x45 then some (.inr M46) else gd (inb (((17 : Int32) * x45) + v44) 272) <| gd (inb x45 16) <| some (.inl ((x45 + 1), (im_setI M46 125 (Int32.toNatClampNeg x45) (im_i M46 124 (Int32.toNatClampNeg (((17 : Int32) * x45) + v44))))))
noncomputable def f_MSquareRows_solves (p0 : Int32) (M : im_M) : Option (Int32 × im_M) := bs1 (lp (uc2 (f_MSquareRows_solves_L2 p0)) (0, M)) (fun (M42 : im_M) => bd1 (lp (uc2 (f_MSquareRows_solves_L270 p0)) (0, M42)) fun (M47 : im_M) => some (1, M47)) (fun t => some t)
theorem J_MSquareRows_solves_d0 : decode J_MSquareRows_solves.2.1 0 = .ok (.iconst 0, 1) := by decide +kernel
theorem J_MSquareRows_solves_d1 : decode J_MSquareRows_solves.2.1 1 = .ok (.istore_n 2, 1) := by decide +kernel
theorem J_MSquareRows_solves_d2 : decode J_MSquareRows_solves.2.1 2 = .ok (.iload_n 2, 1) := by decide +kernel
theorem J_MSquareRows_solves_d3 : decode J_MSquareRows_solves.2.1 3 = .ok (.iload_n 1, 1) := by decide +kernel
theorem J_MSquareRows_solves_d4 : decode J_MSquareRows_solves.2.1 4 = .ok (.if_icmp .ge 264, 3) := by decide +kernel
theorem J_MSquareRows_solves_d7 : decode J_MSquareRows_solves.2.1 7 = .ok (.iload_n 2, 1) := by decide +kernel
theorem J_MSquareRows_solves_d8 : decode J_MSquareRows_solves.2.1 8 = .ok (.istore_n 3, 1) := by decide +kernel
theorem J_MSquareRows_solves_d9 : decode J_MSquareRows_solves.2.1 9 = .ok (.iload_n 3, 1) := by decide +kernel
theorem J_MSquareRows_solves_d10 : decode J_MSquareRows_solves.2.1 10 = .ok (.iload_n 1, 1) := by decide +kernel
theorem J_MSquareRows_solves_d11 : decode J_MSquareRows_solves.2.1 11 = .ok (.if_icmp .ge 23, 3) := by decide +kernel
theorem J_MSquareRows_solves_d14 : decode J_MSquareRows_solves.2.1 14 = .ok (.aload_n 0, 1) := by decide +kernel
theorem J_MSquareRows_solves_d15 : decode J_MSquareRows_solves.2.1 15 = .ok (.getfield 55, 3) := by decide +kernel
theorem J_MSquareRows_solves_d18 : decode J_MSquareRows_solves.2.1 18 = .ok (.bipush 17, 2) := by decide +kernel
theorem J_MSquareRows_solves_d20 : decode J_MSquareRows_solves.2.1 20 = .ok (.iload_n 3, 1) := by decide +kernel
theorem J_MSquareRows_solves_d21 : decode J_MSquareRows_solves.2.1 21 = .ok (.imul, 1) := by decide +kernel
theorem J_MSquareRows_solves_d22 : decode J_MSquareRows_solves.2.1 22 = .ok (.iload_n 2, 1) := by decide +kernel
theorem J_MSquareRows_solves_d23 : decode J_MSquareRows_solves.2.1 23 = .ok (.iadd, 1) := by decide +kernel
theorem J_MSquareRows_solves_d24 : decode J_MSquareRows_solves.2.1 24 = .ok (.iaload, 1) := by decide +kernel
theorem J_MSquareRows_solves_d25 : decode J_MSquareRows_solves.2.1 25 = .ok (.ifCond .ne 9, 3) := by decide +kernel
theorem J_MSquareRows_solves_d28 : decode J_MSquareRows_solves.2.1 28 = .ok (.iinc 3 1, 3) := by decide +kernel
theorem J_MSquareRows_solves_d31 : decode J_MSquareRows_solves.2.1 31 = .ok (.goto (-22), 3) := by decide +kernel
theorem J_MSquareRows_solves_d34 : decode J_MSquareRows_solves.2.1 34 = .ok (.iload_n 3, 1) := by decide +kernel
theorem J_MSquareRows_solves_d35 : decode J_MSquareRows_solves.2.1 35 = .ok (.iload_n 1, 1) := by decide +kernel
theorem J_MSquareRows_solves_d36 : decode J_MSquareRows_solves.2.1 36 = .ok (.if_icmp .ne 5, 3) := by decide +kernel
theorem J_MSquareRows_solves_d39 : decode J_MSquareRows_solves.2.1 39 = .ok (.iconst 0, 1) := by decide +kernel
theorem J_MSquareRows_solves_d40 : decode J_MSquareRows_solves.2.1 40 = .ok (.ireturn, 1) := by decide +kernel
theorem J_MSquareRows_solves_d41 : decode J_MSquareRows_solves.2.1 41 = .ok (.iconst 0, 1) := by decide +kernel
theorem J_MSquareRows_solves_d42 : decode J_MSquareRows_solves.2.1 42 = .ok (.istore 4, 2) := by decide +kernel
theorem J_MSquareRows_solves_d44 : decode J_MSquareRows_solves.2.1 44 = .ok (.iload 4, 2) := by decide +kernel
theorem J_MSquareRows_solves_d46 : decode J_MSquareRows_solves.2.1 46 = .ok (.iload_n 1, 1) := by decide +kernel
theorem J_MSquareRows_solves_d47 : decode J_MSquareRows_solves.2.1 47 = .ok (.if_icmp .gt 61, 3) := by decide +kernel
theorem J_MSquareRows_solves_d50 : decode J_MSquareRows_solves.2.1 50 = .ok (.aload_n 0, 1) := by decide +kernel
theorem J_MSquareRows_solves_d51 : decode J_MSquareRows_solves.2.1 51 = .ok (.getfield 55, 3) := by decide +kernel
theorem J_MSquareRows_solves_d54 : decode J_MSquareRows_solves.2.1 54 = .ok (.bipush 17, 2) := by decide +kernel
theorem J_MSquareRows_solves_d56 : decode J_MSquareRows_solves.2.1 56 = .ok (.iload_n 3, 1) := by decide +kernel
theorem J_MSquareRows_solves_d57 : decode J_MSquareRows_solves.2.1 57 = .ok (.imul, 1) := by decide +kernel
theorem J_MSquareRows_solves_d58 : decode J_MSquareRows_solves.2.1 58 = .ok (.iload 4, 2) := by decide +kernel
theorem J_MSquareRows_solves_d60 : decode J_MSquareRows_solves.2.1 60 = .ok (.iadd, 1) := by decide +kernel
theorem J_MSquareRows_solves_d61 : decode J_MSquareRows_solves.2.1 61 = .ok (.iaload, 1) := by decide +kernel
theorem J_MSquareRows_solves_d62 : decode J_MSquareRows_solves.2.1 62 = .ok (.istore 5, 2) := by decide +kernel
theorem J_MSquareRows_solves_d64 : decode J_MSquareRows_solves.2.1 64 = .ok (.aload_n 0, 1) := by decide +kernel
theorem J_MSquareRows_solves_d65 : decode J_MSquareRows_solves.2.1 65 = .ok (.getfield 55, 3) := by decide +kernel
theorem J_MSquareRows_solves_d68 : decode J_MSquareRows_solves.2.1 68 = .ok (.bipush 17, 2) := by decide +kernel
theorem J_MSquareRows_solves_d70 : decode J_MSquareRows_solves.2.1 70 = .ok (.iload_n 3, 1) := by decide +kernel
theorem J_MSquareRows_solves_d71 : decode J_MSquareRows_solves.2.1 71 = .ok (.imul, 1) := by decide +kernel
theorem J_MSquareRows_solves_d72 : decode J_MSquareRows_solves.2.1 72 = .ok (.iload 4, 2) := by decide +kernel
theorem J_MSquareRows_solves_d74 : decode J_MSquareRows_solves.2.1 74 = .ok (.iadd, 1) := by decide +kernel
theorem J_MSquareRows_solves_d75 : decode J_MSquareRows_solves.2.1 75 = .ok (.aload_n 0, 1) := by decide +kernel
theorem J_MSquareRows_solves_d76 : decode J_MSquareRows_solves.2.1 76 = .ok (.getfield 55, 3) := by decide +kernel
theorem J_MSquareRows_solves_d79 : decode J_MSquareRows_solves.2.1 79 = .ok (.bipush 17, 2) := by decide +kernel
theorem J_MSquareRows_solves_d81 : decode J_MSquareRows_solves.2.1 81 = .ok (.iload_n 2, 1) := by decide +kernel
theorem J_MSquareRows_solves_d82 : decode J_MSquareRows_solves.2.1 82 = .ok (.imul, 1) := by decide +kernel
theorem J_MSquareRows_solves_d83 : decode J_MSquareRows_solves.2.1 83 = .ok (.iload 4, 2) := by decide +kernel
theorem J_MSquareRows_solves_d85 : decode J_MSquareRows_solves.2.1 85 = .ok (.iadd, 1) := by decide +kernel
theorem J_MSquareRows_solves_d86 : decode J_MSquareRows_solves.2.1 86 = .ok (.iaload, 1) := by decide +kernel
theorem J_MSquareRows_solves_d87 : decode J_MSquareRows_solves.2.1 87 = .ok (.iastore, 1) := by decide +kernel
theorem J_MSquareRows_solves_d88 : decode J_MSquareRows_solves.2.1 88 = .ok (.aload_n 0, 1) := by decide +kernel
theorem J_MSquareRows_solves_d89 : decode J_MSquareRows_solves.2.1 89 = .ok (.getfield 55, 3) := by decide +kernel
theorem J_MSquareRows_solves_d92 : decode J_MSquareRows_solves.2.1 92 = .ok (.bipush 17, 2) := by decide +kernel
theorem J_MSquareRows_solves_d94 : decode J_MSquareRows_solves.2.1 94 = .ok (.iload_n 2, 1) := by decide +kernel
theorem J_MSquareRows_solves_d95 : decode J_MSquareRows_solves.2.1 95 = .ok (.imul, 1) := by decide +kernel
theorem J_MSquareRows_solves_d96 : decode J_MSquareRows_solves.2.1 96 = .ok (.iload 4, 2) := by decide +kernel
theorem J_MSquareRows_solves_d98 : decode J_MSquareRows_solves.2.1 98 = .ok (.iadd, 1) := by decide +kernel
theorem J_MSquareRows_solves_d99 : decode J_MSquareRows_solves.2.1 99 = .ok (.iload 5, 2) := by decide +kernel
theorem J_MSquareRows_solves_d101 : decode J_MSquareRows_solves.2.1 101 = .ok (.iastore, 1) := by decide +kernel
theorem J_MSquareRows_solves_d102 : decode J_MSquareRows_solves.2.1 102 = .ok (.iinc 4 1, 3) := by decide +kernel
theorem J_MSquareRows_solves_d105 : decode J_MSquareRows_solves.2.1 105 = .ok (.goto (-61), 3) := by decide +kernel
theorem J_MSquareRows_solves_d108 : decode J_MSquareRows_solves.2.1 108 = .ok (.aload_n 0, 1) := by decide +kernel
theorem J_MSquareRows_solves_d109 : decode J_MSquareRows_solves.2.1 109 = .ok (.getfield 55, 3) := by decide +kernel
theorem J_MSquareRows_solves_d112 : decode J_MSquareRows_solves.2.1 112 = .ok (.bipush 17, 2) := by decide +kernel
theorem J_MSquareRows_solves_d114 : decode J_MSquareRows_solves.2.1 114 = .ok (.iload_n 2, 1) := by decide +kernel
theorem J_MSquareRows_solves_d115 : decode J_MSquareRows_solves.2.1 115 = .ok (.imul, 1) := by decide +kernel
theorem J_MSquareRows_solves_d116 : decode J_MSquareRows_solves.2.1 116 = .ok (.iload_n 2, 1) := by decide +kernel
theorem J_MSquareRows_solves_d117 : decode J_MSquareRows_solves.2.1 117 = .ok (.iadd, 1) := by decide +kernel
theorem J_MSquareRows_solves_d118 : decode J_MSquareRows_solves.2.1 118 = .ok (.iaload, 1) := by decide +kernel
theorem J_MSquareRows_solves_d119 : decode J_MSquareRows_solves.2.1 119 = .ok (.invokestatic 250, 3) := by decide +kernel
theorem J_MSquareRows_solves_d122 : decode J_MSquareRows_solves.2.1 122 = .ok (.istore 4, 2) := by decide +kernel
theorem J_MSquareRows_solves_d124 : decode J_MSquareRows_solves.2.1 124 = .ok (.iconst 0, 1) := by decide +kernel
theorem J_MSquareRows_solves_d125 : decode J_MSquareRows_solves.2.1 125 = .ok (.istore 5, 2) := by decide +kernel
theorem J_MSquareRows_solves_d127 : decode J_MSquareRows_solves.2.1 127 = .ok (.iload 5, 2) := by decide +kernel
theorem J_MSquareRows_solves_d129 : decode J_MSquareRows_solves.2.1 129 = .ok (.iload_n 1, 1) := by decide +kernel
theorem J_MSquareRows_solves_d130 : decode J_MSquareRows_solves.2.1 130 = .ok (.if_icmp .gt 38, 3) := by decide +kernel
theorem J_MSquareRows_solves_d133 : decode J_MSquareRows_solves.2.1 133 = .ok (.aload_n 0, 1) := by decide +kernel
theorem J_MSquareRows_solves_d134 : decode J_MSquareRows_solves.2.1 134 = .ok (.getfield 55, 3) := by decide +kernel
theorem J_MSquareRows_solves_d137 : decode J_MSquareRows_solves.2.1 137 = .ok (.bipush 17, 2) := by decide +kernel
theorem J_MSquareRows_solves_d139 : decode J_MSquareRows_solves.2.1 139 = .ok (.iload_n 2, 1) := by decide +kernel
theorem J_MSquareRows_solves_d140 : decode J_MSquareRows_solves.2.1 140 = .ok (.imul, 1) := by decide +kernel
theorem J_MSquareRows_solves_d141 : decode J_MSquareRows_solves.2.1 141 = .ok (.iload 5, 2) := by decide +kernel
theorem J_MSquareRows_solves_d143 : decode J_MSquareRows_solves.2.1 143 = .ok (.iadd, 1) := by decide +kernel
theorem J_MSquareRows_solves_d144 : decode J_MSquareRows_solves.2.1 144 = .ok (.aload_n 0, 1) := by decide +kernel
theorem J_MSquareRows_solves_d145 : decode J_MSquareRows_solves.2.1 145 = .ok (.getfield 55, 3) := by decide +kernel
theorem J_MSquareRows_solves_d148 : decode J_MSquareRows_solves.2.1 148 = .ok (.bipush 17, 2) := by decide +kernel
theorem J_MSquareRows_solves_d150 : decode J_MSquareRows_solves.2.1 150 = .ok (.iload_n 2, 1) := by decide +kernel
theorem J_MSquareRows_solves_d151 : decode J_MSquareRows_solves.2.1 151 = .ok (.imul, 1) := by decide +kernel
theorem J_MSquareRows_solves_d152 : decode J_MSquareRows_solves.2.1 152 = .ok (.iload 5, 2) := by decide +kernel
theorem J_MSquareRows_solves_d154 : decode J_MSquareRows_solves.2.1 154 = .ok (.iadd, 1) := by decide +kernel
theorem J_MSquareRows_solves_d155 : decode J_MSquareRows_solves.2.1 155 = .ok (.iaload, 1) := by decide +kernel
theorem J_MSquareRows_solves_d156 : decode J_MSquareRows_solves.2.1 156 = .ok (.iload 4, 2) := by decide +kernel
theorem J_MSquareRows_solves_d158 : decode J_MSquareRows_solves.2.1 158 = .ok (.invokestatic 147, 3) := by decide +kernel
theorem J_MSquareRows_solves_d161 : decode J_MSquareRows_solves.2.1 161 = .ok (.iastore, 1) := by decide +kernel
theorem J_MSquareRows_solves_d162 : decode J_MSquareRows_solves.2.1 162 = .ok (.iinc 5 1, 3) := by decide +kernel
theorem J_MSquareRows_solves_d165 : decode J_MSquareRows_solves.2.1 165 = .ok (.goto (-38), 3) := by decide +kernel
theorem J_MSquareRows_solves_d168 : decode J_MSquareRows_solves.2.1 168 = .ok (.iconst 0, 1) := by decide +kernel
theorem J_MSquareRows_solves_d169 : decode J_MSquareRows_solves.2.1 169 = .ok (.istore 5, 2) := by decide +kernel
theorem J_MSquareRows_solves_d171 : decode J_MSquareRows_solves.2.1 171 = .ok (.iload 5, 2) := by decide +kernel
theorem J_MSquareRows_solves_d173 : decode J_MSquareRows_solves.2.1 173 = .ok (.iload_n 1, 1) := by decide +kernel
theorem J_MSquareRows_solves_d174 : decode J_MSquareRows_solves.2.1 174 = .ok (.if_icmp .ge 88, 3) := by decide +kernel
theorem J_MSquareRows_solves_d177 : decode J_MSquareRows_solves.2.1 177 = .ok (.aload_n 0, 1) := by decide +kernel
theorem J_MSquareRows_solves_d178 : decode J_MSquareRows_solves.2.1 178 = .ok (.getfield 55, 3) := by decide +kernel
theorem J_MSquareRows_solves_d181 : decode J_MSquareRows_solves.2.1 181 = .ok (.bipush 17, 2) := by decide +kernel
theorem J_MSquareRows_solves_d183 : decode J_MSquareRows_solves.2.1 183 = .ok (.iload 5, 2) := by decide +kernel
theorem J_MSquareRows_solves_d185 : decode J_MSquareRows_solves.2.1 185 = .ok (.imul, 1) := by decide +kernel
theorem J_MSquareRows_solves_d186 : decode J_MSquareRows_solves.2.1 186 = .ok (.iload_n 2, 1) := by decide +kernel
theorem J_MSquareRows_solves_d187 : decode J_MSquareRows_solves.2.1 187 = .ok (.iadd, 1) := by decide +kernel
theorem J_MSquareRows_solves_d188 : decode J_MSquareRows_solves.2.1 188 = .ok (.iaload, 1) := by decide +kernel
theorem J_MSquareRows_solves_d189 : decode J_MSquareRows_solves.2.1 189 = .ok (.istore 6, 2) := by decide +kernel
theorem J_MSquareRows_solves_d191 : decode J_MSquareRows_solves.2.1 191 = .ok (.iconst 0, 1) := by decide +kernel
theorem J_MSquareRows_solves_d192 : decode J_MSquareRows_solves.2.1 192 = .ok (.istore 7, 2) := by decide +kernel
theorem J_MSquareRows_solves_d194 : decode J_MSquareRows_solves.2.1 194 = .ok (.iload 7, 2) := by decide +kernel
theorem J_MSquareRows_solves_d196 : decode J_MSquareRows_solves.2.1 196 = .ok (.iload_n 1, 1) := by decide +kernel
theorem J_MSquareRows_solves_d197 : decode J_MSquareRows_solves.2.1 197 = .ok (.if_icmp .gt 59, 3) := by decide +kernel
theorem J_MSquareRows_solves_d200 : decode J_MSquareRows_solves.2.1 200 = .ok (.iload 5, 2) := by decide +kernel
theorem J_MSquareRows_solves_d202 : decode J_MSquareRows_solves.2.1 202 = .ok (.iload_n 2, 1) := by decide +kernel
theorem J_MSquareRows_solves_d203 : decode J_MSquareRows_solves.2.1 203 = .ok (.if_icmp .eq 53, 3) := by decide +kernel
theorem J_MSquareRows_solves_d206 : decode J_MSquareRows_solves.2.1 206 = .ok (.aload_n 0, 1) := by decide +kernel
theorem J_MSquareRows_solves_d207 : decode J_MSquareRows_solves.2.1 207 = .ok (.getfield 55, 3) := by decide +kernel
theorem J_MSquareRows_solves_d210 : decode J_MSquareRows_solves.2.1 210 = .ok (.bipush 17, 2) := by decide +kernel
theorem J_MSquareRows_solves_d212 : decode J_MSquareRows_solves.2.1 212 = .ok (.iload 5, 2) := by decide +kernel
theorem J_MSquareRows_solves_d214 : decode J_MSquareRows_solves.2.1 214 = .ok (.imul, 1) := by decide +kernel
theorem J_MSquareRows_solves_d215 : decode J_MSquareRows_solves.2.1 215 = .ok (.iload 7, 2) := by decide +kernel
theorem J_MSquareRows_solves_d217 : decode J_MSquareRows_solves.2.1 217 = .ok (.iadd, 1) := by decide +kernel
theorem J_MSquareRows_solves_d218 : decode J_MSquareRows_solves.2.1 218 = .ok (.aload_n 0, 1) := by decide +kernel
theorem J_MSquareRows_solves_d219 : decode J_MSquareRows_solves.2.1 219 = .ok (.getfield 55, 3) := by decide +kernel
theorem J_MSquareRows_solves_d222 : decode J_MSquareRows_solves.2.1 222 = .ok (.bipush 17, 2) := by decide +kernel
theorem J_MSquareRows_solves_d224 : decode J_MSquareRows_solves.2.1 224 = .ok (.iload 5, 2) := by decide +kernel
theorem J_MSquareRows_solves_d226 : decode J_MSquareRows_solves.2.1 226 = .ok (.imul, 1) := by decide +kernel
theorem J_MSquareRows_solves_d227 : decode J_MSquareRows_solves.2.1 227 = .ok (.iload 7, 2) := by decide +kernel
theorem J_MSquareRows_solves_d229 : decode J_MSquareRows_solves.2.1 229 = .ok (.iadd, 1) := by decide +kernel
theorem J_MSquareRows_solves_d230 : decode J_MSquareRows_solves.2.1 230 = .ok (.iaload, 1) := by decide +kernel
theorem J_MSquareRows_solves_d231 : decode J_MSquareRows_solves.2.1 231 = .ok (.iload 6, 2) := by decide +kernel
theorem J_MSquareRows_solves_d233 : decode J_MSquareRows_solves.2.1 233 = .ok (.aload_n 0, 1) := by decide +kernel
theorem J_MSquareRows_solves_d234 : decode J_MSquareRows_solves.2.1 234 = .ok (.getfield 55, 3) := by decide +kernel
theorem J_MSquareRows_solves_d237 : decode J_MSquareRows_solves.2.1 237 = .ok (.bipush 17, 2) := by decide +kernel
theorem J_MSquareRows_solves_d239 : decode J_MSquareRows_solves.2.1 239 = .ok (.iload_n 2, 1) := by decide +kernel
theorem J_MSquareRows_solves_d240 : decode J_MSquareRows_solves.2.1 240 = .ok (.imul, 1) := by decide +kernel
theorem J_MSquareRows_solves_d241 : decode J_MSquareRows_solves.2.1 241 = .ok (.iload 7, 2) := by decide +kernel
theorem J_MSquareRows_solves_d243 : decode J_MSquareRows_solves.2.1 243 = .ok (.iadd, 1) := by decide +kernel
theorem J_MSquareRows_solves_d244 : decode J_MSquareRows_solves.2.1 244 = .ok (.iaload, 1) := by decide +kernel
theorem J_MSquareRows_solves_d245 : decode J_MSquareRows_solves.2.1 245 = .ok (.invokestatic 147, 3) := by decide +kernel
theorem J_MSquareRows_solves_d248 : decode J_MSquareRows_solves.2.1 248 = .ok (.ixor, 1) := by decide +kernel
theorem J_MSquareRows_solves_d249 : decode J_MSquareRows_solves.2.1 249 = .ok (.iastore, 1) := by decide +kernel
theorem J_MSquareRows_solves_d250 : decode J_MSquareRows_solves.2.1 250 = .ok (.iinc 7 1, 3) := by decide +kernel
theorem J_MSquareRows_solves_d253 : decode J_MSquareRows_solves.2.1 253 = .ok (.goto (-59), 3) := by decide +kernel
theorem J_MSquareRows_solves_d256 : decode J_MSquareRows_solves.2.1 256 = .ok (.iinc 5 1, 3) := by decide +kernel
theorem J_MSquareRows_solves_d259 : decode J_MSquareRows_solves.2.1 259 = .ok (.goto (-88), 3) := by decide +kernel
theorem J_MSquareRows_solves_d262 : decode J_MSquareRows_solves.2.1 262 = .ok (.iinc 2 1, 3) := by decide +kernel
theorem J_MSquareRows_solves_d265 : decode J_MSquareRows_solves.2.1 265 = .ok (.goto (-263), 3) := by decide +kernel
theorem J_MSquareRows_solves_d268 : decode J_MSquareRows_solves.2.1 268 = .ok (.iconst 0, 1) := by decide +kernel
theorem J_MSquareRows_solves_d269 : decode J_MSquareRows_solves.2.1 269 = .ok (.istore_n 2, 1) := by decide +kernel
theorem J_MSquareRows_solves_d270 : decode J_MSquareRows_solves.2.1 270 = .ok (.iload_n 2, 1) := by decide +kernel
theorem J_MSquareRows_solves_d271 : decode J_MSquareRows_solves.2.1 271 = .ok (.iload_n 1, 1) := by decide +kernel
theorem J_MSquareRows_solves_d272 : decode J_MSquareRows_solves.2.1 272 = .ok (.if_icmp .ge 26, 3) := by decide +kernel
theorem J_MSquareRows_solves_d275 : decode J_MSquareRows_solves.2.1 275 = .ok (.aload_n 0, 1) := by decide +kernel
theorem J_MSquareRows_solves_d276 : decode J_MSquareRows_solves.2.1 276 = .ok (.getfield 58, 3) := by decide +kernel
theorem J_MSquareRows_solves_d279 : decode J_MSquareRows_solves.2.1 279 = .ok (.iload_n 2, 1) := by decide +kernel
theorem J_MSquareRows_solves_d280 : decode J_MSquareRows_solves.2.1 280 = .ok (.aload_n 0, 1) := by decide +kernel
theorem J_MSquareRows_solves_d281 : decode J_MSquareRows_solves.2.1 281 = .ok (.getfield 55, 3) := by decide +kernel
theorem J_MSquareRows_solves_d284 : decode J_MSquareRows_solves.2.1 284 = .ok (.bipush 17, 2) := by decide +kernel
theorem J_MSquareRows_solves_d286 : decode J_MSquareRows_solves.2.1 286 = .ok (.iload_n 2, 1) := by decide +kernel
theorem J_MSquareRows_solves_d287 : decode J_MSquareRows_solves.2.1 287 = .ok (.imul, 1) := by decide +kernel
theorem J_MSquareRows_solves_d288 : decode J_MSquareRows_solves.2.1 288 = .ok (.iload_n 1, 1) := by decide +kernel
theorem J_MSquareRows_solves_d289 : decode J_MSquareRows_solves.2.1 289 = .ok (.iadd, 1) := by decide +kernel
theorem J_MSquareRows_solves_d290 : decode J_MSquareRows_solves.2.1 290 = .ok (.iaload, 1) := by decide +kernel
theorem J_MSquareRows_solves_d291 : decode J_MSquareRows_solves.2.1 291 = .ok (.iastore, 1) := by decide +kernel
theorem J_MSquareRows_solves_d292 : decode J_MSquareRows_solves.2.1 292 = .ok (.iinc 2 1, 3) := by decide +kernel
theorem J_MSquareRows_solves_d295 : decode J_MSquareRows_solves.2.1 295 = .ok (.goto (-25), 3) := by decide +kernel
theorem J_MSquareRows_solves_d298 : decode J_MSquareRows_solves.2.1 298 = .ok (.iconst 1, 1) := by decide +kernel
theorem J_MSquareRows_solves_d299 : decode J_MSquareRows_solves.2.1 299 = .ok (.ireturn, 1) := by decide +kernel
theorem f_MSquareRows_solves_ok {L : Nat} {xs : Nat → Int32} {dep : Nat} {w : Bool} {p0 : Int32} {M : im_M} {Q : Int32 × im_M → Prop} (hM : lw_S w M) (h : ed (f_MSquareRows_solves p0 M) Q) : ia (tb_G L xs) (dep + 2) J_MSquareRows_solves (rwI w Q) (0, lv_args 0 [.ref 108, .int p0], [], M) := by
  have hS : im_St (tb_G L xs) (dep + 2) J_MSquareRows_solves (ia (tb_G L xs) (dep + 2) J_MSquareRows_solves (rwI w Q)) := ia_St
  unfold f_MSquareRows_solves at h
  have l0 : im_lk (lv_args 0 [.ref 108, .int p0]) 0 = some (.ref 108) := rfl
  have l1 : im_lk (lv_args 0 [.ref 108, .int p0]) 1 = some (.int p0) := rfl
  refine iq_iconst hS 1 J_MSquareRows_solves_d0 (v := 0) (by decide +kernel) rfl ?_
  refine iq_istore_n hS 2 J_MSquareRows_solves_d1 (by decide) rfl ?_
  obtain ⟨Q1, hQ1, hR1, h⟩ := bs1_ed h
  have K1 : ∀ (M2 : im_M) (L' : List (Nat × Value)), lw_S w M2 → im_lk L' 0 = some (.ref 108) → im_lk L' 1 = some (.int p0) → Q1 (.inl M2) → ia (tb_G L xs) (dep + 2) J_MSquareRows_solves (rwI w Q) (268, L', [], M2) := by
    intro M2 L' hM2 l3 l4 h
    replace h := hQ1 _ h
    refine iq_iconst hS 269 J_MSquareRows_solves_d268 (v := 0) (by decide +kernel) rfl ?_
    refine iq_istore_n hS 270 J_MSquareRows_solves_d269 (by decide) rfl ?_
    obtain ⟨Q5, hQ5, h⟩ := bd1_ed h
    have K5 : ∀ (M6 : im_M) (L' : List (Nat × Value)), lw_S w M6 → Q5 M6 → ia (tb_G L xs) (dep + 2) J_MSquareRows_solves (rwI w Q) (298, L', [], M6) := by
      intro M6 L' hM6  h
      replace h := hQ5 _ h
      refine iq_iconst hS 299 J_MSquareRows_solves_d298 (v := 1) (by decide +kernel) rfl ?_
      exact iq_iret J_MSquareRows_solves_d299 rfl rfl ⟨_, rfl, hM6, ed_some h⟩
    obtain ⟨r5, hr5, hq5⟩ := h
    obtain ⟨n5, hn5⟩ := lp_n hr5
    have I5 : ∀ (n : Nat) (x7 : Int32) (M8 : im_M) (L' : List (Nat × Value)), lw_S w M8 → im_lk L' 0 = some (.ref 108) → im_lk L' 1 = some (.int p0) → im_lk L' 2 = some (.int x7) → lpn (uc2 (f_MSquareRows_solves_L270 p0)) n (x7, M8) = some r5 → ia (tb_G L xs) (dep + 2) J_MSquareRows_solves (rwI w Q) (270, L', [], M8) := by
      intro n
      induction n with
      | zero => intro x7 M8 L' hM8 l9 l10 l11 hn; exact (lpn_0 hn).elim
      | succ n ih =>
        intro x7 M8 L' hM8 l9 l10 l11 hn
        have h := lpn_ed2 hn
        unfold f_MSquareRows_solves_L270 at h
        refine iq_iload_n hS 271 J_MSquareRows_solves_d270 l11 rfl ?_
        refine iq_iload_n hS 272 J_MSquareRows_solves_d271 l10 rfl ?_
        refine iq_icmp_ge hS 275 J_MSquareRows_solves_d272 (t := 298) rfl (fun q272 => ?_) rfl (fun q272 => ?_)
        · replace h := ed_pos q272 h
          exact K5 _ _ hM8  (lq_r h hq5)
        · replace h := ed_neg q272 h
          refine iq_aload_n hS 276 J_MSquareRows_solves_d275 l9 rfl ?_
          refine iq_getR hS 279 J_MSquareRows_solves_d276 lf_16_58 (Or.inr ⟨_, rfl⟩) (ka_108 hM8) (ra_108_24 hM8) rfl ?_
          refine iq_iload_n hS 280 J_MSquareRows_solves_d279 l11 rfl ?_
          refine iq_aload_n hS 281 J_MSquareRows_solves_d280 l9 rfl ?_
          refine iq_getR hS 284 J_MSquareRows_solves_d281 lf_16_55 (Or.inr ⟨_, rfl⟩) (ka_108 hM8) (ra_108_23 hM8) rfl ?_
          refine iq_bipush hS 286 J_MSquareRows_solves_d284 (v := 17) (by decide +kernel) rfl ?_
          refine iq_iload_n hS 287 J_MSquareRows_solves_d286 l11 rfl ?_
          refine iq_imul hS 288 J_MSquareRows_solves_d287 rfl ?_
          refine iq_iload_n hS 289 J_MSquareRows_solves_d288 l10 rfl ?_
          refine iq_iadd hS 290 J_MSquareRows_solves_d289 rfl ?_
          obtain ⟨g290, h⟩ := ed_gd h
          refine iq_iaload hS 291 J_MSquareRows_solves_d290 ⟨(ka_124 hM8).1, (ka_124 hM8).2, g290.1, ix_lt (kl_124 hM8) g290.2⟩ rfl ?_
          obtain ⟨g291, h⟩ := ed_gd h
          refine iq_iastore hS 292 J_MSquareRows_solves_d291 ⟨(ka_125 hM8).1, (ka_125 hM8).2, g291.1, ix_lt (kl_125 hM8) g291.2⟩ rfl ?_
          refine iq_iincv hS 295 J_MSquareRows_solves_d292 (c := 1) (by decide +kernel) l11 (by decide) rfl ?_
          refine iq_goto hS J_MSquareRows_solves_d295 (t := 270) rfl ?_
          exact ih _ _ _ hM8 (lk_1r l9 (by decide)) (lk_1i l10 (by decide)) lk_1s (lq_l h)
    exact I5 n5 _ _ _ hM2 (lk_1r l3 (by decide)) (lk_1i l4 (by decide)) lk_1s hn5
  obtain ⟨r1, hr1, hq1⟩ := h
  obtain ⟨n1, hn1⟩ := lp_n hr1
  have I1 : ∀ (n : Nat) (x12 : Int32) (M13 : im_M) (L' : List (Nat × Value)), lw_S w M13 → im_lk L' 0 = some (.ref 108) → im_lk L' 1 = some (.int p0) → im_lk L' 2 = some (.int x12) → lpn (uc2 (f_MSquareRows_solves_L2 p0)) n (x12, M13) = some r1 → ia (tb_G L xs) (dep + 2) J_MSquareRows_solves (rwI w Q) (2, L', [], M13) := by
    intro n
    induction n with
    | zero => intro x12 M13 L' hM13 l14 l15 l16 hn; exact (lpn_0 hn).elim
    | succ n ih =>
      intro x12 M13 L' hM13 l14 l15 l16 hn
      have h := lpn_ed2 hn
      unfold f_MSquareRows_solves_L2 at h
      refine iq_iload_n hS 3 J_MSquareRows_solves_d2 l16 rfl ?_
      refine iq_iload_n hS 4 J_MSquareRows_solves_d3 l15 rfl ?_
      refine iq_icmp_ge hS 7 J_MSquareRows_solves_d4 (t := 268) rfl (fun q4 => ?_) rfl (fun q4 => ?_)
      · replace h := ed_pos q4 h
        exact K1 _ _ hM13 l14 l15 (lq_r h hq1)
      · replace h := ed_neg q4 h
        refine iq_iload_n hS 8 J_MSquareRows_solves_d7 l16 rfl ?_
        refine iq_istore_n hS 9 J_MSquareRows_solves_d8 (by decide) rfl ?_
        obtain ⟨Q17, hQ17, h⟩ := bd1_ed h
        have K17 : ∀ (y18 : Int32) (L' : List (Nat × Value)), im_lk L' 0 = some (.ref 108) → im_lk L' 1 = some (.int p0) → im_lk L' 2 = some (.int x12) → im_lk L' 3 = some (.int y18) → Q17 y18 → ia (tb_G L xs) (dep + 2) J_MSquareRows_solves (rwI w Q) (34, L', [], M13) := by
          intro y18 L' l19 l20 l21 l22 h
          replace h := hQ17 _ h
          refine iq_iload_n hS 35 J_MSquareRows_solves_d34 l22 rfl ?_
          refine iq_iload_n hS 36 J_MSquareRows_solves_d35 l20 rfl ?_
          refine iq_icmp_ne hS 39 J_MSquareRows_solves_d36 (t := 41) rfl (fun q36 => ?_) rfl (fun q36 => ?_)
          · replace h := ed_pos q36 h
            refine iq_iconst hS 42 J_MSquareRows_solves_d41 (v := 0) (by decide +kernel) rfl ?_
            refine iq_istore hS 44 J_MSquareRows_solves_d42 (by decide) rfl ?_
            obtain ⟨Q23, hQ23, h⟩ := bd1_ed h
            have K23 : ∀ (M24 : im_M) (L' : List (Nat × Value)), lw_S w M24 → im_lk L' 0 = some (.ref 108) → im_lk L' 1 = some (.int p0) → im_lk L' 2 = some (.int x12) → Q23 M24 → ia (tb_G L xs) (dep + 2) J_MSquareRows_solves (rwI w Q) (108, L', [], M24) := by
              intro M24 L' hM24 l25 l26 l27 h
              replace h := hQ23 _ h
              refine iq_aload_n hS 109 J_MSquareRows_solves_d108 l25 rfl ?_
              refine iq_getR hS 112 J_MSquareRows_solves_d109 lf_16_55 (Or.inr ⟨_, rfl⟩) (ka_108 hM24) (ra_108_23 hM24) rfl ?_
              refine iq_bipush hS 114 J_MSquareRows_solves_d112 (v := 17) (by decide +kernel) rfl ?_
              refine iq_iload_n hS 115 J_MSquareRows_solves_d114 l27 rfl ?_
              refine iq_imul hS 116 J_MSquareRows_solves_d115 rfl ?_
              refine iq_iload_n hS 117 J_MSquareRows_solves_d116 l27 rfl ?_
              refine iq_iadd hS 118 J_MSquareRows_solves_d117 rfl ?_
              obtain ⟨g118, h⟩ := ed_gd h
              refine iq_iaload hS 119 J_MSquareRows_solves_d118 ⟨(ka_124 hM24).1, (ka_124 hM24).2, g118.1, ix_lt (kl_124 hM24) g118.2⟩ rfl ?_
              obtain ⟨Q28, hQ28, h⟩ := bd1_ed h
              refine iq_cpI hS 122 J_MSquareRows_solves_d119 rfl (pr_stat (vs := [_]) lc_16_250 lT_492 rfl rfl (by decide) rfl (Nat.le_of_ble_eq_true rfl) (Nat.le_of_ble_eq_true rfl)) (f_MSquareRows_inverse_ok (dep := dep + 0) hM24 h) rfl ?_
              intro x28 h
              replace h := hQ28 _ h
              refine iq_istore hS 124 J_MSquareRows_solves_d122 (by decide) rfl ?_
              refine iq_iconst hS 125 J_MSquareRows_solves_d124 (v := 0) (by decide +kernel) rfl ?_
              refine iq_istore hS 127 J_MSquareRows_solves_d125 (by decide) rfl ?_
              obtain ⟨Q29, hQ29, h⟩ := bd1_ed h
              have K29 : ∀ (M30 : im_M) (L' : List (Nat × Value)), lw_S w M30 → im_lk L' 0 = some (.ref 108) → im_lk L' 1 = some (.int p0) → im_lk L' 2 = some (.int x12) → Q29 M30 → ia (tb_G L xs) (dep + 2) J_MSquareRows_solves (rwI w Q) (168, L', [], M30) := by
                intro M30 L' hM30 l31 l32 l33 h
                replace h := hQ29 _ h
                refine iq_iconst hS 169 J_MSquareRows_solves_d168 (v := 0) (by decide +kernel) rfl ?_
                refine iq_istore hS 171 J_MSquareRows_solves_d169 (by decide) rfl ?_
                obtain ⟨Q34, hQ34, h⟩ := bd1_ed h
                have K34 : ∀ (M35 : im_M) (L' : List (Nat × Value)), lw_S w M35 → im_lk L' 0 = some (.ref 108) → im_lk L' 1 = some (.int p0) → im_lk L' 2 = some (.int x12) → Q34 M35 → ia (tb_G L xs) (dep + 2) J_MSquareRows_solves (rwI w Q) (262, L', [], M35) := by
                  intro M35 L' hM35 l36 l37 l38 h
                  replace h := hQ34 _ h
                  refine iq_iincv hS 265 J_MSquareRows_solves_d262 (c := 1) (by decide +kernel) l38 (by decide) rfl ?_
                  refine iq_goto hS J_MSquareRows_solves_d265 (t := 2) rfl ?_
                  exact ih _ _ _ hM35 (lk_1r l36 (by decide)) (lk_1i l37 (by decide)) lk_1s (lq_l h)
                obtain ⟨r34, hr34, hq34⟩ := h
                obtain ⟨n34, hn34⟩ := lp_n hr34
                have I34 : ∀ (n : Nat) (x39 : Int32) (M40 : im_M) (L' : List (Nat × Value)), lw_S w M40 → im_lk L' 0 = some (.ref 108) → im_lk L' 1 = some (.int p0) → im_lk L' 2 = some (.int x12) → im_lk L' 5 = some (.int x39) → lpn (uc2 (f_MSquareRows_solves_L171 p0 x12)) n (x39, M40) = some r34 → ia (tb_G L xs) (dep + 2) J_MSquareRows_solves (rwI w Q) (171, L', [], M40) := by
                  intro n
                  induction n with
                  | zero => intro x39 M40 L' hM40 l41 l42 l43 l44 hn; exact (lpn_0 hn).elim
                  | succ n ih =>
                    intro x39 M40 L' hM40 l41 l42 l43 l44 hn
                    have h := lpn_ed2 hn
                    unfold f_MSquareRows_solves_L171 at h
                    refine iq_iload hS 173 J_MSquareRows_solves_d171 l44 rfl ?_
                    refine iq_iload_n hS 174 J_MSquareRows_solves_d173 l42 rfl ?_
                    refine iq_icmp_ge hS 177 J_MSquareRows_solves_d174 (t := 262) rfl (fun q174 => ?_) rfl (fun q174 => ?_)
                    · replace h := ed_pos q174 h
                      exact K34 _ _ hM40 l41 l42 l43 (lq_r h hq34)
                    · replace h := ed_neg q174 h
                      refine iq_aload_n hS 178 J_MSquareRows_solves_d177 l41 rfl ?_
                      refine iq_getR hS 181 J_MSquareRows_solves_d178 lf_16_55 (Or.inr ⟨_, rfl⟩) (ka_108 hM40) (ra_108_23 hM40) rfl ?_
                      refine iq_bipush hS 183 J_MSquareRows_solves_d181 (v := 17) (by decide +kernel) rfl ?_
                      refine iq_iload hS 185 J_MSquareRows_solves_d183 l44 rfl ?_
                      refine iq_imul hS 186 J_MSquareRows_solves_d185 rfl ?_
                      refine iq_iload_n hS 187 J_MSquareRows_solves_d186 l43 rfl ?_
                      refine iq_iadd hS 188 J_MSquareRows_solves_d187 rfl ?_
                      obtain ⟨g188, h⟩ := ed_gd h
                      refine iq_iaload hS 189 J_MSquareRows_solves_d188 ⟨(ka_124 hM40).1, (ka_124 hM40).2, g188.1, ix_lt (kl_124 hM40) g188.2⟩ rfl ?_
                      refine iq_istore hS 191 J_MSquareRows_solves_d189 (by decide) rfl ?_
                      refine iq_iconst hS 192 J_MSquareRows_solves_d191 (v := 0) (by decide +kernel) rfl ?_
                      refine iq_istore hS 194 J_MSquareRows_solves_d192 (by decide) rfl ?_
                      obtain ⟨Q45, hQ45, h⟩ := bd1_ed h
                      have K45 : ∀ (M46 : im_M) (L' : List (Nat × Value)), lw_S w M46 → im_lk L' 0 = some (.ref 108) → im_lk L' 1 = some (.int p0) → im_lk L' 2 = some (.int x12) → im_lk L' 5 = some (.int x39) → Q45 M46 → ia (tb_G L xs) (dep + 2) J_MSquareRows_solves (rwI w Q) (256, L', [], M46) := by
                        intro M46 L' hM46 l47 l48 l49 l50 h
                        replace h := hQ45 _ h
                        refine iq_iincv hS 259 J_MSquareRows_solves_d256 (c := 1) (by decide +kernel) l50 (by decide) rfl ?_
                        refine iq_goto hS J_MSquareRows_solves_d259 (t := 171) rfl ?_
                        exact ih _ _ _ hM46 (lk_1r l47 (by decide)) (lk_1i l48 (by decide)) (lk_1i l49 (by decide)) lk_1s (lq_l h)
                      obtain ⟨r45, hr45, hq45⟩ := h
                      obtain ⟨n45, hn45⟩ := lp_n hr45
                      have I45 : ∀ (n : Nat) (x51 : Int32) (M52 : im_M) (L' : List (Nat × Value)), lw_S w M52 → im_lk L' 0 = some (.ref 108) → im_lk L' 1 = some (.int p0) → im_lk L' 2 = some (.int x12) → im_lk L' 5 = some (.int x39) → im_lk L' 6 = some (.int (im_i M40 124 (Int32.toNatClampNeg (((17 : Int32) * x39) + x12)))) → im_lk L' 7 = some (.int x51) → lpn (uc2 (f_MSquareRows_solves_L194 p0 x12 x39 (im_i M40 124 (Int32.toNatClampNeg (((17 : Int32) * x39) + x12))))) n (x51, M52) = some r45 → ia (tb_G L xs) (dep + 2) J_MSquareRows_solves (rwI w Q) (194, L', [], M52) := by
                        intro n
                        induction n with
                        | zero => intro x51 M52 L' hM52 l53 l54 l55 l56 l57 l58 hn; exact (lpn_0 hn).elim
                        | succ n ih =>
                          intro x51 M52 L' hM52 l53 l54 l55 l56 l57 l58 hn
                          have h := lpn_ed2 hn
                          unfold f_MSquareRows_solves_L194 at h
                          refine iq_iload hS 196 J_MSquareRows_solves_d194 l58 rfl ?_
                          refine iq_iload_n hS 197 J_MSquareRows_solves_d196 l54 rfl ?_
                          refine iq_icmp_gt hS 200 J_MSquareRows_solves_d197 (t := 256) rfl (fun q197 => ?_) rfl (fun q197 => ?_)
                          · replace h := ed_pos q197 h
                            exact K45 _ _ hM52 l53 l54 l55 l56 (lq_r h hq45)
                          · replace h := ed_neg q197 h
                            refine iq_iload hS 202 J_MSquareRows_solves_d200 l56 rfl ?_
                            refine iq_iload_n hS 203 J_MSquareRows_solves_d202 l55 rfl ?_
                            refine iq_icmp_eq hS 206 J_MSquareRows_solves_d203 (t := 256) rfl (fun q203 => ?_) rfl (fun q203 => ?_)
                            · replace h := ed_pos q203 h
                              exact K45 _ _ hM52 l53 l54 l55 l56 (lq_r h hq45)
                            · replace h := ed_neg q203 h
                              refine iq_aload_n hS 207 J_MSquareRows_solves_d206 l53 rfl ?_
                              refine iq_getR hS 210 J_MSquareRows_solves_d207 lf_16_55 (Or.inr ⟨_, rfl⟩) (ka_108 hM52) (ra_108_23 hM52) rfl ?_
                              refine iq_bipush hS 212 J_MSquareRows_solves_d210 (v := 17) (by decide +kernel) rfl ?_
                              refine iq_iload hS 214 J_MSquareRows_solves_d212 l56 rfl ?_
                              refine iq_imul hS 215 J_MSquareRows_solves_d214 rfl ?_
                              refine iq_iload hS 217 J_MSquareRows_solves_d215 l58 rfl ?_
                              refine iq_iadd hS 218 J_MSquareRows_solves_d217 rfl ?_
                              refine iq_aload_n hS 219 J_MSquareRows_solves_d218 l53 rfl ?_
                              refine iq_getR hS 222 J_MSquareRows_solves_d219 lf_16_55 (Or.inr ⟨_, rfl⟩) (ka_108 hM52) (ra_108_23 hM52) rfl ?_
                              refine iq_bipush hS 224 J_MSquareRows_solves_d222 (v := 17) (by decide +kernel) rfl ?_
                              refine iq_iload hS 226 J_MSquareRows_solves_d224 l56 rfl ?_
                              refine iq_imul hS 227 J_MSquareRows_solves_d226 rfl ?_
                              refine iq_iload hS 229 J_MSquareRows_solves_d227 l58 rfl ?_
                              refine iq_iadd hS 230 J_MSquareRows_solves_d229 rfl ?_
                              obtain ⟨g230, h⟩ := ed_gd h
                              refine iq_iaload hS 231 J_MSquareRows_solves_d230 ⟨(ka_124 hM52).1, (ka_124 hM52).2, g230.1, ix_lt (kl_124 hM52) g230.2⟩ rfl ?_
                              refine iq_iload hS 233 J_MSquareRows_solves_d231 l57 rfl ?_
                              refine iq_aload_n hS 234 J_MSquareRows_solves_d233 l53 rfl ?_
                              refine iq_getR hS 237 J_MSquareRows_solves_d234 lf_16_55 (Or.inr ⟨_, rfl⟩) (ka_108 hM52) (ra_108_23 hM52) rfl ?_
                              refine iq_bipush hS 239 J_MSquareRows_solves_d237 (v := 17) (by decide +kernel) rfl ?_
                              refine iq_iload_n hS 240 J_MSquareRows_solves_d239 l55 rfl ?_
                              refine iq_imul hS 241 J_MSquareRows_solves_d240 rfl ?_
                              refine iq_iload hS 243 J_MSquareRows_solves_d241 l58 rfl ?_
                              refine iq_iadd hS 244 J_MSquareRows_solves_d243 rfl ?_
                              obtain ⟨g244, h⟩ := ed_gd h
                              refine iq_iaload hS 245 J_MSquareRows_solves_d244 ⟨(ka_124 hM52).1, (ka_124 hM52).2, g244.1, ix_lt (kl_124 hM52) g244.2⟩ rfl ?_
                              obtain ⟨Q59, hQ59, h⟩ := bd1_ed h
                              refine iq_cpI hS 248 J_MSquareRows_solves_d245 rfl (pr_stat (vs := [_, _]) lc_16_147 lT_405 rfl rfl (by decide) rfl (Nat.le_of_ble_eq_true rfl) (Nat.le_of_ble_eq_true rfl)) (f_MSquareRows_times_ok (dep := dep + 1) hM52 h) rfl ?_
                              intro x59 h
                              replace h := hQ59 _ h
                              refine iq_ixor hS 249 J_MSquareRows_solves_d248 rfl ?_
                              obtain ⟨g249, h⟩ := ed_gd h
                              refine iq_iastore hS 250 J_MSquareRows_solves_d249 ⟨(ka_124 hM52).1, (ka_124 hM52).2, g249.1, ix_lt (kl_124 hM52) g249.2⟩ rfl ?_
                              refine iq_iincv hS 253 J_MSquareRows_solves_d250 (c := 1) (by decide +kernel) l58 (by decide) rfl ?_
                              refine iq_goto hS J_MSquareRows_solves_d253 (t := 194) rfl ?_
                              exact ih _ _ _ hM52 (lk_1r l53 (by decide)) (lk_1i l54 (by decide)) (lk_1i l55 (by decide)) (lk_1i l56 (by decide)) (lk_1i l57 (by decide)) lk_1s (lq_l h)
                      exact I45 n45 _ _ _ hM40 (lk_1r (lk_1r l41 (by decide)) (by decide)) (lk_1i (lk_1i l42 (by decide)) (by decide)) (lk_1i (lk_1i l43 (by decide)) (by decide)) (lk_1i (lk_1i l44 (by decide)) (by decide)) (lk_1i lk_1s (by decide)) lk_1s hn45
                exact I34 n34 _ _ _ hM30 (lk_1r l31 (by decide)) (lk_1i l32 (by decide)) (lk_1i l33 (by decide)) lk_1s hn34
              obtain ⟨r29, hr29, hq29⟩ := h
              obtain ⟨n29, hn29⟩ := lp_n hr29
              have I29 : ∀ (n : Nat) (x60 : Int32) (M61 : im_M) (L' : List (Nat × Value)), lw_S w M61 → im_lk L' 0 = some (.ref 108) → im_lk L' 1 = some (.int p0) → im_lk L' 2 = some (.int x12) → im_lk L' 4 = some (.int x28) → im_lk L' 5 = some (.int x60) → lpn (uc2 (f_MSquareRows_solves_L127 p0 x12 x28)) n (x60, M61) = some r29 → ia (tb_G L xs) (dep + 2) J_MSquareRows_solves (rwI w Q) (127, L', [], M61) := by
                intro n
                induction n with
                | zero => intro x60 M61 L' hM61 l62 l63 l64 l65 l66 hn; exact (lpn_0 hn).elim
                | succ n ih =>
                  intro x60 M61 L' hM61 l62 l63 l64 l65 l66 hn
                  have h := lpn_ed2 hn
                  unfold f_MSquareRows_solves_L127 at h
                  refine iq_iload hS 129 J_MSquareRows_solves_d127 l66 rfl ?_
                  refine iq_iload_n hS 130 J_MSquareRows_solves_d129 l63 rfl ?_
                  refine iq_icmp_gt hS 133 J_MSquareRows_solves_d130 (t := 168) rfl (fun q130 => ?_) rfl (fun q130 => ?_)
                  · replace h := ed_pos q130 h
                    exact K29 _ _ hM61 l62 l63 l64 (lq_r h hq29)
                  · replace h := ed_neg q130 h
                    refine iq_aload_n hS 134 J_MSquareRows_solves_d133 l62 rfl ?_
                    refine iq_getR hS 137 J_MSquareRows_solves_d134 lf_16_55 (Or.inr ⟨_, rfl⟩) (ka_108 hM61) (ra_108_23 hM61) rfl ?_
                    refine iq_bipush hS 139 J_MSquareRows_solves_d137 (v := 17) (by decide +kernel) rfl ?_
                    refine iq_iload_n hS 140 J_MSquareRows_solves_d139 l64 rfl ?_
                    refine iq_imul hS 141 J_MSquareRows_solves_d140 rfl ?_
                    refine iq_iload hS 143 J_MSquareRows_solves_d141 l66 rfl ?_
                    refine iq_iadd hS 144 J_MSquareRows_solves_d143 rfl ?_
                    refine iq_aload_n hS 145 J_MSquareRows_solves_d144 l62 rfl ?_
                    refine iq_getR hS 148 J_MSquareRows_solves_d145 lf_16_55 (Or.inr ⟨_, rfl⟩) (ka_108 hM61) (ra_108_23 hM61) rfl ?_
                    refine iq_bipush hS 150 J_MSquareRows_solves_d148 (v := 17) (by decide +kernel) rfl ?_
                    refine iq_iload_n hS 151 J_MSquareRows_solves_d150 l64 rfl ?_
                    refine iq_imul hS 152 J_MSquareRows_solves_d151 rfl ?_
                    refine iq_iload hS 154 J_MSquareRows_solves_d152 l66 rfl ?_
                    refine iq_iadd hS 155 J_MSquareRows_solves_d154 rfl ?_
                    obtain ⟨g155, h⟩ := ed_gd h
                    refine iq_iaload hS 156 J_MSquareRows_solves_d155 ⟨(ka_124 hM61).1, (ka_124 hM61).2, g155.1, ix_lt (kl_124 hM61) g155.2⟩ rfl ?_
                    refine iq_iload hS 158 J_MSquareRows_solves_d156 l65 rfl ?_
                    obtain ⟨Q67, hQ67, h⟩ := bd1_ed h
                    refine iq_cpI hS 161 J_MSquareRows_solves_d158 rfl (pr_stat (vs := [_, _]) lc_16_147 lT_405 rfl rfl (by decide) rfl (Nat.le_of_ble_eq_true rfl) (Nat.le_of_ble_eq_true rfl)) (f_MSquareRows_times_ok (dep := dep + 1) hM61 h) rfl ?_
                    intro x67 h
                    replace h := hQ67 _ h
                    obtain ⟨g161, h⟩ := ed_gd h
                    refine iq_iastore hS 162 J_MSquareRows_solves_d161 ⟨(ka_124 hM61).1, (ka_124 hM61).2, g161.1, ix_lt (kl_124 hM61) g161.2⟩ rfl ?_
                    refine iq_iincv hS 165 J_MSquareRows_solves_d162 (c := 1) (by decide +kernel) l66 (by decide) rfl ?_
                    refine iq_goto hS J_MSquareRows_solves_d165 (t := 127) rfl ?_
                    exact ih _ _ _ hM61 (lk_1r l62 (by decide)) (lk_1i l63 (by decide)) (lk_1i l64 (by decide)) (lk_1i l65 (by decide)) lk_1s (lq_l h)
              exact I29 n29 _ _ _ hM24 (lk_1r (lk_1r l25 (by decide)) (by decide)) (lk_1i (lk_1i l26 (by decide)) (by decide)) (lk_1i (lk_1i l27 (by decide)) (by decide)) (lk_1i lk_1s (by decide)) lk_1s hn29
            obtain ⟨r23, hr23, hq23⟩ := h
            obtain ⟨n23, hn23⟩ := lp_n hr23
            have I23 : ∀ (n : Nat) (x68 : Int32) (M69 : im_M) (L' : List (Nat × Value)), lw_S w M69 → im_lk L' 0 = some (.ref 108) → im_lk L' 1 = some (.int p0) → im_lk L' 2 = some (.int x12) → im_lk L' 3 = some (.int y18) → im_lk L' 4 = some (.int x68) → lpn (uc2 (f_MSquareRows_solves_L44 p0 x12 y18)) n (x68, M69) = some r23 → ia (tb_G L xs) (dep + 2) J_MSquareRows_solves (rwI w Q) (44, L', [], M69) := by
              intro n
              induction n with
              | zero => intro x68 M69 L' hM69 l70 l71 l72 l73 l74 hn; exact (lpn_0 hn).elim
              | succ n ih =>
                intro x68 M69 L' hM69 l70 l71 l72 l73 l74 hn
                have h := lpn_ed2 hn
                unfold f_MSquareRows_solves_L44 at h
                refine iq_iload hS 46 J_MSquareRows_solves_d44 l74 rfl ?_
                refine iq_iload_n hS 47 J_MSquareRows_solves_d46 l71 rfl ?_
                refine iq_icmp_gt hS 50 J_MSquareRows_solves_d47 (t := 108) rfl (fun q47 => ?_) rfl (fun q47 => ?_)
                · replace h := ed_pos q47 h
                  exact K23 _ _ hM69 l70 l71 l72 (lq_r h hq23)
                · replace h := ed_neg q47 h
                  refine iq_aload_n hS 51 J_MSquareRows_solves_d50 l70 rfl ?_
                  refine iq_getR hS 54 J_MSquareRows_solves_d51 lf_16_55 (Or.inr ⟨_, rfl⟩) (ka_108 hM69) (ra_108_23 hM69) rfl ?_
                  refine iq_bipush hS 56 J_MSquareRows_solves_d54 (v := 17) (by decide +kernel) rfl ?_
                  refine iq_iload_n hS 57 J_MSquareRows_solves_d56 l73 rfl ?_
                  refine iq_imul hS 58 J_MSquareRows_solves_d57 rfl ?_
                  refine iq_iload hS 60 J_MSquareRows_solves_d58 l74 rfl ?_
                  refine iq_iadd hS 61 J_MSquareRows_solves_d60 rfl ?_
                  obtain ⟨g61, h⟩ := ed_gd h
                  refine iq_iaload hS 62 J_MSquareRows_solves_d61 ⟨(ka_124 hM69).1, (ka_124 hM69).2, g61.1, ix_lt (kl_124 hM69) g61.2⟩ rfl ?_
                  refine iq_istore hS 64 J_MSquareRows_solves_d62 (by decide) rfl ?_
                  refine iq_aload_n hS 65 J_MSquareRows_solves_d64 (lk_1r l70 (by decide)) rfl ?_
                  refine iq_getR hS 68 J_MSquareRows_solves_d65 lf_16_55 (Or.inr ⟨_, rfl⟩) (ka_108 hM69) (ra_108_23 hM69) rfl ?_
                  refine iq_bipush hS 70 J_MSquareRows_solves_d68 (v := 17) (by decide +kernel) rfl ?_
                  refine iq_iload_n hS 71 J_MSquareRows_solves_d70 (lk_1i l73 (by decide)) rfl ?_
                  refine iq_imul hS 72 J_MSquareRows_solves_d71 rfl ?_
                  refine iq_iload hS 74 J_MSquareRows_solves_d72 (lk_1i l74 (by decide)) rfl ?_
                  refine iq_iadd hS 75 J_MSquareRows_solves_d74 rfl ?_
                  refine iq_aload_n hS 76 J_MSquareRows_solves_d75 (lk_1r l70 (by decide)) rfl ?_
                  refine iq_getR hS 79 J_MSquareRows_solves_d76 lf_16_55 (Or.inr ⟨_, rfl⟩) (ka_108 hM69) (ra_108_23 hM69) rfl ?_
                  refine iq_bipush hS 81 J_MSquareRows_solves_d79 (v := 17) (by decide +kernel) rfl ?_
                  refine iq_iload_n hS 82 J_MSquareRows_solves_d81 (lk_1i l72 (by decide)) rfl ?_
                  refine iq_imul hS 83 J_MSquareRows_solves_d82 rfl ?_
                  refine iq_iload hS 85 J_MSquareRows_solves_d83 (lk_1i l74 (by decide)) rfl ?_
                  refine iq_iadd hS 86 J_MSquareRows_solves_d85 rfl ?_
                  obtain ⟨g86, h⟩ := ed_gd h
                  refine iq_iaload hS 87 J_MSquareRows_solves_d86 ⟨(ka_124 hM69).1, (ka_124 hM69).2, g86.1, ix_lt (kl_124 hM69) g86.2⟩ rfl ?_
                  obtain ⟨g87, h⟩ := ed_gd h
                  refine iq_iastore hS 88 J_MSquareRows_solves_d87 ⟨(ka_124 hM69).1, (ka_124 hM69).2, g87.1, ix_lt (kl_124 hM69) g87.2⟩ rfl ?_
                  refine iq_aload_n hS 89 J_MSquareRows_solves_d88 (lk_1r l70 (by decide)) rfl ?_
                  refine iq_getR hS 92 J_MSquareRows_solves_d89 lf_16_55 (Or.inr ⟨_, rfl⟩) (ka_108 hM69) (ra_108_23 hM69) rfl ?_
                  refine iq_bipush hS 94 J_MSquareRows_solves_d92 (v := 17) (by decide +kernel) rfl ?_
                  refine iq_iload_n hS 95 J_MSquareRows_solves_d94 (lk_1i l72 (by decide)) rfl ?_
                  refine iq_imul hS 96 J_MSquareRows_solves_d95 rfl ?_
                  refine iq_iload hS 98 J_MSquareRows_solves_d96 (lk_1i l74 (by decide)) rfl ?_
                  refine iq_iadd hS 99 J_MSquareRows_solves_d98 rfl ?_
                  refine iq_iload hS 101 J_MSquareRows_solves_d99 lk_1s rfl ?_
                  obtain ⟨g101, h⟩ := ed_gd h
                  refine iq_iastore hS 102 J_MSquareRows_solves_d101 ⟨(ka_124 hM69).1, (ka_124 hM69).2, g101.1, ix_lt (kl_124 hM69) g101.2⟩ rfl ?_
                  refine iq_iincv hS 105 J_MSquareRows_solves_d102 (c := 1) (by decide +kernel) (lk_1i l74 (by decide)) (by decide) rfl ?_
                  refine iq_goto hS J_MSquareRows_solves_d105 (t := 44) rfl ?_
                  exact ih _ _ _ hM69 (lk_1r (lk_1r l70 (by decide)) (by decide)) (lk_1i (lk_1i l71 (by decide)) (by decide)) (lk_1i (lk_1i l72 (by decide)) (by decide)) (lk_1i (lk_1i l73 (by decide)) (by decide)) lk_1s (lq_l h)
            exact I23 n23 _ _ _ hM13 (lk_1r l19 (by decide)) (lk_1i l20 (by decide)) (lk_1i l21 (by decide)) (lk_1i l22 (by decide)) lk_1s hn23
          · replace h := ed_neg q36 h
            refine iq_iconst hS 40 J_MSquareRows_solves_d39 (v := 0) (by decide +kernel) rfl ?_
            exact iq_iret J_MSquareRows_solves_d40 rfl rfl ⟨_, rfl, hM13, ed_some (hR1 _ (lq_r h hq1))⟩
        obtain ⟨r17, hr17, hq17⟩ := h
        obtain ⟨n17, hn17⟩ := lp_n hr17
        have I17 : ∀ (n : Nat) (x75 : Int32) (L' : List (Nat × Value)), im_lk L' 0 = some (.ref 108) → im_lk L' 1 = some (.int p0) → im_lk L' 2 = some (.int x12) → im_lk L' 3 = some (.int x75) → lpn (uc1 (f_MSquareRows_solves_L9 p0 x12 M13)) n x75 = some r17 → ia (tb_G L xs) (dep + 2) J_MSquareRows_solves (rwI w Q) (9, L', [], M13) := by
          intro n
          induction n with
          | zero => intro x75 L' l76 l77 l78 l79 hn; exact (lpn_0 hn).elim
          | succ n ih =>
            intro x75 L' l76 l77 l78 l79 hn
            have h := lpn_ed1 hn
            unfold f_MSquareRows_solves_L9 at h
            refine iq_iload_n hS 10 J_MSquareRows_solves_d9 l79 rfl ?_
            refine iq_iload_n hS 11 J_MSquareRows_solves_d10 l77 rfl ?_
            refine iq_icmp_ge hS 14 J_MSquareRows_solves_d11 (t := 34) rfl (fun q11 => ?_) rfl (fun q11 => ?_)
            · replace h := ed_pos q11 h
              exact K17 _ _ l76 l77 l78 l79 (lq_r h hq17)
            · replace h := ed_neg q11 h
              refine iq_aload_n hS 15 J_MSquareRows_solves_d14 l76 rfl ?_
              refine iq_getR hS 18 J_MSquareRows_solves_d15 lf_16_55 (Or.inr ⟨_, rfl⟩) (ka_108 hM13) (ra_108_23 hM13) rfl ?_
              refine iq_bipush hS 20 J_MSquareRows_solves_d18 (v := 17) (by decide +kernel) rfl ?_
              refine iq_iload_n hS 21 J_MSquareRows_solves_d20 l79 rfl ?_
              refine iq_imul hS 22 J_MSquareRows_solves_d21 rfl ?_
              refine iq_iload_n hS 23 J_MSquareRows_solves_d22 l78 rfl ?_
              refine iq_iadd hS 24 J_MSquareRows_solves_d23 rfl ?_
              obtain ⟨g24, h⟩ := ed_gd h
              refine iq_iaload hS 25 J_MSquareRows_solves_d24 ⟨(ka_124 hM13).1, (ka_124 hM13).2, g24.1, ix_lt (kl_124 hM13) g24.2⟩ rfl ?_
              refine iq_if_ne hS 28 J_MSquareRows_solves_d25 (t := 34) rfl (fun q25 => ?_) rfl (fun q25 => ?_)
              · replace h := ed_pos q25 h
                exact K17 _ _ l76 l77 l78 l79 (lq_r h hq17)
              · replace h := ed_neg q25 h
                refine iq_iincv hS 31 J_MSquareRows_solves_d28 (c := 1) (by decide +kernel) l79 (by decide) rfl ?_
                refine iq_goto hS J_MSquareRows_solves_d31 (t := 9) rfl ?_
                exact ih _ _ (lk_1r l76 (by decide)) (lk_1i l77 (by decide)) (lk_1i l78 (by decide)) lk_1s (lq_l h)
        exact I17 n17 _ _ (lk_1r l14 (by decide)) (lk_1i l15 (by decide)) (lk_1i l16 (by decide)) lk_1s hn17
  exact I1 n1 _ _ _ hM (lk_1r l0 (by decide)) (lk_1i l1 (by decide)) lk_1s hn1
noncomputable def f_MSquareRows_finds_L10 (v7 : Int32) (v8 : Int32) (v9 : Int32) (x10 : Int32) (M11 : im_M) : Option ((Int32 × im_M) ⊕ (im_M)) := if v7 ≤ x10 then some (.inr M11) else gd (inb (((v7 + v9) - 1) - x10) 32) <| gd (inb (((17 : Int32) * v9) + x10) 272) <| some (.inl ((x10 + 1), (im_setI M11 124 (Int32.toNatClampNeg (((17 : Int32) * v9) + x10)) (im_i M11 123 (Int32.toNatClampNeg (((v7 + v9) - 1) - x10))))))
noncomputable def f_MSquareRows_finds_L2 (v2 : Int32) (v3 : Int32) (x4 : Int32) (M5 : im_M) : Option ((Int32 × im_M) ⊕ (im_M)) := if v2 ≤ x4 then some (.inr M5) else bd1 (lp (uc2 (f_MSquareRows_finds_L10 v2 v3 x4)) (0, M5)) fun (M12 : im_M) => gd (inb (v2 + x4) 32) <| gd (inb (((17 : Int32) * x4) + v2) 272) <| some (.inl ((x4 + 1), (im_setI M12 124 (Int32.toNatClampNeg (((17 : Int32) * x4) + v2)) (im_i M12 123 (Int32.toNatClampNeg (v2 + x4))))))
noncomputable def f_MSquareRows_finds_L112 (v23 : Int32) (v24 : Int32) (v25 : Int32) (v26 : Int32) (v27 : Int32) (M30 : im_M) (x28 : Int32) (x29 : Int32) : Option ((Int32 × Int32) ⊕ (Int32)) := if x29 < 0 then some (.inr x28) else gd (inb x29 16) <| bd1 (f_MSquareRows_times (x28 ^^^ (im_i M30 125 (Int32.toNatClampNeg x29))) v27 M30) fun (x31 : Int32) => some (.inl (x31, (x29 + (-1))))
noncomputable def f_MSquareRows_finds_L87 (v16 : Int32) (v17 : Int32) (x18 : Int32) (x19 : Int32) (M20 : im_M) : Option ((Int32 × Int32 × im_M) ⊕ ((Int32 × im_M) ⊕ (Int32 × im_M))) := if v17 ≤ x19 then some (.inr (.inl (x18, M20))) else bd1 (f_MSquareRows_two ((x19 + 1) - v17) M20) fun (x21 : Int32) => bd1 (lp (uc2 (f_MSquareRows_finds_L112 v16 v17 x18 x19 x21 M20)) (0, (v16 - 1))) fun (y32 : Int32) => jn2 (fun (y34 : Int32) (M35 : im_M) => some (.inl (y34, (x19 + 1), M35))) fun k33 => if ¬ y32 = 1 then k33 x18 M20 else if ¬ x18 = v16 then gd (inb x18 16) <| k33 (x18 + 1) (im_setI M20 126 (Int32.toNatClampNeg x18) x19) else some (.inr (.inr (0, M20)))
noncomputable def f_MSquareRows_finds (p0 : Int32) (p1 : Int32) (M : im_M) : Option (Int32 × im_M) := bd1 (lp (uc2 (f_MSquareRows_finds_L2 p0 p1)) (0, M)) fun (M13 : im_M) => bd2 (f_MSquareRows_solves p0 M13) fun (x14 : Int32) (M14 : im_M) => if ¬ x14 = 0 then bs2 (lp (uc3 (f_MSquareRows_finds_L87 p0 p1)) (0, 0, M14)) (fun (y41 : Int32) (M42 : im_M) => if ¬ y41 = p0 then some (0, M42) else some (1, M42)) (fun t => some t) else some (0, M14)
theorem J_MSquareRows_finds_d0 : decode J_MSquareRows_finds.2.1 0 = .ok (.iconst 0, 1) := by decide +kernel
theorem J_MSquareRows_finds_d1 : decode J_MSquareRows_finds.2.1 1 = .ok (.istore_n 3, 1) := by decide +kernel
theorem J_MSquareRows_finds_d2 : decode J_MSquareRows_finds.2.1 2 = .ok (.iload_n 3, 1) := by decide +kernel
theorem J_MSquareRows_finds_d3 : decode J_MSquareRows_finds.2.1 3 = .ok (.iload_n 1, 1) := by decide +kernel
theorem J_MSquareRows_finds_d4 : decode J_MSquareRows_finds.2.1 4 = .ok (.if_icmp .ge 68, 3) := by decide +kernel
theorem J_MSquareRows_finds_d7 : decode J_MSquareRows_finds.2.1 7 = .ok (.iconst 0, 1) := by decide +kernel
theorem J_MSquareRows_finds_d8 : decode J_MSquareRows_finds.2.1 8 = .ok (.istore 4, 2) := by decide +kernel
theorem J_MSquareRows_finds_d10 : decode J_MSquareRows_finds.2.1 10 = .ok (.iload 4, 2) := by decide +kernel
theorem J_MSquareRows_finds_d12 : decode J_MSquareRows_finds.2.1 12 = .ok (.iload_n 1, 1) := by decide +kernel
theorem J_MSquareRows_finds_d13 : decode J_MSquareRows_finds.2.1 13 = .ok (.if_icmp .ge 34, 3) := by decide +kernel
theorem J_MSquareRows_finds_d16 : decode J_MSquareRows_finds.2.1 16 = .ok (.aload_n 0, 1) := by decide +kernel
theorem J_MSquareRows_finds_d17 : decode J_MSquareRows_finds.2.1 17 = .ok (.getfield 55, 3) := by decide +kernel
theorem J_MSquareRows_finds_d20 : decode J_MSquareRows_finds.2.1 20 = .ok (.bipush 17, 2) := by decide +kernel
theorem J_MSquareRows_finds_d22 : decode J_MSquareRows_finds.2.1 22 = .ok (.iload_n 3, 1) := by decide +kernel
theorem J_MSquareRows_finds_d23 : decode J_MSquareRows_finds.2.1 23 = .ok (.imul, 1) := by decide +kernel
theorem J_MSquareRows_finds_d24 : decode J_MSquareRows_finds.2.1 24 = .ok (.iload 4, 2) := by decide +kernel
theorem J_MSquareRows_finds_d26 : decode J_MSquareRows_finds.2.1 26 = .ok (.iadd, 1) := by decide +kernel
theorem J_MSquareRows_finds_d27 : decode J_MSquareRows_finds.2.1 27 = .ok (.aload_n 0, 1) := by decide +kernel
theorem J_MSquareRows_finds_d28 : decode J_MSquareRows_finds.2.1 28 = .ok (.getfield 52, 3) := by decide +kernel
theorem J_MSquareRows_finds_d31 : decode J_MSquareRows_finds.2.1 31 = .ok (.iload_n 1, 1) := by decide +kernel
theorem J_MSquareRows_finds_d32 : decode J_MSquareRows_finds.2.1 32 = .ok (.iload_n 3, 1) := by decide +kernel
theorem J_MSquareRows_finds_d33 : decode J_MSquareRows_finds.2.1 33 = .ok (.iadd, 1) := by decide +kernel
theorem J_MSquareRows_finds_d34 : decode J_MSquareRows_finds.2.1 34 = .ok (.iconst 1, 1) := by decide +kernel
theorem J_MSquareRows_finds_d35 : decode J_MSquareRows_finds.2.1 35 = .ok (.isub, 1) := by decide +kernel
theorem J_MSquareRows_finds_d36 : decode J_MSquareRows_finds.2.1 36 = .ok (.iload 4, 2) := by decide +kernel
theorem J_MSquareRows_finds_d38 : decode J_MSquareRows_finds.2.1 38 = .ok (.isub, 1) := by decide +kernel
theorem J_MSquareRows_finds_d39 : decode J_MSquareRows_finds.2.1 39 = .ok (.iaload, 1) := by decide +kernel
theorem J_MSquareRows_finds_d40 : decode J_MSquareRows_finds.2.1 40 = .ok (.iastore, 1) := by decide +kernel
theorem J_MSquareRows_finds_d41 : decode J_MSquareRows_finds.2.1 41 = .ok (.iinc 4 1, 3) := by decide +kernel
theorem J_MSquareRows_finds_d44 : decode J_MSquareRows_finds.2.1 44 = .ok (.goto (-34), 3) := by decide +kernel
theorem J_MSquareRows_finds_d47 : decode J_MSquareRows_finds.2.1 47 = .ok (.aload_n 0, 1) := by decide +kernel
theorem J_MSquareRows_finds_d48 : decode J_MSquareRows_finds.2.1 48 = .ok (.getfield 55, 3) := by decide +kernel
theorem J_MSquareRows_finds_d51 : decode J_MSquareRows_finds.2.1 51 = .ok (.bipush 17, 2) := by decide +kernel
theorem J_MSquareRows_finds_d53 : decode J_MSquareRows_finds.2.1 53 = .ok (.iload_n 3, 1) := by decide +kernel
theorem J_MSquareRows_finds_d54 : decode J_MSquareRows_finds.2.1 54 = .ok (.imul, 1) := by decide +kernel
theorem J_MSquareRows_finds_d55 : decode J_MSquareRows_finds.2.1 55 = .ok (.iload_n 1, 1) := by decide +kernel
theorem J_MSquareRows_finds_d56 : decode J_MSquareRows_finds.2.1 56 = .ok (.iadd, 1) := by decide +kernel
theorem J_MSquareRows_finds_d57 : decode J_MSquareRows_finds.2.1 57 = .ok (.aload_n 0, 1) := by decide +kernel
theorem J_MSquareRows_finds_d58 : decode J_MSquareRows_finds.2.1 58 = .ok (.getfield 52, 3) := by decide +kernel
theorem J_MSquareRows_finds_d61 : decode J_MSquareRows_finds.2.1 61 = .ok (.iload_n 1, 1) := by decide +kernel
theorem J_MSquareRows_finds_d62 : decode J_MSquareRows_finds.2.1 62 = .ok (.iload_n 3, 1) := by decide +kernel
theorem J_MSquareRows_finds_d63 : decode J_MSquareRows_finds.2.1 63 = .ok (.iadd, 1) := by decide +kernel
theorem J_MSquareRows_finds_d64 : decode J_MSquareRows_finds.2.1 64 = .ok (.iaload, 1) := by decide +kernel
theorem J_MSquareRows_finds_d65 : decode J_MSquareRows_finds.2.1 65 = .ok (.iastore, 1) := by decide +kernel
theorem J_MSquareRows_finds_d66 : decode J_MSquareRows_finds.2.1 66 = .ok (.iinc 3 1, 3) := by decide +kernel
theorem J_MSquareRows_finds_d69 : decode J_MSquareRows_finds.2.1 69 = .ok (.goto (-67), 3) := by decide +kernel
theorem J_MSquareRows_finds_d72 : decode J_MSquareRows_finds.2.1 72 = .ok (.aload_n 0, 1) := by decide +kernel
theorem J_MSquareRows_finds_d73 : decode J_MSquareRows_finds.2.1 73 = .ok (.iload_n 1, 1) := by decide +kernel
theorem J_MSquareRows_finds_d74 : decode J_MSquareRows_finds.2.1 74 = .ok (.invokevirtual 253, 3) := by decide +kernel
theorem J_MSquareRows_finds_d77 : decode J_MSquareRows_finds.2.1 77 = .ok (.ifCond .ne 5, 3) := by decide +kernel
theorem J_MSquareRows_finds_d80 : decode J_MSquareRows_finds.2.1 80 = .ok (.iconst 0, 1) := by decide +kernel
theorem J_MSquareRows_finds_d81 : decode J_MSquareRows_finds.2.1 81 = .ok (.ireturn, 1) := by decide +kernel
theorem J_MSquareRows_finds_d82 : decode J_MSquareRows_finds.2.1 82 = .ok (.iconst 0, 1) := by decide +kernel
theorem J_MSquareRows_finds_d83 : decode J_MSquareRows_finds.2.1 83 = .ok (.istore_n 3, 1) := by decide +kernel
theorem J_MSquareRows_finds_d84 : decode J_MSquareRows_finds.2.1 84 = .ok (.iconst 0, 1) := by decide +kernel
theorem J_MSquareRows_finds_d85 : decode J_MSquareRows_finds.2.1 85 = .ok (.istore 4, 2) := by decide +kernel
theorem J_MSquareRows_finds_d87 : decode J_MSquareRows_finds.2.1 87 = .ok (.iload 4, 2) := by decide +kernel
theorem J_MSquareRows_finds_d89 : decode J_MSquareRows_finds.2.1 89 = .ok (.iload_n 2, 1) := by decide +kernel
theorem J_MSquareRows_finds_d90 : decode J_MSquareRows_finds.2.1 90 = .ok (.if_icmp .ge 80, 3) := by decide +kernel
theorem J_MSquareRows_finds_d93 : decode J_MSquareRows_finds.2.1 93 = .ok (.iload 4, 2) := by decide +kernel
theorem J_MSquareRows_finds_d95 : decode J_MSquareRows_finds.2.1 95 = .ok (.iconst 1, 1) := by decide +kernel
theorem J_MSquareRows_finds_d96 : decode J_MSquareRows_finds.2.1 96 = .ok (.iadd, 1) := by decide +kernel
theorem J_MSquareRows_finds_d97 : decode J_MSquareRows_finds.2.1 97 = .ok (.iload_n 2, 1) := by decide +kernel
theorem J_MSquareRows_finds_d98 : decode J_MSquareRows_finds.2.1 98 = .ok (.isub, 1) := by decide +kernel
theorem J_MSquareRows_finds_d99 : decode J_MSquareRows_finds.2.1 99 = .ok (.invokestatic 144, 3) := by decide +kernel
theorem J_MSquareRows_finds_d102 : decode J_MSquareRows_finds.2.1 102 = .ok (.istore 5, 2) := by decide +kernel
theorem J_MSquareRows_finds_d104 : decode J_MSquareRows_finds.2.1 104 = .ok (.iconst 0, 1) := by decide +kernel
theorem J_MSquareRows_finds_d105 : decode J_MSquareRows_finds.2.1 105 = .ok (.istore 6, 2) := by decide +kernel
theorem J_MSquareRows_finds_d107 : decode J_MSquareRows_finds.2.1 107 = .ok (.iload_n 1, 1) := by decide +kernel
theorem J_MSquareRows_finds_d108 : decode J_MSquareRows_finds.2.1 108 = .ok (.iconst 1, 1) := by decide +kernel
theorem J_MSquareRows_finds_d109 : decode J_MSquareRows_finds.2.1 109 = .ok (.isub, 1) := by decide +kernel
theorem J_MSquareRows_finds_d110 : decode J_MSquareRows_finds.2.1 110 = .ok (.istore 7, 2) := by decide +kernel
theorem J_MSquareRows_finds_d112 : decode J_MSquareRows_finds.2.1 112 = .ok (.iload 7, 2) := by decide +kernel
theorem J_MSquareRows_finds_d114 : decode J_MSquareRows_finds.2.1 114 = .ok (.ifCond .lt 26, 3) := by decide +kernel
theorem J_MSquareRows_finds_d117 : decode J_MSquareRows_finds.2.1 117 = .ok (.iload 6, 2) := by decide +kernel
theorem J_MSquareRows_finds_d119 : decode J_MSquareRows_finds.2.1 119 = .ok (.aload_n 0, 1) := by decide +kernel
theorem J_MSquareRows_finds_d120 : decode J_MSquareRows_finds.2.1 120 = .ok (.getfield 58, 3) := by decide +kernel
theorem J_MSquareRows_finds_d123 : decode J_MSquareRows_finds.2.1 123 = .ok (.iload 7, 2) := by decide +kernel
theorem J_MSquareRows_finds_d125 : decode J_MSquareRows_finds.2.1 125 = .ok (.iaload, 1) := by decide +kernel
theorem J_MSquareRows_finds_d126 : decode J_MSquareRows_finds.2.1 126 = .ok (.ixor, 1) := by decide +kernel
theorem J_MSquareRows_finds_d127 : decode J_MSquareRows_finds.2.1 127 = .ok (.iload 5, 2) := by decide +kernel
theorem J_MSquareRows_finds_d129 : decode J_MSquareRows_finds.2.1 129 = .ok (.invokestatic 147, 3) := by decide +kernel
theorem J_MSquareRows_finds_d132 : decode J_MSquareRows_finds.2.1 132 = .ok (.istore 6, 2) := by decide +kernel
theorem J_MSquareRows_finds_d134 : decode J_MSquareRows_finds.2.1 134 = .ok (.iinc 7 (-1), 3) := by decide +kernel
theorem J_MSquareRows_finds_d137 : decode J_MSquareRows_finds.2.1 137 = .ok (.goto (-25), 3) := by decide +kernel
theorem J_MSquareRows_finds_d140 : decode J_MSquareRows_finds.2.1 140 = .ok (.iload 6, 2) := by decide +kernel
theorem J_MSquareRows_finds_d142 : decode J_MSquareRows_finds.2.1 142 = .ok (.iconst 1, 1) := by decide +kernel
theorem J_MSquareRows_finds_d143 : decode J_MSquareRows_finds.2.1 143 = .ok (.if_icmp .ne 21, 3) := by decide +kernel
theorem J_MSquareRows_finds_d146 : decode J_MSquareRows_finds.2.1 146 = .ok (.iload_n 3, 1) := by decide +kernel
theorem J_MSquareRows_finds_d147 : decode J_MSquareRows_finds.2.1 147 = .ok (.iload_n 1, 1) := by decide +kernel
theorem J_MSquareRows_finds_d148 : decode J_MSquareRows_finds.2.1 148 = .ok (.if_icmp .ne 5, 3) := by decide +kernel
theorem J_MSquareRows_finds_d151 : decode J_MSquareRows_finds.2.1 151 = .ok (.iconst 0, 1) := by decide +kernel
theorem J_MSquareRows_finds_d152 : decode J_MSquareRows_finds.2.1 152 = .ok (.ireturn, 1) := by decide +kernel
theorem J_MSquareRows_finds_d153 : decode J_MSquareRows_finds.2.1 153 = .ok (.aload_n 0, 1) := by decide +kernel
theorem J_MSquareRows_finds_d154 : decode J_MSquareRows_finds.2.1 154 = .ok (.getfield 61, 3) := by decide +kernel
theorem J_MSquareRows_finds_d157 : decode J_MSquareRows_finds.2.1 157 = .ok (.iload_n 3, 1) := by decide +kernel
theorem J_MSquareRows_finds_d158 : decode J_MSquareRows_finds.2.1 158 = .ok (.iload 4, 2) := by decide +kernel
theorem J_MSquareRows_finds_d160 : decode J_MSquareRows_finds.2.1 160 = .ok (.iastore, 1) := by decide +kernel
theorem J_MSquareRows_finds_d161 : decode J_MSquareRows_finds.2.1 161 = .ok (.iinc 3 1, 3) := by decide +kernel
theorem J_MSquareRows_finds_d164 : decode J_MSquareRows_finds.2.1 164 = .ok (.iinc 4 1, 3) := by decide +kernel
theorem J_MSquareRows_finds_d167 : decode J_MSquareRows_finds.2.1 167 = .ok (.goto (-80), 3) := by decide +kernel
theorem J_MSquareRows_finds_d170 : decode J_MSquareRows_finds.2.1 170 = .ok (.iload_n 3, 1) := by decide +kernel
theorem J_MSquareRows_finds_d171 : decode J_MSquareRows_finds.2.1 171 = .ok (.iload_n 1, 1) := by decide +kernel
theorem J_MSquareRows_finds_d172 : decode J_MSquareRows_finds.2.1 172 = .ok (.if_icmp .ne 7, 3) := by decide +kernel
theorem J_MSquareRows_finds_d175 : decode J_MSquareRows_finds.2.1 175 = .ok (.iconst 1, 1) := by decide +kernel
theorem J_MSquareRows_finds_d176 : decode J_MSquareRows_finds.2.1 176 = .ok (.goto 4, 3) := by decide +kernel
theorem J_MSquareRows_finds_d179 : decode J_MSquareRows_finds.2.1 179 = .ok (.iconst 0, 1) := by decide +kernel
theorem J_MSquareRows_finds_d180 : decode J_MSquareRows_finds.2.1 180 = .ok (.ireturn, 1) := by decide +kernel
theorem f_MSquareRows_finds_ok {L : Nat} {xs : Nat → Int32} {dep : Nat} {w : Bool} {p0 : Int32} {p1 : Int32} {M : im_M} {Q : Int32 × im_M → Prop} (hM : lw_S w M) (h : ed (f_MSquareRows_finds p0 p1 M) Q) : ia (tb_G L xs) (dep + 3) J_MSquareRows_finds (rwI w Q) (0, lv_args 0 [.ref 108, .int p0, .int p1], [], M) := by
  have hS : im_St (tb_G L xs) (dep + 3) J_MSquareRows_finds (ia (tb_G L xs) (dep + 3) J_MSquareRows_finds (rwI w Q)) := ia_St
  unfold f_MSquareRows_finds at h
  have l0 : im_lk (lv_args 0 [.ref 108, .int p0, .int p1]) 0 = some (.ref 108) := rfl
  have l1 : im_lk (lv_args 0 [.ref 108, .int p0, .int p1]) 1 = some (.int p0) := rfl
  have l2 : im_lk (lv_args 0 [.ref 108, .int p0, .int p1]) 2 = some (.int p1) := rfl
  refine iq_iconst hS 1 J_MSquareRows_finds_d0 (v := 0) (by decide +kernel) rfl ?_
  refine iq_istore_n hS 2 J_MSquareRows_finds_d1 (by decide) rfl ?_
  obtain ⟨Q1, hQ1, h⟩ := bd1_ed h
  have K1 : ∀ (M2 : im_M) (L' : List (Nat × Value)), lw_S w M2 → im_lk L' 0 = some (.ref 108) → im_lk L' 1 = some (.int p0) → im_lk L' 2 = some (.int p1) → Q1 M2 → ia (tb_G L xs) (dep + 3) J_MSquareRows_finds (rwI w Q) (72, L', [], M2) := by
    intro M2 L' hM2 l3 l4 l5 h
    replace h := hQ1 _ h
    refine iq_aload_n hS 73 J_MSquareRows_finds_d72 l3 rfl ?_
    refine iq_iload_n hS 74 J_MSquareRows_finds_d73 l4 rfl ?_
    obtain ⟨Q6, hQ6, h⟩ := bd2_ed h
    refine iq_cwI hS 77 J_MSquareRows_finds_d74 rfl (pr_inst (vs := [_]) lc_16_253 lT_491 rfl rfl (by decide) (by decide) rfl (Nat.le_of_ble_eq_true rfl) (Nat.le_of_ble_eq_true rfl) (fun _ => Or.inl (pr_b (ka_108 hM2) (by decide) rfl))) (f_MSquareRows_solves_ok (dep := dep + 0) hM2 h) rfl ?_
    intro x6 M6 hM6 h
    replace h := hQ6 _ _ h
    refine iq_if_ne hS 80 J_MSquareRows_finds_d77 (t := 82) rfl (fun q77 => ?_) rfl (fun q77 => ?_)
    · replace h := ed_pos q77 h
      refine iq_iconst hS 83 J_MSquareRows_finds_d82 (v := 0) (by decide +kernel) rfl ?_
      refine iq_istore_n hS 84 J_MSquareRows_finds_d83 (by decide) rfl ?_
      refine iq_iconst hS 85 J_MSquareRows_finds_d84 (v := 0) (by decide +kernel) rfl ?_
      refine iq_istore hS 87 J_MSquareRows_finds_d85 (by decide) rfl ?_
      obtain ⟨Q7, hQ7, hR7, h⟩ := bs2_ed h
      have K7 : ∀ (y8 : Int32) (M9 : im_M) (L' : List (Nat × Value)), lw_S w M9 → im_lk L' 1 = some (.int p0) → im_lk L' 3 = some (.int y8) → Q7 (.inl (y8, M9)) → ia (tb_G L xs) (dep + 3) J_MSquareRows_finds (rwI w Q) (170, L', [], M9) := by
        intro y8 M9 L' hM9 l10 l11 h
        replace h := hQ7 _ _ h
        refine iq_iload_n hS 171 J_MSquareRows_finds_d170 l11 rfl ?_
        refine iq_iload_n hS 172 J_MSquareRows_finds_d171 l10 rfl ?_
        refine iq_icmp_ne hS 175 J_MSquareRows_finds_d172 (t := 179) rfl (fun q172 => ?_) rfl (fun q172 => ?_)
        · replace h := ed_pos q172 h
          refine iq_iconst hS 180 J_MSquareRows_finds_d179 (v := 0) (by decide +kernel) rfl ?_
          exact iq_iret J_MSquareRows_finds_d180 rfl rfl ⟨_, rfl, hM9, ed_some h⟩
        · replace h := ed_neg q172 h
          refine iq_iconst hS 176 J_MSquareRows_finds_d175 (v := 1) (by decide +kernel) rfl ?_
          refine iq_goto hS J_MSquareRows_finds_d176 (t := 180) rfl ?_
          exact iq_iret J_MSquareRows_finds_d180 rfl rfl ⟨_, rfl, hM9, ed_some h⟩
      obtain ⟨r7, hr7, hq7⟩ := h
      obtain ⟨n7, hn7⟩ := lp_n hr7
      have I7 : ∀ (n : Nat) (x12 : Int32) (x13 : Int32) (M14 : im_M) (L' : List (Nat × Value)), lw_S w M14 → im_lk L' 0 = some (.ref 108) → im_lk L' 1 = some (.int p0) → im_lk L' 2 = some (.int p1) → im_lk L' 3 = some (.int x12) → im_lk L' 4 = some (.int x13) → lpn (uc3 (f_MSquareRows_finds_L87 p0 p1)) n (x12, x13, M14) = some r7 → ia (tb_G L xs) (dep + 3) J_MSquareRows_finds (rwI w Q) (87, L', [], M14) := by
        intro n
        induction n with
        | zero => intro x12 x13 M14 L' hM14 l15 l16 l17 l18 l19 hn; exact (lpn_0 hn).elim
        | succ n ih =>
          intro x12 x13 M14 L' hM14 l15 l16 l17 l18 l19 hn
          have h := lpn_ed3 hn
          unfold f_MSquareRows_finds_L87 at h
          refine iq_iload hS 89 J_MSquareRows_finds_d87 l19 rfl ?_
          refine iq_iload_n hS 90 J_MSquareRows_finds_d89 l17 rfl ?_
          refine iq_icmp_ge hS 93 J_MSquareRows_finds_d90 (t := 170) rfl (fun q90 => ?_) rfl (fun q90 => ?_)
          · replace h := ed_pos q90 h
            exact K7 _ _ _ hM14 l16 l18 (lq_r h hq7)
          · replace h := ed_neg q90 h
            refine iq_iload hS 95 J_MSquareRows_finds_d93 l19 rfl ?_
            refine iq_iconst hS 96 J_MSquareRows_finds_d95 (v := 1) (by decide +kernel) rfl ?_
            refine iq_iadd hS 97 J_MSquareRows_finds_d96 rfl ?_
            refine iq_iload_n hS 98 J_MSquareRows_finds_d97 l17 rfl ?_
            refine iq_isub hS 99 J_MSquareRows_finds_d98 rfl ?_
            obtain ⟨Q20, hQ20, h⟩ := bd1_ed h
            refine iq_cpI hS 102 J_MSquareRows_finds_d99 rfl (pr_stat (vs := [_]) lc_16_144 lT_404 rfl rfl (by decide) rfl (Nat.le_of_ble_eq_true rfl) (Nat.le_of_ble_eq_true rfl)) (f_MSquareRows_two_ok (dep := dep + 2) hM14 h) rfl ?_
            intro x20 h
            replace h := hQ20 _ h
            refine iq_istore hS 104 J_MSquareRows_finds_d102 (by decide) rfl ?_
            refine iq_iconst hS 105 J_MSquareRows_finds_d104 (v := 0) (by decide +kernel) rfl ?_
            refine iq_istore hS 107 J_MSquareRows_finds_d105 (by decide) rfl ?_
            refine iq_iload_n hS 108 J_MSquareRows_finds_d107 (lk_1i (lk_1i l16 (by decide)) (by decide)) rfl ?_
            refine iq_iconst hS 109 J_MSquareRows_finds_d108 (v := 1) (by decide +kernel) rfl ?_
            refine iq_isub hS 110 J_MSquareRows_finds_d109 rfl ?_
            refine iq_istore hS 112 J_MSquareRows_finds_d110 (by decide) rfl ?_
            obtain ⟨Q21, hQ21, h⟩ := bd1_ed h
            have K21 : ∀ (y22 : Int32) (L' : List (Nat × Value)), im_lk L' 0 = some (.ref 108) → im_lk L' 1 = some (.int p0) → im_lk L' 2 = some (.int p1) → im_lk L' 3 = some (.int x12) → im_lk L' 4 = some (.int x13) → im_lk L' 6 = some (.int y22) → Q21 y22 → ia (tb_G L xs) (dep + 3) J_MSquareRows_finds (rwI w Q) (140, L', [], M14) := by
              intro y22 L' l23 l24 l25 l26 l27 l28 h
              replace h := hQ21 _ h
              refine iq_iload hS 142 J_MSquareRows_finds_d140 l28 rfl ?_
              refine iq_iconst hS 143 J_MSquareRows_finds_d142 (v := 1) (by decide +kernel) rfl ?_
              obtain ⟨k29, Q29, hQ29, hk29, h⟩ := jn2_ed h
              have J29 : ∀ (y30 : Int32) (M31 : im_M) (L' : List (Nat × Value)), lw_S w M31 → im_lk L' 0 = some (.ref 108) → im_lk L' 1 = some (.int p0) → im_lk L' 2 = some (.int p1) → im_lk L' 3 = some (.int y30) → im_lk L' 4 = some (.int x13) → Q29 y30 M31 → ia (tb_G L xs) (dep + 3) J_MSquareRows_finds (rwI w Q) (164, L', [], M31) := by
                intro y30 M31 L' hM31 l32 l33 l34 l35 l36 h
                replace h := hQ29 _ _ h
                refine iq_iincv hS 167 J_MSquareRows_finds_d164 (c := 1) (by decide +kernel) l36 (by decide) rfl ?_
                refine iq_goto hS J_MSquareRows_finds_d167 (t := 87) rfl ?_
                exact ih _ _ _ _ hM31 (lk_1r l32 (by decide)) (lk_1i l33 (by decide)) (lk_1i l34 (by decide)) (lk_1i l35 (by decide)) lk_1s (lq_l h)
              refine iq_icmp_ne hS 146 J_MSquareRows_finds_d143 (t := 164) rfl (fun q143 => ?_) rfl (fun q143 => ?_)
              · replace h := ed_pos q143 h
                exact J29 _ _ _ hM14 l23 l24 l25 l26 l27 (hk29 _ _ h)
              · replace h := ed_neg q143 h
                refine iq_iload_n hS 147 J_MSquareRows_finds_d146 l26 rfl ?_
                refine iq_iload_n hS 148 J_MSquareRows_finds_d147 l24 rfl ?_
                refine iq_icmp_ne hS 151 J_MSquareRows_finds_d148 (t := 153) rfl (fun q148 => ?_) rfl (fun q148 => ?_)
                · replace h := ed_pos q148 h
                  refine iq_aload_n hS 154 J_MSquareRows_finds_d153 l23 rfl ?_
                  refine iq_getR hS 157 J_MSquareRows_finds_d154 lf_16_61 (Or.inr ⟨_, rfl⟩) (ka_108 hM14) (ra_108_25 hM14) rfl ?_
                  refine iq_iload_n hS 158 J_MSquareRows_finds_d157 l26 rfl ?_
                  refine iq_iload hS 160 J_MSquareRows_finds_d158 l27 rfl ?_
                  obtain ⟨g160, h⟩ := ed_gd h
                  refine iq_iastore hS 161 J_MSquareRows_finds_d160 ⟨(ka_126 hM14).1, (ka_126 hM14).2, g160.1, ix_lt (kl_126 hM14) g160.2⟩ rfl ?_
                  refine iq_iincv hS 164 J_MSquareRows_finds_d161 (c := 1) (by decide +kernel) l26 (by decide) rfl ?_
                  exact J29 _ _ _ hM14 (lk_1r l23 (by decide)) (lk_1i l24 (by decide)) (lk_1i l25 (by decide)) lk_1s (lk_1i l27 (by decide)) (hk29 _ _ h)
                · replace h := ed_neg q148 h
                  refine iq_iconst hS 152 J_MSquareRows_finds_d151 (v := 0) (by decide +kernel) rfl ?_
                  exact iq_iret J_MSquareRows_finds_d152 rfl rfl ⟨_, rfl, hM14, ed_some (hR7 _ (lq_r h hq7))⟩
            obtain ⟨r21, hr21, hq21⟩ := h
            obtain ⟨n21, hn21⟩ := lp_n hr21
            have I21 : ∀ (n : Nat) (x37 : Int32) (x38 : Int32) (L' : List (Nat × Value)), im_lk L' 0 = some (.ref 108) → im_lk L' 1 = some (.int p0) → im_lk L' 2 = some (.int p1) → im_lk L' 3 = some (.int x12) → im_lk L' 4 = some (.int x13) → im_lk L' 5 = some (.int x20) → im_lk L' 6 = some (.int x37) → im_lk L' 7 = some (.int x38) → lpn (uc2 (f_MSquareRows_finds_L112 p0 p1 x12 x13 x20 M14)) n (x37, x38) = some r21 → ia (tb_G L xs) (dep + 3) J_MSquareRows_finds (rwI w Q) (112, L', [], M14) := by
              intro n
              induction n with
              | zero => intro x37 x38 L' l39 l40 l41 l42 l43 l44 l45 l46 hn; exact (lpn_0 hn).elim
              | succ n ih =>
                intro x37 x38 L' l39 l40 l41 l42 l43 l44 l45 l46 hn
                have h := lpn_ed2 hn
                unfold f_MSquareRows_finds_L112 at h
                refine iq_iload hS 114 J_MSquareRows_finds_d112 l46 rfl ?_
                refine iq_if_lt hS 117 J_MSquareRows_finds_d114 (t := 140) rfl (fun q114 => ?_) rfl (fun q114 => ?_)
                · replace h := ed_pos q114 h
                  exact K21 _ _ l39 l40 l41 l42 l43 l45 (lq_r h hq21)
                · replace h := ed_neg q114 h
                  refine iq_iload hS 119 J_MSquareRows_finds_d117 l45 rfl ?_
                  refine iq_aload_n hS 120 J_MSquareRows_finds_d119 l39 rfl ?_
                  refine iq_getR hS 123 J_MSquareRows_finds_d120 lf_16_58 (Or.inr ⟨_, rfl⟩) (ka_108 hM14) (ra_108_24 hM14) rfl ?_
                  refine iq_iload hS 125 J_MSquareRows_finds_d123 l46 rfl ?_
                  obtain ⟨g125, h⟩ := ed_gd h
                  refine iq_iaload hS 126 J_MSquareRows_finds_d125 ⟨(ka_125 hM14).1, (ka_125 hM14).2, g125.1, ix_lt (kl_125 hM14) g125.2⟩ rfl ?_
                  refine iq_ixor hS 127 J_MSquareRows_finds_d126 rfl ?_
                  refine iq_iload hS 129 J_MSquareRows_finds_d127 l44 rfl ?_
                  obtain ⟨Q47, hQ47, h⟩ := bd1_ed h
                  refine iq_cpI hS 132 J_MSquareRows_finds_d129 rfl (pr_stat (vs := [_, _]) lc_16_147 lT_405 rfl rfl (by decide) rfl (Nat.le_of_ble_eq_true rfl) (Nat.le_of_ble_eq_true rfl)) (f_MSquareRows_times_ok (dep := dep + 2) hM14 h) rfl ?_
                  intro x47 h
                  replace h := hQ47 _ h
                  refine iq_istore hS 134 J_MSquareRows_finds_d132 (by decide) rfl ?_
                  refine iq_iincv hS 137 J_MSquareRows_finds_d134 (c := (-1)) (by decide +kernel) (lk_1i l46 (by decide)) (by decide) rfl ?_
                  refine iq_goto hS J_MSquareRows_finds_d137 (t := 112) rfl ?_
                  exact ih _ _ _ (lk_1r (lk_1r l39 (by decide)) (by decide)) (lk_1i (lk_1i l40 (by decide)) (by decide)) (lk_1i (lk_1i l41 (by decide)) (by decide)) (lk_1i (lk_1i l42 (by decide)) (by decide)) (lk_1i (lk_1i l43 (by decide)) (by decide)) (lk_1i (lk_1i l44 (by decide)) (by decide)) (lk_1i lk_1s (by decide)) lk_1s (lq_l h)
            exact I21 n21 _ _ _ (lk_1r (lk_1r (lk_1r l15 (by decide)) (by decide)) (by decide)) (lk_1i (lk_1i (lk_1i l16 (by decide)) (by decide)) (by decide)) (lk_1i (lk_1i (lk_1i l17 (by decide)) (by decide)) (by decide)) (lk_1i (lk_1i (lk_1i l18 (by decide)) (by decide)) (by decide)) (lk_1i (lk_1i (lk_1i l19 (by decide)) (by decide)) (by decide)) (lk_1i (lk_1i lk_1s (by decide)) (by decide)) (lk_1i lk_1s (by decide)) lk_1s hn21
      exact I7 n7 _ _ _ _ hM6 (lk_1r (lk_1r l3 (by decide)) (by decide)) (lk_1i (lk_1i l4 (by decide)) (by decide)) (lk_1i (lk_1i l5 (by decide)) (by decide)) (lk_1i lk_1s (by decide)) lk_1s hn7
    · replace h := ed_neg q77 h
      refine iq_iconst hS 81 J_MSquareRows_finds_d80 (v := 0) (by decide +kernel) rfl ?_
      exact iq_iret J_MSquareRows_finds_d81 rfl rfl ⟨_, rfl, hM6, ed_some h⟩
  obtain ⟨r1, hr1, hq1⟩ := h
  obtain ⟨n1, hn1⟩ := lp_n hr1
  have I1 : ∀ (n : Nat) (x48 : Int32) (M49 : im_M) (L' : List (Nat × Value)), lw_S w M49 → im_lk L' 0 = some (.ref 108) → im_lk L' 1 = some (.int p0) → im_lk L' 2 = some (.int p1) → im_lk L' 3 = some (.int x48) → lpn (uc2 (f_MSquareRows_finds_L2 p0 p1)) n (x48, M49) = some r1 → ia (tb_G L xs) (dep + 3) J_MSquareRows_finds (rwI w Q) (2, L', [], M49) := by
    intro n
    induction n with
    | zero => intro x48 M49 L' hM49 l50 l51 l52 l53 hn; exact (lpn_0 hn).elim
    | succ n ih =>
      intro x48 M49 L' hM49 l50 l51 l52 l53 hn
      have h := lpn_ed2 hn
      unfold f_MSquareRows_finds_L2 at h
      refine iq_iload_n hS 3 J_MSquareRows_finds_d2 l53 rfl ?_
      refine iq_iload_n hS 4 J_MSquareRows_finds_d3 l51 rfl ?_
      refine iq_icmp_ge hS 7 J_MSquareRows_finds_d4 (t := 72) rfl (fun q4 => ?_) rfl (fun q4 => ?_)
      · replace h := ed_pos q4 h
        exact K1 _ _ hM49 l50 l51 l52 (lq_r h hq1)
      · replace h := ed_neg q4 h
        refine iq_iconst hS 8 J_MSquareRows_finds_d7 (v := 0) (by decide +kernel) rfl ?_
        refine iq_istore hS 10 J_MSquareRows_finds_d8 (by decide) rfl ?_
        obtain ⟨Q54, hQ54, h⟩ := bd1_ed h
        have K54 : ∀ (M55 : im_M) (L' : List (Nat × Value)), lw_S w M55 → im_lk L' 0 = some (.ref 108) → im_lk L' 1 = some (.int p0) → im_lk L' 2 = some (.int p1) → im_lk L' 3 = some (.int x48) → Q54 M55 → ia (tb_G L xs) (dep + 3) J_MSquareRows_finds (rwI w Q) (47, L', [], M55) := by
          intro M55 L' hM55 l56 l57 l58 l59 h
          replace h := hQ54 _ h
          refine iq_aload_n hS 48 J_MSquareRows_finds_d47 l56 rfl ?_
          refine iq_getR hS 51 J_MSquareRows_finds_d48 lf_16_55 (Or.inr ⟨_, rfl⟩) (ka_108 hM55) (ra_108_23 hM55) rfl ?_
          refine iq_bipush hS 53 J_MSquareRows_finds_d51 (v := 17) (by decide +kernel) rfl ?_
          refine iq_iload_n hS 54 J_MSquareRows_finds_d53 l59 rfl ?_
          refine iq_imul hS 55 J_MSquareRows_finds_d54 rfl ?_
          refine iq_iload_n hS 56 J_MSquareRows_finds_d55 l57 rfl ?_
          refine iq_iadd hS 57 J_MSquareRows_finds_d56 rfl ?_
          refine iq_aload_n hS 58 J_MSquareRows_finds_d57 l56 rfl ?_
          refine iq_getR hS 61 J_MSquareRows_finds_d58 lf_16_52 (Or.inr ⟨_, rfl⟩) (ka_108 hM55) (ra_108_22 hM55) rfl ?_
          refine iq_iload_n hS 62 J_MSquareRows_finds_d61 l57 rfl ?_
          refine iq_iload_n hS 63 J_MSquareRows_finds_d62 l59 rfl ?_
          refine iq_iadd hS 64 J_MSquareRows_finds_d63 rfl ?_
          obtain ⟨g64, h⟩ := ed_gd h
          refine iq_iaload hS 65 J_MSquareRows_finds_d64 ⟨(ka_123 hM55).1, (ka_123 hM55).2, g64.1, ix_lt (kl_123 hM55) g64.2⟩ rfl ?_
          obtain ⟨g65, h⟩ := ed_gd h
          refine iq_iastore hS 66 J_MSquareRows_finds_d65 ⟨(ka_124 hM55).1, (ka_124 hM55).2, g65.1, ix_lt (kl_124 hM55) g65.2⟩ rfl ?_
          refine iq_iincv hS 69 J_MSquareRows_finds_d66 (c := 1) (by decide +kernel) l59 (by decide) rfl ?_
          refine iq_goto hS J_MSquareRows_finds_d69 (t := 2) rfl ?_
          exact ih _ _ _ hM55 (lk_1r l56 (by decide)) (lk_1i l57 (by decide)) (lk_1i l58 (by decide)) lk_1s (lq_l h)
        obtain ⟨r54, hr54, hq54⟩ := h
        obtain ⟨n54, hn54⟩ := lp_n hr54
        have I54 : ∀ (n : Nat) (x60 : Int32) (M61 : im_M) (L' : List (Nat × Value)), lw_S w M61 → im_lk L' 0 = some (.ref 108) → im_lk L' 1 = some (.int p0) → im_lk L' 2 = some (.int p1) → im_lk L' 3 = some (.int x48) → im_lk L' 4 = some (.int x60) → lpn (uc2 (f_MSquareRows_finds_L10 p0 p1 x48)) n (x60, M61) = some r54 → ia (tb_G L xs) (dep + 3) J_MSquareRows_finds (rwI w Q) (10, L', [], M61) := by
          intro n
          induction n with
          | zero => intro x60 M61 L' hM61 l62 l63 l64 l65 l66 hn; exact (lpn_0 hn).elim
          | succ n ih =>
            intro x60 M61 L' hM61 l62 l63 l64 l65 l66 hn
            have h := lpn_ed2 hn
            unfold f_MSquareRows_finds_L10 at h
            refine iq_iload hS 12 J_MSquareRows_finds_d10 l66 rfl ?_
            refine iq_iload_n hS 13 J_MSquareRows_finds_d12 l63 rfl ?_
            refine iq_icmp_ge hS 16 J_MSquareRows_finds_d13 (t := 47) rfl (fun q13 => ?_) rfl (fun q13 => ?_)
            · replace h := ed_pos q13 h
              exact K54 _ _ hM61 l62 l63 l64 l65 (lq_r h hq54)
            · replace h := ed_neg q13 h
              refine iq_aload_n hS 17 J_MSquareRows_finds_d16 l62 rfl ?_
              refine iq_getR hS 20 J_MSquareRows_finds_d17 lf_16_55 (Or.inr ⟨_, rfl⟩) (ka_108 hM61) (ra_108_23 hM61) rfl ?_
              refine iq_bipush hS 22 J_MSquareRows_finds_d20 (v := 17) (by decide +kernel) rfl ?_
              refine iq_iload_n hS 23 J_MSquareRows_finds_d22 l65 rfl ?_
              refine iq_imul hS 24 J_MSquareRows_finds_d23 rfl ?_
              refine iq_iload hS 26 J_MSquareRows_finds_d24 l66 rfl ?_
              refine iq_iadd hS 27 J_MSquareRows_finds_d26 rfl ?_
              refine iq_aload_n hS 28 J_MSquareRows_finds_d27 l62 rfl ?_
              refine iq_getR hS 31 J_MSquareRows_finds_d28 lf_16_52 (Or.inr ⟨_, rfl⟩) (ka_108 hM61) (ra_108_22 hM61) rfl ?_
              refine iq_iload_n hS 32 J_MSquareRows_finds_d31 l63 rfl ?_
              refine iq_iload_n hS 33 J_MSquareRows_finds_d32 l65 rfl ?_
              refine iq_iadd hS 34 J_MSquareRows_finds_d33 rfl ?_
              refine iq_iconst hS 35 J_MSquareRows_finds_d34 (v := 1) (by decide +kernel) rfl ?_
              refine iq_isub hS 36 J_MSquareRows_finds_d35 rfl ?_
              refine iq_iload hS 38 J_MSquareRows_finds_d36 l66 rfl ?_
              refine iq_isub hS 39 J_MSquareRows_finds_d38 rfl ?_
              obtain ⟨g39, h⟩ := ed_gd h
              refine iq_iaload hS 40 J_MSquareRows_finds_d39 ⟨(ka_123 hM61).1, (ka_123 hM61).2, g39.1, ix_lt (kl_123 hM61) g39.2⟩ rfl ?_
              obtain ⟨g40, h⟩ := ed_gd h
              refine iq_iastore hS 41 J_MSquareRows_finds_d40 ⟨(ka_124 hM61).1, (ka_124 hM61).2, g40.1, ix_lt (kl_124 hM61) g40.2⟩ rfl ?_
              refine iq_iincv hS 44 J_MSquareRows_finds_d41 (c := 1) (by decide +kernel) l66 (by decide) rfl ?_
              refine iq_goto hS J_MSquareRows_finds_d44 (t := 10) rfl ?_
              exact ih _ _ _ hM61 (lk_1r l62 (by decide)) (lk_1i l63 (by decide)) (lk_1i l64 (by decide)) (lk_1i l65 (by decide)) lk_1s (lq_l h)
        exact I54 n54 _ _ _ hM49 (lk_1r l50 (by decide)) (lk_1i l51 (by decide)) (lk_1i l52 (by decide)) (lk_1i l53 (by decide)) lk_1s hn54
  exact I1 n1 _ _ _ hM (lk_1r l0 (by decide)) (lk_1i l1 (by decide)) (lk_1i l2 (by decide)) lk_1s hn1
noncomputable def f_MSquareRows_mends_L10 (v7 : Int32) (v8 : Int32) (v9 : Int32) (x10 : Int32) (M11 : im_M) : Option ((Int32 × im_M) ⊕ (im_M)) := if v7 ≤ x10 then some (.inr M11) else gd (inb x10 16) <| bd1 (f_MSquareRows_two (((v8 - 1) - (im_i M11 126 (Int32.toNatClampNeg x10))) * v9) M11) fun (x12 : Int32) => gd (inb (((17 : Int32) * v9) + x10) 272) <| some (.inl ((x10 + 1), (im_setI M11 124 (Int32.toNatClampNeg (((17 : Int32) * v9) + x10)) x12)))
noncomputable def f_MSquareRows_mends_L2 (v2 : Int32) (v3 : Int32) (x4 : Int32) (M5 : im_M) : Option ((Int32 × im_M) ⊕ (im_M)) := if v2 ≤ x4 then some (.inr M5) else bd1 (lp (uc2 (f_MSquareRows_mends_L10 v2 v3 x4)) (0, M5)) fun (M13 : im_M) => gd (inb x4 32) <| gd (inb (((17 : Int32) * x4) + v2) 272) <| some (.inl ((x4 + 1), (im_setI M13 124 (Int32.toNatClampNeg (((17 : Int32) * x4) + v2)) (im_i M13 123 (Int32.toNatClampNeg x4)))))
noncomputable def f_MSquareRows_mends_L85 (v17 : Int32) (v18 : Int32) (x19 : Int32) (M20 : im_M) : Option ((Int32 × im_M) ⊕ (im_M)) := if v18 ≤ x19 then some (.inr M20) else gd (inb x19 256) <| gd (inb x19 256) <| some (.inl ((x19 + 1), (im_setI M20 122 (Int32.toNatClampNeg x19) (im_i M20 121 (Int32.toNatClampNeg x19)))))
noncomputable def f_MSquareRows_mends_L113 (v23 : Int32) (x24 : Int32) (x25 : Int32) (M26 : im_M) : Option ((Int32 × Int32 × im_M) ⊕ (Int32 × im_M)) := if v23 ≤ x25 then some (.inr (x24, M26)) else gd (inb x25 16) <| gd (inb x25 16) <| gd (inb (im_i M26 126 (Int32.toNatClampNeg x25)) 256) <| gd (inb x25 16) <| gd (inb (im_i M26 126 (Int32.toNatClampNeg x25)) 256) <| bd1 (jn0 (fun (_ : Unit) => some 0) fun k28 => if x24 = 0 then k28 () else gd (inb x25 16) <| if (im_i (im_setI M26 122 (Int32.toNatClampNeg (im_i M26 126 (Int32.toNatClampNeg x25))) ((im_i M26 122 (Int32.toNatClampNeg (im_i M26 126 (Int32.toNatClampNeg x25)))) ^^^ (im_i M26 125 (Int32.toNatClampNeg x25)))) 125 (Int32.toNatClampNeg x25)) = 0 then k28 () else some 1) fun (y32 : Int32) => some (.inl (y32, (x25 + 1), (im_setI M26 122 (Int32.toNatClampNeg (im_i M26 126 (Int32.toNatClampNeg x25))) ((im_i M26 122 (Int32.toNatClampNeg (im_i M26 126 (Int32.toNatClampNeg x25)))) ^^^ (im_i M26 125 (Int32.toNatClampNeg x25))))))
noncomputable def f_MSquareRows_mends (p0 : Int32) (p1 : Int32) (M : im_M) : Option (Int32 × im_M) := bd1 (lp (uc2 (f_MSquareRows_mends_L2 p0 p1)) (0, M)) fun (M14 : im_M) => bd2 (f_MSquareRows_solves p0 M14) fun (x15 : Int32) (M15 : im_M) => if ¬ x15 = 0 then bd1 (lp (uc2 (f_MSquareRows_mends_L85 p0 p1)) (0, M15)) fun (M21 : im_M) => bd2 (lp (uc3 (f_MSquareRows_mends_L113 p0)) (1, 0, M21)) fun (y36 : Int32) (M37 : im_M) => gd (y36 = 0 ∨ y36 = 1) <| some (y36, M37) else some (0, M15)
theorem J_MSquareRows_mends_d0 : decode J_MSquareRows_mends.2.1 0 = .ok (.iconst 0, 1) := by decide +kernel
theorem J_MSquareRows_mends_d1 : decode J_MSquareRows_mends.2.1 1 = .ok (.istore_n 3, 1) := by decide +kernel
theorem J_MSquareRows_mends_d2 : decode J_MSquareRows_mends.2.1 2 = .ok (.iload_n 3, 1) := by decide +kernel
theorem J_MSquareRows_mends_d3 : decode J_MSquareRows_mends.2.1 3 = .ok (.iload_n 1, 1) := by decide +kernel
theorem J_MSquareRows_mends_d4 : decode J_MSquareRows_mends.2.1 4 = .ok (.if_icmp .ge 69, 3) := by decide +kernel
theorem J_MSquareRows_mends_d7 : decode J_MSquareRows_mends.2.1 7 = .ok (.iconst 0, 1) := by decide +kernel
theorem J_MSquareRows_mends_d8 : decode J_MSquareRows_mends.2.1 8 = .ok (.istore 4, 2) := by decide +kernel
theorem J_MSquareRows_mends_d10 : decode J_MSquareRows_mends.2.1 10 = .ok (.iload 4, 2) := by decide +kernel
theorem J_MSquareRows_mends_d12 : decode J_MSquareRows_mends.2.1 12 = .ok (.iload_n 1, 1) := by decide +kernel
theorem J_MSquareRows_mends_d13 : decode J_MSquareRows_mends.2.1 13 = .ok (.if_icmp .ge 37, 3) := by decide +kernel
theorem J_MSquareRows_mends_d16 : decode J_MSquareRows_mends.2.1 16 = .ok (.aload_n 0, 1) := by decide +kernel
theorem J_MSquareRows_mends_d17 : decode J_MSquareRows_mends.2.1 17 = .ok (.getfield 55, 3) := by decide +kernel
theorem J_MSquareRows_mends_d20 : decode J_MSquareRows_mends.2.1 20 = .ok (.bipush 17, 2) := by decide +kernel
theorem J_MSquareRows_mends_d22 : decode J_MSquareRows_mends.2.1 22 = .ok (.iload_n 3, 1) := by decide +kernel
theorem J_MSquareRows_mends_d23 : decode J_MSquareRows_mends.2.1 23 = .ok (.imul, 1) := by decide +kernel
theorem J_MSquareRows_mends_d24 : decode J_MSquareRows_mends.2.1 24 = .ok (.iload 4, 2) := by decide +kernel
theorem J_MSquareRows_mends_d26 : decode J_MSquareRows_mends.2.1 26 = .ok (.iadd, 1) := by decide +kernel
theorem J_MSquareRows_mends_d27 : decode J_MSquareRows_mends.2.1 27 = .ok (.iload_n 2, 1) := by decide +kernel
theorem J_MSquareRows_mends_d28 : decode J_MSquareRows_mends.2.1 28 = .ok (.iconst 1, 1) := by decide +kernel
theorem J_MSquareRows_mends_d29 : decode J_MSquareRows_mends.2.1 29 = .ok (.isub, 1) := by decide +kernel
theorem J_MSquareRows_mends_d30 : decode J_MSquareRows_mends.2.1 30 = .ok (.aload_n 0, 1) := by decide +kernel
theorem J_MSquareRows_mends_d31 : decode J_MSquareRows_mends.2.1 31 = .ok (.getfield 61, 3) := by decide +kernel
theorem J_MSquareRows_mends_d34 : decode J_MSquareRows_mends.2.1 34 = .ok (.iload 4, 2) := by decide +kernel
theorem J_MSquareRows_mends_d36 : decode J_MSquareRows_mends.2.1 36 = .ok (.iaload, 1) := by decide +kernel
theorem J_MSquareRows_mends_d37 : decode J_MSquareRows_mends.2.1 37 = .ok (.isub, 1) := by decide +kernel
theorem J_MSquareRows_mends_d38 : decode J_MSquareRows_mends.2.1 38 = .ok (.iload_n 3, 1) := by decide +kernel
theorem J_MSquareRows_mends_d39 : decode J_MSquareRows_mends.2.1 39 = .ok (.imul, 1) := by decide +kernel
theorem J_MSquareRows_mends_d40 : decode J_MSquareRows_mends.2.1 40 = .ok (.invokestatic 144, 3) := by decide +kernel
theorem J_MSquareRows_mends_d43 : decode J_MSquareRows_mends.2.1 43 = .ok (.iastore, 1) := by decide +kernel
theorem J_MSquareRows_mends_d44 : decode J_MSquareRows_mends.2.1 44 = .ok (.iinc 4 1, 3) := by decide +kernel
theorem J_MSquareRows_mends_d47 : decode J_MSquareRows_mends.2.1 47 = .ok (.goto (-37), 3) := by decide +kernel
theorem J_MSquareRows_mends_d50 : decode J_MSquareRows_mends.2.1 50 = .ok (.aload_n 0, 1) := by decide +kernel
theorem J_MSquareRows_mends_d51 : decode J_MSquareRows_mends.2.1 51 = .ok (.getfield 55, 3) := by decide +kernel
theorem J_MSquareRows_mends_d54 : decode J_MSquareRows_mends.2.1 54 = .ok (.bipush 17, 2) := by decide +kernel
theorem J_MSquareRows_mends_d56 : decode J_MSquareRows_mends.2.1 56 = .ok (.iload_n 3, 1) := by decide +kernel
theorem J_MSquareRows_mends_d57 : decode J_MSquareRows_mends.2.1 57 = .ok (.imul, 1) := by decide +kernel
theorem J_MSquareRows_mends_d58 : decode J_MSquareRows_mends.2.1 58 = .ok (.iload_n 1, 1) := by decide +kernel
theorem J_MSquareRows_mends_d59 : decode J_MSquareRows_mends.2.1 59 = .ok (.iadd, 1) := by decide +kernel
theorem J_MSquareRows_mends_d60 : decode J_MSquareRows_mends.2.1 60 = .ok (.aload_n 0, 1) := by decide +kernel
theorem J_MSquareRows_mends_d61 : decode J_MSquareRows_mends.2.1 61 = .ok (.getfield 52, 3) := by decide +kernel
theorem J_MSquareRows_mends_d64 : decode J_MSquareRows_mends.2.1 64 = .ok (.iload_n 3, 1) := by decide +kernel
theorem J_MSquareRows_mends_d65 : decode J_MSquareRows_mends.2.1 65 = .ok (.iaload, 1) := by decide +kernel
theorem J_MSquareRows_mends_d66 : decode J_MSquareRows_mends.2.1 66 = .ok (.iastore, 1) := by decide +kernel
theorem J_MSquareRows_mends_d67 : decode J_MSquareRows_mends.2.1 67 = .ok (.iinc 3 1, 3) := by decide +kernel
theorem J_MSquareRows_mends_d70 : decode J_MSquareRows_mends.2.1 70 = .ok (.goto (-68), 3) := by decide +kernel
theorem J_MSquareRows_mends_d73 : decode J_MSquareRows_mends.2.1 73 = .ok (.aload_n 0, 1) := by decide +kernel
theorem J_MSquareRows_mends_d74 : decode J_MSquareRows_mends.2.1 74 = .ok (.iload_n 1, 1) := by decide +kernel
theorem J_MSquareRows_mends_d75 : decode J_MSquareRows_mends.2.1 75 = .ok (.invokevirtual 253, 3) := by decide +kernel
theorem J_MSquareRows_mends_d78 : decode J_MSquareRows_mends.2.1 78 = .ok (.ifCond .ne 5, 3) := by decide +kernel
theorem J_MSquareRows_mends_d81 : decode J_MSquareRows_mends.2.1 81 = .ok (.iconst 0, 1) := by decide +kernel
theorem J_MSquareRows_mends_d82 : decode J_MSquareRows_mends.2.1 82 = .ok (.ireturn, 1) := by decide +kernel
theorem J_MSquareRows_mends_d83 : decode J_MSquareRows_mends.2.1 83 = .ok (.iconst 0, 1) := by decide +kernel
theorem J_MSquareRows_mends_d84 : decode J_MSquareRows_mends.2.1 84 = .ok (.istore_n 3, 1) := by decide +kernel
theorem J_MSquareRows_mends_d85 : decode J_MSquareRows_mends.2.1 85 = .ok (.iload_n 3, 1) := by decide +kernel
theorem J_MSquareRows_mends_d86 : decode J_MSquareRows_mends.2.1 86 = .ok (.iload_n 2, 1) := by decide +kernel
theorem J_MSquareRows_mends_d87 : decode J_MSquareRows_mends.2.1 87 = .ok (.if_icmp .ge 21, 3) := by decide +kernel
theorem J_MSquareRows_mends_d90 : decode J_MSquareRows_mends.2.1 90 = .ok (.aload_n 0, 1) := by decide +kernel
theorem J_MSquareRows_mends_d91 : decode J_MSquareRows_mends.2.1 91 = .ok (.getfield 49, 3) := by decide +kernel
theorem J_MSquareRows_mends_d94 : decode J_MSquareRows_mends.2.1 94 = .ok (.iload_n 3, 1) := by decide +kernel
theorem J_MSquareRows_mends_d95 : decode J_MSquareRows_mends.2.1 95 = .ok (.aload_n 0, 1) := by decide +kernel
theorem J_MSquareRows_mends_d96 : decode J_MSquareRows_mends.2.1 96 = .ok (.getfield 46, 3) := by decide +kernel
theorem J_MSquareRows_mends_d99 : decode J_MSquareRows_mends.2.1 99 = .ok (.iload_n 3, 1) := by decide +kernel
theorem J_MSquareRows_mends_d100 : decode J_MSquareRows_mends.2.1 100 = .ok (.iaload, 1) := by decide +kernel
theorem J_MSquareRows_mends_d101 : decode J_MSquareRows_mends.2.1 101 = .ok (.iastore, 1) := by decide +kernel
theorem J_MSquareRows_mends_d102 : decode J_MSquareRows_mends.2.1 102 = .ok (.iinc 3 1, 3) := by decide +kernel
theorem J_MSquareRows_mends_d105 : decode J_MSquareRows_mends.2.1 105 = .ok (.goto (-20), 3) := by decide +kernel
theorem J_MSquareRows_mends_d108 : decode J_MSquareRows_mends.2.1 108 = .ok (.iconst 1, 1) := by decide +kernel
theorem J_MSquareRows_mends_d109 : decode J_MSquareRows_mends.2.1 109 = .ok (.istore_n 3, 1) := by decide +kernel
theorem J_MSquareRows_mends_d110 : decode J_MSquareRows_mends.2.1 110 = .ok (.iconst 0, 1) := by decide +kernel
theorem J_MSquareRows_mends_d111 : decode J_MSquareRows_mends.2.1 111 = .ok (.istore 4, 2) := by decide +kernel
theorem J_MSquareRows_mends_d113 : decode J_MSquareRows_mends.2.1 113 = .ok (.iload 4, 2) := by decide +kernel
theorem J_MSquareRows_mends_d115 : decode J_MSquareRows_mends.2.1 115 = .ok (.iload_n 1, 1) := by decide +kernel
theorem J_MSquareRows_mends_d116 : decode J_MSquareRows_mends.2.1 116 = .ok (.if_icmp .ge 61, 3) := by decide +kernel
theorem J_MSquareRows_mends_d119 : decode J_MSquareRows_mends.2.1 119 = .ok (.aload_n 0, 1) := by decide +kernel
theorem J_MSquareRows_mends_d120 : decode J_MSquareRows_mends.2.1 120 = .ok (.getfield 49, 3) := by decide +kernel
theorem J_MSquareRows_mends_d123 : decode J_MSquareRows_mends.2.1 123 = .ok (.aload_n 0, 1) := by decide +kernel
theorem J_MSquareRows_mends_d124 : decode J_MSquareRows_mends.2.1 124 = .ok (.getfield 61, 3) := by decide +kernel
theorem J_MSquareRows_mends_d127 : decode J_MSquareRows_mends.2.1 127 = .ok (.iload 4, 2) := by decide +kernel
theorem J_MSquareRows_mends_d129 : decode J_MSquareRows_mends.2.1 129 = .ok (.iaload, 1) := by decide +kernel
theorem J_MSquareRows_mends_d130 : decode J_MSquareRows_mends.2.1 130 = .ok (.aload_n 0, 1) := by decide +kernel
theorem J_MSquareRows_mends_d131 : decode J_MSquareRows_mends.2.1 131 = .ok (.getfield 49, 3) := by decide +kernel
theorem J_MSquareRows_mends_d134 : decode J_MSquareRows_mends.2.1 134 = .ok (.aload_n 0, 1) := by decide +kernel
theorem J_MSquareRows_mends_d135 : decode J_MSquareRows_mends.2.1 135 = .ok (.getfield 61, 3) := by decide +kernel
theorem J_MSquareRows_mends_d138 : decode J_MSquareRows_mends.2.1 138 = .ok (.iload 4, 2) := by decide +kernel
theorem J_MSquareRows_mends_d140 : decode J_MSquareRows_mends.2.1 140 = .ok (.iaload, 1) := by decide +kernel
theorem J_MSquareRows_mends_d141 : decode J_MSquareRows_mends.2.1 141 = .ok (.iaload, 1) := by decide +kernel
theorem J_MSquareRows_mends_d142 : decode J_MSquareRows_mends.2.1 142 = .ok (.aload_n 0, 1) := by decide +kernel
theorem J_MSquareRows_mends_d143 : decode J_MSquareRows_mends.2.1 143 = .ok (.getfield 58, 3) := by decide +kernel
theorem J_MSquareRows_mends_d146 : decode J_MSquareRows_mends.2.1 146 = .ok (.iload 4, 2) := by decide +kernel
theorem J_MSquareRows_mends_d148 : decode J_MSquareRows_mends.2.1 148 = .ok (.iaload, 1) := by decide +kernel
theorem J_MSquareRows_mends_d149 : decode J_MSquareRows_mends.2.1 149 = .ok (.ixor, 1) := by decide +kernel
theorem J_MSquareRows_mends_d150 : decode J_MSquareRows_mends.2.1 150 = .ok (.iastore, 1) := by decide +kernel
theorem J_MSquareRows_mends_d151 : decode J_MSquareRows_mends.2.1 151 = .ok (.iload_n 3, 1) := by decide +kernel
theorem J_MSquareRows_mends_d152 : decode J_MSquareRows_mends.2.1 152 = .ok (.ifCond .eq 17, 3) := by decide +kernel
theorem J_MSquareRows_mends_d155 : decode J_MSquareRows_mends.2.1 155 = .ok (.aload_n 0, 1) := by decide +kernel
theorem J_MSquareRows_mends_d156 : decode J_MSquareRows_mends.2.1 156 = .ok (.getfield 58, 3) := by decide +kernel
theorem J_MSquareRows_mends_d159 : decode J_MSquareRows_mends.2.1 159 = .ok (.iload 4, 2) := by decide +kernel
theorem J_MSquareRows_mends_d161 : decode J_MSquareRows_mends.2.1 161 = .ok (.iaload, 1) := by decide +kernel
theorem J_MSquareRows_mends_d162 : decode J_MSquareRows_mends.2.1 162 = .ok (.ifCond .eq 7, 3) := by decide +kernel
theorem J_MSquareRows_mends_d165 : decode J_MSquareRows_mends.2.1 165 = .ok (.iconst 1, 1) := by decide +kernel
theorem J_MSquareRows_mends_d166 : decode J_MSquareRows_mends.2.1 166 = .ok (.goto 4, 3) := by decide +kernel
theorem J_MSquareRows_mends_d169 : decode J_MSquareRows_mends.2.1 169 = .ok (.iconst 0, 1) := by decide +kernel
theorem J_MSquareRows_mends_d170 : decode J_MSquareRows_mends.2.1 170 = .ok (.istore_n 3, 1) := by decide +kernel
theorem J_MSquareRows_mends_d171 : decode J_MSquareRows_mends.2.1 171 = .ok (.iinc 4 1, 3) := by decide +kernel
theorem J_MSquareRows_mends_d174 : decode J_MSquareRows_mends.2.1 174 = .ok (.goto (-61), 3) := by decide +kernel
theorem J_MSquareRows_mends_d177 : decode J_MSquareRows_mends.2.1 177 = .ok (.iload_n 3, 1) := by decide +kernel
theorem J_MSquareRows_mends_d178 : decode J_MSquareRows_mends.2.1 178 = .ok (.ireturn, 1) := by decide +kernel
theorem f_MSquareRows_mends_ok {L : Nat} {xs : Nat → Int32} {dep : Nat} {w : Bool} {p0 : Int32} {p1 : Int32} {M : im_M} {Q : Int32 × im_M → Prop} (hM : lw_S w M) (h : ed (f_MSquareRows_mends p0 p1 M) Q) : ia (tb_G L xs) (dep + 3) J_MSquareRows_mends (rwI w Q) (0, lv_args 0 [.ref 108, .int p0, .int p1], [], M) := by
  have hS : im_St (tb_G L xs) (dep + 3) J_MSquareRows_mends (ia (tb_G L xs) (dep + 3) J_MSquareRows_mends (rwI w Q)) := ia_St
  unfold f_MSquareRows_mends at h
  have l0 : im_lk (lv_args 0 [.ref 108, .int p0, .int p1]) 0 = some (.ref 108) := rfl
  have l1 : im_lk (lv_args 0 [.ref 108, .int p0, .int p1]) 1 = some (.int p0) := rfl
  have l2 : im_lk (lv_args 0 [.ref 108, .int p0, .int p1]) 2 = some (.int p1) := rfl
  refine iq_iconst hS 1 J_MSquareRows_mends_d0 (v := 0) (by decide +kernel) rfl ?_
  refine iq_istore_n hS 2 J_MSquareRows_mends_d1 (by decide) rfl ?_
  obtain ⟨Q1, hQ1, h⟩ := bd1_ed h
  have K1 : ∀ (M2 : im_M) (L' : List (Nat × Value)), lw_S w M2 → im_lk L' 0 = some (.ref 108) → im_lk L' 1 = some (.int p0) → im_lk L' 2 = some (.int p1) → Q1 M2 → ia (tb_G L xs) (dep + 3) J_MSquareRows_mends (rwI w Q) (73, L', [], M2) := by
    intro M2 L' hM2 l3 l4 l5 h
    replace h := hQ1 _ h
    refine iq_aload_n hS 74 J_MSquareRows_mends_d73 l3 rfl ?_
    refine iq_iload_n hS 75 J_MSquareRows_mends_d74 l4 rfl ?_
    obtain ⟨Q6, hQ6, h⟩ := bd2_ed h
    refine iq_cwI hS 78 J_MSquareRows_mends_d75 rfl (pr_inst (vs := [_]) lc_16_253 lT_491 rfl rfl (by decide) (by decide) rfl (Nat.le_of_ble_eq_true rfl) (Nat.le_of_ble_eq_true rfl) (fun _ => Or.inl (pr_b (ka_108 hM2) (by decide) rfl))) (f_MSquareRows_solves_ok (dep := dep + 0) hM2 h) rfl ?_
    intro x6 M6 hM6 h
    replace h := hQ6 _ _ h
    refine iq_if_ne hS 81 J_MSquareRows_mends_d78 (t := 83) rfl (fun q78 => ?_) rfl (fun q78 => ?_)
    · replace h := ed_pos q78 h
      refine iq_iconst hS 84 J_MSquareRows_mends_d83 (v := 0) (by decide +kernel) rfl ?_
      refine iq_istore_n hS 85 J_MSquareRows_mends_d84 (by decide) rfl ?_
      obtain ⟨Q7, hQ7, h⟩ := bd1_ed h
      have K7 : ∀ (M8 : im_M) (L' : List (Nat × Value)), lw_S w M8 → im_lk L' 0 = some (.ref 108) → im_lk L' 1 = some (.int p0) → Q7 M8 → ia (tb_G L xs) (dep + 3) J_MSquareRows_mends (rwI w Q) (108, L', [], M8) := by
        intro M8 L' hM8 l9 l10 h
        replace h := hQ7 _ h
        refine iq_iconst hS 109 J_MSquareRows_mends_d108 (v := 1) (by decide +kernel) rfl ?_
        refine iq_istore_n hS 110 J_MSquareRows_mends_d109 (by decide) rfl ?_
        refine iq_iconst hS 111 J_MSquareRows_mends_d110 (v := 0) (by decide +kernel) rfl ?_
        refine iq_istore hS 113 J_MSquareRows_mends_d111 (by decide) rfl ?_
        obtain ⟨Q11, hQ11, h⟩ := bd2_ed h
        have K11 : ∀ (y12 : Int32) (M13 : im_M) (L' : List (Nat × Value)), lw_S w M13 → im_lk L' 3 = some (.int y12) → Q11 (y12, M13) → ia (tb_G L xs) (dep + 3) J_MSquareRows_mends (rwI w Q) (177, L', [], M13) := by
          intro y12 M13 L' hM13 l14 h
          replace h := hQ11 _ _ h
          refine iq_iload_n hS 178 J_MSquareRows_mends_d177 l14 rfl ?_
          obtain ⟨g178, h⟩ := ed_gd h
          exact iq_iret J_MSquareRows_mends_d178 rfl (nar_z g178) ⟨_, rfl, hM13, ed_some h⟩
        obtain ⟨r11, hr11, hq11⟩ := h
        obtain ⟨n11, hn11⟩ := lp_n hr11
        have I11 : ∀ (n : Nat) (x15 : Int32) (x16 : Int32) (M17 : im_M) (L' : List (Nat × Value)), lw_S w M17 → im_lk L' 0 = some (.ref 108) → im_lk L' 1 = some (.int p0) → im_lk L' 3 = some (.int x15) → im_lk L' 4 = some (.int x16) → lpn (uc3 (f_MSquareRows_mends_L113 p0)) n (x15, x16, M17) = some r11 → ia (tb_G L xs) (dep + 3) J_MSquareRows_mends (rwI w Q) (113, L', [], M17) := by
          intro n
          induction n with
          | zero => intro x15 x16 M17 L' hM17 l18 l19 l20 l21 hn; exact (lpn_0 hn).elim
          | succ n ih =>
            intro x15 x16 M17 L' hM17 l18 l19 l20 l21 hn
            have h := lpn_ed3 hn
            unfold f_MSquareRows_mends_L113 at h
            refine iq_iload hS 115 J_MSquareRows_mends_d113 l21 rfl ?_
            refine iq_iload_n hS 116 J_MSquareRows_mends_d115 l19 rfl ?_
            refine iq_icmp_ge hS 119 J_MSquareRows_mends_d116 (t := 177) rfl (fun q116 => ?_) rfl (fun q116 => ?_)
            · replace h := ed_pos q116 h
              exact K11 _ _ _ hM17 l20 (lq_r h hq11)
            · replace h := ed_neg q116 h
              refine iq_aload_n hS 120 J_MSquareRows_mends_d119 l18 rfl ?_
              refine iq_getR hS 123 J_MSquareRows_mends_d120 lf_16_49 (Or.inr ⟨_, rfl⟩) (ka_108 hM17) (ra_108_21 hM17) rfl ?_
              refine iq_aload_n hS 124 J_MSquareRows_mends_d123 l18 rfl ?_
              refine iq_getR hS 127 J_MSquareRows_mends_d124 lf_16_61 (Or.inr ⟨_, rfl⟩) (ka_108 hM17) (ra_108_25 hM17) rfl ?_
              refine iq_iload hS 129 J_MSquareRows_mends_d127 l21 rfl ?_
              obtain ⟨g129, h⟩ := ed_gd h
              refine iq_iaload hS 130 J_MSquareRows_mends_d129 ⟨(ka_126 hM17).1, (ka_126 hM17).2, g129.1, ix_lt (kl_126 hM17) g129.2⟩ rfl ?_
              refine iq_aload_n hS 131 J_MSquareRows_mends_d130 l18 rfl ?_
              refine iq_getR hS 134 J_MSquareRows_mends_d131 lf_16_49 (Or.inr ⟨_, rfl⟩) (ka_108 hM17) (ra_108_21 hM17) rfl ?_
              refine iq_aload_n hS 135 J_MSquareRows_mends_d134 l18 rfl ?_
              refine iq_getR hS 138 J_MSquareRows_mends_d135 lf_16_61 (Or.inr ⟨_, rfl⟩) (ka_108 hM17) (ra_108_25 hM17) rfl ?_
              refine iq_iload hS 140 J_MSquareRows_mends_d138 l21 rfl ?_
              obtain ⟨g140, h⟩ := ed_gd h
              refine iq_iaload hS 141 J_MSquareRows_mends_d140 ⟨(ka_126 hM17).1, (ka_126 hM17).2, g140.1, ix_lt (kl_126 hM17) g140.2⟩ rfl ?_
              obtain ⟨g141, h⟩ := ed_gd h
              refine iq_iaload hS 142 J_MSquareRows_mends_d141 ⟨(ka_122 hM17).1, (ka_122 hM17).2, g141.1, ix_lt (kl_122 hM17) g141.2⟩ rfl ?_
              refine iq_aload_n hS 143 J_MSquareRows_mends_d142 l18 rfl ?_
              refine iq_getR hS 146 J_MSquareRows_mends_d143 lf_16_58 (Or.inr ⟨_, rfl⟩) (ka_108 hM17) (ra_108_24 hM17) rfl ?_
              refine iq_iload hS 148 J_MSquareRows_mends_d146 l21 rfl ?_
              obtain ⟨g148, h⟩ := ed_gd h
              refine iq_iaload hS 149 J_MSquareRows_mends_d148 ⟨(ka_125 hM17).1, (ka_125 hM17).2, g148.1, ix_lt (kl_125 hM17) g148.2⟩ rfl ?_
              refine iq_ixor hS 150 J_MSquareRows_mends_d149 rfl ?_
              obtain ⟨g150, h⟩ := ed_gd h
              refine iq_iastore hS 151 J_MSquareRows_mends_d150 ⟨(ka_122 hM17).1, (ka_122 hM17).2, g150.1, ix_lt (kl_122 hM17) g150.2⟩ rfl ?_
              refine iq_iload_n hS 152 J_MSquareRows_mends_d151 l20 rfl ?_
              obtain ⟨Q22, hQ22, h⟩ := bd1_ed h
              have J22 : ∀ (y27 : Int32) (L' : List (Nat × Value)), im_lk L' 0 = some (.ref 108) → im_lk L' 1 = some (.int p0) → im_lk L' 4 = some (.int x16) → Q22 y27 → ia (tb_G L xs) (dep + 3) J_MSquareRows_mends (rwI w Q) (170, L', [.int y27], (im_setI M17 122 (Int32.toNatClampNeg (im_i M17 126 (Int32.toNatClampNeg x16))) ((im_i M17 122 (Int32.toNatClampNeg (im_i M17 126 (Int32.toNatClampNeg x16)))) ^^^ (im_i M17 125 (Int32.toNatClampNeg x16))))) := by
                intro y27 L' l28 l29 l30 h
                replace h := hQ22 _ h
                refine iq_istore_n hS 171 J_MSquareRows_mends_d170 (by decide) rfl ?_
                refine iq_iincv hS 174 J_MSquareRows_mends_d171 (c := 1) (by decide +kernel) (lk_1i l30 (by decide)) (by decide) rfl ?_
                refine iq_goto hS J_MSquareRows_mends_d174 (t := 113) rfl ?_
                exact ih _ _ _ _ hM17 (lk_1r (lk_1r l28 (by decide)) (by decide)) (lk_1i (lk_1i l29 (by decide)) (by decide)) (lk_1i lk_1s (by decide)) lk_1s (lq_l h)
              obtain ⟨k23, Q23, hQ23, hk23, h⟩ := jn0_ed h
              have J23 : ∀  (L' : List (Nat × Value)), im_lk L' 0 = some (.ref 108) → im_lk L' 1 = some (.int p0) → im_lk L' 4 = some (.int x16) → Q23 () → ia (tb_G L xs) (dep + 3) J_MSquareRows_mends (rwI w Q) (169, L', [], (im_setI M17 122 (Int32.toNatClampNeg (im_i M17 126 (Int32.toNatClampNeg x16))) ((im_i M17 122 (Int32.toNatClampNeg (im_i M17 126 (Int32.toNatClampNeg x16)))) ^^^ (im_i M17 125 (Int32.toNatClampNeg x16))))) := by
                intro  L' l24 l25 l26 h
                replace h := hQ23  h
                refine iq_iconst hS 170 J_MSquareRows_mends_d169 (v := 0) (by decide +kernel) rfl ?_
                exact J22 _ _ l24 l25 l26 (ed_some h)
              refine iq_if_eq hS 155 J_MSquareRows_mends_d152 (t := 169) rfl (fun q152 => ?_) rfl (fun q152 => ?_)
              · replace h := ed_pos q152 h
                exact J23  _ l18 l19 l21 (hk23  h)
              · replace h := ed_neg q152 h
                refine iq_aload_n hS 156 J_MSquareRows_mends_d155 l18 rfl ?_
                refine iq_getR hS 159 J_MSquareRows_mends_d156 lf_16_58 (Or.inr ⟨_, rfl⟩) (ka_108 hM17) (ra_108_24 hM17) rfl ?_
                refine iq_iload hS 161 J_MSquareRows_mends_d159 l21 rfl ?_
                obtain ⟨g161, h⟩ := ed_gd h
                refine iq_iaload hS 162 J_MSquareRows_mends_d161 ⟨(ka_125 hM17).1, (ka_125 hM17).2, g161.1, ix_lt (kl_125 hM17) g161.2⟩ rfl ?_
                refine iq_if_eq hS 165 J_MSquareRows_mends_d162 (t := 169) rfl (fun q162 => ?_) rfl (fun q162 => ?_)
                · replace h := ed_pos q162 h
                  exact J23  _ l18 l19 l21 (hk23  h)
                · replace h := ed_neg q162 h
                  refine iq_iconst hS 166 J_MSquareRows_mends_d165 (v := 1) (by decide +kernel) rfl ?_
                  refine iq_goto hS J_MSquareRows_mends_d166 (t := 170) rfl ?_
                  exact J22 _ _ l18 l19 l21 (ed_some h)
        exact I11 n11 _ _ _ _ hM8 (lk_1r (lk_1r l9 (by decide)) (by decide)) (lk_1i (lk_1i l10 (by decide)) (by decide)) (lk_1i lk_1s (by decide)) lk_1s hn11
      obtain ⟨r7, hr7, hq7⟩ := h
      obtain ⟨n7, hn7⟩ := lp_n hr7
      have I7 : ∀ (n : Nat) (x31 : Int32) (M32 : im_M) (L' : List (Nat × Value)), lw_S w M32 → im_lk L' 0 = some (.ref 108) → im_lk L' 1 = some (.int p0) → im_lk L' 2 = some (.int p1) → im_lk L' 3 = some (.int x31) → lpn (uc2 (f_MSquareRows_mends_L85 p0 p1)) n (x31, M32) = some r7 → ia (tb_G L xs) (dep + 3) J_MSquareRows_mends (rwI w Q) (85, L', [], M32) := by
        intro n
        induction n with
        | zero => intro x31 M32 L' hM32 l33 l34 l35 l36 hn; exact (lpn_0 hn).elim
        | succ n ih =>
          intro x31 M32 L' hM32 l33 l34 l35 l36 hn
          have h := lpn_ed2 hn
          unfold f_MSquareRows_mends_L85 at h
          refine iq_iload_n hS 86 J_MSquareRows_mends_d85 l36 rfl ?_
          refine iq_iload_n hS 87 J_MSquareRows_mends_d86 l35 rfl ?_
          refine iq_icmp_ge hS 90 J_MSquareRows_mends_d87 (t := 108) rfl (fun q87 => ?_) rfl (fun q87 => ?_)
          · replace h := ed_pos q87 h
            exact K7 _ _ hM32 l33 l34 (lq_r h hq7)
          · replace h := ed_neg q87 h
            refine iq_aload_n hS 91 J_MSquareRows_mends_d90 l33 rfl ?_
            refine iq_getR hS 94 J_MSquareRows_mends_d91 lf_16_49 (Or.inr ⟨_, rfl⟩) (ka_108 hM32) (ra_108_21 hM32) rfl ?_
            refine iq_iload_n hS 95 J_MSquareRows_mends_d94 l36 rfl ?_
            refine iq_aload_n hS 96 J_MSquareRows_mends_d95 l33 rfl ?_
            refine iq_getR hS 99 J_MSquareRows_mends_d96 lf_16_46 (Or.inr ⟨_, rfl⟩) (ka_108 hM32) (ra_108_20 hM32) rfl ?_
            refine iq_iload_n hS 100 J_MSquareRows_mends_d99 l36 rfl ?_
            obtain ⟨g100, h⟩ := ed_gd h
            refine iq_iaload hS 101 J_MSquareRows_mends_d100 ⟨(ka_121 hM32).1, (ka_121 hM32).2, g100.1, ix_lt (kl_121 hM32) g100.2⟩ rfl ?_
            obtain ⟨g101, h⟩ := ed_gd h
            refine iq_iastore hS 102 J_MSquareRows_mends_d101 ⟨(ka_122 hM32).1, (ka_122 hM32).2, g101.1, ix_lt (kl_122 hM32) g101.2⟩ rfl ?_
            refine iq_iincv hS 105 J_MSquareRows_mends_d102 (c := 1) (by decide +kernel) l36 (by decide) rfl ?_
            refine iq_goto hS J_MSquareRows_mends_d105 (t := 85) rfl ?_
            exact ih _ _ _ hM32 (lk_1r l33 (by decide)) (lk_1i l34 (by decide)) (lk_1i l35 (by decide)) lk_1s (lq_l h)
      exact I7 n7 _ _ _ hM6 (lk_1r l3 (by decide)) (lk_1i l4 (by decide)) (lk_1i l5 (by decide)) lk_1s hn7
    · replace h := ed_neg q78 h
      refine iq_iconst hS 82 J_MSquareRows_mends_d81 (v := 0) (by decide +kernel) rfl ?_
      exact iq_iret J_MSquareRows_mends_d82 rfl rfl ⟨_, rfl, hM6, ed_some h⟩
  obtain ⟨r1, hr1, hq1⟩ := h
  obtain ⟨n1, hn1⟩ := lp_n hr1
  have I1 : ∀ (n : Nat) (x37 : Int32) (M38 : im_M) (L' : List (Nat × Value)), lw_S w M38 → im_lk L' 0 = some (.ref 108) → im_lk L' 1 = some (.int p0) → im_lk L' 2 = some (.int p1) → im_lk L' 3 = some (.int x37) → lpn (uc2 (f_MSquareRows_mends_L2 p0 p1)) n (x37, M38) = some r1 → ia (tb_G L xs) (dep + 3) J_MSquareRows_mends (rwI w Q) (2, L', [], M38) := by
    intro n
    induction n with
    | zero => intro x37 M38 L' hM38 l39 l40 l41 l42 hn; exact (lpn_0 hn).elim
    | succ n ih =>
      intro x37 M38 L' hM38 l39 l40 l41 l42 hn
      have h := lpn_ed2 hn
      unfold f_MSquareRows_mends_L2 at h
      refine iq_iload_n hS 3 J_MSquareRows_mends_d2 l42 rfl ?_
      refine iq_iload_n hS 4 J_MSquareRows_mends_d3 l40 rfl ?_
      refine iq_icmp_ge hS 7 J_MSquareRows_mends_d4 (t := 73) rfl (fun q4 => ?_) rfl (fun q4 => ?_)
      · replace h := ed_pos q4 h
        exact K1 _ _ hM38 l39 l40 l41 (lq_r h hq1)
      · replace h := ed_neg q4 h
        refine iq_iconst hS 8 J_MSquareRows_mends_d7 (v := 0) (by decide +kernel) rfl ?_
        refine iq_istore hS 10 J_MSquareRows_mends_d8 (by decide) rfl ?_
        obtain ⟨Q43, hQ43, h⟩ := bd1_ed h
        have K43 : ∀ (M44 : im_M) (L' : List (Nat × Value)), lw_S w M44 → im_lk L' 0 = some (.ref 108) → im_lk L' 1 = some (.int p0) → im_lk L' 2 = some (.int p1) → im_lk L' 3 = some (.int x37) → Q43 M44 → ia (tb_G L xs) (dep + 3) J_MSquareRows_mends (rwI w Q) (50, L', [], M44) := by
          intro M44 L' hM44 l45 l46 l47 l48 h
          replace h := hQ43 _ h
          refine iq_aload_n hS 51 J_MSquareRows_mends_d50 l45 rfl ?_
          refine iq_getR hS 54 J_MSquareRows_mends_d51 lf_16_55 (Or.inr ⟨_, rfl⟩) (ka_108 hM44) (ra_108_23 hM44) rfl ?_
          refine iq_bipush hS 56 J_MSquareRows_mends_d54 (v := 17) (by decide +kernel) rfl ?_
          refine iq_iload_n hS 57 J_MSquareRows_mends_d56 l48 rfl ?_
          refine iq_imul hS 58 J_MSquareRows_mends_d57 rfl ?_
          refine iq_iload_n hS 59 J_MSquareRows_mends_d58 l46 rfl ?_
          refine iq_iadd hS 60 J_MSquareRows_mends_d59 rfl ?_
          refine iq_aload_n hS 61 J_MSquareRows_mends_d60 l45 rfl ?_
          refine iq_getR hS 64 J_MSquareRows_mends_d61 lf_16_52 (Or.inr ⟨_, rfl⟩) (ka_108 hM44) (ra_108_22 hM44) rfl ?_
          refine iq_iload_n hS 65 J_MSquareRows_mends_d64 l48 rfl ?_
          obtain ⟨g65, h⟩ := ed_gd h
          refine iq_iaload hS 66 J_MSquareRows_mends_d65 ⟨(ka_123 hM44).1, (ka_123 hM44).2, g65.1, ix_lt (kl_123 hM44) g65.2⟩ rfl ?_
          obtain ⟨g66, h⟩ := ed_gd h
          refine iq_iastore hS 67 J_MSquareRows_mends_d66 ⟨(ka_124 hM44).1, (ka_124 hM44).2, g66.1, ix_lt (kl_124 hM44) g66.2⟩ rfl ?_
          refine iq_iincv hS 70 J_MSquareRows_mends_d67 (c := 1) (by decide +kernel) l48 (by decide) rfl ?_
          refine iq_goto hS J_MSquareRows_mends_d70 (t := 2) rfl ?_
          exact ih _ _ _ hM44 (lk_1r l45 (by decide)) (lk_1i l46 (by decide)) (lk_1i l47 (by decide)) lk_1s (lq_l h)
        obtain ⟨r43, hr43, hq43⟩ := h
        obtain ⟨n43, hn43⟩ := lp_n hr43
        have I43 : ∀ (n : Nat) (x49 : Int32) (M50 : im_M) (L' : List (Nat × Value)), lw_S w M50 → im_lk L' 0 = some (.ref 108) → im_lk L' 1 = some (.int p0) → im_lk L' 2 = some (.int p1) → im_lk L' 3 = some (.int x37) → im_lk L' 4 = some (.int x49) → lpn (uc2 (f_MSquareRows_mends_L10 p0 p1 x37)) n (x49, M50) = some r43 → ia (tb_G L xs) (dep + 3) J_MSquareRows_mends (rwI w Q) (10, L', [], M50) := by
          intro n
          induction n with
          | zero => intro x49 M50 L' hM50 l51 l52 l53 l54 l55 hn; exact (lpn_0 hn).elim
          | succ n ih =>
            intro x49 M50 L' hM50 l51 l52 l53 l54 l55 hn
            have h := lpn_ed2 hn
            unfold f_MSquareRows_mends_L10 at h
            refine iq_iload hS 12 J_MSquareRows_mends_d10 l55 rfl ?_
            refine iq_iload_n hS 13 J_MSquareRows_mends_d12 l52 rfl ?_
            refine iq_icmp_ge hS 16 J_MSquareRows_mends_d13 (t := 50) rfl (fun q13 => ?_) rfl (fun q13 => ?_)
            · replace h := ed_pos q13 h
              exact K43 _ _ hM50 l51 l52 l53 l54 (lq_r h hq43)
            · replace h := ed_neg q13 h
              refine iq_aload_n hS 17 J_MSquareRows_mends_d16 l51 rfl ?_
              refine iq_getR hS 20 J_MSquareRows_mends_d17 lf_16_55 (Or.inr ⟨_, rfl⟩) (ka_108 hM50) (ra_108_23 hM50) rfl ?_
              refine iq_bipush hS 22 J_MSquareRows_mends_d20 (v := 17) (by decide +kernel) rfl ?_
              refine iq_iload_n hS 23 J_MSquareRows_mends_d22 l54 rfl ?_
              refine iq_imul hS 24 J_MSquareRows_mends_d23 rfl ?_
              refine iq_iload hS 26 J_MSquareRows_mends_d24 l55 rfl ?_
              refine iq_iadd hS 27 J_MSquareRows_mends_d26 rfl ?_
              refine iq_iload_n hS 28 J_MSquareRows_mends_d27 l53 rfl ?_
              refine iq_iconst hS 29 J_MSquareRows_mends_d28 (v := 1) (by decide +kernel) rfl ?_
              refine iq_isub hS 30 J_MSquareRows_mends_d29 rfl ?_
              refine iq_aload_n hS 31 J_MSquareRows_mends_d30 l51 rfl ?_
              refine iq_getR hS 34 J_MSquareRows_mends_d31 lf_16_61 (Or.inr ⟨_, rfl⟩) (ka_108 hM50) (ra_108_25 hM50) rfl ?_
              refine iq_iload hS 36 J_MSquareRows_mends_d34 l55 rfl ?_
              obtain ⟨g36, h⟩ := ed_gd h
              refine iq_iaload hS 37 J_MSquareRows_mends_d36 ⟨(ka_126 hM50).1, (ka_126 hM50).2, g36.1, ix_lt (kl_126 hM50) g36.2⟩ rfl ?_
              refine iq_isub hS 38 J_MSquareRows_mends_d37 rfl ?_
              refine iq_iload_n hS 39 J_MSquareRows_mends_d38 l54 rfl ?_
              refine iq_imul hS 40 J_MSquareRows_mends_d39 rfl ?_
              obtain ⟨Q56, hQ56, h⟩ := bd1_ed h
              refine iq_cpI hS 43 J_MSquareRows_mends_d40 rfl (pr_stat (vs := [_]) lc_16_144 lT_404 rfl rfl (by decide) rfl (Nat.le_of_ble_eq_true rfl) (Nat.le_of_ble_eq_true rfl)) (f_MSquareRows_two_ok (dep := dep + 2) hM50 h) rfl ?_
              intro x56 h
              replace h := hQ56 _ h
              obtain ⟨g43, h⟩ := ed_gd h
              refine iq_iastore hS 44 J_MSquareRows_mends_d43 ⟨(ka_124 hM50).1, (ka_124 hM50).2, g43.1, ix_lt (kl_124 hM50) g43.2⟩ rfl ?_
              refine iq_iincv hS 47 J_MSquareRows_mends_d44 (c := 1) (by decide +kernel) l55 (by decide) rfl ?_
              refine iq_goto hS J_MSquareRows_mends_d47 (t := 10) rfl ?_
              exact ih _ _ _ hM50 (lk_1r l51 (by decide)) (lk_1i l52 (by decide)) (lk_1i l53 (by decide)) (lk_1i l54 (by decide)) lk_1s (lq_l h)
        exact I43 n43 _ _ _ hM38 (lk_1r l39 (by decide)) (lk_1i l40 (by decide)) (lk_1i l41 (by decide)) (lk_1i l42 (by decide)) lk_1s hn43
  exact I1 n1 _ _ _ hM (lk_1r l0 (by decide)) (lk_1i l1 (by decide)) (lk_1i l2 (by decide)) lk_1s hn1
noncomputable def f_MSquareRows_isZero_1_L25 (v9 : Int32) (v10 : Int32) (v11 : Int32) (v12 : Int32) (v13 : Int32) (M16 : im_M) (x14 : Int32) (x15 : Int32) : Option ((Int32 × Int32) ⊕ (Int32)) := if v9 ≤ x15 then some (.inr x14) else bd1 (f_MSquareRows_times x14 v13 M16) fun (x17 : Int32) => gd (inb x15 256) <| some (.inl ((x17 ^^^ (im_i M16 122 (Int32.toNatClampNeg x15))), (x15 + 1)))
noncomputable def f_MSquareRows_isZero_1_L6 (v2 : Int32) (v3 : Int32) (x4 : Int32) (x5 : Int32) (M6 : im_M) : Option ((Int32 × Int32 × im_M) ⊕ (Int32 × im_M)) := if v3 ≤ x5 then some (.inr (x4, M6)) else bd1 (f_MSquareRows_two x5 M6) fun (x7 : Int32) => bd1 (lp (uc2 (f_MSquareRows_isZero_1_L25 v2 v3 x4 x5 x7 M6)) (0, 0)) fun (y18 : Int32) => gd (inb x5 32) <| some (.inl (((if x4 = 0 then 0 else (if ¬ y18 = 0 then 0 else 1)) : Int32), (x5 + 1), (im_setI M6 123 (Int32.toNatClampNeg x5) y18)))
noncomputable def f_MSquareRows_isZero_1 (p1 : Int32) (p2 : Int32) (M : im_M) : Option (Int32 × im_M) := bd2 (lp (uc3 (f_MSquareRows_isZero_1_L6 p1 p2)) (1, 0, M)) fun (y20 : Int32) (M21 : im_M) => gd (y20 = 0 ∨ y20 = 1) <| some (y20, M21)
theorem f_MSquareRows_isZero_1_ok {L : Nat} {xs : Nat → Int32} {dep : Nat} {w : Bool} {p1 : Int32} {p2 : Int32} {M : im_M} {Q : Int32 × im_M → Prop} (hM : lw_S w M) (h : ed (f_MSquareRows_isZero_1 p1 p2 M) Q) : ia (tb_G L xs) (dep + 1) J_MSquareRows_isZero (rwI w Q) (0, lv_args 0 [.ref 108, .ref 122, .int p1, .int p2], [], M) := by
  have hS : im_St (tb_G L xs) (dep + 1) J_MSquareRows_isZero (ia (tb_G L xs) (dep + 1) J_MSquareRows_isZero (rwI w Q)) := ia_St
  unfold f_MSquareRows_isZero_1 at h
  have l0 : im_lk (lv_args 0 [.ref 108, .ref 122, .int p1, .int p2]) 0 = some (.ref 108) := rfl
  have l1 : im_lk (lv_args 0 [.ref 108, .ref 122, .int p1, .int p2]) 1 = some (.ref 122) := rfl
  have l2 : im_lk (lv_args 0 [.ref 108, .ref 122, .int p1, .int p2]) 2 = some (.int p1) := rfl
  have l3 : im_lk (lv_args 0 [.ref 108, .ref 122, .int p1, .int p2]) 3 = some (.int p2) := rfl
  refine iq_iconst hS 1 J_MSquareRows_isZero_d0 (v := 1) (by decide +kernel) rfl ?_
  refine iq_istore hS 3 J_MSquareRows_isZero_d1 (by decide) rfl ?_
  refine iq_iconst hS 4 J_MSquareRows_isZero_d3 (v := 0) (by decide +kernel) rfl ?_
  refine iq_istore hS 6 J_MSquareRows_isZero_d4 (by decide) rfl ?_
  obtain ⟨Q1, hQ1, h⟩ := bd2_ed h
  have K1 : ∀ (y2 : Int32) (M3 : im_M) (L' : List (Nat × Value)), lw_S w M3 → im_lk L' 4 = some (.int y2) → Q1 (y2, M3) → ia (tb_G L xs) (dep + 1) J_MSquareRows_isZero (rwI w Q) (83, L', [], M3) := by
    intro y2 M3 L' hM3 l4 h
    replace h := hQ1 _ _ h
    refine iq_iload hS 85 J_MSquareRows_isZero_d83 l4 rfl ?_
    obtain ⟨g85, h⟩ := ed_gd h
    exact iq_iret J_MSquareRows_isZero_d85 rfl (nar_z g85) ⟨_, rfl, hM3, ed_some h⟩
  obtain ⟨r1, hr1, hq1⟩ := h
  obtain ⟨n1, hn1⟩ := lp_n hr1
  have I1 : ∀ (n : Nat) (x5 : Int32) (x6 : Int32) (M7 : im_M) (L' : List (Nat × Value)), lw_S w M7 → im_lk L' 0 = some (.ref 108) → im_lk L' 1 = some (.ref 122) → im_lk L' 2 = some (.int p1) → im_lk L' 3 = some (.int p2) → im_lk L' 4 = some (.int x5) → im_lk L' 5 = some (.int x6) → lpn (uc3 (f_MSquareRows_isZero_1_L6 p1 p2)) n (x5, x6, M7) = some r1 → ia (tb_G L xs) (dep + 1) J_MSquareRows_isZero (rwI w Q) (6, L', [], M7) := by
    intro n
    induction n with
    | zero => intro x5 x6 M7 L' hM7 l8 l9 l10 l11 l12 l13 hn; exact (lpn_0 hn).elim
    | succ n ih =>
      intro x5 x6 M7 L' hM7 l8 l9 l10 l11 l12 l13 hn
      have h := lpn_ed3 hn
      unfold f_MSquareRows_isZero_1_L6 at h
      refine iq_iload hS 8 J_MSquareRows_isZero_d6 l13 rfl ?_
      refine iq_iload_n hS 9 J_MSquareRows_isZero_d8 l11 rfl ?_
      refine iq_icmp_ge hS 12 J_MSquareRows_isZero_d9 (t := 83) rfl (fun q9 => ?_) rfl (fun q9 => ?_)
      · replace h := ed_pos q9 h
        exact K1 _ _ _ hM7 l12 (lq_r h hq1)
      · replace h := ed_neg q9 h
        refine iq_iload hS 14 J_MSquareRows_isZero_d12 l13 rfl ?_
        obtain ⟨Q14, hQ14, h⟩ := bd1_ed h
        refine iq_cpI hS 17 J_MSquareRows_isZero_d14 rfl (pr_stat (vs := [_]) lc_16_144 lT_404 rfl rfl (by decide) rfl (Nat.le_of_ble_eq_true rfl) (Nat.le_of_ble_eq_true rfl)) (f_MSquareRows_two_ok (dep := dep + 0) hM7 h) rfl ?_
        intro x14 h
        replace h := hQ14 _ h
        refine iq_istore hS 19 J_MSquareRows_isZero_d17 (by decide) rfl ?_
        refine iq_iconst hS 20 J_MSquareRows_isZero_d19 (v := 0) (by decide +kernel) rfl ?_
        refine iq_istore hS 22 J_MSquareRows_isZero_d20 (by decide) rfl ?_
        refine iq_iconst hS 23 J_MSquareRows_isZero_d22 (v := 0) (by decide +kernel) rfl ?_
        refine iq_istore hS 25 J_MSquareRows_isZero_d23 (by decide) rfl ?_
        obtain ⟨Q15, hQ15, h⟩ := bd1_ed h
        have K15 : ∀ (y16 : Int32) (L' : List (Nat × Value)), im_lk L' 0 = some (.ref 108) → im_lk L' 1 = some (.ref 122) → im_lk L' 2 = some (.int p1) → im_lk L' 3 = some (.int p2) → im_lk L' 4 = some (.int x5) → im_lk L' 5 = some (.int x6) → im_lk L' 7 = some (.int y16) → Q15 y16 → ia (tb_G L xs) (dep + 1) J_MSquareRows_isZero (rwI w Q) (51, L', [], M7) := by
          intro y16 L' l17 l18 l19 l20 l21 l22 l23 h
          replace h := hQ15 _ h
          refine iq_aload_n hS 52 J_MSquareRows_isZero_d51 l17 rfl ?_
          refine iq_getR hS 55 J_MSquareRows_isZero_d52 lf_16_52 (Or.inr ⟨_, rfl⟩) (ka_108 hM7) (ra_108_22 hM7) rfl ?_
          refine iq_iload hS 57 J_MSquareRows_isZero_d55 l22 rfl ?_
          refine iq_iload hS 59 J_MSquareRows_isZero_d57 l23 rfl ?_
          obtain ⟨g59, h⟩ := ed_gd h
          refine iq_iastore hS 60 J_MSquareRows_isZero_d59 ⟨(ka_123 hM7).1, (ka_123 hM7).2, g59.1, ix_lt (kl_123 hM7) g59.2⟩ rfl ?_
          refine iq_iload hS 62 J_MSquareRows_isZero_d60 l21 rfl ?_
          have J24 : ∀ (z25 : Int32) (L' : List (Nat × Value)), z25 = ((if x5 = 0 then 0 else (if ¬ y16 = 0 then 0 else 1)) : Int32) → im_lk L' 0 = some (.ref 108) → im_lk L' 1 = some (.ref 122) → im_lk L' 2 = some (.int p1) → im_lk L' 3 = some (.int p2) → im_lk L' 5 = some (.int x6) → ia (tb_G L xs) (dep + 1) J_MSquareRows_isZero (rwI w Q) (75, L', [.int z25], (im_setI M7 123 (Int32.toNatClampNeg x6) y16)) := by
            intro z25 L' e26 l27 l28 l29 l30 l31
            subst e26
            refine iq_istore hS 77 J_MSquareRows_isZero_d75 (by decide) rfl ?_
            refine iq_iincv hS 80 J_MSquareRows_isZero_d77 (c := 1) (by decide +kernel) (lk_1i l31 (by decide)) (by decide) rfl ?_
            refine iq_goto hS J_MSquareRows_isZero_d80 (t := 6) rfl ?_
            exact ih _ _ _ _ hM7 (lk_1r (lk_1r l27 (by decide)) (by decide)) (lk_1r (lk_1r l28 (by decide)) (by decide)) (lk_1i (lk_1i l29 (by decide)) (by decide)) (lk_1i (lk_1i l30 (by decide)) (by decide)) (lk_1i lk_1s (by decide)) lk_1s (lq_l h)
          refine iq_if_eq hS 65 J_MSquareRows_isZero_d62 (t := 74) rfl (fun q62 => ?_) rfl (fun q62 => ?_)
          · refine iq_iconst hS 75 J_MSquareRows_isZero_d74 (v := 0) (by decide +kernel) rfl ?_
            exact J24 _ _ (by rw [if_pos q62]) l17 l18 l19 l20 l22
          · refine iq_iload hS 67 J_MSquareRows_isZero_d65 l23 rfl ?_
            refine iq_if_ne hS 70 J_MSquareRows_isZero_d67 (t := 74) rfl (fun q67 => ?_) rfl (fun q67 => ?_)
            · refine iq_iconst hS 75 J_MSquareRows_isZero_d74 (v := 0) (by decide +kernel) rfl ?_
              exact J24 _ _ (by rw [if_neg q62, if_pos q67]) l17 l18 l19 l20 l22
            · refine iq_iconst hS 71 J_MSquareRows_isZero_d70 (v := 1) (by decide +kernel) rfl ?_
              refine iq_goto hS J_MSquareRows_isZero_d71 (t := 75) rfl ?_
              exact J24 _ _ (by rw [if_neg q62, if_neg q67]) l17 l18 l19 l20 l22
        obtain ⟨r15, hr15, hq15⟩ := h
        obtain ⟨n15, hn15⟩ := lp_n hr15
        have I15 : ∀ (n : Nat) (x32 : Int32) (x33 : Int32) (L' : List (Nat × Value)), im_lk L' 0 = some (.ref 108) → im_lk L' 1 = some (.ref 122) → im_lk L' 2 = some (.int p1) → im_lk L' 3 = some (.int p2) → im_lk L' 4 = some (.int x5) → im_lk L' 5 = some (.int x6) → im_lk L' 6 = some (.int x14) → im_lk L' 7 = some (.int x32) → im_lk L' 8 = some (.int x33) → lpn (uc2 (f_MSquareRows_isZero_1_L25 p1 p2 x5 x6 x14 M7)) n (x32, x33) = some r15 → ia (tb_G L xs) (dep + 1) J_MSquareRows_isZero (rwI w Q) (25, L', [], M7) := by
          intro n
          induction n with
          | zero => intro x32 x33 L' l34 l35 l36 l37 l38 l39 l40 l41 l42 hn; exact (lpn_0 hn).elim
          | succ n ih =>
            intro x32 x33 L' l34 l35 l36 l37 l38 l39 l40 l41 l42 hn
            have h := lpn_ed2 hn
            unfold f_MSquareRows_isZero_1_L25 at h
            refine iq_iload hS 27 J_MSquareRows_isZero_d25 l42 rfl ?_
            refine iq_iload_n hS 28 J_MSquareRows_isZero_d27 l36 rfl ?_
            refine iq_icmp_ge hS 31 J_MSquareRows_isZero_d28 (t := 51) rfl (fun q28 => ?_) rfl (fun q28 => ?_)
            · replace h := ed_pos q28 h
              exact K15 _ _ l34 l35 l36 l37 l38 l39 l41 (lq_r h hq15)
            · replace h := ed_neg q28 h
              refine iq_iload hS 33 J_MSquareRows_isZero_d31 l41 rfl ?_
              refine iq_iload hS 35 J_MSquareRows_isZero_d33 l40 rfl ?_
              obtain ⟨Q43, hQ43, h⟩ := bd1_ed h
              refine iq_cpI hS 38 J_MSquareRows_isZero_d35 rfl (pr_stat (vs := [_, _]) lc_16_147 lT_405 rfl rfl (by decide) rfl (Nat.le_of_ble_eq_true rfl) (Nat.le_of_ble_eq_true rfl)) (f_MSquareRows_times_ok (dep := dep + 0) hM7 h) rfl ?_
              intro x43 h
              replace h := hQ43 _ h
              refine iq_aload_n hS 39 J_MSquareRows_isZero_d38 l35 rfl ?_
              refine iq_iload hS 41 J_MSquareRows_isZero_d39 l42 rfl ?_
              obtain ⟨g41, h⟩ := ed_gd h
              refine iq_iaload hS 42 J_MSquareRows_isZero_d41 ⟨(ka_122 hM7).1, (ka_122 hM7).2, g41.1, ix_lt (kl_122 hM7) g41.2⟩ rfl ?_
              refine iq_ixor hS 43 J_MSquareRows_isZero_d42 rfl ?_
              refine iq_istore hS 45 J_MSquareRows_isZero_d43 (by decide) rfl ?_
              refine iq_iincv hS 48 J_MSquareRows_isZero_d45 (c := 1) (by decide +kernel) (lk_1i l42 (by decide)) (by decide) rfl ?_
              refine iq_goto hS J_MSquareRows_isZero_d48 (t := 25) rfl ?_
              exact ih _ _ _ (lk_1r (lk_1r l34 (by decide)) (by decide)) (lk_1r (lk_1r l35 (by decide)) (by decide)) (lk_1i (lk_1i l36 (by decide)) (by decide)) (lk_1i (lk_1i l37 (by decide)) (by decide)) (lk_1i (lk_1i l38 (by decide)) (by decide)) (lk_1i (lk_1i l39 (by decide)) (by decide)) (lk_1i (lk_1i l40 (by decide)) (by decide)) (lk_1i lk_1s (by decide)) lk_1s (lq_l h)
        exact I15 n15 _ _ _ (lk_1r (lk_1r (lk_1r l8 (by decide)) (by decide)) (by decide)) (lk_1r (lk_1r (lk_1r l9 (by decide)) (by decide)) (by decide)) (lk_1i (lk_1i (lk_1i l10 (by decide)) (by decide)) (by decide)) (lk_1i (lk_1i (lk_1i l11 (by decide)) (by decide)) (by decide)) (lk_1i (lk_1i (lk_1i l12 (by decide)) (by decide)) (by decide)) (lk_1i (lk_1i (lk_1i l13 (by decide)) (by decide)) (by decide)) (lk_1i (lk_1i lk_1s (by decide)) (by decide)) (lk_1i lk_1s (by decide)) lk_1s hn15
  exact I1 n1 _ _ _ _ hM (lk_1r (lk_1r l0 (by decide)) (by decide)) (lk_1r (lk_1r l1 (by decide)) (by decide)) (lk_1i (lk_1i l2 (by decide)) (by decide)) (lk_1i (lk_1i l3 (by decide)) (by decide)) (lk_1i lk_1s (by decide)) lk_1s hn1
noncomputable def f_MSquareRows_correct_L72 (v14 : Int32) (v15 : Int32) (x16 : Int32) (M17 : im_M) : Option ((Int32 × im_M) ⊕ (im_M)) := if v14 ≤ x16 then some (.inr M17) else gd (inb x16 256) <| gd (inb x16 256) <| some (.inl ((x16 + 1), (im_setI M17 121 (Int32.toNatClampNeg x16) (im_i M17 122 (Int32.toNatClampNeg x16)))))
noncomputable def f_MSquareRows_correct_L18 (v3 : Int32) (v4 : Int32) (v5 : Int32) (x6 : Int32) (M7 : im_M) : Option ((Int32 × im_M) ⊕ ((im_M) ⊕ (Int32 × im_M))) := if v5 < x6 then some (.inr (.inl M7)) else bd2 (f_MSquareRows_isZero v3 v4 M7) fun (x8 : Int32) (M8 : im_M) => bd2 (f_MSquareRows_finds x6 v3 M8) fun (x9 : Int32) (M9 : im_M) => jn1 (fun (M19 : im_M) => some (.inl ((x6 + 1), M19))) fun k10 => if x9 = 0 then k10 M9 else bd2 (f_MSquareRows_mends x6 v3 M9) fun (x11 : Int32) (M11 : im_M) => if x11 = 0 then k10 M11 else bd2 (f_MSquareRows_isZero_1 v3 v4 M11) fun (x12 : Int32) (M12 : im_M) => if x12 = 0 then k10 M12 else bd1 (lp (uc2 (f_MSquareRows_correct_L72 v3 x6)) (0, M12)) fun (M18 : im_M) => some (.inr (.inr (x6, M18)))
noncomputable def f_MSquareRows_correct (p0 : Int32) (p1 : Int32) (p2 : Int32) (M : im_M) : Option (Int32 × im_M) := bd2 (f_MSquareRows_isZero p0 p1 M) fun (x1 : Int32) (M1 : im_M) => if x1 = 0 then bs1 (lp (uc2 (f_MSquareRows_correct_L18 p0 p1 p2)) (1, M1)) (fun (M25 : im_M) => some ((-1), M25)) (fun t => some t) else some (0, M1)
theorem J_MSquareRows_correct_d0 : decode J_MSquareRows_correct.2.1 0 = .ok (.aload_n 0, 1) := by decide +kernel
theorem J_MSquareRows_correct_d1 : decode J_MSquareRows_correct.2.1 1 = .ok (.aload_n 0, 1) := by decide +kernel
theorem J_MSquareRows_correct_d2 : decode J_MSquareRows_correct.2.1 2 = .ok (.getfield 46, 3) := by decide +kernel
theorem J_MSquareRows_correct_d5 : decode J_MSquareRows_correct.2.1 5 = .ok (.iload_n 1, 1) := by decide +kernel
theorem J_MSquareRows_correct_d6 : decode J_MSquareRows_correct.2.1 6 = .ok (.iload_n 2, 1) := by decide +kernel
theorem J_MSquareRows_correct_d7 : decode J_MSquareRows_correct.2.1 7 = .ok (.invokevirtual 257, 3) := by decide +kernel
theorem J_MSquareRows_correct_d10 : decode J_MSquareRows_correct.2.1 10 = .ok (.ifCond .eq 5, 3) := by decide +kernel
theorem J_MSquareRows_correct_d13 : decode J_MSquareRows_correct.2.1 13 = .ok (.iconst 0, 1) := by decide +kernel
theorem J_MSquareRows_correct_d14 : decode J_MSquareRows_correct.2.1 14 = .ok (.ireturn, 1) := by decide +kernel
theorem J_MSquareRows_correct_d15 : decode J_MSquareRows_correct.2.1 15 = .ok (.iconst 1, 1) := by decide +kernel
theorem J_MSquareRows_correct_d16 : decode J_MSquareRows_correct.2.1 16 = .ok (.istore 4, 2) := by decide +kernel
theorem J_MSquareRows_correct_d18 : decode J_MSquareRows_correct.2.1 18 = .ok (.iload 4, 2) := by decide +kernel
theorem J_MSquareRows_correct_d20 : decode J_MSquareRows_correct.2.1 20 = .ok (.iload_n 3, 1) := by decide +kernel
theorem J_MSquareRows_correct_d21 : decode J_MSquareRows_correct.2.1 21 = .ok (.if_icmp .gt 86, 3) := by decide +kernel
theorem J_MSquareRows_correct_d24 : decode J_MSquareRows_correct.2.1 24 = .ok (.aload_n 0, 1) := by decide +kernel
theorem J_MSquareRows_correct_d25 : decode J_MSquareRows_correct.2.1 25 = .ok (.aload_n 0, 1) := by decide +kernel
theorem J_MSquareRows_correct_d26 : decode J_MSquareRows_correct.2.1 26 = .ok (.getfield 46, 3) := by decide +kernel
theorem J_MSquareRows_correct_d29 : decode J_MSquareRows_correct.2.1 29 = .ok (.iload_n 1, 1) := by decide +kernel
theorem J_MSquareRows_correct_d30 : decode J_MSquareRows_correct.2.1 30 = .ok (.iload_n 2, 1) := by decide +kernel
theorem J_MSquareRows_correct_d31 : decode J_MSquareRows_correct.2.1 31 = .ok (.invokevirtual 257, 3) := by decide +kernel
theorem J_MSquareRows_correct_d34 : decode J_MSquareRows_correct.2.1 34 = .ok (.istore 5, 2) := by decide +kernel
theorem J_MSquareRows_correct_d36 : decode J_MSquareRows_correct.2.1 36 = .ok (.aload_n 0, 1) := by decide +kernel
theorem J_MSquareRows_correct_d37 : decode J_MSquareRows_correct.2.1 37 = .ok (.iload 4, 2) := by decide +kernel
theorem J_MSquareRows_correct_d39 : decode J_MSquareRows_correct.2.1 39 = .ok (.iload_n 1, 1) := by decide +kernel
theorem J_MSquareRows_correct_d40 : decode J_MSquareRows_correct.2.1 40 = .ok (.invokevirtual 261, 3) := by decide +kernel
theorem J_MSquareRows_correct_d43 : decode J_MSquareRows_correct.2.1 43 = .ok (.ifCond .eq 58, 3) := by decide +kernel
theorem J_MSquareRows_correct_d46 : decode J_MSquareRows_correct.2.1 46 = .ok (.aload_n 0, 1) := by decide +kernel
theorem J_MSquareRows_correct_d47 : decode J_MSquareRows_correct.2.1 47 = .ok (.iload 4, 2) := by decide +kernel
theorem J_MSquareRows_correct_d49 : decode J_MSquareRows_correct.2.1 49 = .ok (.iload_n 1, 1) := by decide +kernel
theorem J_MSquareRows_correct_d50 : decode J_MSquareRows_correct.2.1 50 = .ok (.invokevirtual 264, 3) := by decide +kernel
theorem J_MSquareRows_correct_d53 : decode J_MSquareRows_correct.2.1 53 = .ok (.ifCond .eq 48, 3) := by decide +kernel
theorem J_MSquareRows_correct_d56 : decode J_MSquareRows_correct.2.1 56 = .ok (.aload_n 0, 1) := by decide +kernel
theorem J_MSquareRows_correct_d57 : decode J_MSquareRows_correct.2.1 57 = .ok (.aload_n 0, 1) := by decide +kernel
theorem J_MSquareRows_correct_d58 : decode J_MSquareRows_correct.2.1 58 = .ok (.getfield 49, 3) := by decide +kernel
theorem J_MSquareRows_correct_d61 : decode J_MSquareRows_correct.2.1 61 = .ok (.iload_n 1, 1) := by decide +kernel
theorem J_MSquareRows_correct_d62 : decode J_MSquareRows_correct.2.1 62 = .ok (.iload_n 2, 1) := by decide +kernel
theorem J_MSquareRows_correct_d63 : decode J_MSquareRows_correct.2.1 63 = .ok (.invokevirtual 257, 3) := by decide +kernel
theorem J_MSquareRows_correct_d66 : decode J_MSquareRows_correct.2.1 66 = .ok (.ifCond .eq 35, 3) := by decide +kernel
theorem J_MSquareRows_correct_d69 : decode J_MSquareRows_correct.2.1 69 = .ok (.iconst 0, 1) := by decide +kernel
theorem J_MSquareRows_correct_d70 : decode J_MSquareRows_correct.2.1 70 = .ok (.istore 6, 2) := by decide +kernel
theorem J_MSquareRows_correct_d72 : decode J_MSquareRows_correct.2.1 72 = .ok (.iload 6, 2) := by decide +kernel
theorem J_MSquareRows_correct_d74 : decode J_MSquareRows_correct.2.1 74 = .ok (.iload_n 1, 1) := by decide +kernel
theorem J_MSquareRows_correct_d75 : decode J_MSquareRows_correct.2.1 75 = .ok (.if_icmp .ge 23, 3) := by decide +kernel
theorem J_MSquareRows_correct_d78 : decode J_MSquareRows_correct.2.1 78 = .ok (.aload_n 0, 1) := by decide +kernel
theorem J_MSquareRows_correct_d79 : decode J_MSquareRows_correct.2.1 79 = .ok (.getfield 46, 3) := by decide +kernel
theorem J_MSquareRows_correct_d82 : decode J_MSquareRows_correct.2.1 82 = .ok (.iload 6, 2) := by decide +kernel
theorem J_MSquareRows_correct_d84 : decode J_MSquareRows_correct.2.1 84 = .ok (.aload_n 0, 1) := by decide +kernel
theorem J_MSquareRows_correct_d85 : decode J_MSquareRows_correct.2.1 85 = .ok (.getfield 49, 3) := by decide +kernel
theorem J_MSquareRows_correct_d88 : decode J_MSquareRows_correct.2.1 88 = .ok (.iload 6, 2) := by decide +kernel
theorem J_MSquareRows_correct_d90 : decode J_MSquareRows_correct.2.1 90 = .ok (.iaload, 1) := by decide +kernel
theorem J_MSquareRows_correct_d91 : decode J_MSquareRows_correct.2.1 91 = .ok (.iastore, 1) := by decide +kernel
theorem J_MSquareRows_correct_d92 : decode J_MSquareRows_correct.2.1 92 = .ok (.iinc 6 1, 3) := by decide +kernel
theorem J_MSquareRows_correct_d95 : decode J_MSquareRows_correct.2.1 95 = .ok (.goto (-23), 3) := by decide +kernel
theorem J_MSquareRows_correct_d98 : decode J_MSquareRows_correct.2.1 98 = .ok (.iload 4, 2) := by decide +kernel
theorem J_MSquareRows_correct_d100 : decode J_MSquareRows_correct.2.1 100 = .ok (.ireturn, 1) := by decide +kernel
theorem J_MSquareRows_correct_d101 : decode J_MSquareRows_correct.2.1 101 = .ok (.iinc 4 1, 3) := by decide +kernel
theorem J_MSquareRows_correct_d104 : decode J_MSquareRows_correct.2.1 104 = .ok (.goto (-86), 3) := by decide +kernel
theorem J_MSquareRows_correct_d107 : decode J_MSquareRows_correct.2.1 107 = .ok (.iconst (-1), 1) := by decide +kernel
theorem J_MSquareRows_correct_d108 : decode J_MSquareRows_correct.2.1 108 = .ok (.ireturn, 1) := by decide +kernel
theorem f_MSquareRows_correct_ok {L : Nat} {xs : Nat → Int32} {dep : Nat} {w : Bool} {p0 : Int32} {p1 : Int32} {p2 : Int32} {M : im_M} {Q : Int32 × im_M → Prop} (hM : lw_S w M) (h : ed (f_MSquareRows_correct p0 p1 p2 M) Q) : ia (tb_G L xs) (dep + 4) J_MSquareRows_correct (rwI w Q) (0, lv_args 0 [.ref 108, .int p0, .int p1, .int p2], [], M) := by
  have hS : im_St (tb_G L xs) (dep + 4) J_MSquareRows_correct (ia (tb_G L xs) (dep + 4) J_MSquareRows_correct (rwI w Q)) := ia_St
  unfold f_MSquareRows_correct at h
  have l0 : im_lk (lv_args 0 [.ref 108, .int p0, .int p1, .int p2]) 0 = some (.ref 108) := rfl
  have l1 : im_lk (lv_args 0 [.ref 108, .int p0, .int p1, .int p2]) 1 = some (.int p0) := rfl
  have l2 : im_lk (lv_args 0 [.ref 108, .int p0, .int p1, .int p2]) 2 = some (.int p1) := rfl
  have l3 : im_lk (lv_args 0 [.ref 108, .int p0, .int p1, .int p2]) 3 = some (.int p2) := rfl
  refine iq_aload_n hS 1 J_MSquareRows_correct_d0 l0 rfl ?_
  refine iq_aload_n hS 2 J_MSquareRows_correct_d1 l0 rfl ?_
  refine iq_getR hS 5 J_MSquareRows_correct_d2 lf_16_46 (Or.inr ⟨_, rfl⟩) (ka_108 hM) (ra_108_20 hM) rfl ?_
  refine iq_iload_n hS 6 J_MSquareRows_correct_d5 l1 rfl ?_
  refine iq_iload_n hS 7 J_MSquareRows_correct_d6 l2 rfl ?_
  obtain ⟨Q1, hQ1, h⟩ := bd2_ed h
  refine iq_cwI hS 10 J_MSquareRows_correct_d7 rfl (pr_inst (vs := [_, _, _]) lc_16_257 lT_489 rfl rfl (by decide) (by decide) rfl (Nat.le_of_ble_eq_true rfl) (Nat.le_of_ble_eq_true rfl) (fun _ => Or.inl (pr_b (ka_108 hM) (by decide) rfl))) (f_MSquareRows_isZero_ok (dep := dep + 2) hM h) rfl ?_
  intro x1 M1 hM1 h
  replace h := hQ1 _ _ h
  refine iq_if_eq hS 13 J_MSquareRows_correct_d10 (t := 15) rfl (fun q10 => ?_) rfl (fun q10 => ?_)
  · replace h := ed_pos q10 h
    refine iq_iconst hS 16 J_MSquareRows_correct_d15 (v := 1) (by decide +kernel) rfl ?_
    refine iq_istore hS 18 J_MSquareRows_correct_d16 (by decide) rfl ?_
    obtain ⟨Q2, hQ2, hR2, h⟩ := bs1_ed h
    have K2 : ∀ (M3 : im_M) (L' : List (Nat × Value)), lw_S w M3 → Q2 (.inl M3) → ia (tb_G L xs) (dep + 4) J_MSquareRows_correct (rwI w Q) (107, L', [], M3) := by
      intro M3 L' hM3  h
      replace h := hQ2 _ h
      refine iq_iconst hS 108 J_MSquareRows_correct_d107 (v := (-1)) (by decide +kernel) rfl ?_
      exact iq_iret J_MSquareRows_correct_d108 rfl rfl ⟨_, rfl, hM3, ed_some h⟩
    obtain ⟨r2, hr2, hq2⟩ := h
    obtain ⟨n2, hn2⟩ := lp_n hr2
    have I2 : ∀ (n : Nat) (x4 : Int32) (M5 : im_M) (L' : List (Nat × Value)), lw_S w M5 → im_lk L' 0 = some (.ref 108) → im_lk L' 1 = some (.int p0) → im_lk L' 2 = some (.int p1) → im_lk L' 3 = some (.int p2) → im_lk L' 4 = some (.int x4) → lpn (uc2 (f_MSquareRows_correct_L18 p0 p1 p2)) n (x4, M5) = some r2 → ia (tb_G L xs) (dep + 4) J_MSquareRows_correct (rwI w Q) (18, L', [], M5) := by
      intro n
      induction n with
      | zero => intro x4 M5 L' hM5 l6 l7 l8 l9 l10 hn; exact (lpn_0 hn).elim
      | succ n ih =>
        intro x4 M5 L' hM5 l6 l7 l8 l9 l10 hn
        have h := lpn_ed2 hn
        unfold f_MSquareRows_correct_L18 at h
        refine iq_iload hS 20 J_MSquareRows_correct_d18 l10 rfl ?_
        refine iq_iload_n hS 21 J_MSquareRows_correct_d20 l9 rfl ?_
        refine iq_icmp_gt hS 24 J_MSquareRows_correct_d21 (t := 107) rfl (fun q21 => ?_) rfl (fun q21 => ?_)
        · replace h := ed_pos q21 h
          exact K2 _ _ hM5  (lq_r h hq2)
        · replace h := ed_neg q21 h
          refine iq_aload_n hS 25 J_MSquareRows_correct_d24 l6 rfl ?_
          refine iq_aload_n hS 26 J_MSquareRows_correct_d25 l6 rfl ?_
          refine iq_getR hS 29 J_MSquareRows_correct_d26 lf_16_46 (Or.inr ⟨_, rfl⟩) (ka_108 hM5) (ra_108_20 hM5) rfl ?_
          refine iq_iload_n hS 30 J_MSquareRows_correct_d29 l7 rfl ?_
          refine iq_iload_n hS 31 J_MSquareRows_correct_d30 l8 rfl ?_
          obtain ⟨Q11, hQ11, h⟩ := bd2_ed h
          refine iq_cwI hS 34 J_MSquareRows_correct_d31 rfl (pr_inst (vs := [_, _, _]) lc_16_257 lT_489 rfl rfl (by decide) (by decide) rfl (Nat.le_of_ble_eq_true rfl) (Nat.le_of_ble_eq_true rfl) (fun _ => Or.inl (pr_b (ka_108 hM5) (by decide) rfl))) (f_MSquareRows_isZero_ok (dep := dep + 2) hM5 h) rfl ?_
          intro x11 M11 hM11 h
          replace h := hQ11 _ _ h
          refine iq_istore hS 36 J_MSquareRows_correct_d34 (by decide) rfl ?_
          refine iq_aload_n hS 37 J_MSquareRows_correct_d36 (lk_1r l6 (by decide)) rfl ?_
          refine iq_iload hS 39 J_MSquareRows_correct_d37 (lk_1i l10 (by decide)) rfl ?_
          refine iq_iload_n hS 40 J_MSquareRows_correct_d39 (lk_1i l7 (by decide)) rfl ?_
          obtain ⟨Q12, hQ12, h⟩ := bd2_ed h
          refine iq_cwI hS 43 J_MSquareRows_correct_d40 rfl (pr_inst (vs := [_, _]) lc_16_261 lT_490 rfl rfl (by decide) (by decide) rfl (Nat.le_of_ble_eq_true rfl) (Nat.le_of_ble_eq_true rfl) (fun _ => Or.inl (pr_b (ka_108 hM11) (by decide) rfl))) (f_MSquareRows_finds_ok (dep := dep + 0) hM11 h) rfl ?_
          intro x12 M12 hM12 h
          replace h := hQ12 _ _ h
          obtain ⟨k13, Q13, hQ13, hk13, h⟩ := jn1_ed h
          have J13 : ∀ (M25 : im_M) (L' : List (Nat × Value)), lw_S w M25 → im_lk L' 0 = some (.ref 108) → im_lk L' 1 = some (.int p0) → im_lk L' 2 = some (.int p1) → im_lk L' 3 = some (.int p2) → im_lk L' 4 = some (.int x4) → Q13 M25 → ia (tb_G L xs) (dep + 4) J_MSquareRows_correct (rwI w Q) (101, L', [], M25) := by
            intro M25 L' hM25 l26 l27 l28 l29 l30 h
            replace h := hQ13 _ h
            refine iq_iincv hS 104 J_MSquareRows_correct_d101 (c := 1) (by decide +kernel) l30 (by decide) rfl ?_
            refine iq_goto hS J_MSquareRows_correct_d104 (t := 18) rfl ?_
            exact ih _ _ _ hM25 (lk_1r l26 (by decide)) (lk_1i l27 (by decide)) (lk_1i l28 (by decide)) (lk_1i l29 (by decide)) lk_1s (lq_l h)
          refine iq_if_eq hS 46 J_MSquareRows_correct_d43 (t := 101) rfl (fun q43 => ?_) rfl (fun q43 => ?_)
          · replace h := ed_pos q43 h
            exact J13 _ _ hM12 (lk_1r l6 (by decide)) (lk_1i l7 (by decide)) (lk_1i l8 (by decide)) (lk_1i l9 (by decide)) (lk_1i l10 (by decide)) (hk13 _ h)
          · replace h := ed_neg q43 h
            refine iq_aload_n hS 47 J_MSquareRows_correct_d46 (lk_1r l6 (by decide)) rfl ?_
            refine iq_iload hS 49 J_MSquareRows_correct_d47 (lk_1i l10 (by decide)) rfl ?_
            refine iq_iload_n hS 50 J_MSquareRows_correct_d49 (lk_1i l7 (by decide)) rfl ?_
            obtain ⟨Q14, hQ14, h⟩ := bd2_ed h
            refine iq_cwI hS 53 J_MSquareRows_correct_d50 rfl (pr_inst (vs := [_, _]) lc_16_264 lT_493 rfl rfl (by decide) (by decide) rfl (Nat.le_of_ble_eq_true rfl) (Nat.le_of_ble_eq_true rfl) (fun _ => Or.inl (pr_b (ka_108 hM12) (by decide) rfl))) (f_MSquareRows_mends_ok (dep := dep + 0) hM12 h) rfl ?_
            intro x14 M14 hM14 h
            replace h := hQ14 _ _ h
            refine iq_if_eq hS 56 J_MSquareRows_correct_d53 (t := 101) rfl (fun q53 => ?_) rfl (fun q53 => ?_)
            · replace h := ed_pos q53 h
              exact J13 _ _ hM14 (lk_1r l6 (by decide)) (lk_1i l7 (by decide)) (lk_1i l8 (by decide)) (lk_1i l9 (by decide)) (lk_1i l10 (by decide)) (hk13 _ h)
            · replace h := ed_neg q53 h
              refine iq_aload_n hS 57 J_MSquareRows_correct_d56 (lk_1r l6 (by decide)) rfl ?_
              refine iq_aload_n hS 58 J_MSquareRows_correct_d57 (lk_1r l6 (by decide)) rfl ?_
              refine iq_getR hS 61 J_MSquareRows_correct_d58 lf_16_49 (Or.inr ⟨_, rfl⟩) (ka_108 hM14) (ra_108_21 hM14) rfl ?_
              refine iq_iload_n hS 62 J_MSquareRows_correct_d61 (lk_1i l7 (by decide)) rfl ?_
              refine iq_iload_n hS 63 J_MSquareRows_correct_d62 (lk_1i l8 (by decide)) rfl ?_
              obtain ⟨Q15, hQ15, h⟩ := bd2_ed h
              refine iq_cwI hS 66 J_MSquareRows_correct_d63 rfl (pr_inst (vs := [_, _, _]) lc_16_257 lT_489 rfl rfl (by decide) (by decide) rfl (Nat.le_of_ble_eq_true rfl) (Nat.le_of_ble_eq_true rfl) (fun _ => Or.inl (pr_b (ka_108 hM14) (by decide) rfl))) (f_MSquareRows_isZero_1_ok (dep := dep + 2) hM14 h) rfl ?_
              intro x15 M15 hM15 h
              replace h := hQ15 _ _ h
              refine iq_if_eq hS 69 J_MSquareRows_correct_d66 (t := 101) rfl (fun q66 => ?_) rfl (fun q66 => ?_)
              · replace h := ed_pos q66 h
                exact J13 _ _ hM15 (lk_1r l6 (by decide)) (lk_1i l7 (by decide)) (lk_1i l8 (by decide)) (lk_1i l9 (by decide)) (lk_1i l10 (by decide)) (hk13 _ h)
              · replace h := ed_neg q66 h
                refine iq_iconst hS 70 J_MSquareRows_correct_d69 (v := 0) (by decide +kernel) rfl ?_
                refine iq_istore hS 72 J_MSquareRows_correct_d70 (by decide) rfl ?_
                obtain ⟨Q16, hQ16, h⟩ := bd1_ed h
                have K16 : ∀ (M17 : im_M) (L' : List (Nat × Value)), lw_S w M17 → im_lk L' 4 = some (.int x4) → Q16 M17 → ia (tb_G L xs) (dep + 4) J_MSquareRows_correct (rwI w Q) (98, L', [], M17) := by
                  intro M17 L' hM17 l18 h
                  replace h := hQ16 _ h
                  refine iq_iload hS 100 J_MSquareRows_correct_d98 l18 rfl ?_
                  exact iq_iret J_MSquareRows_correct_d100 rfl rfl ⟨_, rfl, hM17, ed_some (hR2 _ (lq_r h hq2))⟩
                obtain ⟨r16, hr16, hq16⟩ := h
                obtain ⟨n16, hn16⟩ := lp_n hr16
                have I16 : ∀ (n : Nat) (x19 : Int32) (M20 : im_M) (L' : List (Nat × Value)), lw_S w M20 → im_lk L' 0 = some (.ref 108) → im_lk L' 1 = some (.int p0) → im_lk L' 4 = some (.int x4) → im_lk L' 6 = some (.int x19) → lpn (uc2 (f_MSquareRows_correct_L72 p0 x4)) n (x19, M20) = some r16 → ia (tb_G L xs) (dep + 4) J_MSquareRows_correct (rwI w Q) (72, L', [], M20) := by
                  intro n
                  induction n with
                  | zero => intro x19 M20 L' hM20 l21 l22 l23 l24 hn; exact (lpn_0 hn).elim
                  | succ n ih =>
                    intro x19 M20 L' hM20 l21 l22 l23 l24 hn
                    have h := lpn_ed2 hn
                    unfold f_MSquareRows_correct_L72 at h
                    refine iq_iload hS 74 J_MSquareRows_correct_d72 l24 rfl ?_
                    refine iq_iload_n hS 75 J_MSquareRows_correct_d74 l22 rfl ?_
                    refine iq_icmp_ge hS 78 J_MSquareRows_correct_d75 (t := 98) rfl (fun q75 => ?_) rfl (fun q75 => ?_)
                    · replace h := ed_pos q75 h
                      exact K16 _ _ hM20 l23 (lq_r h hq16)
                    · replace h := ed_neg q75 h
                      refine iq_aload_n hS 79 J_MSquareRows_correct_d78 l21 rfl ?_
                      refine iq_getR hS 82 J_MSquareRows_correct_d79 lf_16_46 (Or.inr ⟨_, rfl⟩) (ka_108 hM20) (ra_108_20 hM20) rfl ?_
                      refine iq_iload hS 84 J_MSquareRows_correct_d82 l24 rfl ?_
                      refine iq_aload_n hS 85 J_MSquareRows_correct_d84 l21 rfl ?_
                      refine iq_getR hS 88 J_MSquareRows_correct_d85 lf_16_49 (Or.inr ⟨_, rfl⟩) (ka_108 hM20) (ra_108_21 hM20) rfl ?_
                      refine iq_iload hS 90 J_MSquareRows_correct_d88 l24 rfl ?_
                      obtain ⟨g90, h⟩ := ed_gd h
                      refine iq_iaload hS 91 J_MSquareRows_correct_d90 ⟨(ka_122 hM20).1, (ka_122 hM20).2, g90.1, ix_lt (kl_122 hM20) g90.2⟩ rfl ?_
                      obtain ⟨g91, h⟩ := ed_gd h
                      refine iq_iastore hS 92 J_MSquareRows_correct_d91 ⟨(ka_121 hM20).1, (ka_121 hM20).2, g91.1, ix_lt (kl_121 hM20) g91.2⟩ rfl ?_
                      refine iq_iincv hS 95 J_MSquareRows_correct_d92 (c := 1) (by decide +kernel) l24 (by decide) rfl ?_
                      refine iq_goto hS J_MSquareRows_correct_d95 (t := 72) rfl ?_
                      exact ih _ _ _ hM20 (lk_1r l21 (by decide)) (lk_1i l22 (by decide)) (lk_1i l23 (by decide)) lk_1s (lq_l h)
                exact I16 n16 _ _ _ hM15 (lk_1r (lk_1r l6 (by decide)) (by decide)) (lk_1i (lk_1i l7 (by decide)) (by decide)) (lk_1i (lk_1i l10 (by decide)) (by decide)) lk_1s hn16
    exact I2 n2 _ _ _ hM1 (lk_1r l0 (by decide)) (lk_1i l1 (by decide)) (lk_1i l2 (by decide)) (lk_1i l3 (by decide)) lk_1s hn2
  · replace h := ed_neg q10 h
    refine iq_iconst hS 14 J_MSquareRows_correct_d13 (v := 0) (by decide +kernel) rfl ?_
    exact iq_iret J_MSquareRows_correct_d14 rfl rfl ⟨_, rfl, hM1, ed_some h⟩
noncomputable def f_MSquareRows_allBlocks_L37 (v12 : Int32) (v13 : Int32) (v14 : Int32) (v15 : Int32) (v16 : Int32) (v17 : Int32) (x18 : Int32) (M19 : im_M) : Option ((Int32 × im_M) ⊕ (im_M)) := if (v17 + v14) ≤ x18 then some (.inr M19) else bd1 (f_MSquareRows_placeOf v12 v13 v16 x18 M19) fun (x20 : Int32) => gd (inb x20 3800) <| gd (inb x18 256) <| some (.inl ((x18 + 1), (im_setI M19 121 (Int32.toNatClampNeg x18) (im_i M19 120 (Int32.toNatClampNeg x20)))))
noncomputable def f_MSquareRows_allBlocks_L121 (v26 : Int32) (v27 : Int32) (v28 : Int32) (v29 : Int32) (v30 : Int32) (v31 : Int32) (v32 : Int32) (x33 : Int32) (M34 : im_M) : Option ((Int32 × im_M) ⊕ (im_M)) := if v31 ≤ x33 then some (.inr M34) else gd (inb x33 256) <| gd (inb (v32 + x33) 3800) <| some (.inl ((x33 + 1), (im_setI M34 119 (Int32.toNatClampNeg (v32 + x33)) (im_i M34 121 (Int32.toNatClampNeg x33)))))
noncomputable def f_MSquareRows_allBlocks_L13 (v3 : Int32) (v4 : Int32) (v5 : Int32) (x6 : Int32) (x7 : Int32) (M8 : im_M) : Option ((Int32 × Int32 × im_M) ⊕ ((Int32 × im_M) ⊕ (Int32 × im_M))) := bd1 (f_MSquareRows_blocksOf v3 v4 M8) fun (x9 : Int32) => if x9 ≤ x7 then some (.inr (.inl (x6, M8))) else bd1 (f_MSquareRows_shareOf v3 v4 x7 M8) fun (x10 : Int32) => bd1 (lp (uc2 (f_MSquareRows_allBlocks_L37 v3 v4 v5 x6 x7 x10)) (0, M8)) fun (M21 : im_M) => bd1 (f_MSquareRows_spared v3 v4 M21) fun (x22 : Int32) => bd2 (f_MSquareRows_correct (x10 + v5) v5 ((v5 - x22) / 2) M21) fun (x23 : Int32) (M23 : im_M) => if 0 ≤ x23 then bd1 (f_MSquareRows_startOf v3 v4 x7 M23) fun (x24 : Int32) => bd1 (lp (uc2 (f_MSquareRows_allBlocks_L121 v3 v4 v5 (x6 + x23) x7 x10 x24)) (0, M23)) fun (M35 : im_M) => some (.inl ((x6 + x23), (x7 + 1), M35)) else some (.inr (.inr ((-1), M23)))
noncomputable def f_MSquareRows_allBlocks (p0 : Int32) (p1 : Int32) (M : im_M) : Option (Int32 × im_M) := bd1 (f_MSquareRows_checkOf p0 p1 M) fun (x1 : Int32) => bs2 (lp (uc3 (f_MSquareRows_allBlocks_L13 p0 p1 x1)) (0, 0, M)) (fun (y36 : Int32) (M37 : im_M) => some (y36, M37)) (fun t => some t)
theorem J_MSquareRows_allBlocks_d0 : decode J_MSquareRows_allBlocks.2.1 0 = .ok (.aload_n 0, 1) := by decide +kernel
theorem J_MSquareRows_allBlocks_d1 : decode J_MSquareRows_allBlocks.2.1 1 = .ok (.iload_n 1, 1) := by decide +kernel
theorem J_MSquareRows_allBlocks_d2 : decode J_MSquareRows_allBlocks.2.1 2 = .ok (.iload_n 2, 1) := by decide +kernel
theorem J_MSquareRows_allBlocks_d3 : decode J_MSquareRows_allBlocks.2.1 3 = .ok (.invokevirtual 86, 3) := by decide +kernel
theorem J_MSquareRows_allBlocks_d6 : decode J_MSquareRows_allBlocks.2.1 6 = .ok (.istore_n 3, 1) := by decide +kernel
theorem J_MSquareRows_allBlocks_d7 : decode J_MSquareRows_allBlocks.2.1 7 = .ok (.iconst 0, 1) := by decide +kernel
theorem J_MSquareRows_allBlocks_d8 : decode J_MSquareRows_allBlocks.2.1 8 = .ok (.istore 4, 2) := by decide +kernel
theorem J_MSquareRows_allBlocks_d10 : decode J_MSquareRows_allBlocks.2.1 10 = .ok (.iconst 0, 1) := by decide +kernel
theorem J_MSquareRows_allBlocks_d11 : decode J_MSquareRows_allBlocks.2.1 11 = .ok (.istore 5, 2) := by decide +kernel
theorem J_MSquareRows_allBlocks_d13 : decode J_MSquareRows_allBlocks.2.1 13 = .ok (.iload 5, 2) := by decide +kernel
theorem J_MSquareRows_allBlocks_d15 : decode J_MSquareRows_allBlocks.2.1 15 = .ok (.aload_n 0, 1) := by decide +kernel
theorem J_MSquareRows_allBlocks_d16 : decode J_MSquareRows_allBlocks.2.1 16 = .ok (.iload_n 1, 1) := by decide +kernel
theorem J_MSquareRows_allBlocks_d17 : decode J_MSquareRows_allBlocks.2.1 17 = .ok (.iload_n 2, 1) := by decide +kernel
theorem J_MSquareRows_allBlocks_d18 : decode J_MSquareRows_allBlocks.2.1 18 = .ok (.invokevirtual 90, 3) := by decide +kernel
theorem J_MSquareRows_allBlocks_d21 : decode J_MSquareRows_allBlocks.2.1 21 = .ok (.if_icmp .ge 136, 3) := by decide +kernel
theorem J_MSquareRows_allBlocks_d24 : decode J_MSquareRows_allBlocks.2.1 24 = .ok (.aload_n 0, 1) := by decide +kernel
theorem J_MSquareRows_allBlocks_d25 : decode J_MSquareRows_allBlocks.2.1 25 = .ok (.iload_n 1, 1) := by decide +kernel
theorem J_MSquareRows_allBlocks_d26 : decode J_MSquareRows_allBlocks.2.1 26 = .ok (.iload_n 2, 1) := by decide +kernel
theorem J_MSquareRows_allBlocks_d27 : decode J_MSquareRows_allBlocks.2.1 27 = .ok (.iload 5, 2) := by decide +kernel
theorem J_MSquareRows_allBlocks_d29 : decode J_MSquareRows_allBlocks.2.1 29 = .ok (.invokevirtual 150, 3) := by decide +kernel
theorem J_MSquareRows_allBlocks_d32 : decode J_MSquareRows_allBlocks.2.1 32 = .ok (.istore 6, 2) := by decide +kernel
theorem J_MSquareRows_allBlocks_d34 : decode J_MSquareRows_allBlocks.2.1 34 = .ok (.iconst 0, 1) := by decide +kernel
theorem J_MSquareRows_allBlocks_d35 : decode J_MSquareRows_allBlocks.2.1 35 = .ok (.istore 7, 2) := by decide +kernel
theorem J_MSquareRows_allBlocks_d37 : decode J_MSquareRows_allBlocks.2.1 37 = .ok (.iload 7, 2) := by decide +kernel
theorem J_MSquareRows_allBlocks_d39 : decode J_MSquareRows_allBlocks.2.1 39 = .ok (.iload 6, 2) := by decide +kernel
theorem J_MSquareRows_allBlocks_d41 : decode J_MSquareRows_allBlocks.2.1 41 = .ok (.iload_n 3, 1) := by decide +kernel
theorem J_MSquareRows_allBlocks_d42 : decode J_MSquareRows_allBlocks.2.1 42 = .ok (.iadd, 1) := by decide +kernel
theorem J_MSquareRows_allBlocks_d43 : decode J_MSquareRows_allBlocks.2.1 43 = .ok (.if_icmp .ge 31, 3) := by decide +kernel
theorem J_MSquareRows_allBlocks_d46 : decode J_MSquareRows_allBlocks.2.1 46 = .ok (.aload_n 0, 1) := by decide +kernel
theorem J_MSquareRows_allBlocks_d47 : decode J_MSquareRows_allBlocks.2.1 47 = .ok (.getfield 46, 3) := by decide +kernel
theorem J_MSquareRows_allBlocks_d50 : decode J_MSquareRows_allBlocks.2.1 50 = .ok (.iload 7, 2) := by decide +kernel
theorem J_MSquareRows_allBlocks_d52 : decode J_MSquareRows_allBlocks.2.1 52 = .ok (.aload_n 0, 1) := by decide +kernel
theorem J_MSquareRows_allBlocks_d53 : decode J_MSquareRows_allBlocks.2.1 53 = .ok (.getfield 43, 3) := by decide +kernel
theorem J_MSquareRows_allBlocks_d56 : decode J_MSquareRows_allBlocks.2.1 56 = .ok (.aload_n 0, 1) := by decide +kernel
theorem J_MSquareRows_allBlocks_d57 : decode J_MSquareRows_allBlocks.2.1 57 = .ok (.iload_n 1, 1) := by decide +kernel
theorem J_MSquareRows_allBlocks_d58 : decode J_MSquareRows_allBlocks.2.1 58 = .ok (.iload_n 2, 1) := by decide +kernel
theorem J_MSquareRows_allBlocks_d59 : decode J_MSquareRows_allBlocks.2.1 59 = .ok (.iload 5, 2) := by decide +kernel
theorem J_MSquareRows_allBlocks_d61 : decode J_MSquareRows_allBlocks.2.1 61 = .ok (.iload 7, 2) := by decide +kernel
theorem J_MSquareRows_allBlocks_d63 : decode J_MSquareRows_allBlocks.2.1 63 = .ok (.invokevirtual 160, 3) := by decide +kernel
theorem J_MSquareRows_allBlocks_d66 : decode J_MSquareRows_allBlocks.2.1 66 = .ok (.iaload, 1) := by decide +kernel
theorem J_MSquareRows_allBlocks_d67 : decode J_MSquareRows_allBlocks.2.1 67 = .ok (.iastore, 1) := by decide +kernel
theorem J_MSquareRows_allBlocks_d68 : decode J_MSquareRows_allBlocks.2.1 68 = .ok (.iinc 7 1, 3) := by decide +kernel
theorem J_MSquareRows_allBlocks_d71 : decode J_MSquareRows_allBlocks.2.1 71 = .ok (.goto (-34), 3) := by decide +kernel
theorem J_MSquareRows_allBlocks_d74 : decode J_MSquareRows_allBlocks.2.1 74 = .ok (.aload_n 0, 1) := by decide +kernel
theorem J_MSquareRows_allBlocks_d75 : decode J_MSquareRows_allBlocks.2.1 75 = .ok (.iload 6, 2) := by decide +kernel
theorem J_MSquareRows_allBlocks_d77 : decode J_MSquareRows_allBlocks.2.1 77 = .ok (.iload_n 3, 1) := by decide +kernel
theorem J_MSquareRows_allBlocks_d78 : decode J_MSquareRows_allBlocks.2.1 78 = .ok (.iadd, 1) := by decide +kernel
theorem J_MSquareRows_allBlocks_d79 : decode J_MSquareRows_allBlocks.2.1 79 = .ok (.iload_n 3, 1) := by decide +kernel
theorem J_MSquareRows_allBlocks_d80 : decode J_MSquareRows_allBlocks.2.1 80 = .ok (.iload_n 3, 1) := by decide +kernel
theorem J_MSquareRows_allBlocks_d81 : decode J_MSquareRows_allBlocks.2.1 81 = .ok (.iload_n 1, 1) := by decide +kernel
theorem J_MSquareRows_allBlocks_d82 : decode J_MSquareRows_allBlocks.2.1 82 = .ok (.iload_n 2, 1) := by decide +kernel
theorem J_MSquareRows_allBlocks_d83 : decode J_MSquareRows_allBlocks.2.1 83 = .ok (.invokestatic 273, 3) := by decide +kernel
theorem J_MSquareRows_allBlocks_d86 : decode J_MSquareRows_allBlocks.2.1 86 = .ok (.isub, 1) := by decide +kernel
theorem J_MSquareRows_allBlocks_d87 : decode J_MSquareRows_allBlocks.2.1 87 = .ok (.iconst 2, 1) := by decide +kernel
theorem J_MSquareRows_allBlocks_d88 : decode J_MSquareRows_allBlocks.2.1 88 = .ok (.idiv, 1) := by decide +kernel
theorem J_MSquareRows_allBlocks_d89 : decode J_MSquareRows_allBlocks.2.1 89 = .ok (.invokevirtual 276, 3) := by decide +kernel
theorem J_MSquareRows_allBlocks_d92 : decode J_MSquareRows_allBlocks.2.1 92 = .ok (.istore 7, 2) := by decide +kernel
theorem J_MSquareRows_allBlocks_d94 : decode J_MSquareRows_allBlocks.2.1 94 = .ok (.iload 7, 2) := by decide +kernel
theorem J_MSquareRows_allBlocks_d96 : decode J_MSquareRows_allBlocks.2.1 96 = .ok (.ifCond .ge 5, 3) := by decide +kernel
theorem J_MSquareRows_allBlocks_d99 : decode J_MSquareRows_allBlocks.2.1 99 = .ok (.iconst (-1), 1) := by decide +kernel
theorem J_MSquareRows_allBlocks_d100 : decode J_MSquareRows_allBlocks.2.1 100 = .ok (.ireturn, 1) := by decide +kernel
theorem J_MSquareRows_allBlocks_d101 : decode J_MSquareRows_allBlocks.2.1 101 = .ok (.iload 4, 2) := by decide +kernel
theorem J_MSquareRows_allBlocks_d103 : decode J_MSquareRows_allBlocks.2.1 103 = .ok (.iload 7, 2) := by decide +kernel
theorem J_MSquareRows_allBlocks_d105 : decode J_MSquareRows_allBlocks.2.1 105 = .ok (.iadd, 1) := by decide +kernel
theorem J_MSquareRows_allBlocks_d106 : decode J_MSquareRows_allBlocks.2.1 106 = .ok (.istore 4, 2) := by decide +kernel
theorem J_MSquareRows_allBlocks_d108 : decode J_MSquareRows_allBlocks.2.1 108 = .ok (.aload_n 0, 1) := by decide +kernel
theorem J_MSquareRows_allBlocks_d109 : decode J_MSquareRows_allBlocks.2.1 109 = .ok (.iload_n 1, 1) := by decide +kernel
theorem J_MSquareRows_allBlocks_d110 : decode J_MSquareRows_allBlocks.2.1 110 = .ok (.iload_n 2, 1) := by decide +kernel
theorem J_MSquareRows_allBlocks_d111 : decode J_MSquareRows_allBlocks.2.1 111 = .ok (.iload 5, 2) := by decide +kernel
theorem J_MSquareRows_allBlocks_d113 : decode J_MSquareRows_allBlocks.2.1 113 = .ok (.invokevirtual 157, 3) := by decide +kernel
theorem J_MSquareRows_allBlocks_d116 : decode J_MSquareRows_allBlocks.2.1 116 = .ok (.istore 8, 2) := by decide +kernel
theorem J_MSquareRows_allBlocks_d118 : decode J_MSquareRows_allBlocks.2.1 118 = .ok (.iconst 0, 1) := by decide +kernel
theorem J_MSquareRows_allBlocks_d119 : decode J_MSquareRows_allBlocks.2.1 119 = .ok (.istore 9, 2) := by decide +kernel
theorem J_MSquareRows_allBlocks_d121 : decode J_MSquareRows_allBlocks.2.1 121 = .ok (.iload 9, 2) := by decide +kernel
theorem J_MSquareRows_allBlocks_d123 : decode J_MSquareRows_allBlocks.2.1 123 = .ok (.iload 6, 2) := by decide +kernel
theorem J_MSquareRows_allBlocks_d125 : decode J_MSquareRows_allBlocks.2.1 125 = .ok (.if_icmp .ge 26, 3) := by decide +kernel
theorem J_MSquareRows_allBlocks_d128 : decode J_MSquareRows_allBlocks.2.1 128 = .ok (.aload_n 0, 1) := by decide +kernel
theorem J_MSquareRows_allBlocks_d129 : decode J_MSquareRows_allBlocks.2.1 129 = .ok (.getfield 40, 3) := by decide +kernel
theorem J_MSquareRows_allBlocks_d132 : decode J_MSquareRows_allBlocks.2.1 132 = .ok (.iload 8, 2) := by decide +kernel
theorem J_MSquareRows_allBlocks_d134 : decode J_MSquareRows_allBlocks.2.1 134 = .ok (.iload 9, 2) := by decide +kernel
theorem J_MSquareRows_allBlocks_d136 : decode J_MSquareRows_allBlocks.2.1 136 = .ok (.iadd, 1) := by decide +kernel
theorem J_MSquareRows_allBlocks_d137 : decode J_MSquareRows_allBlocks.2.1 137 = .ok (.aload_n 0, 1) := by decide +kernel
theorem J_MSquareRows_allBlocks_d138 : decode J_MSquareRows_allBlocks.2.1 138 = .ok (.getfield 46, 3) := by decide +kernel
theorem J_MSquareRows_allBlocks_d141 : decode J_MSquareRows_allBlocks.2.1 141 = .ok (.iload 9, 2) := by decide +kernel
theorem J_MSquareRows_allBlocks_d143 : decode J_MSquareRows_allBlocks.2.1 143 = .ok (.iaload, 1) := by decide +kernel
theorem J_MSquareRows_allBlocks_d144 : decode J_MSquareRows_allBlocks.2.1 144 = .ok (.iastore, 1) := by decide +kernel
theorem J_MSquareRows_allBlocks_d145 : decode J_MSquareRows_allBlocks.2.1 145 = .ok (.iinc 9 1, 3) := by decide +kernel
theorem J_MSquareRows_allBlocks_d148 : decode J_MSquareRows_allBlocks.2.1 148 = .ok (.goto (-27), 3) := by decide +kernel
theorem J_MSquareRows_allBlocks_d151 : decode J_MSquareRows_allBlocks.2.1 151 = .ok (.iinc 5 1, 3) := by decide +kernel
theorem J_MSquareRows_allBlocks_d154 : decode J_MSquareRows_allBlocks.2.1 154 = .ok (.goto (-141), 3) := by decide +kernel
theorem J_MSquareRows_allBlocks_d157 : decode J_MSquareRows_allBlocks.2.1 157 = .ok (.iload 4, 2) := by decide +kernel
theorem J_MSquareRows_allBlocks_d159 : decode J_MSquareRows_allBlocks.2.1 159 = .ok (.ireturn, 1) := by decide +kernel
theorem f_MSquareRows_allBlocks_ok {L : Nat} {xs : Nat → Int32} {dep : Nat} {w : Bool} {p0 : Int32} {p1 : Int32} {M : im_M} {Q : Int32 × im_M → Prop} (hM : lw_S w M) (h : ed (f_MSquareRows_allBlocks p0 p1 M) Q) : ia (tb_G L xs) (dep + 5) J_MSquareRows_allBlocks (rwI w Q) (0, lv_args 0 [.ref 108, .int p0, .int p1], [], M) := by
  have hS : im_St (tb_G L xs) (dep + 5) J_MSquareRows_allBlocks (ia (tb_G L xs) (dep + 5) J_MSquareRows_allBlocks (rwI w Q)) := ia_St
  unfold f_MSquareRows_allBlocks at h
  have l0 : im_lk (lv_args 0 [.ref 108, .int p0, .int p1]) 0 = some (.ref 108) := rfl
  have l1 : im_lk (lv_args 0 [.ref 108, .int p0, .int p1]) 1 = some (.int p0) := rfl
  have l2 : im_lk (lv_args 0 [.ref 108, .int p0, .int p1]) 2 = some (.int p1) := rfl
  refine iq_aload_n hS 1 J_MSquareRows_allBlocks_d0 l0 rfl ?_
  refine iq_iload_n hS 2 J_MSquareRows_allBlocks_d1 l1 rfl ?_
  refine iq_iload_n hS 3 J_MSquareRows_allBlocks_d2 l2 rfl ?_
  obtain ⟨Q1, hQ1, h⟩ := bd1_ed h
  refine iq_cpI hS 6 J_MSquareRows_allBlocks_d3 rfl (pr_inst (vs := [_, _]) lc_16_86 lT_397 rfl rfl (by decide) (by decide) rfl (Nat.le_of_ble_eq_true rfl) (Nat.le_of_ble_eq_true rfl) (fun _ => Or.inl (pr_b (ka_108 hM) (by decide) rfl))) (f_MSquareRows_checkOf_ok (dep := dep + 4) hM h) rfl ?_
  intro x1 h
  replace h := hQ1 _ h
  refine iq_istore_n hS 7 J_MSquareRows_allBlocks_d6 (by decide) rfl ?_
  refine iq_iconst hS 8 J_MSquareRows_allBlocks_d7 (v := 0) (by decide +kernel) rfl ?_
  refine iq_istore hS 10 J_MSquareRows_allBlocks_d8 (by decide) rfl ?_
  refine iq_iconst hS 11 J_MSquareRows_allBlocks_d10 (v := 0) (by decide +kernel) rfl ?_
  refine iq_istore hS 13 J_MSquareRows_allBlocks_d11 (by decide) rfl ?_
  obtain ⟨Q2, hQ2, hR2, h⟩ := bs2_ed h
  have K2 : ∀ (y3 : Int32) (M4 : im_M) (L' : List (Nat × Value)), lw_S w M4 → im_lk L' 4 = some (.int y3) → Q2 (.inl (y3, M4)) → ia (tb_G L xs) (dep + 5) J_MSquareRows_allBlocks (rwI w Q) (157, L', [], M4) := by
    intro y3 M4 L' hM4 l5 h
    replace h := hQ2 _ _ h
    refine iq_iload hS 159 J_MSquareRows_allBlocks_d157 l5 rfl ?_
    exact iq_iret J_MSquareRows_allBlocks_d159 rfl rfl ⟨_, rfl, hM4, ed_some h⟩
  obtain ⟨r2, hr2, hq2⟩ := h
  obtain ⟨n2, hn2⟩ := lp_n hr2
  have I2 : ∀ (n : Nat) (x6 : Int32) (x7 : Int32) (M8 : im_M) (L' : List (Nat × Value)), lw_S w M8 → im_lk L' 0 = some (.ref 108) → im_lk L' 1 = some (.int p0) → im_lk L' 2 = some (.int p1) → im_lk L' 3 = some (.int x1) → im_lk L' 4 = some (.int x6) → im_lk L' 5 = some (.int x7) → lpn (uc3 (f_MSquareRows_allBlocks_L13 p0 p1 x1)) n (x6, x7, M8) = some r2 → ia (tb_G L xs) (dep + 5) J_MSquareRows_allBlocks (rwI w Q) (13, L', [], M8) := by
    intro n
    induction n with
    | zero => intro x6 x7 M8 L' hM8 l9 l10 l11 l12 l13 l14 hn; exact (lpn_0 hn).elim
    | succ n ih =>
      intro x6 x7 M8 L' hM8 l9 l10 l11 l12 l13 l14 hn
      have h := lpn_ed3 hn
      unfold f_MSquareRows_allBlocks_L13 at h
      refine iq_iload hS 15 J_MSquareRows_allBlocks_d13 l14 rfl ?_
      refine iq_aload_n hS 16 J_MSquareRows_allBlocks_d15 l9 rfl ?_
      refine iq_iload_n hS 17 J_MSquareRows_allBlocks_d16 l10 rfl ?_
      refine iq_iload_n hS 18 J_MSquareRows_allBlocks_d17 l11 rfl ?_
      obtain ⟨Q15, hQ15, h⟩ := bd1_ed h
      refine iq_cpI hS 21 J_MSquareRows_allBlocks_d18 rfl (pr_inst (vs := [_, _]) lc_16_90 lT_398 rfl rfl (by decide) (by decide) rfl (Nat.le_of_ble_eq_true rfl) (Nat.le_of_ble_eq_true rfl) (fun _ => Or.inl (pr_b (ka_108 hM8) (by decide) rfl))) (f_MSquareRows_blocksOf_ok (dep := dep + 4) hM8 h) rfl ?_
      intro x15 h
      replace h := hQ15 _ h
      refine iq_icmp_ge hS 24 J_MSquareRows_allBlocks_d21 (t := 157) rfl (fun q21 => ?_) rfl (fun q21 => ?_)
      · replace h := ed_pos q21 h
        exact K2 _ _ _ hM8 l13 (lq_r h hq2)
      · replace h := ed_neg q21 h
        refine iq_aload_n hS 25 J_MSquareRows_allBlocks_d24 l9 rfl ?_
        refine iq_iload_n hS 26 J_MSquareRows_allBlocks_d25 l10 rfl ?_
        refine iq_iload_n hS 27 J_MSquareRows_allBlocks_d26 l11 rfl ?_
        refine iq_iload hS 29 J_MSquareRows_allBlocks_d27 l14 rfl ?_
        obtain ⟨Q16, hQ16, h⟩ := bd1_ed h
        refine iq_cpI hS 32 J_MSquareRows_allBlocks_d29 rfl (pr_inst (vs := [_, _, _]) lc_16_150 lT_406 rfl rfl (by decide) (by decide) rfl (Nat.le_of_ble_eq_true rfl) (Nat.le_of_ble_eq_true rfl) (fun _ => Or.inl (pr_b (ka_108 hM8) (by decide) rfl))) (f_MSquareRows_shareOf_ok (dep := dep + 2) hM8 h) rfl ?_
        intro x16 h
        replace h := hQ16 _ h
        refine iq_istore hS 34 J_MSquareRows_allBlocks_d32 (by decide) rfl ?_
        refine iq_iconst hS 35 J_MSquareRows_allBlocks_d34 (v := 0) (by decide +kernel) rfl ?_
        refine iq_istore hS 37 J_MSquareRows_allBlocks_d35 (by decide) rfl ?_
        obtain ⟨Q17, hQ17, h⟩ := bd1_ed h
        have K17 : ∀ (M18 : im_M) (L' : List (Nat × Value)), lw_S w M18 → im_lk L' 0 = some (.ref 108) → im_lk L' 1 = some (.int p0) → im_lk L' 2 = some (.int p1) → im_lk L' 3 = some (.int x1) → im_lk L' 4 = some (.int x6) → im_lk L' 5 = some (.int x7) → im_lk L' 6 = some (.int x16) → Q17 M18 → ia (tb_G L xs) (dep + 5) J_MSquareRows_allBlocks (rwI w Q) (74, L', [], M18) := by
          intro M18 L' hM18 l19 l20 l21 l22 l23 l24 l25 h
          replace h := hQ17 _ h
          refine iq_aload_n hS 75 J_MSquareRows_allBlocks_d74 l19 rfl ?_
          refine iq_iload hS 77 J_MSquareRows_allBlocks_d75 l25 rfl ?_
          refine iq_iload_n hS 78 J_MSquareRows_allBlocks_d77 l22 rfl ?_
          refine iq_iadd hS 79 J_MSquareRows_allBlocks_d78 rfl ?_
          refine iq_iload_n hS 80 J_MSquareRows_allBlocks_d79 l22 rfl ?_
          refine iq_iload_n hS 81 J_MSquareRows_allBlocks_d80 l22 rfl ?_
          refine iq_iload_n hS 82 J_MSquareRows_allBlocks_d81 l20 rfl ?_
          refine iq_iload_n hS 83 J_MSquareRows_allBlocks_d82 l21 rfl ?_
          obtain ⟨Q26, hQ26, h⟩ := bd1_ed h
          refine iq_cpI hS 86 J_MSquareRows_allBlocks_d83 rfl (pr_stat (vs := [_, _]) lc_16_273 lT_487 rfl rfl (by decide) rfl (Nat.le_of_ble_eq_true rfl) (Nat.le_of_ble_eq_true rfl)) (f_MSquareRows_spared_ok (dep := dep + 4) hM18 h) rfl ?_
          intro x26 h
          replace h := hQ26 _ h
          refine iq_isub hS 87 J_MSquareRows_allBlocks_d86 rfl ?_
          refine iq_iconst hS 88 J_MSquareRows_allBlocks_d87 (v := 2) (by decide +kernel) rfl ?_
          refine iq_idiv hS 89 J_MSquareRows_allBlocks_d88 (by decide) rfl ?_
          obtain ⟨Q27, hQ27, h⟩ := bd2_ed h
          refine iq_cwI hS 92 J_MSquareRows_allBlocks_d89 rfl (pr_inst (vs := [_, _, _]) lc_16_276 lT_488 rfl rfl (by decide) (by decide) rfl (Nat.le_of_ble_eq_true rfl) (Nat.le_of_ble_eq_true rfl) (fun _ => Or.inl (pr_b (ka_108 hM18) (by decide) rfl))) (f_MSquareRows_correct_ok (dep := dep + 0) hM18 h) rfl ?_
          intro x27 M27 hM27 h
          replace h := hQ27 _ _ h
          refine iq_istore hS 94 J_MSquareRows_allBlocks_d92 (by decide) rfl ?_
          refine iq_iload hS 96 J_MSquareRows_allBlocks_d94 lk_1s rfl ?_
          refine iq_if_ge hS 99 J_MSquareRows_allBlocks_d96 (t := 101) rfl (fun q96 => ?_) rfl (fun q96 => ?_)
          · replace h := ed_pos q96 h
            refine iq_iload hS 103 J_MSquareRows_allBlocks_d101 (lk_1i l23 (by decide)) rfl ?_
            refine iq_iload hS 105 J_MSquareRows_allBlocks_d103 lk_1s rfl ?_
            refine iq_iadd hS 106 J_MSquareRows_allBlocks_d105 rfl ?_
            refine iq_istore hS 108 J_MSquareRows_allBlocks_d106 (by decide) rfl ?_
            refine iq_aload_n hS 109 J_MSquareRows_allBlocks_d108 (lk_1r (lk_1r l19 (by decide)) (by decide)) rfl ?_
            refine iq_iload_n hS 110 J_MSquareRows_allBlocks_d109 (lk_1i (lk_1i l20 (by decide)) (by decide)) rfl ?_
            refine iq_iload_n hS 111 J_MSquareRows_allBlocks_d110 (lk_1i (lk_1i l21 (by decide)) (by decide)) rfl ?_
            refine iq_iload hS 113 J_MSquareRows_allBlocks_d111 (lk_1i (lk_1i l24 (by decide)) (by decide)) rfl ?_
            obtain ⟨Q28, hQ28, h⟩ := bd1_ed h
            refine iq_cpI hS 116 J_MSquareRows_allBlocks_d113 rfl (pr_inst (vs := [_, _, _]) lc_16_157 lT_407 rfl rfl (by decide) (by decide) rfl (Nat.le_of_ble_eq_true rfl) (Nat.le_of_ble_eq_true rfl) (fun _ => Or.inl (pr_b (ka_108 hM27) (by decide) rfl))) (f_MSquareRows_startOf_ok (dep := dep + 1) hM27 h) rfl ?_
            intro x28 h
            replace h := hQ28 _ h
            refine iq_istore hS 118 J_MSquareRows_allBlocks_d116 (by decide) rfl ?_
            refine iq_iconst hS 119 J_MSquareRows_allBlocks_d118 (v := 0) (by decide +kernel) rfl ?_
            refine iq_istore hS 121 J_MSquareRows_allBlocks_d119 (by decide) rfl ?_
            obtain ⟨Q29, hQ29, h⟩ := bd1_ed h
            have K29 : ∀ (M30 : im_M) (L' : List (Nat × Value)), lw_S w M30 → im_lk L' 0 = some (.ref 108) → im_lk L' 1 = some (.int p0) → im_lk L' 2 = some (.int p1) → im_lk L' 3 = some (.int x1) → im_lk L' 4 = some (.int (x6 + x27)) → im_lk L' 5 = some (.int x7) → Q29 M30 → ia (tb_G L xs) (dep + 5) J_MSquareRows_allBlocks (rwI w Q) (151, L', [], M30) := by
              intro M30 L' hM30 l31 l32 l33 l34 l35 l36 h
              replace h := hQ29 _ h
              refine iq_iincv hS 154 J_MSquareRows_allBlocks_d151 (c := 1) (by decide +kernel) l36 (by decide) rfl ?_
              refine iq_goto hS J_MSquareRows_allBlocks_d154 (t := 13) rfl ?_
              exact ih _ _ _ _ hM30 (lk_1r l31 (by decide)) (lk_1i l32 (by decide)) (lk_1i l33 (by decide)) (lk_1i l34 (by decide)) (lk_1i l35 (by decide)) lk_1s (lq_l h)
            obtain ⟨r29, hr29, hq29⟩ := h
            obtain ⟨n29, hn29⟩ := lp_n hr29
            have I29 : ∀ (n : Nat) (x37 : Int32) (M38 : im_M) (L' : List (Nat × Value)), lw_S w M38 → im_lk L' 0 = some (.ref 108) → im_lk L' 1 = some (.int p0) → im_lk L' 2 = some (.int p1) → im_lk L' 3 = some (.int x1) → im_lk L' 4 = some (.int (x6 + x27)) → im_lk L' 5 = some (.int x7) → im_lk L' 6 = some (.int x16) → im_lk L' 8 = some (.int x28) → im_lk L' 9 = some (.int x37) → lpn (uc2 (f_MSquareRows_allBlocks_L121 p0 p1 x1 (x6 + x27) x7 x16 x28)) n (x37, M38) = some r29 → ia (tb_G L xs) (dep + 5) J_MSquareRows_allBlocks (rwI w Q) (121, L', [], M38) := by
              intro n
              induction n with
              | zero => intro x37 M38 L' hM38 l39 l40 l41 l42 l43 l44 l45 l46 l47 hn; exact (lpn_0 hn).elim
              | succ n ih =>
                intro x37 M38 L' hM38 l39 l40 l41 l42 l43 l44 l45 l46 l47 hn
                have h := lpn_ed2 hn
                unfold f_MSquareRows_allBlocks_L121 at h
                refine iq_iload hS 123 J_MSquareRows_allBlocks_d121 l47 rfl ?_
                refine iq_iload hS 125 J_MSquareRows_allBlocks_d123 l45 rfl ?_
                refine iq_icmp_ge hS 128 J_MSquareRows_allBlocks_d125 (t := 151) rfl (fun q125 => ?_) rfl (fun q125 => ?_)
                · replace h := ed_pos q125 h
                  exact K29 _ _ hM38 l39 l40 l41 l42 l43 l44 (lq_r h hq29)
                · replace h := ed_neg q125 h
                  refine iq_aload_n hS 129 J_MSquareRows_allBlocks_d128 l39 rfl ?_
                  refine iq_getR hS 132 J_MSquareRows_allBlocks_d129 lf_16_40 (Or.inr ⟨_, rfl⟩) (ka_108 hM38) (ra_108_17 hM38) rfl ?_
                  refine iq_iload hS 134 J_MSquareRows_allBlocks_d132 l46 rfl ?_
                  refine iq_iload hS 136 J_MSquareRows_allBlocks_d134 l47 rfl ?_
                  refine iq_iadd hS 137 J_MSquareRows_allBlocks_d136 rfl ?_
                  refine iq_aload_n hS 138 J_MSquareRows_allBlocks_d137 l39 rfl ?_
                  refine iq_getR hS 141 J_MSquareRows_allBlocks_d138 lf_16_46 (Or.inr ⟨_, rfl⟩) (ka_108 hM38) (ra_108_20 hM38) rfl ?_
                  refine iq_iload hS 143 J_MSquareRows_allBlocks_d141 l47 rfl ?_
                  obtain ⟨g143, h⟩ := ed_gd h
                  refine iq_iaload hS 144 J_MSquareRows_allBlocks_d143 ⟨(ka_121 hM38).1, (ka_121 hM38).2, g143.1, ix_lt (kl_121 hM38) g143.2⟩ rfl ?_
                  obtain ⟨g144, h⟩ := ed_gd h
                  refine iq_iastore hS 145 J_MSquareRows_allBlocks_d144 ⟨(ka_119 hM38).1, (ka_119 hM38).2, g144.1, ix_lt (kl_119 hM38) g144.2⟩ rfl ?_
                  refine iq_iincv hS 148 J_MSquareRows_allBlocks_d145 (c := 1) (by decide +kernel) l47 (by decide) rfl ?_
                  refine iq_goto hS J_MSquareRows_allBlocks_d148 (t := 121) rfl ?_
                  exact ih _ _ _ hM38 (lk_1r l39 (by decide)) (lk_1i l40 (by decide)) (lk_1i l41 (by decide)) (lk_1i l42 (by decide)) (lk_1i l43 (by decide)) (lk_1i l44 (by decide)) (lk_1i l45 (by decide)) (lk_1i l46 (by decide)) lk_1s (lq_l h)
            exact I29 n29 _ _ _ hM27 (lk_1r (lk_1r (lk_1r (lk_1r l19 (by decide)) (by decide)) (by decide)) (by decide)) (lk_1i (lk_1i (lk_1i (lk_1i l20 (by decide)) (by decide)) (by decide)) (by decide)) (lk_1i (lk_1i (lk_1i (lk_1i l21 (by decide)) (by decide)) (by decide)) (by decide)) (lk_1i (lk_1i (lk_1i (lk_1i l22 (by decide)) (by decide)) (by decide)) (by decide)) (lk_1i (lk_1i lk_1s (by decide)) (by decide)) (lk_1i (lk_1i (lk_1i (lk_1i l24 (by decide)) (by decide)) (by decide)) (by decide)) (lk_1i (lk_1i (lk_1i (lk_1i l25 (by decide)) (by decide)) (by decide)) (by decide)) (lk_1i lk_1s (by decide)) lk_1s hn29
          · replace h := ed_neg q96 h
            refine iq_iconst hS 100 J_MSquareRows_allBlocks_d99 (v := (-1)) (by decide +kernel) rfl ?_
            exact iq_iret J_MSquareRows_allBlocks_d100 rfl rfl ⟨_, rfl, hM27, ed_some (hR2 _ (lq_r h hq2))⟩
        obtain ⟨r17, hr17, hq17⟩ := h
        obtain ⟨n17, hn17⟩ := lp_n hr17
        have I17 : ∀ (n : Nat) (x48 : Int32) (M49 : im_M) (L' : List (Nat × Value)), lw_S w M49 → im_lk L' 0 = some (.ref 108) → im_lk L' 1 = some (.int p0) → im_lk L' 2 = some (.int p1) → im_lk L' 3 = some (.int x1) → im_lk L' 4 = some (.int x6) → im_lk L' 5 = some (.int x7) → im_lk L' 6 = some (.int x16) → im_lk L' 7 = some (.int x48) → lpn (uc2 (f_MSquareRows_allBlocks_L37 p0 p1 x1 x6 x7 x16)) n (x48, M49) = some r17 → ia (tb_G L xs) (dep + 5) J_MSquareRows_allBlocks (rwI w Q) (37, L', [], M49) := by
          intro n
          induction n with
          | zero => intro x48 M49 L' hM49 l50 l51 l52 l53 l54 l55 l56 l57 hn; exact (lpn_0 hn).elim
          | succ n ih =>
            intro x48 M49 L' hM49 l50 l51 l52 l53 l54 l55 l56 l57 hn
            have h := lpn_ed2 hn
            unfold f_MSquareRows_allBlocks_L37 at h
            refine iq_iload hS 39 J_MSquareRows_allBlocks_d37 l57 rfl ?_
            refine iq_iload hS 41 J_MSquareRows_allBlocks_d39 l56 rfl ?_
            refine iq_iload_n hS 42 J_MSquareRows_allBlocks_d41 l53 rfl ?_
            refine iq_iadd hS 43 J_MSquareRows_allBlocks_d42 rfl ?_
            refine iq_icmp_ge hS 46 J_MSquareRows_allBlocks_d43 (t := 74) rfl (fun q43 => ?_) rfl (fun q43 => ?_)
            · replace h := ed_pos q43 h
              exact K17 _ _ hM49 l50 l51 l52 l53 l54 l55 l56 (lq_r h hq17)
            · replace h := ed_neg q43 h
              refine iq_aload_n hS 47 J_MSquareRows_allBlocks_d46 l50 rfl ?_
              refine iq_getR hS 50 J_MSquareRows_allBlocks_d47 lf_16_46 (Or.inr ⟨_, rfl⟩) (ka_108 hM49) (ra_108_20 hM49) rfl ?_
              refine iq_iload hS 52 J_MSquareRows_allBlocks_d50 l57 rfl ?_
              refine iq_aload_n hS 53 J_MSquareRows_allBlocks_d52 l50 rfl ?_
              refine iq_getR hS 56 J_MSquareRows_allBlocks_d53 lf_16_43 (Or.inr ⟨_, rfl⟩) (ka_108 hM49) (ra_108_18 hM49) rfl ?_
              refine iq_aload_n hS 57 J_MSquareRows_allBlocks_d56 l50 rfl ?_
              refine iq_iload_n hS 58 J_MSquareRows_allBlocks_d57 l51 rfl ?_
              refine iq_iload_n hS 59 J_MSquareRows_allBlocks_d58 l52 rfl ?_
              refine iq_iload hS 61 J_MSquareRows_allBlocks_d59 l55 rfl ?_
              refine iq_iload hS 63 J_MSquareRows_allBlocks_d61 l57 rfl ?_
              obtain ⟨Q58, hQ58, h⟩ := bd1_ed h
              refine iq_cpI hS 66 J_MSquareRows_allBlocks_d63 rfl (pr_inst (vs := [_, _, _, _]) lc_16_160 lT_408 rfl rfl (by decide) (by decide) rfl (Nat.le_of_ble_eq_true rfl) (Nat.le_of_ble_eq_true rfl) (fun _ => Or.inl (pr_b (ka_108 hM49) (by decide) rfl))) (f_MSquareRows_placeOf_ok (dep := dep + 1) hM49 h) rfl ?_
              intro x58 h
              replace h := hQ58 _ h
              obtain ⟨g66, h⟩ := ed_gd h
              refine iq_iaload hS 67 J_MSquareRows_allBlocks_d66 ⟨(ka_120 hM49).1, (ka_120 hM49).2, g66.1, ix_lt (kl_120 hM49) g66.2⟩ rfl ?_
              obtain ⟨g67, h⟩ := ed_gd h
              refine iq_iastore hS 68 J_MSquareRows_allBlocks_d67 ⟨(ka_121 hM49).1, (ka_121 hM49).2, g67.1, ix_lt (kl_121 hM49) g67.2⟩ rfl ?_
              refine iq_iincv hS 71 J_MSquareRows_allBlocks_d68 (c := 1) (by decide +kernel) l57 (by decide) rfl ?_
              refine iq_goto hS J_MSquareRows_allBlocks_d71 (t := 37) rfl ?_
              exact ih _ _ _ hM49 (lk_1r l50 (by decide)) (lk_1i l51 (by decide)) (lk_1i l52 (by decide)) (lk_1i l53 (by decide)) (lk_1i l54 (by decide)) (lk_1i l55 (by decide)) (lk_1i l56 (by decide)) lk_1s (lq_l h)
        exact I17 n17 _ _ _ hM8 (lk_1r (lk_1r l9 (by decide)) (by decide)) (lk_1i (lk_1i l10 (by decide)) (by decide)) (lk_1i (lk_1i l11 (by decide)) (by decide)) (lk_1i (lk_1i l12 (by decide)) (by decide)) (lk_1i (lk_1i l13 (by decide)) (by decide)) (lk_1i (lk_1i l14 (by decide)) (by decide)) (lk_1i lk_1s (by decide)) lk_1s hn17
  exact I2 n2 _ _ _ _ hM (lk_1r (lk_1r (lk_1r l0 (by decide)) (by decide)) (by decide)) (lk_1i (lk_1i (lk_1i l1 (by decide)) (by decide)) (by decide)) (lk_1i (lk_1i (lk_1i l2 (by decide)) (by decide)) (by decide)) (lk_1i (lk_1i lk_1s (by decide)) (by decide)) (lk_1i lk_1s (by decide)) lk_1s hn2
noncomputable def f_MSquareRows_next_L24 (v2 : Int32) (x3 : Int32) (x4 : Int32) (M5 : im_M) : Option ((Int32 × Int32 × im_M) ⊕ (Int32 × im_M)) := if v2 ≤ x4 then some (.inr (x3, M5)) else gd (inb ((im_i M5 108 29) / 8) 3800) <| some (.inl ((((2 : Int32) * x3) + (((im_i M5 119 (Int32.toNatClampNeg ((im_i M5 108 29) / 8))) >>> (((7 : Int32) - ((im_i M5 108 29) - (im_i M5 108 29) / 8 * 8)) &&& 31)) &&& 1)), (x4 + 1), (im_setI M5 108 29 ((im_i M5 108 29) + 1))))
noncomputable def f_MSquareRows_next (p0 : Int32) (M : im_M) : Option (Int32 × im_M) := if ((im_i M 108 29) + p0) ≤ (im_i M 108 30) then bd2 (lp (uc3 (f_MSquareRows_next_L24 p0)) (0, 0, M)) fun (y6 : Int32) (M7 : im_M) => some (y6, M7) else some (0, (im_setI M 108 31 4))
theorem J_MSquareRows_next_d0 : decode J_MSquareRows_next.2.1 0 = .ok (.aload_n 0, 1) := by decide +kernel
theorem J_MSquareRows_next_d1 : decode J_MSquareRows_next.2.1 1 = .ok (.getfield 279, 3) := by decide +kernel
theorem J_MSquareRows_next_d4 : decode J_MSquareRows_next.2.1 4 = .ok (.iload_n 1, 1) := by decide +kernel
theorem J_MSquareRows_next_d5 : decode J_MSquareRows_next.2.1 5 = .ok (.iadd, 1) := by decide +kernel
theorem J_MSquareRows_next_d6 : decode J_MSquareRows_next.2.1 6 = .ok (.aload_n 0, 1) := by decide +kernel
theorem J_MSquareRows_next_d7 : decode J_MSquareRows_next.2.1 7 = .ok (.getfield 282, 3) := by decide +kernel
theorem J_MSquareRows_next_d10 : decode J_MSquareRows_next.2.1 10 = .ok (.if_icmp .le 10, 3) := by decide +kernel
theorem J_MSquareRows_next_d13 : decode J_MSquareRows_next.2.1 13 = .ok (.aload_n 0, 1) := by decide +kernel
theorem J_MSquareRows_next_d14 : decode J_MSquareRows_next.2.1 14 = .ok (.iconst 4, 1) := by decide +kernel
theorem J_MSquareRows_next_d15 : decode J_MSquareRows_next.2.1 15 = .ok (.putfield 285, 3) := by decide +kernel
theorem J_MSquareRows_next_d18 : decode J_MSquareRows_next.2.1 18 = .ok (.iconst 0, 1) := by decide +kernel
theorem J_MSquareRows_next_d19 : decode J_MSquareRows_next.2.1 19 = .ok (.ireturn, 1) := by decide +kernel
theorem J_MSquareRows_next_d20 : decode J_MSquareRows_next.2.1 20 = .ok (.iconst 0, 1) := by decide +kernel
theorem J_MSquareRows_next_d21 : decode J_MSquareRows_next.2.1 21 = .ok (.istore_n 2, 1) := by decide +kernel
theorem J_MSquareRows_next_d22 : decode J_MSquareRows_next.2.1 22 = .ok (.iconst 0, 1) := by decide +kernel
theorem J_MSquareRows_next_d23 : decode J_MSquareRows_next.2.1 23 = .ok (.istore_n 3, 1) := by decide +kernel
theorem J_MSquareRows_next_d24 : decode J_MSquareRows_next.2.1 24 = .ok (.iload_n 3, 1) := by decide +kernel
theorem J_MSquareRows_next_d25 : decode J_MSquareRows_next.2.1 25 = .ok (.iload_n 1, 1) := by decide +kernel
theorem J_MSquareRows_next_d26 : decode J_MSquareRows_next.2.1 26 = .ok (.if_icmp .ge 49, 3) := by decide +kernel
theorem J_MSquareRows_next_d29 : decode J_MSquareRows_next.2.1 29 = .ok (.iconst 2, 1) := by decide +kernel
theorem J_MSquareRows_next_d30 : decode J_MSquareRows_next.2.1 30 = .ok (.iload_n 2, 1) := by decide +kernel
theorem J_MSquareRows_next_d31 : decode J_MSquareRows_next.2.1 31 = .ok (.imul, 1) := by decide +kernel
theorem J_MSquareRows_next_d32 : decode J_MSquareRows_next.2.1 32 = .ok (.aload_n 0, 1) := by decide +kernel
theorem J_MSquareRows_next_d33 : decode J_MSquareRows_next.2.1 33 = .ok (.getfield 40, 3) := by decide +kernel
theorem J_MSquareRows_next_d36 : decode J_MSquareRows_next.2.1 36 = .ok (.aload_n 0, 1) := by decide +kernel
theorem J_MSquareRows_next_d37 : decode J_MSquareRows_next.2.1 37 = .ok (.getfield 279, 3) := by decide +kernel
theorem J_MSquareRows_next_d40 : decode J_MSquareRows_next.2.1 40 = .ok (.bipush 8, 2) := by decide +kernel
theorem J_MSquareRows_next_d42 : decode J_MSquareRows_next.2.1 42 = .ok (.idiv, 1) := by decide +kernel
theorem J_MSquareRows_next_d43 : decode J_MSquareRows_next.2.1 43 = .ok (.iaload, 1) := by decide +kernel
theorem J_MSquareRows_next_d44 : decode J_MSquareRows_next.2.1 44 = .ok (.bipush 7, 2) := by decide +kernel
theorem J_MSquareRows_next_d46 : decode J_MSquareRows_next.2.1 46 = .ok (.aload_n 0, 1) := by decide +kernel
theorem J_MSquareRows_next_d47 : decode J_MSquareRows_next.2.1 47 = .ok (.getfield 279, 3) := by decide +kernel
theorem J_MSquareRows_next_d50 : decode J_MSquareRows_next.2.1 50 = .ok (.bipush 8, 2) := by decide +kernel
theorem J_MSquareRows_next_d52 : decode J_MSquareRows_next.2.1 52 = .ok (.irem, 1) := by decide +kernel
theorem J_MSquareRows_next_d53 : decode J_MSquareRows_next.2.1 53 = .ok (.isub, 1) := by decide +kernel
theorem J_MSquareRows_next_d54 : decode J_MSquareRows_next.2.1 54 = .ok (.ishr, 1) := by decide +kernel
theorem J_MSquareRows_next_d55 : decode J_MSquareRows_next.2.1 55 = .ok (.iconst 1, 1) := by decide +kernel
theorem J_MSquareRows_next_d56 : decode J_MSquareRows_next.2.1 56 = .ok (.iand, 1) := by decide +kernel
theorem J_MSquareRows_next_d57 : decode J_MSquareRows_next.2.1 57 = .ok (.iadd, 1) := by decide +kernel
theorem J_MSquareRows_next_d58 : decode J_MSquareRows_next.2.1 58 = .ok (.istore_n 2, 1) := by decide +kernel
theorem J_MSquareRows_next_d59 : decode J_MSquareRows_next.2.1 59 = .ok (.aload_n 0, 1) := by decide +kernel
theorem J_MSquareRows_next_d60 : decode J_MSquareRows_next.2.1 60 = .ok (.dup, 1) := by decide +kernel
theorem J_MSquareRows_next_d61 : decode J_MSquareRows_next.2.1 61 = .ok (.getfield 279, 3) := by decide +kernel
theorem J_MSquareRows_next_d64 : decode J_MSquareRows_next.2.1 64 = .ok (.iconst 1, 1) := by decide +kernel
theorem J_MSquareRows_next_d65 : decode J_MSquareRows_next.2.1 65 = .ok (.iadd, 1) := by decide +kernel
theorem J_MSquareRows_next_d66 : decode J_MSquareRows_next.2.1 66 = .ok (.putfield 279, 3) := by decide +kernel
theorem J_MSquareRows_next_d69 : decode J_MSquareRows_next.2.1 69 = .ok (.iinc 3 1, 3) := by decide +kernel
theorem J_MSquareRows_next_d72 : decode J_MSquareRows_next.2.1 72 = .ok (.goto (-48), 3) := by decide +kernel
theorem J_MSquareRows_next_d75 : decode J_MSquareRows_next.2.1 75 = .ok (.iload_n 2, 1) := by decide +kernel
theorem J_MSquareRows_next_d76 : decode J_MSquareRows_next.2.1 76 = .ok (.ireturn, 1) := by decide +kernel
theorem f_MSquareRows_next_ok {L : Nat} {xs : Nat → Int32} {dep : Nat} {w : Bool} {p0 : Int32} {M : im_M} {Q : Int32 × im_M → Prop} (hM : lw_S w M) (h : ed (f_MSquareRows_next p0 M) Q) : ia (tb_G L xs) dep J_MSquareRows_next (rwI w Q) (0, lv_args 0 [.ref 108, .int p0], [], M) := by
  have hS : im_St (tb_G L xs) dep J_MSquareRows_next (ia (tb_G L xs) dep J_MSquareRows_next (rwI w Q)) := ia_St
  unfold f_MSquareRows_next at h
  have l0 : im_lk (lv_args 0 [.ref 108, .int p0]) 0 = some (.ref 108) := rfl
  have l1 : im_lk (lv_args 0 [.ref 108, .int p0]) 1 = some (.int p0) := rfl
  refine iq_aload_n hS 1 J_MSquareRows_next_d0 l0 rfl ?_
  refine iq_getI hS 4 J_MSquareRows_next_d1 lf_16_279 (Or.inl rfl) (ka_108 hM) rfl ?_
  refine iq_iload_n hS 5 J_MSquareRows_next_d4 l1 rfl ?_
  refine iq_iadd hS 6 J_MSquareRows_next_d5 rfl ?_
  refine iq_aload_n hS 7 J_MSquareRows_next_d6 l0 rfl ?_
  refine iq_getI hS 10 J_MSquareRows_next_d7 lf_16_282 (Or.inl rfl) (ka_108 hM) rfl ?_
  refine iq_icmp_le hS 13 J_MSquareRows_next_d10 (t := 20) rfl (fun q10 => ?_) rfl (fun q10 => ?_)
  · replace h := ed_pos q10 h
    refine iq_iconst hS 21 J_MSquareRows_next_d20 (v := 0) (by decide +kernel) rfl ?_
    refine iq_istore_n hS 22 J_MSquareRows_next_d21 (by decide) rfl ?_
    refine iq_iconst hS 23 J_MSquareRows_next_d22 (v := 0) (by decide +kernel) rfl ?_
    refine iq_istore_n hS 24 J_MSquareRows_next_d23 (by decide) rfl ?_
    obtain ⟨Q1, hQ1, h⟩ := bd2_ed h
    have K1 : ∀ (y2 : Int32) (M3 : im_M) (L' : List (Nat × Value)), lw_S w M3 → im_lk L' 2 = some (.int y2) → Q1 (y2, M3) → ia (tb_G L xs) dep J_MSquareRows_next (rwI w Q) (75, L', [], M3) := by
      intro y2 M3 L' hM3 l4 h
      replace h := hQ1 _ _ h
      refine iq_iload_n hS 76 J_MSquareRows_next_d75 l4 rfl ?_
      exact iq_iret J_MSquareRows_next_d76 rfl rfl ⟨_, rfl, hM3, ed_some h⟩
    obtain ⟨r1, hr1, hq1⟩ := h
    obtain ⟨n1, hn1⟩ := lp_n hr1
    have I1 : ∀ (n : Nat) (x5 : Int32) (x6 : Int32) (M7 : im_M) (L' : List (Nat × Value)), lw_S w M7 → im_lk L' 0 = some (.ref 108) → im_lk L' 1 = some (.int p0) → im_lk L' 2 = some (.int x5) → im_lk L' 3 = some (.int x6) → lpn (uc3 (f_MSquareRows_next_L24 p0)) n (x5, x6, M7) = some r1 → ia (tb_G L xs) dep J_MSquareRows_next (rwI w Q) (24, L', [], M7) := by
      intro n
      induction n with
      | zero => intro x5 x6 M7 L' hM7 l8 l9 l10 l11 hn; exact (lpn_0 hn).elim
      | succ n ih =>
        intro x5 x6 M7 L' hM7 l8 l9 l10 l11 hn
        have h := lpn_ed3 hn
        unfold f_MSquareRows_next_L24 at h
        refine iq_iload_n hS 25 J_MSquareRows_next_d24 l11 rfl ?_
        refine iq_iload_n hS 26 J_MSquareRows_next_d25 l9 rfl ?_
        refine iq_icmp_ge hS 29 J_MSquareRows_next_d26 (t := 75) rfl (fun q26 => ?_) rfl (fun q26 => ?_)
        · replace h := ed_pos q26 h
          exact K1 _ _ _ hM7 l10 (lq_r h hq1)
        · replace h := ed_neg q26 h
          refine iq_iconst hS 30 J_MSquareRows_next_d29 (v := 2) (by decide +kernel) rfl ?_
          refine iq_iload_n hS 31 J_MSquareRows_next_d30 l10 rfl ?_
          refine iq_imul hS 32 J_MSquareRows_next_d31 rfl ?_
          refine iq_aload_n hS 33 J_MSquareRows_next_d32 l8 rfl ?_
          refine iq_getR hS 36 J_MSquareRows_next_d33 lf_16_40 (Or.inr ⟨_, rfl⟩) (ka_108 hM7) (ra_108_17 hM7) rfl ?_
          refine iq_aload_n hS 37 J_MSquareRows_next_d36 l8 rfl ?_
          refine iq_getI hS 40 J_MSquareRows_next_d37 lf_16_279 (Or.inl rfl) (ka_108 hM7) rfl ?_
          refine iq_bipush hS 42 J_MSquareRows_next_d40 (v := 8) (by decide +kernel) rfl ?_
          refine iq_idiv hS 43 J_MSquareRows_next_d42 (by decide) rfl ?_
          obtain ⟨g43, h⟩ := ed_gd h
          refine iq_iaload hS 44 J_MSquareRows_next_d43 ⟨(ka_119 hM7).1, (ka_119 hM7).2, g43.1, ix_lt (kl_119 hM7) g43.2⟩ rfl ?_
          refine iq_bipush hS 46 J_MSquareRows_next_d44 (v := 7) (by decide +kernel) rfl ?_
          refine iq_aload_n hS 47 J_MSquareRows_next_d46 l8 rfl ?_
          refine iq_getI hS 50 J_MSquareRows_next_d47 lf_16_279 (Or.inl rfl) (ka_108 hM7) rfl ?_
          refine iq_bipush hS 52 J_MSquareRows_next_d50 (v := 8) (by decide +kernel) rfl ?_
          refine iq_irem hS 53 J_MSquareRows_next_d52 (by decide) rfl ?_
          refine iq_isub hS 54 J_MSquareRows_next_d53 rfl ?_
          refine iq_ishr hS 55 J_MSquareRows_next_d54 rfl ?_
          refine iq_iconst hS 56 J_MSquareRows_next_d55 (v := 1) (by decide +kernel) rfl ?_
          refine iq_iand hS 57 J_MSquareRows_next_d56 rfl ?_
          refine iq_iadd hS 58 J_MSquareRows_next_d57 rfl ?_
          refine iq_istore_n hS 59 J_MSquareRows_next_d58 (by decide) rfl ?_
          refine iq_aload_n hS 60 J_MSquareRows_next_d59 (lk_1r l8 (by decide)) rfl ?_
          refine iq_dup hS 61 J_MSquareRows_next_d60 rfl rfl ?_
          refine iq_getI hS 64 J_MSquareRows_next_d61 lf_16_279 (Or.inl rfl) (ka_108 hM7) rfl ?_
          refine iq_iconst hS 65 J_MSquareRows_next_d64 (v := 1) (by decide +kernel) rfl ?_
          refine iq_iadd hS 66 J_MSquareRows_next_d65 rfl ?_
          refine iq_putI hS 69 J_MSquareRows_next_d66 lf_16_279 (Or.inl rfl) rfl (ka_108 hM7) rfl ?_
          refine iq_iincv hS 72 J_MSquareRows_next_d69 (c := 1) (by decide +kernel) (lk_1i l11 (by decide)) (by decide) rfl ?_
          refine iq_goto hS J_MSquareRows_next_d72 (t := 24) rfl ?_
          exact ih _ _ _ _ hM7 (lk_1r (lk_1r l8 (by decide)) (by decide)) (lk_1i (lk_1i l9 (by decide)) (by decide)) (lk_1i lk_1s (by decide)) lk_1s (lq_l h)
    exact I1 n1 _ _ _ _ hM (lk_1r (lk_1r l0 (by decide)) (by decide)) (lk_1i (lk_1i l1 (by decide)) (by decide)) (lk_1i lk_1s (by decide)) lk_1s hn1
  · replace h := ed_neg q10 h
    refine iq_aload_n hS 14 J_MSquareRows_next_d13 l0 rfl ?_
    refine iq_iconst hS 15 J_MSquareRows_next_d14 (v := 4) (by decide +kernel) rfl ?_
    refine iq_putI hS 18 J_MSquareRows_next_d15 lf_16_285 (Or.inl rfl) rfl (ka_108 hM) rfl ?_
    refine iq_iconst hS 19 J_MSquareRows_next_d18 (v := 0) (by decide +kernel) rfl ?_
    exact iq_iret J_MSquareRows_next_d19 rfl rfl ⟨_, rfl, hM, ed_some h⟩
noncomputable def f_MSquareRows_byteOf (p0 : Int32) (M : im_M) : Option (Int32) := if 10 ≤ p0 then if 36 ≤ p0 then if p0 = 36 then some 32 else if p0 = 37 then some 36 else if p0 = 38 then some 37 else if p0 = 39 then some 42 else if p0 = 40 then some 43 else if p0 = 41 then some 45 else if p0 = 42 then some 46 else if p0 = 43 then some 47 else some 58 else some (((65 : Int32) + p0) - 10) else some ((48 : Int32) + p0)
theorem J_MSquareRows_byteOf_d0 : decode J_MSquareRows_byteOf.2.1 0 = .ok (.iload_n 0, 1) := by decide +kernel
theorem J_MSquareRows_byteOf_d1 : decode J_MSquareRows_byteOf.2.1 1 = .ok (.bipush 10, 2) := by decide +kernel
theorem J_MSquareRows_byteOf_d3 : decode J_MSquareRows_byteOf.2.1 3 = .ok (.if_icmp .ge 8, 3) := by decide +kernel
theorem J_MSquareRows_byteOf_d6 : decode J_MSquareRows_byteOf.2.1 6 = .ok (.bipush 48, 2) := by decide +kernel
theorem J_MSquareRows_byteOf_d8 : decode J_MSquareRows_byteOf.2.1 8 = .ok (.iload_n 0, 1) := by decide +kernel
theorem J_MSquareRows_byteOf_d9 : decode J_MSquareRows_byteOf.2.1 9 = .ok (.iadd, 1) := by decide +kernel
theorem J_MSquareRows_byteOf_d10 : decode J_MSquareRows_byteOf.2.1 10 = .ok (.ireturn, 1) := by decide +kernel
theorem J_MSquareRows_byteOf_d11 : decode J_MSquareRows_byteOf.2.1 11 = .ok (.iload_n 0, 1) := by decide +kernel
theorem J_MSquareRows_byteOf_d12 : decode J_MSquareRows_byteOf.2.1 12 = .ok (.bipush 36, 2) := by decide +kernel
theorem J_MSquareRows_byteOf_d14 : decode J_MSquareRows_byteOf.2.1 14 = .ok (.if_icmp .ge 11, 3) := by decide +kernel
theorem J_MSquareRows_byteOf_d17 : decode J_MSquareRows_byteOf.2.1 17 = .ok (.bipush 65, 2) := by decide +kernel
theorem J_MSquareRows_byteOf_d19 : decode J_MSquareRows_byteOf.2.1 19 = .ok (.iload_n 0, 1) := by decide +kernel
theorem J_MSquareRows_byteOf_d20 : decode J_MSquareRows_byteOf.2.1 20 = .ok (.iadd, 1) := by decide +kernel
theorem J_MSquareRows_byteOf_d21 : decode J_MSquareRows_byteOf.2.1 21 = .ok (.bipush 10, 2) := by decide +kernel
theorem J_MSquareRows_byteOf_d23 : decode J_MSquareRows_byteOf.2.1 23 = .ok (.isub, 1) := by decide +kernel
theorem J_MSquareRows_byteOf_d24 : decode J_MSquareRows_byteOf.2.1 24 = .ok (.ireturn, 1) := by decide +kernel
theorem J_MSquareRows_byteOf_d25 : decode J_MSquareRows_byteOf.2.1 25 = .ok (.iload_n 0, 1) := by decide +kernel
theorem J_MSquareRows_byteOf_d26 : decode J_MSquareRows_byteOf.2.1 26 = .ok (.tableswitch 70 36 43 #[46, 49, 52, 55, 58, 61, 64, 67], 46) := by decide +kernel
theorem J_MSquareRows_byteOf_d72 : decode J_MSquareRows_byteOf.2.1 72 = .ok (.bipush 32, 2) := by decide +kernel
theorem J_MSquareRows_byteOf_d74 : decode J_MSquareRows_byteOf.2.1 74 = .ok (.ireturn, 1) := by decide +kernel
theorem J_MSquareRows_byteOf_d75 : decode J_MSquareRows_byteOf.2.1 75 = .ok (.bipush 36, 2) := by decide +kernel
theorem J_MSquareRows_byteOf_d77 : decode J_MSquareRows_byteOf.2.1 77 = .ok (.ireturn, 1) := by decide +kernel
theorem J_MSquareRows_byteOf_d78 : decode J_MSquareRows_byteOf.2.1 78 = .ok (.bipush 37, 2) := by decide +kernel
theorem J_MSquareRows_byteOf_d80 : decode J_MSquareRows_byteOf.2.1 80 = .ok (.ireturn, 1) := by decide +kernel
theorem J_MSquareRows_byteOf_d81 : decode J_MSquareRows_byteOf.2.1 81 = .ok (.bipush 42, 2) := by decide +kernel
theorem J_MSquareRows_byteOf_d83 : decode J_MSquareRows_byteOf.2.1 83 = .ok (.ireturn, 1) := by decide +kernel
theorem J_MSquareRows_byteOf_d84 : decode J_MSquareRows_byteOf.2.1 84 = .ok (.bipush 43, 2) := by decide +kernel
theorem J_MSquareRows_byteOf_d86 : decode J_MSquareRows_byteOf.2.1 86 = .ok (.ireturn, 1) := by decide +kernel
theorem J_MSquareRows_byteOf_d87 : decode J_MSquareRows_byteOf.2.1 87 = .ok (.bipush 45, 2) := by decide +kernel
theorem J_MSquareRows_byteOf_d89 : decode J_MSquareRows_byteOf.2.1 89 = .ok (.ireturn, 1) := by decide +kernel
theorem J_MSquareRows_byteOf_d90 : decode J_MSquareRows_byteOf.2.1 90 = .ok (.bipush 46, 2) := by decide +kernel
theorem J_MSquareRows_byteOf_d92 : decode J_MSquareRows_byteOf.2.1 92 = .ok (.ireturn, 1) := by decide +kernel
theorem J_MSquareRows_byteOf_d93 : decode J_MSquareRows_byteOf.2.1 93 = .ok (.bipush 47, 2) := by decide +kernel
theorem J_MSquareRows_byteOf_d95 : decode J_MSquareRows_byteOf.2.1 95 = .ok (.ireturn, 1) := by decide +kernel
theorem J_MSquareRows_byteOf_d96 : decode J_MSquareRows_byteOf.2.1 96 = .ok (.bipush 58, 2) := by decide +kernel
theorem J_MSquareRows_byteOf_d98 : decode J_MSquareRows_byteOf.2.1 98 = .ok (.ireturn, 1) := by decide +kernel
theorem f_MSquareRows_byteOf_ok {L : Nat} {xs : Nat → Int32} {dep : Nat} {w : Bool} {p0 : Int32} {M : im_M} {Q : Int32 → Prop} (hM : lw_S w M) (h : ed (f_MSquareRows_byteOf p0 M) Q) : ia (tb_G L xs) dep J_MSquareRows_byteOf (rpI M Q) (0, lv_args 0 [.int p0], [], M) := by
  have hS : im_St (tb_G L xs) dep J_MSquareRows_byteOf (ia (tb_G L xs) dep J_MSquareRows_byteOf (rpI M Q)) := ia_St
  unfold f_MSquareRows_byteOf at h
  have l0 : im_lk (lv_args 0 [.int p0]) 0 = some (.int p0) := rfl
  refine iq_iload_n hS 1 J_MSquareRows_byteOf_d0 l0 rfl ?_
  refine iq_bipush hS 3 J_MSquareRows_byteOf_d1 (v := 10) (by decide +kernel) rfl ?_
  refine iq_icmp_ge hS 6 J_MSquareRows_byteOf_d3 (t := 11) rfl (fun q3 => ?_) rfl (fun q3 => ?_)
  · replace h := ed_pos q3 h
    refine iq_iload_n hS 12 J_MSquareRows_byteOf_d11 l0 rfl ?_
    refine iq_bipush hS 14 J_MSquareRows_byteOf_d12 (v := 36) (by decide +kernel) rfl ?_
    refine iq_icmp_ge hS 17 J_MSquareRows_byteOf_d14 (t := 25) rfl (fun q14 => ?_) rfl (fun q14 => ?_)
    · replace h := ed_pos q14 h
      refine iq_iload_n hS 26 J_MSquareRows_byteOf_d25 l0 rfl ?_
      by_cases q26_36 : p0 = 36
      · replace h := ed_pos q26_36 h
        refine iq_tsw hS J_MSquareRows_byteOf_d26 (t := 72) (sw_v q26_36 (by decide +kernel)) ?_
        refine iq_bipush hS 74 J_MSquareRows_byteOf_d72 (v := 32) (by decide +kernel) rfl ?_
        exact iq_iret J_MSquareRows_byteOf_d74 rfl rfl ⟨_, rfl, rfl, ed_some h⟩
      replace h := ed_neg q26_36 h
      by_cases q26_37 : p0 = 37
      · replace h := ed_pos q26_37 h
        refine iq_tsw hS J_MSquareRows_byteOf_d26 (t := 75) (sw_v q26_37 (by decide +kernel)) ?_
        refine iq_bipush hS 77 J_MSquareRows_byteOf_d75 (v := 36) (by decide +kernel) rfl ?_
        exact iq_iret J_MSquareRows_byteOf_d77 rfl rfl ⟨_, rfl, rfl, ed_some h⟩
      replace h := ed_neg q26_37 h
      by_cases q26_38 : p0 = 38
      · replace h := ed_pos q26_38 h
        refine iq_tsw hS J_MSquareRows_byteOf_d26 (t := 78) (sw_v q26_38 (by decide +kernel)) ?_
        refine iq_bipush hS 80 J_MSquareRows_byteOf_d78 (v := 37) (by decide +kernel) rfl ?_
        exact iq_iret J_MSquareRows_byteOf_d80 rfl rfl ⟨_, rfl, rfl, ed_some h⟩
      replace h := ed_neg q26_38 h
      by_cases q26_39 : p0 = 39
      · replace h := ed_pos q26_39 h
        refine iq_tsw hS J_MSquareRows_byteOf_d26 (t := 81) (sw_v q26_39 (by decide +kernel)) ?_
        refine iq_bipush hS 83 J_MSquareRows_byteOf_d81 (v := 42) (by decide +kernel) rfl ?_
        exact iq_iret J_MSquareRows_byteOf_d83 rfl rfl ⟨_, rfl, rfl, ed_some h⟩
      replace h := ed_neg q26_39 h
      by_cases q26_40 : p0 = 40
      · replace h := ed_pos q26_40 h
        refine iq_tsw hS J_MSquareRows_byteOf_d26 (t := 84) (sw_v q26_40 (by decide +kernel)) ?_
        refine iq_bipush hS 86 J_MSquareRows_byteOf_d84 (v := 43) (by decide +kernel) rfl ?_
        exact iq_iret J_MSquareRows_byteOf_d86 rfl rfl ⟨_, rfl, rfl, ed_some h⟩
      replace h := ed_neg q26_40 h
      by_cases q26_41 : p0 = 41
      · replace h := ed_pos q26_41 h
        refine iq_tsw hS J_MSquareRows_byteOf_d26 (t := 87) (sw_v q26_41 (by decide +kernel)) ?_
        refine iq_bipush hS 89 J_MSquareRows_byteOf_d87 (v := 45) (by decide +kernel) rfl ?_
        exact iq_iret J_MSquareRows_byteOf_d89 rfl rfl ⟨_, rfl, rfl, ed_some h⟩
      replace h := ed_neg q26_41 h
      by_cases q26_42 : p0 = 42
      · replace h := ed_pos q26_42 h
        refine iq_tsw hS J_MSquareRows_byteOf_d26 (t := 90) (sw_v q26_42 (by decide +kernel)) ?_
        refine iq_bipush hS 92 J_MSquareRows_byteOf_d90 (v := 46) (by decide +kernel) rfl ?_
        exact iq_iret J_MSquareRows_byteOf_d92 rfl rfl ⟨_, rfl, rfl, ed_some h⟩
      replace h := ed_neg q26_42 h
      by_cases q26_43 : p0 = 43
      · replace h := ed_pos q26_43 h
        refine iq_tsw hS J_MSquareRows_byteOf_d26 (t := 93) (sw_v q26_43 (by decide +kernel)) ?_
        refine iq_bipush hS 95 J_MSquareRows_byteOf_d93 (v := 47) (by decide +kernel) rfl ?_
        exact iq_iret J_MSquareRows_byteOf_d95 rfl rfl ⟨_, rfl, rfl, ed_some h⟩
      replace h := ed_neg q26_43 h
      refine iq_tsw hS J_MSquareRows_byteOf_d26 (t := 96) (sw_d [36, 37, 38, 39, 40, 41, 42, 43] (by decide) (by decide) (by decide +kernel) (sw_nc q26_36 (sw_nc q26_37 (sw_nc q26_38 (sw_nc q26_39 (sw_nc q26_40 (sw_nc q26_41 (sw_nc q26_42 (sw_nc q26_43 sw_nn))))))))) ?_
      refine iq_bipush hS 98 J_MSquareRows_byteOf_d96 (v := 58) (by decide +kernel) rfl ?_
      exact iq_iret J_MSquareRows_byteOf_d98 rfl rfl ⟨_, rfl, rfl, ed_some h⟩
    · replace h := ed_neg q14 h
      refine iq_bipush hS 19 J_MSquareRows_byteOf_d17 (v := 65) (by decide +kernel) rfl ?_
      refine iq_iload_n hS 20 J_MSquareRows_byteOf_d19 l0 rfl ?_
      refine iq_iadd hS 21 J_MSquareRows_byteOf_d20 rfl ?_
      refine iq_bipush hS 23 J_MSquareRows_byteOf_d21 (v := 10) (by decide +kernel) rfl ?_
      refine iq_isub hS 24 J_MSquareRows_byteOf_d23 rfl ?_
      exact iq_iret J_MSquareRows_byteOf_d24 rfl rfl ⟨_, rfl, rfl, ed_some h⟩
  · replace h := ed_neg q3 h
    refine iq_bipush hS 8 J_MSquareRows_byteOf_d6 (v := 48) (by decide +kernel) rfl ?_
    refine iq_iload_n hS 9 J_MSquareRows_byteOf_d8 l0 rfl ?_
    refine iq_iadd hS 10 J_MSquareRows_byteOf_d9 rfl ?_
    exact iq_iret J_MSquareRows_byteOf_d10 rfl rfl ⟨_, rfl, rfl, ed_some h⟩
noncomputable def f_MSquareRows_take (p0 : Int32) (M : im_M) : Option (im_M) := gd (inb (im_i M 108 28) 3000) <| some (im_setI (im_setI M 128 (Int32.toNatClampNeg (im_i M 108 28)) p0) 108 28 ((im_i (im_setI M 128 (Int32.toNatClampNeg (im_i M 108 28)) p0) 108 28) + 1))
theorem J_MSquareRows_take_d0 : decode J_MSquareRows_take.2.1 0 = .ok (.aload_n 0, 1) := by decide +kernel
theorem J_MSquareRows_take_d1 : decode J_MSquareRows_take.2.1 1 = .ok (.getfield 67, 3) := by decide +kernel
theorem J_MSquareRows_take_d4 : decode J_MSquareRows_take.2.1 4 = .ok (.aload_n 0, 1) := by decide +kernel
theorem J_MSquareRows_take_d5 : decode J_MSquareRows_take.2.1 5 = .ok (.getfield 288, 3) := by decide +kernel
theorem J_MSquareRows_take_d8 : decode J_MSquareRows_take.2.1 8 = .ok (.iload_n 1, 1) := by decide +kernel
theorem J_MSquareRows_take_d9 : decode J_MSquareRows_take.2.1 9 = .ok (.iastore, 1) := by decide +kernel
theorem J_MSquareRows_take_d10 : decode J_MSquareRows_take.2.1 10 = .ok (.aload_n 0, 1) := by decide +kernel
theorem J_MSquareRows_take_d11 : decode J_MSquareRows_take.2.1 11 = .ok (.dup, 1) := by decide +kernel
theorem J_MSquareRows_take_d12 : decode J_MSquareRows_take.2.1 12 = .ok (.getfield 288, 3) := by decide +kernel
theorem J_MSquareRows_take_d15 : decode J_MSquareRows_take.2.1 15 = .ok (.iconst 1, 1) := by decide +kernel
theorem J_MSquareRows_take_d16 : decode J_MSquareRows_take.2.1 16 = .ok (.iadd, 1) := by decide +kernel
theorem J_MSquareRows_take_d17 : decode J_MSquareRows_take.2.1 17 = .ok (.putfield 288, 3) := by decide +kernel
theorem J_MSquareRows_take_d20 : decode J_MSquareRows_take.2.1 20 = .ok (.return_, 1) := by decide +kernel
theorem f_MSquareRows_take_ok {L : Nat} {xs : Nat → Int32} {dep : Nat} {w : Bool} {p0 : Int32} {M : im_M} {Q : im_M → Prop} (hM : lw_S w M) (h : ed (f_MSquareRows_take p0 M) Q) : ia (tb_G L xs) dep J_MSquareRows_take (rwV w Q) (0, lv_args 0 [.ref 108, .int p0], [], M) := by
  have hS : im_St (tb_G L xs) dep J_MSquareRows_take (ia (tb_G L xs) dep J_MSquareRows_take (rwV w Q)) := ia_St
  unfold f_MSquareRows_take at h
  have l0 : im_lk (lv_args 0 [.ref 108, .int p0]) 0 = some (.ref 108) := rfl
  have l1 : im_lk (lv_args 0 [.ref 108, .int p0]) 1 = some (.int p0) := rfl
  refine iq_aload_n hS 1 J_MSquareRows_take_d0 l0 rfl ?_
  refine iq_getR hS 4 J_MSquareRows_take_d1 lf_16_67 (Or.inr ⟨_, rfl⟩) (ka_108 hM) (ra_108_27 hM) rfl ?_
  refine iq_aload_n hS 5 J_MSquareRows_take_d4 l0 rfl ?_
  refine iq_getI hS 8 J_MSquareRows_take_d5 lf_16_288 (Or.inl rfl) (ka_108 hM) rfl ?_
  refine iq_iload_n hS 9 J_MSquareRows_take_d8 l1 rfl ?_
  obtain ⟨g9, h⟩ := ed_gd h
  refine iq_iastore hS 10 J_MSquareRows_take_d9 ⟨(ka_128 hM).1, (ka_128 hM).2, g9.1, ix_lt (kl_128 hM) g9.2⟩ rfl ?_
  refine iq_aload_n hS 11 J_MSquareRows_take_d10 l0 rfl ?_
  refine iq_dup hS 12 J_MSquareRows_take_d11 rfl rfl ?_
  refine iq_getI hS 15 J_MSquareRows_take_d12 lf_16_288 (Or.inl rfl) (ka_108 hM) rfl ?_
  refine iq_iconst hS 16 J_MSquareRows_take_d15 (v := 1) (by decide +kernel) rfl ?_
  refine iq_iadd hS 17 J_MSquareRows_take_d16 rfl ?_
  refine iq_putI hS 20 J_MSquareRows_take_d17 lf_16_288 (Or.inl rfl) rfl (ka_108 hM) rfl ?_
  exact iq_ret J_MSquareRows_take_d20 rfl ⟨rfl, hM, ed_some h⟩
