/-! METHODS AS FUNCTIONS -/
noncomputable def f_MScriptRows_have (p0 : Int32) (p1 : Int32) (p2 : Int32) (M : im_M) : Option (im_M) := if (im_i M 71 33) = 0 then some M else gd (inb (((9 : Int32) * (im_i M 71 37)) - 4) 1080) <| gd (inb (((9 : Int32) * (im_i (im_setI M 87 (Int32.toNatClampNeg (((9 : Int32) * (im_i M 71 37)) - 4)) p0) 71 37)) - 3) 1080) <| gd (inb (((9 : Int32) * (im_i (im_setI (im_setI M 87 (Int32.toNatClampNeg (((9 : Int32) * (im_i M 71 37)) - 4)) p0) 87 (Int32.toNatClampNeg (((9 : Int32) * (im_i (im_setI M 87 (Int32.toNatClampNeg (((9 : Int32) * (im_i M 71 37)) - 4)) p0) 71 37)) - 3)) p1) 71 37)) - 2) 1080) <| some (im_setI (im_setI (im_setI M 87 (Int32.toNatClampNeg (((9 : Int32) * (im_i M 71 37)) - 4)) p0) 87 (Int32.toNatClampNeg (((9 : Int32) * (im_i (im_setI M 87 (Int32.toNatClampNeg (((9 : Int32) * (im_i M 71 37)) - 4)) p0) 71 37)) - 3)) p1) 87 (Int32.toNatClampNeg (((9 : Int32) * (im_i (im_setI (im_setI M 87 (Int32.toNatClampNeg (((9 : Int32) * (im_i M 71 37)) - 4)) p0) 87 (Int32.toNatClampNeg (((9 : Int32) * (im_i (im_setI M 87 (Int32.toNatClampNeg (((9 : Int32) * (im_i M 71 37)) - 4)) p0) 71 37)) - 3)) p1) 71 37)) - 2)) p2)
theorem J_MScriptRows_have_d0 : decode J_MScriptRows_have.2.1 0 = .ok (.aload_n 0, 1) := by decide +kernel
theorem J_MScriptRows_have_d1 : decode J_MScriptRows_have.2.1 1 = .ok (.getfield 136, 3) := by decide +kernel
theorem J_MScriptRows_have_d4 : decode J_MScriptRows_have.2.1 4 = .ok (.ifCond .eq 48, 3) := by decide +kernel
theorem J_MScriptRows_have_d7 : decode J_MScriptRows_have.2.1 7 = .ok (.aload_n 0, 1) := by decide +kernel
theorem J_MScriptRows_have_d8 : decode J_MScriptRows_have.2.1 8 = .ok (.getfield 59, 3) := by decide +kernel
theorem J_MScriptRows_have_d11 : decode J_MScriptRows_have.2.1 11 = .ok (.bipush 9, 2) := by decide +kernel
theorem J_MScriptRows_have_d13 : decode J_MScriptRows_have.2.1 13 = .ok (.aload_n 0, 1) := by decide +kernel
theorem J_MScriptRows_have_d14 : decode J_MScriptRows_have.2.1 14 = .ok (.getfield 155, 3) := by decide +kernel
theorem J_MScriptRows_have_d17 : decode J_MScriptRows_have.2.1 17 = .ok (.imul, 1) := by decide +kernel
theorem J_MScriptRows_have_d18 : decode J_MScriptRows_have.2.1 18 = .ok (.iconst 4, 1) := by decide +kernel
theorem J_MScriptRows_have_d19 : decode J_MScriptRows_have.2.1 19 = .ok (.isub, 1) := by decide +kernel
theorem J_MScriptRows_have_d20 : decode J_MScriptRows_have.2.1 20 = .ok (.iload_n 1, 1) := by decide +kernel
theorem J_MScriptRows_have_d21 : decode J_MScriptRows_have.2.1 21 = .ok (.iastore, 1) := by decide +kernel
theorem J_MScriptRows_have_d22 : decode J_MScriptRows_have.2.1 22 = .ok (.aload_n 0, 1) := by decide +kernel
theorem J_MScriptRows_have_d23 : decode J_MScriptRows_have.2.1 23 = .ok (.getfield 59, 3) := by decide +kernel
theorem J_MScriptRows_have_d26 : decode J_MScriptRows_have.2.1 26 = .ok (.bipush 9, 2) := by decide +kernel
theorem J_MScriptRows_have_d28 : decode J_MScriptRows_have.2.1 28 = .ok (.aload_n 0, 1) := by decide +kernel
theorem J_MScriptRows_have_d29 : decode J_MScriptRows_have.2.1 29 = .ok (.getfield 155, 3) := by decide +kernel
theorem J_MScriptRows_have_d32 : decode J_MScriptRows_have.2.1 32 = .ok (.imul, 1) := by decide +kernel
theorem J_MScriptRows_have_d33 : decode J_MScriptRows_have.2.1 33 = .ok (.iconst 3, 1) := by decide +kernel
theorem J_MScriptRows_have_d34 : decode J_MScriptRows_have.2.1 34 = .ok (.isub, 1) := by decide +kernel
theorem J_MScriptRows_have_d35 : decode J_MScriptRows_have.2.1 35 = .ok (.iload_n 2, 1) := by decide +kernel
theorem J_MScriptRows_have_d36 : decode J_MScriptRows_have.2.1 36 = .ok (.iastore, 1) := by decide +kernel
theorem J_MScriptRows_have_d37 : decode J_MScriptRows_have.2.1 37 = .ok (.aload_n 0, 1) := by decide +kernel
theorem J_MScriptRows_have_d38 : decode J_MScriptRows_have.2.1 38 = .ok (.getfield 59, 3) := by decide +kernel
theorem J_MScriptRows_have_d41 : decode J_MScriptRows_have.2.1 41 = .ok (.bipush 9, 2) := by decide +kernel
theorem J_MScriptRows_have_d43 : decode J_MScriptRows_have.2.1 43 = .ok (.aload_n 0, 1) := by decide +kernel
theorem J_MScriptRows_have_d44 : decode J_MScriptRows_have.2.1 44 = .ok (.getfield 155, 3) := by decide +kernel
theorem J_MScriptRows_have_d47 : decode J_MScriptRows_have.2.1 47 = .ok (.imul, 1) := by decide +kernel
theorem J_MScriptRows_have_d48 : decode J_MScriptRows_have.2.1 48 = .ok (.iconst 2, 1) := by decide +kernel
theorem J_MScriptRows_have_d49 : decode J_MScriptRows_have.2.1 49 = .ok (.isub, 1) := by decide +kernel
theorem J_MScriptRows_have_d50 : decode J_MScriptRows_have.2.1 50 = .ok (.iload_n 3, 1) := by decide +kernel
theorem J_MScriptRows_have_d51 : decode J_MScriptRows_have.2.1 51 = .ok (.iastore, 1) := by decide +kernel
theorem J_MScriptRows_have_d52 : decode J_MScriptRows_have.2.1 52 = .ok (.return_, 1) := by decide +kernel
theorem f_MScriptRows_have_ok {L : Nat} {xs : Nat → Int32} {dep : Nat} {w : Bool} {p0 : Int32} {p1 : Int32} {p2 : Int32} {M : im_M} {Q : im_M → Prop} (hM : lw_S w M) (h : ed (f_MScriptRows_have p0 p1 p2 M) Q) : ia (tb_G L xs) dep J_MScriptRows_have (rwV w Q) (0, lv_args 0 [.ref 71, .int p0, .int p1, .int p2], [], M) := by
  have hS : im_St (tb_G L xs) dep J_MScriptRows_have (ia (tb_G L xs) dep J_MScriptRows_have (rwV w Q)) := ia_St
  unfold f_MScriptRows_have at h
  have l0 : im_lk (lv_args 0 [.ref 71, .int p0, .int p1, .int p2]) 0 = some (.ref 71) := rfl
  have l1 : im_lk (lv_args 0 [.ref 71, .int p0, .int p1, .int p2]) 1 = some (.int p0) := rfl
  have l2 : im_lk (lv_args 0 [.ref 71, .int p0, .int p1, .int p2]) 2 = some (.int p1) := rfl
  have l3 : im_lk (lv_args 0 [.ref 71, .int p0, .int p1, .int p2]) 3 = some (.int p2) := rfl
  refine iq_aload_n hS 1 J_MScriptRows_have_d0 l0 rfl ?_
  refine iq_getI hS 4 J_MScriptRows_have_d1 lf_15_136 (Or.inr rfl) (ka_71 hM) rfl ?_
  refine iq_if_eq hS 7 J_MScriptRows_have_d4 (t := 52) rfl (fun q4 => ?_) rfl (fun q4 => ?_)
  · replace h := ed_pos q4 h
    exact iq_ret J_MScriptRows_have_d52 rfl ⟨rfl, hM, ed_some h⟩
  · replace h := ed_neg q4 h
    refine iq_aload_n hS 8 J_MScriptRows_have_d7 l0 rfl ?_
    refine iq_getR hS 11 J_MScriptRows_have_d8 lf_15_59 (Or.inr ⟨_, rfl⟩) (ka_71 hM) (ra_71_38 hM) rfl ?_
    refine iq_bipush hS 13 J_MScriptRows_have_d11 (v := 9) (by decide +kernel) rfl ?_
    refine iq_aload_n hS 14 J_MScriptRows_have_d13 l0 rfl ?_
    refine iq_getI hS 17 J_MScriptRows_have_d14 lf_15_155 (Or.inl rfl) (ka_71 hM) rfl ?_
    refine iq_imul hS 18 J_MScriptRows_have_d17 rfl ?_
    refine iq_iconst hS 19 J_MScriptRows_have_d18 (v := 4) (by decide +kernel) rfl ?_
    refine iq_isub hS 20 J_MScriptRows_have_d19 rfl ?_
    refine iq_iload_n hS 21 J_MScriptRows_have_d20 l1 rfl ?_
    obtain ⟨g21, h⟩ := ed_gd h
    refine iq_iastore hS 22 J_MScriptRows_have_d21 ⟨(ka_87 hM).1, (ka_87 hM).2, g21.1, ix_lt (kl_87 hM) g21.2⟩ rfl ?_
    refine iq_aload_n hS 23 J_MScriptRows_have_d22 l0 rfl ?_
    refine iq_getR hS 26 J_MScriptRows_have_d23 lf_15_59 (Or.inr ⟨_, rfl⟩) (ka_71 (lw_sI hM)) (ra_71_38 (lw_sI hM)) rfl ?_
    refine iq_bipush hS 28 J_MScriptRows_have_d26 (v := 9) (by decide +kernel) rfl ?_
    refine iq_aload_n hS 29 J_MScriptRows_have_d28 l0 rfl ?_
    refine iq_getI hS 32 J_MScriptRows_have_d29 lf_15_155 (Or.inl rfl) (ka_71 (lw_sI hM)) rfl ?_
    refine iq_imul hS 33 J_MScriptRows_have_d32 rfl ?_
    refine iq_iconst hS 34 J_MScriptRows_have_d33 (v := 3) (by decide +kernel) rfl ?_
    refine iq_isub hS 35 J_MScriptRows_have_d34 rfl ?_
    refine iq_iload_n hS 36 J_MScriptRows_have_d35 l2 rfl ?_
    obtain ⟨g36, h⟩ := ed_gd h
    refine iq_iastore hS 37 J_MScriptRows_have_d36 ⟨(ka_87 (lw_sI hM)).1, (ka_87 (lw_sI hM)).2, g36.1, ix_lt (kl_87 (lw_sI hM)) g36.2⟩ rfl ?_
    refine iq_aload_n hS 38 J_MScriptRows_have_d37 l0 rfl ?_
    refine iq_getR hS 41 J_MScriptRows_have_d38 lf_15_59 (Or.inr ⟨_, rfl⟩) (ka_71 (lw_sI (lw_sI hM))) (ra_71_38 (lw_sI (lw_sI hM))) rfl ?_
    refine iq_bipush hS 43 J_MScriptRows_have_d41 (v := 9) (by decide +kernel) rfl ?_
    refine iq_aload_n hS 44 J_MScriptRows_have_d43 l0 rfl ?_
    refine iq_getI hS 47 J_MScriptRows_have_d44 lf_15_155 (Or.inl rfl) (ka_71 (lw_sI (lw_sI hM))) rfl ?_
    refine iq_imul hS 48 J_MScriptRows_have_d47 rfl ?_
    refine iq_iconst hS 49 J_MScriptRows_have_d48 (v := 2) (by decide +kernel) rfl ?_
    refine iq_isub hS 50 J_MScriptRows_have_d49 rfl ?_
    refine iq_iload_n hS 51 J_MScriptRows_have_d50 l3 rfl ?_
    obtain ⟨g51, h⟩ := ed_gd h
    refine iq_iastore hS 52 J_MScriptRows_have_d51 ⟨(ka_87 (lw_sI (lw_sI hM))).1, (ka_87 (lw_sI (lw_sI hM))).2, g51.1, ix_lt (kl_87 (lw_sI (lw_sI hM))) g51.2⟩ rfl ?_
    exact iq_ret J_MScriptRows_have_d52 rfl ⟨rfl, (lw_sI (lw_sI (lw_sI hM))), ed_some h⟩
theorem f_MScriptRows_have_fr {p0 : Int32} {p1 : Int32} {p2 : Int32} {M : im_M} {r : im_M} (h : f_MScriptRows_have p0 p1 p2 M = some r) : fr 154742504910672534362390528 [] M r := by
  replace h : ed (f_MScriptRows_have p0 p1 p2 M) (fun x => x = r) := ⟨r, h, rfl⟩
  unfold f_MScriptRows_have at h
  by_cases q4 : (im_i M 71 33) = 0
  · replace h := ed_pos q4 h
    exact fr_retV h fr_refl
  · replace h := ed_neg q4 h
    obtain ⟨g21, h⟩ := ed_gd h
    obtain ⟨g36, h⟩ := ed_gd h
    obtain ⟨g51, h⟩ := ed_gd h
    exact fr_retV h (fr_I (by decide) (fr_I (by decide) (fr_I (by decide) fr_refl)))
noncomputable def f_MScriptRows_pieceEnd_L2 (v2 : Int32) (M4 : im_M) (x3 : Int32) : Option ((Int32) ⊕ (Int32)) := if v2 ≤ x3 then some (.inr x3) else gd (inb x3 200) <| if (im_i M4 85 (Int32.toNatClampNeg x3)) = 10 then some (.inr x3) else some (.inl (x3 + 1))
noncomputable def f_MScriptRows_pieceEnd (p0 : Int32) (p1 : Int32) (M : im_M) : Option (Int32) := bd1 (lp (uc1 (f_MScriptRows_pieceEnd_L2 p1 M)) p0) fun (y5 : Int32) => some y5
theorem J_MScriptRows_pieceEnd_d0 : decode J_MScriptRows_pieceEnd.2.1 0 = .ok (.iload_n 1, 1) := by decide +kernel
theorem J_MScriptRows_pieceEnd_d1 : decode J_MScriptRows_pieceEnd.2.1 1 = .ok (.istore_n 3, 1) := by decide +kernel
theorem J_MScriptRows_pieceEnd_d2 : decode J_MScriptRows_pieceEnd.2.1 2 = .ok (.iload_n 3, 1) := by decide +kernel
theorem J_MScriptRows_pieceEnd_d3 : decode J_MScriptRows_pieceEnd.2.1 3 = .ok (.iload_n 2, 1) := by decide +kernel
theorem J_MScriptRows_pieceEnd_d4 : decode J_MScriptRows_pieceEnd.2.1 4 = .ok (.if_icmp .ge 20, 3) := by decide +kernel
theorem J_MScriptRows_pieceEnd_d7 : decode J_MScriptRows_pieceEnd.2.1 7 = .ok (.aload_n 0, 1) := by decide +kernel
theorem J_MScriptRows_pieceEnd_d8 : decode J_MScriptRows_pieceEnd.2.1 8 = .ok (.getfield 53, 3) := by decide +kernel
theorem J_MScriptRows_pieceEnd_d11 : decode J_MScriptRows_pieceEnd.2.1 11 = .ok (.iload_n 3, 1) := by decide +kernel
theorem J_MScriptRows_pieceEnd_d12 : decode J_MScriptRows_pieceEnd.2.1 12 = .ok (.iaload, 1) := by decide +kernel
theorem J_MScriptRows_pieceEnd_d13 : decode J_MScriptRows_pieceEnd.2.1 13 = .ok (.bipush 10, 2) := by decide +kernel
theorem J_MScriptRows_pieceEnd_d15 : decode J_MScriptRows_pieceEnd.2.1 15 = .ok (.if_icmp .eq 9, 3) := by decide +kernel
theorem J_MScriptRows_pieceEnd_d18 : decode J_MScriptRows_pieceEnd.2.1 18 = .ok (.iinc 3 1, 3) := by decide +kernel
theorem J_MScriptRows_pieceEnd_d21 : decode J_MScriptRows_pieceEnd.2.1 21 = .ok (.goto (-19), 3) := by decide +kernel
theorem J_MScriptRows_pieceEnd_d24 : decode J_MScriptRows_pieceEnd.2.1 24 = .ok (.iload_n 3, 1) := by decide +kernel
theorem J_MScriptRows_pieceEnd_d25 : decode J_MScriptRows_pieceEnd.2.1 25 = .ok (.ireturn, 1) := by decide +kernel
theorem f_MScriptRows_pieceEnd_ok {L : Nat} {xs : Nat → Int32} {dep : Nat} {w : Bool} {p0 : Int32} {p1 : Int32} {M : im_M} {Q : Int32 → Prop} (hM : lw_S w M) (h : ed (f_MScriptRows_pieceEnd p0 p1 M) Q) : ia (tb_G L xs) dep J_MScriptRows_pieceEnd (rpI M Q) (0, lv_args 0 [.ref 71, .int p0, .int p1], [], M) := by
  have hS : im_St (tb_G L xs) dep J_MScriptRows_pieceEnd (ia (tb_G L xs) dep J_MScriptRows_pieceEnd (rpI M Q)) := ia_St
  unfold f_MScriptRows_pieceEnd at h
  have l0 : im_lk (lv_args 0 [.ref 71, .int p0, .int p1]) 0 = some (.ref 71) := rfl
  have l1 : im_lk (lv_args 0 [.ref 71, .int p0, .int p1]) 1 = some (.int p0) := rfl
  have l2 : im_lk (lv_args 0 [.ref 71, .int p0, .int p1]) 2 = some (.int p1) := rfl
  refine iq_iload_n hS 1 J_MScriptRows_pieceEnd_d0 l1 rfl ?_
  refine iq_istore_n hS 2 J_MScriptRows_pieceEnd_d1 (by decide) rfl ?_
  obtain ⟨Q1, hQ1, h⟩ := bd1_ed h
  have K1 : ∀ (y2 : Int32) (L' : List (Nat × Value)), im_lk L' 3 = some (.int y2) → Q1 y2 → ia (tb_G L xs) dep J_MScriptRows_pieceEnd (rpI M Q) (24, L', [], M) := by
    intro y2 L' l3 h
    replace h := hQ1 _ h
    refine iq_iload_n hS 25 J_MScriptRows_pieceEnd_d24 l3 rfl ?_
    exact iq_iret J_MScriptRows_pieceEnd_d25 rfl rfl ⟨_, rfl, rfl, ed_some h⟩
  obtain ⟨r1, hr1, hq1⟩ := h
  obtain ⟨n1, hn1⟩ := lp_n hr1
  have I1 : ∀ (n : Nat) (x4 : Int32) (L' : List (Nat × Value)), im_lk L' 0 = some (.ref 71) → im_lk L' 2 = some (.int p1) → im_lk L' 3 = some (.int x4) → lpn (uc1 (f_MScriptRows_pieceEnd_L2 p1 M)) n x4 = some r1 → ia (tb_G L xs) dep J_MScriptRows_pieceEnd (rpI M Q) (2, L', [], M) := by
    intro n
    induction n with
    | zero => intro x4 L' l5 l6 l7 hn; exact (lpn_0 hn).elim
    | succ n ih =>
      intro x4 L' l5 l6 l7 hn
      have h := lpn_ed1 hn
      unfold f_MScriptRows_pieceEnd_L2 at h
      refine iq_iload_n hS 3 J_MScriptRows_pieceEnd_d2 l7 rfl ?_
      refine iq_iload_n hS 4 J_MScriptRows_pieceEnd_d3 l6 rfl ?_
      refine iq_icmp_ge hS 7 J_MScriptRows_pieceEnd_d4 (t := 24) rfl (fun q4 => ?_) rfl (fun q4 => ?_)
      · replace h := ed_pos q4 h
        exact K1 _ _ l7 (lq_r h hq1)
      · replace h := ed_neg q4 h
        refine iq_aload_n hS 8 J_MScriptRows_pieceEnd_d7 l5 rfl ?_
        refine iq_getR hS 11 J_MScriptRows_pieceEnd_d8 lf_15_53 (Or.inr ⟨_, rfl⟩) (ka_71 hM) (ra_71_31 hM) rfl ?_
        refine iq_iload_n hS 12 J_MScriptRows_pieceEnd_d11 l7 rfl ?_
        obtain ⟨g12, h⟩ := ed_gd h
        refine iq_iaload hS 13 J_MScriptRows_pieceEnd_d12 ⟨(ka_85 hM).1, (ka_85 hM).2, g12.1, ix_lt (kl_85 hM) g12.2⟩ rfl ?_
        refine iq_bipush hS 15 J_MScriptRows_pieceEnd_d13 (v := 10) (by decide +kernel) rfl ?_
        refine iq_icmp_eq hS 18 J_MScriptRows_pieceEnd_d15 (t := 24) rfl (fun q15 => ?_) rfl (fun q15 => ?_)
        · replace h := ed_pos q15 h
          exact K1 _ _ l7 (lq_r h hq1)
        · replace h := ed_neg q15 h
          refine iq_iincv hS 21 J_MScriptRows_pieceEnd_d18 (c := 1) (by decide +kernel) l7 (by decide) rfl ?_
          refine iq_goto hS J_MScriptRows_pieceEnd_d21 (t := 2) rfl ?_
          exact ih _ _ (lk_1r l5 (by decide)) (lk_1i l6 (by decide)) lk_1s (lq_l h)
  exact I1 n1 _ _ (lk_1r l0 (by decide)) (lk_1i l2 (by decide)) lk_1s hn1
noncomputable def f_MScriptRows_giveLine (p0 : Int32) (p1 : Int32) (p2 : Int32) (p3 : Int32) (M : im_M) : Option (im_M) := gd (inb (((16 : Int32) * p0) + 1) 2000) <| gd (inb (((16 : Int32) * p0) + 3) 2000) <| bd1 (if ¬ (im_i M 82 (Int32.toNatClampNeg (((16 : Int32) * p0) + 3))) = 0 then gd (inb (((16 : Int32) * p0) + 3) 2000) <| if ¬ (im_i M 82 (Int32.toNatClampNeg (((16 : Int32) * p0) + 3))) = 1 then gd (inb (((16 : Int32) * p0) + 4) 2000) <| some ((im_i M 82 (Int32.toNatClampNeg (((16 : Int32) * p0) + 4))) * (((im_i M 82 (Int32.toNatClampNeg (((16 : Int32) * p0) + 1))) - p3) / 2)) else gd (inb (((16 : Int32) * p0) + 4) 2000) <| some ((im_i M 82 (Int32.toNatClampNeg (((16 : Int32) * p0) + 4))) * ((im_i M 82 (Int32.toNatClampNeg (((16 : Int32) * p0) + 1))) - p3)) else some 0) fun (y2 : Int32) => gd (inb (((16 : Int32) * p0) + 14) 2000) <| gd (inb (((16 : Int32) * p0) + 2) 2000) <| bd1 (f_MScriptRows_give p0 0 (im_i M 82 (Int32.toNatClampNeg (((16 : Int32) * p0) + 14))) y2 (p1 * (im_i M 82 (Int32.toNatClampNeg (((16 : Int32) * p0) + 2)))) p2 p3 M) fun (M9 : im_M) => gd (inb (((16 : Int32) * p0) + 11) 2000) <| gd (inb (((16 : Int32) * p0) + 12) 2000) <| gd (inb (((16 : Int32) * p0) + 13) 2000) <| bd1 (f_MScriptRows_have (im_i M9 82 (Int32.toNatClampNeg (((16 : Int32) * p0) + 11))) (im_i M9 82 (Int32.toNatClampNeg (((16 : Int32) * p0) + 12))) (im_i M9 82 (Int32.toNatClampNeg (((16 : Int32) * p0) + 13))) M9) fun (M10 : im_M) => some M10
theorem J_MScriptRows_giveLine_d0 : decode J_MScriptRows_giveLine.2.1 0 = .ok (.bipush 16, 2) := by decide +kernel
theorem J_MScriptRows_giveLine_d2 : decode J_MScriptRows_giveLine.2.1 2 = .ok (.iload_n 1, 1) := by decide +kernel
theorem J_MScriptRows_giveLine_d3 : decode J_MScriptRows_giveLine.2.1 3 = .ok (.imul, 1) := by decide +kernel
theorem J_MScriptRows_giveLine_d4 : decode J_MScriptRows_giveLine.2.1 4 = .ok (.istore 5, 2) := by decide +kernel
theorem J_MScriptRows_giveLine_d6 : decode J_MScriptRows_giveLine.2.1 6 = .ok (.aload_n 0, 1) := by decide +kernel
theorem J_MScriptRows_giveLine_d7 : decode J_MScriptRows_giveLine.2.1 7 = .ok (.getfield 44, 3) := by decide +kernel
theorem J_MScriptRows_giveLine_d10 : decode J_MScriptRows_giveLine.2.1 10 = .ok (.iload 5, 2) := by decide +kernel
theorem J_MScriptRows_giveLine_d12 : decode J_MScriptRows_giveLine.2.1 12 = .ok (.iconst 1, 1) := by decide +kernel
theorem J_MScriptRows_giveLine_d13 : decode J_MScriptRows_giveLine.2.1 13 = .ok (.iadd, 1) := by decide +kernel
theorem J_MScriptRows_giveLine_d14 : decode J_MScriptRows_giveLine.2.1 14 = .ok (.iaload, 1) := by decide +kernel
theorem J_MScriptRows_giveLine_d15 : decode J_MScriptRows_giveLine.2.1 15 = .ok (.iload 4, 2) := by decide +kernel
theorem J_MScriptRows_giveLine_d17 : decode J_MScriptRows_giveLine.2.1 17 = .ok (.isub, 1) := by decide +kernel
theorem J_MScriptRows_giveLine_d18 : decode J_MScriptRows_giveLine.2.1 18 = .ok (.istore 6, 2) := by decide +kernel
theorem J_MScriptRows_giveLine_d20 : decode J_MScriptRows_giveLine.2.1 20 = .ok (.aload_n 0, 1) := by decide +kernel
theorem J_MScriptRows_giveLine_d21 : decode J_MScriptRows_giveLine.2.1 21 = .ok (.getfield 44, 3) := by decide +kernel
theorem J_MScriptRows_giveLine_d24 : decode J_MScriptRows_giveLine.2.1 24 = .ok (.iload 5, 2) := by decide +kernel
theorem J_MScriptRows_giveLine_d26 : decode J_MScriptRows_giveLine.2.1 26 = .ok (.iconst 3, 1) := by decide +kernel
theorem J_MScriptRows_giveLine_d27 : decode J_MScriptRows_giveLine.2.1 27 = .ok (.iadd, 1) := by decide +kernel
theorem J_MScriptRows_giveLine_d28 : decode J_MScriptRows_giveLine.2.1 28 = .ok (.iaload, 1) := by decide +kernel
theorem J_MScriptRows_giveLine_d29 : decode J_MScriptRows_giveLine.2.1 29 = .ok (.ifCond .ne 7, 3) := by decide +kernel
theorem J_MScriptRows_giveLine_d32 : decode J_MScriptRows_giveLine.2.1 32 = .ok (.iconst 0, 1) := by decide +kernel
theorem J_MScriptRows_giveLine_d33 : decode J_MScriptRows_giveLine.2.1 33 = .ok (.goto 45, 3) := by decide +kernel
theorem J_MScriptRows_giveLine_d36 : decode J_MScriptRows_giveLine.2.1 36 = .ok (.aload_n 0, 1) := by decide +kernel
theorem J_MScriptRows_giveLine_d37 : decode J_MScriptRows_giveLine.2.1 37 = .ok (.getfield 44, 3) := by decide +kernel
theorem J_MScriptRows_giveLine_d40 : decode J_MScriptRows_giveLine.2.1 40 = .ok (.iload 5, 2) := by decide +kernel
theorem J_MScriptRows_giveLine_d42 : decode J_MScriptRows_giveLine.2.1 42 = .ok (.iconst 3, 1) := by decide +kernel
theorem J_MScriptRows_giveLine_d43 : decode J_MScriptRows_giveLine.2.1 43 = .ok (.iadd, 1) := by decide +kernel
theorem J_MScriptRows_giveLine_d44 : decode J_MScriptRows_giveLine.2.1 44 = .ok (.iaload, 1) := by decide +kernel
theorem J_MScriptRows_giveLine_d45 : decode J_MScriptRows_giveLine.2.1 45 = .ok (.iconst 1, 1) := by decide +kernel
theorem J_MScriptRows_giveLine_d46 : decode J_MScriptRows_giveLine.2.1 46 = .ok (.if_icmp .ne 18, 3) := by decide +kernel
theorem J_MScriptRows_giveLine_d49 : decode J_MScriptRows_giveLine.2.1 49 = .ok (.aload_n 0, 1) := by decide +kernel
theorem J_MScriptRows_giveLine_d50 : decode J_MScriptRows_giveLine.2.1 50 = .ok (.getfield 44, 3) := by decide +kernel
theorem J_MScriptRows_giveLine_d53 : decode J_MScriptRows_giveLine.2.1 53 = .ok (.iload 5, 2) := by decide +kernel
theorem J_MScriptRows_giveLine_d55 : decode J_MScriptRows_giveLine.2.1 55 = .ok (.iconst 4, 1) := by decide +kernel
theorem J_MScriptRows_giveLine_d56 : decode J_MScriptRows_giveLine.2.1 56 = .ok (.iadd, 1) := by decide +kernel
theorem J_MScriptRows_giveLine_d57 : decode J_MScriptRows_giveLine.2.1 57 = .ok (.iaload, 1) := by decide +kernel
theorem J_MScriptRows_giveLine_d58 : decode J_MScriptRows_giveLine.2.1 58 = .ok (.iload 6, 2) := by decide +kernel
theorem J_MScriptRows_giveLine_d60 : decode J_MScriptRows_giveLine.2.1 60 = .ok (.imul, 1) := by decide +kernel
theorem J_MScriptRows_giveLine_d61 : decode J_MScriptRows_giveLine.2.1 61 = .ok (.goto 17, 3) := by decide +kernel
theorem J_MScriptRows_giveLine_d64 : decode J_MScriptRows_giveLine.2.1 64 = .ok (.aload_n 0, 1) := by decide +kernel
theorem J_MScriptRows_giveLine_d65 : decode J_MScriptRows_giveLine.2.1 65 = .ok (.getfield 44, 3) := by decide +kernel
theorem J_MScriptRows_giveLine_d68 : decode J_MScriptRows_giveLine.2.1 68 = .ok (.iload 5, 2) := by decide +kernel
theorem J_MScriptRows_giveLine_d70 : decode J_MScriptRows_giveLine.2.1 70 = .ok (.iconst 4, 1) := by decide +kernel
theorem J_MScriptRows_giveLine_d71 : decode J_MScriptRows_giveLine.2.1 71 = .ok (.iadd, 1) := by decide +kernel
theorem J_MScriptRows_giveLine_d72 : decode J_MScriptRows_giveLine.2.1 72 = .ok (.iaload, 1) := by decide +kernel
theorem J_MScriptRows_giveLine_d73 : decode J_MScriptRows_giveLine.2.1 73 = .ok (.iload 6, 2) := by decide +kernel
theorem J_MScriptRows_giveLine_d75 : decode J_MScriptRows_giveLine.2.1 75 = .ok (.iconst 2, 1) := by decide +kernel
theorem J_MScriptRows_giveLine_d76 : decode J_MScriptRows_giveLine.2.1 76 = .ok (.idiv, 1) := by decide +kernel
theorem J_MScriptRows_giveLine_d77 : decode J_MScriptRows_giveLine.2.1 77 = .ok (.imul, 1) := by decide +kernel
theorem J_MScriptRows_giveLine_d78 : decode J_MScriptRows_giveLine.2.1 78 = .ok (.istore 7, 2) := by decide +kernel
theorem J_MScriptRows_giveLine_d80 : decode J_MScriptRows_giveLine.2.1 80 = .ok (.aload_n 0, 1) := by decide +kernel
theorem J_MScriptRows_giveLine_d81 : decode J_MScriptRows_giveLine.2.1 81 = .ok (.iload_n 1, 1) := by decide +kernel
theorem J_MScriptRows_giveLine_d82 : decode J_MScriptRows_giveLine.2.1 82 = .ok (.iconst 0, 1) := by decide +kernel
theorem J_MScriptRows_giveLine_d83 : decode J_MScriptRows_giveLine.2.1 83 = .ok (.aload_n 0, 1) := by decide +kernel
theorem J_MScriptRows_giveLine_d84 : decode J_MScriptRows_giveLine.2.1 84 = .ok (.getfield 44, 3) := by decide +kernel
theorem J_MScriptRows_giveLine_d87 : decode J_MScriptRows_giveLine.2.1 87 = .ok (.iload 5, 2) := by decide +kernel
theorem J_MScriptRows_giveLine_d89 : decode J_MScriptRows_giveLine.2.1 89 = .ok (.bipush 14, 2) := by decide +kernel
theorem J_MScriptRows_giveLine_d91 : decode J_MScriptRows_giveLine.2.1 91 = .ok (.iadd, 1) := by decide +kernel
theorem J_MScriptRows_giveLine_d92 : decode J_MScriptRows_giveLine.2.1 92 = .ok (.iaload, 1) := by decide +kernel
theorem J_MScriptRows_giveLine_d93 : decode J_MScriptRows_giveLine.2.1 93 = .ok (.iload 7, 2) := by decide +kernel
theorem J_MScriptRows_giveLine_d95 : decode J_MScriptRows_giveLine.2.1 95 = .ok (.iload_n 2, 1) := by decide +kernel
theorem J_MScriptRows_giveLine_d96 : decode J_MScriptRows_giveLine.2.1 96 = .ok (.aload_n 0, 1) := by decide +kernel
theorem J_MScriptRows_giveLine_d97 : decode J_MScriptRows_giveLine.2.1 97 = .ok (.getfield 44, 3) := by decide +kernel
theorem J_MScriptRows_giveLine_d100 : decode J_MScriptRows_giveLine.2.1 100 = .ok (.iload 5, 2) := by decide +kernel
theorem J_MScriptRows_giveLine_d102 : decode J_MScriptRows_giveLine.2.1 102 = .ok (.iconst 2, 1) := by decide +kernel
theorem J_MScriptRows_giveLine_d103 : decode J_MScriptRows_giveLine.2.1 103 = .ok (.iadd, 1) := by decide +kernel
theorem J_MScriptRows_giveLine_d104 : decode J_MScriptRows_giveLine.2.1 104 = .ok (.iaload, 1) := by decide +kernel
theorem J_MScriptRows_giveLine_d105 : decode J_MScriptRows_giveLine.2.1 105 = .ok (.imul, 1) := by decide +kernel
theorem J_MScriptRows_giveLine_d106 : decode J_MScriptRows_giveLine.2.1 106 = .ok (.iload_n 3, 1) := by decide +kernel
theorem J_MScriptRows_giveLine_d107 : decode J_MScriptRows_giveLine.2.1 107 = .ok (.iload 4, 2) := by decide +kernel
theorem J_MScriptRows_giveLine_d109 : decode J_MScriptRows_giveLine.2.1 109 = .ok (.invokevirtual 161, 3) := by decide +kernel
theorem J_MScriptRows_giveLine_d112 : decode J_MScriptRows_giveLine.2.1 112 = .ok (.aload_n 0, 1) := by decide +kernel
theorem J_MScriptRows_giveLine_d113 : decode J_MScriptRows_giveLine.2.1 113 = .ok (.aload_n 0, 1) := by decide +kernel
theorem J_MScriptRows_giveLine_d114 : decode J_MScriptRows_giveLine.2.1 114 = .ok (.getfield 44, 3) := by decide +kernel
theorem J_MScriptRows_giveLine_d117 : decode J_MScriptRows_giveLine.2.1 117 = .ok (.iload 5, 2) := by decide +kernel
theorem J_MScriptRows_giveLine_d119 : decode J_MScriptRows_giveLine.2.1 119 = .ok (.bipush 11, 2) := by decide +kernel
theorem J_MScriptRows_giveLine_d121 : decode J_MScriptRows_giveLine.2.1 121 = .ok (.iadd, 1) := by decide +kernel
theorem J_MScriptRows_giveLine_d122 : decode J_MScriptRows_giveLine.2.1 122 = .ok (.iaload, 1) := by decide +kernel
theorem J_MScriptRows_giveLine_d123 : decode J_MScriptRows_giveLine.2.1 123 = .ok (.aload_n 0, 1) := by decide +kernel
theorem J_MScriptRows_giveLine_d124 : decode J_MScriptRows_giveLine.2.1 124 = .ok (.getfield 44, 3) := by decide +kernel
theorem J_MScriptRows_giveLine_d127 : decode J_MScriptRows_giveLine.2.1 127 = .ok (.iload 5, 2) := by decide +kernel
theorem J_MScriptRows_giveLine_d129 : decode J_MScriptRows_giveLine.2.1 129 = .ok (.bipush 12, 2) := by decide +kernel
theorem J_MScriptRows_giveLine_d131 : decode J_MScriptRows_giveLine.2.1 131 = .ok (.iadd, 1) := by decide +kernel
theorem J_MScriptRows_giveLine_d132 : decode J_MScriptRows_giveLine.2.1 132 = .ok (.iaload, 1) := by decide +kernel
theorem J_MScriptRows_giveLine_d133 : decode J_MScriptRows_giveLine.2.1 133 = .ok (.aload_n 0, 1) := by decide +kernel
theorem J_MScriptRows_giveLine_d134 : decode J_MScriptRows_giveLine.2.1 134 = .ok (.getfield 44, 3) := by decide +kernel
theorem J_MScriptRows_giveLine_d137 : decode J_MScriptRows_giveLine.2.1 137 = .ok (.iload 5, 2) := by decide +kernel
theorem J_MScriptRows_giveLine_d139 : decode J_MScriptRows_giveLine.2.1 139 = .ok (.bipush 13, 2) := by decide +kernel
theorem J_MScriptRows_giveLine_d141 : decode J_MScriptRows_giveLine.2.1 141 = .ok (.iadd, 1) := by decide +kernel
theorem J_MScriptRows_giveLine_d142 : decode J_MScriptRows_giveLine.2.1 142 = .ok (.iaload, 1) := by decide +kernel
theorem J_MScriptRows_giveLine_d143 : decode J_MScriptRows_giveLine.2.1 143 = .ok (.invokevirtual 165, 3) := by decide +kernel
theorem J_MScriptRows_giveLine_d146 : decode J_MScriptRows_giveLine.2.1 146 = .ok (.return_, 1) := by decide +kernel
theorem f_MScriptRows_giveLine_ok {L : Nat} {xs : Nat → Int32} {dep : Nat} {w : Bool} {p0 : Int32} {p1 : Int32} {p2 : Int32} {p3 : Int32} {M : im_M} {Q : im_M → Prop} (hM : lw_S w M) (h : ed (f_MScriptRows_giveLine p0 p1 p2 p3 M) Q) : ia (tb_G L xs) (dep + 3) J_MScriptRows_giveLine (rwV w Q) (0, lv_args 0 [.ref 71, .int p0, .int p1, .int p2, .int p3], [], M) := by
  have hS : im_St (tb_G L xs) (dep + 3) J_MScriptRows_giveLine (ia (tb_G L xs) (dep + 3) J_MScriptRows_giveLine (rwV w Q)) := ia_St
  unfold f_MScriptRows_giveLine at h
  have l0 : im_lk (lv_args 0 [.ref 71, .int p0, .int p1, .int p2, .int p3]) 0 = some (.ref 71) := rfl
  have l1 : im_lk (lv_args 0 [.ref 71, .int p0, .int p1, .int p2, .int p3]) 1 = some (.int p0) := rfl
  have l2 : im_lk (lv_args 0 [.ref 71, .int p0, .int p1, .int p2, .int p3]) 2 = some (.int p1) := rfl
  have l3 : im_lk (lv_args 0 [.ref 71, .int p0, .int p1, .int p2, .int p3]) 3 = some (.int p2) := rfl
  have l4 : im_lk (lv_args 0 [.ref 71, .int p0, .int p1, .int p2, .int p3]) 4 = some (.int p3) := rfl
  refine iq_bipush hS 2 J_MScriptRows_giveLine_d0 (v := 16) (by decide +kernel) rfl ?_
  refine iq_iload_n hS 3 J_MScriptRows_giveLine_d2 l1 rfl ?_
  refine iq_imul hS 4 J_MScriptRows_giveLine_d3 rfl ?_
  refine iq_istore hS 6 J_MScriptRows_giveLine_d4 (by decide) rfl ?_
  refine iq_aload_n hS 7 J_MScriptRows_giveLine_d6 (lk_1r l0 (by decide)) rfl ?_
  refine iq_getR hS 10 J_MScriptRows_giveLine_d7 lf_15_44 (Or.inr ⟨_, rfl⟩) (ka_71 hM) (ra_71_28 hM) rfl ?_
  refine iq_iload hS 12 J_MScriptRows_giveLine_d10 lk_1s rfl ?_
  refine iq_iconst hS 13 J_MScriptRows_giveLine_d12 (v := 1) (by decide +kernel) rfl ?_
  refine iq_iadd hS 14 J_MScriptRows_giveLine_d13 rfl ?_
  obtain ⟨g14, h⟩ := ed_gd h
  refine iq_iaload hS 15 J_MScriptRows_giveLine_d14 ⟨(ka_82 hM).1, (ka_82 hM).2, g14.1, ix_lt (kl_82 hM) g14.2⟩ rfl ?_
  refine iq_iload hS 17 J_MScriptRows_giveLine_d15 (lk_1i l4 (by decide)) rfl ?_
  refine iq_isub hS 18 J_MScriptRows_giveLine_d17 rfl ?_
  refine iq_istore hS 20 J_MScriptRows_giveLine_d18 (by decide) rfl ?_
  refine iq_aload_n hS 21 J_MScriptRows_giveLine_d20 (lk_1r (lk_1r l0 (by decide)) (by decide)) rfl ?_
  refine iq_getR hS 24 J_MScriptRows_giveLine_d21 lf_15_44 (Or.inr ⟨_, rfl⟩) (ka_71 hM) (ra_71_28 hM) rfl ?_
  refine iq_iload hS 26 J_MScriptRows_giveLine_d24 (lk_1i lk_1s (by decide)) rfl ?_
  refine iq_iconst hS 27 J_MScriptRows_giveLine_d26 (v := 3) (by decide +kernel) rfl ?_
  refine iq_iadd hS 28 J_MScriptRows_giveLine_d27 rfl ?_
  obtain ⟨g28, h⟩ := ed_gd h
  refine iq_iaload hS 29 J_MScriptRows_giveLine_d28 ⟨(ka_82 hM).1, (ka_82 hM).2, g28.1, ix_lt (kl_82 hM) g28.2⟩ rfl ?_
  obtain ⟨Q1, hQ1, h⟩ := bd1_ed h
  have J1 : ∀ (y2 : Int32) (L' : List (Nat × Value)), im_lk L' 0 = some (.ref 71) → im_lk L' 1 = some (.int p0) → im_lk L' 2 = some (.int p1) → im_lk L' 3 = some (.int p2) → im_lk L' 4 = some (.int p3) → im_lk L' 5 = some (.int ((16 : Int32) * p0)) → Q1 y2 → ia (tb_G L xs) (dep + 3) J_MScriptRows_giveLine (rwV w Q) (78, L', [.int y2], M) := by
    intro y2 L' l3 l4 l5 l6 l7 l8 h
    replace h := hQ1 _ h
    refine iq_istore hS 80 J_MScriptRows_giveLine_d78 (by decide) rfl ?_
    refine iq_aload_n hS 81 J_MScriptRows_giveLine_d80 (lk_1r l3 (by decide)) rfl ?_
    refine iq_iload_n hS 82 J_MScriptRows_giveLine_d81 (lk_1i l4 (by decide)) rfl ?_
    refine iq_iconst hS 83 J_MScriptRows_giveLine_d82 (v := 0) (by decide +kernel) rfl ?_
    refine iq_aload_n hS 84 J_MScriptRows_giveLine_d83 (lk_1r l3 (by decide)) rfl ?_
    refine iq_getR hS 87 J_MScriptRows_giveLine_d84 lf_15_44 (Or.inr ⟨_, rfl⟩) (ka_71 hM) (ra_71_28 hM) rfl ?_
    refine iq_iload hS 89 J_MScriptRows_giveLine_d87 (lk_1i l8 (by decide)) rfl ?_
    refine iq_bipush hS 91 J_MScriptRows_giveLine_d89 (v := 14) (by decide +kernel) rfl ?_
    refine iq_iadd hS 92 J_MScriptRows_giveLine_d91 rfl ?_
    obtain ⟨g92, h⟩ := ed_gd h
    refine iq_iaload hS 93 J_MScriptRows_giveLine_d92 ⟨(ka_82 hM).1, (ka_82 hM).2, g92.1, ix_lt (kl_82 hM) g92.2⟩ rfl ?_
    refine iq_iload hS 95 J_MScriptRows_giveLine_d93 lk_1s rfl ?_
    refine iq_iload_n hS 96 J_MScriptRows_giveLine_d95 (lk_1i l5 (by decide)) rfl ?_
    refine iq_aload_n hS 97 J_MScriptRows_giveLine_d96 (lk_1r l3 (by decide)) rfl ?_
    refine iq_getR hS 100 J_MScriptRows_giveLine_d97 lf_15_44 (Or.inr ⟨_, rfl⟩) (ka_71 hM) (ra_71_28 hM) rfl ?_
    refine iq_iload hS 102 J_MScriptRows_giveLine_d100 (lk_1i l8 (by decide)) rfl ?_
    refine iq_iconst hS 103 J_MScriptRows_giveLine_d102 (v := 2) (by decide +kernel) rfl ?_
    refine iq_iadd hS 104 J_MScriptRows_giveLine_d103 rfl ?_
    obtain ⟨g104, h⟩ := ed_gd h
    refine iq_iaload hS 105 J_MScriptRows_giveLine_d104 ⟨(ka_82 hM).1, (ka_82 hM).2, g104.1, ix_lt (kl_82 hM) g104.2⟩ rfl ?_
    refine iq_imul hS 106 J_MScriptRows_giveLine_d105 rfl ?_
    refine iq_iload_n hS 107 J_MScriptRows_giveLine_d106 (lk_1i l6 (by decide)) rfl ?_
    refine iq_iload hS 109 J_MScriptRows_giveLine_d107 (lk_1i l7 (by decide)) rfl ?_
    obtain ⟨Q9, hQ9, h⟩ := bd1_ed h
    refine iq_cwV hS 112 J_MScriptRows_giveLine_d109 rfl (pr_inst (vs := [_, _, _, _, _, _, _]) lc_15_161 lT_302 rfl rfl (by decide) (by decide) rfl (Nat.le_of_ble_eq_true rfl) (Nat.le_of_ble_eq_true rfl) (fun _ => Or.inl (pr_b (ka_71 hM) (by decide) rfl))) (f_MScriptRows_give_ok (dep := dep + 0) hM h) rfl ?_
    intro M9 hM9 h
    replace h := hQ9 _ h
    refine iq_aload_n hS 113 J_MScriptRows_giveLine_d112 (lk_1r l3 (by decide)) rfl ?_
    refine iq_aload_n hS 114 J_MScriptRows_giveLine_d113 (lk_1r l3 (by decide)) rfl ?_
    refine iq_getR hS 117 J_MScriptRows_giveLine_d114 lf_15_44 (Or.inr ⟨_, rfl⟩) (ka_71 hM9) (ra_71_28 hM9) rfl ?_
    refine iq_iload hS 119 J_MScriptRows_giveLine_d117 (lk_1i l8 (by decide)) rfl ?_
    refine iq_bipush hS 121 J_MScriptRows_giveLine_d119 (v := 11) (by decide +kernel) rfl ?_
    refine iq_iadd hS 122 J_MScriptRows_giveLine_d121 rfl ?_
    obtain ⟨g122, h⟩ := ed_gd h
    refine iq_iaload hS 123 J_MScriptRows_giveLine_d122 ⟨(ka_82 hM9).1, (ka_82 hM9).2, g122.1, ix_lt (kl_82 hM9) g122.2⟩ rfl ?_
    refine iq_aload_n hS 124 J_MScriptRows_giveLine_d123 (lk_1r l3 (by decide)) rfl ?_
    refine iq_getR hS 127 J_MScriptRows_giveLine_d124 lf_15_44 (Or.inr ⟨_, rfl⟩) (ka_71 hM9) (ra_71_28 hM9) rfl ?_
    refine iq_iload hS 129 J_MScriptRows_giveLine_d127 (lk_1i l8 (by decide)) rfl ?_
    refine iq_bipush hS 131 J_MScriptRows_giveLine_d129 (v := 12) (by decide +kernel) rfl ?_
    refine iq_iadd hS 132 J_MScriptRows_giveLine_d131 rfl ?_
    obtain ⟨g132, h⟩ := ed_gd h
    refine iq_iaload hS 133 J_MScriptRows_giveLine_d132 ⟨(ka_82 hM9).1, (ka_82 hM9).2, g132.1, ix_lt (kl_82 hM9) g132.2⟩ rfl ?_
    refine iq_aload_n hS 134 J_MScriptRows_giveLine_d133 (lk_1r l3 (by decide)) rfl ?_
    refine iq_getR hS 137 J_MScriptRows_giveLine_d134 lf_15_44 (Or.inr ⟨_, rfl⟩) (ka_71 hM9) (ra_71_28 hM9) rfl ?_
    refine iq_iload hS 139 J_MScriptRows_giveLine_d137 (lk_1i l8 (by decide)) rfl ?_
    refine iq_bipush hS 141 J_MScriptRows_giveLine_d139 (v := 13) (by decide +kernel) rfl ?_
    refine iq_iadd hS 142 J_MScriptRows_giveLine_d141 rfl ?_
    obtain ⟨g142, h⟩ := ed_gd h
    refine iq_iaload hS 143 J_MScriptRows_giveLine_d142 ⟨(ka_82 hM9).1, (ka_82 hM9).2, g142.1, ix_lt (kl_82 hM9) g142.2⟩ rfl ?_
    obtain ⟨Q10, hQ10, h⟩ := bd1_ed h
    refine iq_cwV hS 146 J_MScriptRows_giveLine_d143 rfl (pr_inst (vs := [_, _, _]) lc_15_165 lT_306 rfl rfl (by decide) (by decide) rfl (Nat.le_of_ble_eq_true rfl) (Nat.le_of_ble_eq_true rfl) (fun _ => Or.inl (pr_b (ka_71 hM9) (by decide) rfl))) (f_MScriptRows_have_ok (dep := dep + 2) hM9 h) rfl ?_
    intro M10 hM10 h
    replace h := hQ10 _ h
    exact iq_ret J_MScriptRows_giveLine_d146 rfl ⟨rfl, hM10, ed_some h⟩
  refine iq_if_ne hS 32 J_MScriptRows_giveLine_d29 (t := 36) rfl (fun q29 => ?_) rfl (fun q29 => ?_)
  · replace h := ed_pos q29 h
    refine iq_aload_n hS 37 J_MScriptRows_giveLine_d36 (lk_1r (lk_1r l0 (by decide)) (by decide)) rfl ?_
    refine iq_getR hS 40 J_MScriptRows_giveLine_d37 lf_15_44 (Or.inr ⟨_, rfl⟩) (ka_71 hM) (ra_71_28 hM) rfl ?_
    refine iq_iload hS 42 J_MScriptRows_giveLine_d40 (lk_1i lk_1s (by decide)) rfl ?_
    refine iq_iconst hS 43 J_MScriptRows_giveLine_d42 (v := 3) (by decide +kernel) rfl ?_
    refine iq_iadd hS 44 J_MScriptRows_giveLine_d43 rfl ?_
    obtain ⟨g44, h⟩ := ed_gd h
    refine iq_iaload hS 45 J_MScriptRows_giveLine_d44 ⟨(ka_82 hM).1, (ka_82 hM).2, g44.1, ix_lt (kl_82 hM) g44.2⟩ rfl ?_
    refine iq_iconst hS 46 J_MScriptRows_giveLine_d45 (v := 1) (by decide +kernel) rfl ?_
    refine iq_icmp_ne hS 49 J_MScriptRows_giveLine_d46 (t := 64) rfl (fun q46 => ?_) rfl (fun q46 => ?_)
    · replace h := ed_pos q46 h
      refine iq_aload_n hS 65 J_MScriptRows_giveLine_d64 (lk_1r (lk_1r l0 (by decide)) (by decide)) rfl ?_
      refine iq_getR hS 68 J_MScriptRows_giveLine_d65 lf_15_44 (Or.inr ⟨_, rfl⟩) (ka_71 hM) (ra_71_28 hM) rfl ?_
      refine iq_iload hS 70 J_MScriptRows_giveLine_d68 (lk_1i lk_1s (by decide)) rfl ?_
      refine iq_iconst hS 71 J_MScriptRows_giveLine_d70 (v := 4) (by decide +kernel) rfl ?_
      refine iq_iadd hS 72 J_MScriptRows_giveLine_d71 rfl ?_
      obtain ⟨g72, h⟩ := ed_gd h
      refine iq_iaload hS 73 J_MScriptRows_giveLine_d72 ⟨(ka_82 hM).1, (ka_82 hM).2, g72.1, ix_lt (kl_82 hM) g72.2⟩ rfl ?_
      refine iq_iload hS 75 J_MScriptRows_giveLine_d73 lk_1s rfl ?_
      refine iq_iconst hS 76 J_MScriptRows_giveLine_d75 (v := 2) (by decide +kernel) rfl ?_
      refine iq_idiv hS 77 J_MScriptRows_giveLine_d76 (by decide) rfl ?_
      refine iq_imul hS 78 J_MScriptRows_giveLine_d77 rfl ?_
      exact J1 _ _ (lk_1r (lk_1r l0 (by decide)) (by decide)) (lk_1i (lk_1i l1 (by decide)) (by decide)) (lk_1i (lk_1i l2 (by decide)) (by decide)) (lk_1i (lk_1i l3 (by decide)) (by decide)) (lk_1i (lk_1i l4 (by decide)) (by decide)) (lk_1i lk_1s (by decide)) (ed_some h)
    · replace h := ed_neg q46 h
      refine iq_aload_n hS 50 J_MScriptRows_giveLine_d49 (lk_1r (lk_1r l0 (by decide)) (by decide)) rfl ?_
      refine iq_getR hS 53 J_MScriptRows_giveLine_d50 lf_15_44 (Or.inr ⟨_, rfl⟩) (ka_71 hM) (ra_71_28 hM) rfl ?_
      refine iq_iload hS 55 J_MScriptRows_giveLine_d53 (lk_1i lk_1s (by decide)) rfl ?_
      refine iq_iconst hS 56 J_MScriptRows_giveLine_d55 (v := 4) (by decide +kernel) rfl ?_
      refine iq_iadd hS 57 J_MScriptRows_giveLine_d56 rfl ?_
      obtain ⟨g57, h⟩ := ed_gd h
      refine iq_iaload hS 58 J_MScriptRows_giveLine_d57 ⟨(ka_82 hM).1, (ka_82 hM).2, g57.1, ix_lt (kl_82 hM) g57.2⟩ rfl ?_
      refine iq_iload hS 60 J_MScriptRows_giveLine_d58 lk_1s rfl ?_
      refine iq_imul hS 61 J_MScriptRows_giveLine_d60 rfl ?_
      refine iq_goto hS J_MScriptRows_giveLine_d61 (t := 78) rfl ?_
      exact J1 _ _ (lk_1r (lk_1r l0 (by decide)) (by decide)) (lk_1i (lk_1i l1 (by decide)) (by decide)) (lk_1i (lk_1i l2 (by decide)) (by decide)) (lk_1i (lk_1i l3 (by decide)) (by decide)) (lk_1i (lk_1i l4 (by decide)) (by decide)) (lk_1i lk_1s (by decide)) (ed_some h)
  · replace h := ed_neg q29 h
    refine iq_iconst hS 33 J_MScriptRows_giveLine_d32 (v := 0) (by decide +kernel) rfl ?_
    refine iq_goto hS J_MScriptRows_giveLine_d33 (t := 78) rfl ?_
    exact J1 _ _ (lk_1r (lk_1r l0 (by decide)) (by decide)) (lk_1i (lk_1i l1 (by decide)) (by decide)) (lk_1i (lk_1i l2 (by decide)) (by decide)) (lk_1i (lk_1i l3 (by decide)) (by decide)) (lk_1i (lk_1i l4 (by decide)) (by decide)) (lk_1i lk_1s (by decide)) (ed_some h)
theorem f_MScriptRows_giveLine_fr {p0 : Int32} {p1 : Int32} {p2 : Int32} {p3 : Int32} {M : im_M} {r : im_M} (h : f_MScriptRows_giveLine p0 p1 p2 p3 M = some r) : fr 464227514732017603087171584 [(71, 26), (71, 32), (71, 37)] M r := by
  replace h : ed (f_MScriptRows_giveLine p0 p1 p2 p3 M) (fun x => x = r) := ⟨r, h, rfl⟩
  unfold f_MScriptRows_giveLine at h
  obtain ⟨g14, h⟩ := ed_gd h
  obtain ⟨g28, h⟩ := ed_gd h
  obtain ⟨Q1, hQ1, h⟩ := bd1_ed h
  have J1 : ∀ (y2 : Int32), Q1 y2 → fr 464227514732017603087171584 [(71, 26), (71, 32), (71, 37)] M r := by
    intro y2 h
    replace h := hQ1 _ h
    obtain ⟨g92, h⟩ := ed_gd h
    obtain ⟨g104, h⟩ := ed_gd h
    obtain ⟨Q9, hQ9, h⟩ := bd1_ed h
    obtain ⟨M9, e9, h⟩ := h
    replace h := hQ9 _ h
    obtain ⟨g122, h⟩ := ed_gd h
    obtain ⟨g132, h⟩ := ed_gd h
    obtain ⟨g142, h⟩ := ed_gd h
    obtain ⟨Q10, hQ10, h⟩ := bd1_ed h
    obtain ⟨M10, e10, h⟩ := h
    replace h := hQ10 _ h
    exact fr_retV h (fr_tr (fr_mono (by decide) (by decide +kernel) (f_MScriptRows_have_fr e10)) (fr_tr (fr_mono (by decide) (by decide +kernel) (f_MScriptRows_give_fr e9)) fr_refl))
  by_cases q29 : ¬ (im_i M 82 (Int32.toNatClampNeg (((16 : Int32) * p0) + 3))) = 0
  · replace h := ed_pos q29 h
    obtain ⟨g44, h⟩ := ed_gd h
    by_cases q46 : ¬ (im_i M 82 (Int32.toNatClampNeg (((16 : Int32) * p0) + 3))) = 1
    · replace h := ed_pos q46 h
      obtain ⟨g72, h⟩ := ed_gd h
      exact J1 _ (ed_some h)
    · replace h := ed_neg q46 h
      obtain ⟨g57, h⟩ := ed_gd h
      exact J1 _ (ed_some h)
  · replace h := ed_neg q29 h
    exact J1 _ (ed_some h)
noncomputable def f_MScriptRows_makeLines_L73 (v12 : Int32) (v13 : Int32) (v14 : Int32) (v15 : Int32) (v16 : Int32) (M18 : im_M) (x17 : Int32) : Option ((Int32) ⊕ (Int32)) := if x17 < v16 then some (.inr x17) else gd (inb x17 200) <| if (im_i M18 85 (Int32.toNatClampNeg x17)) = 32 then some (.inr x17) else some (.inl (x17 + (-1)))
noncomputable def f_MScriptRows_makeLines_L34 (v2 : Int32) (v3 : Int32) (v4 : Int32) (x5 : Int32) (x6 : Int32) (x7 : Int32) (M8 : im_M) : Option ((Int32 × Int32 × Int32 × im_M) ⊕ (im_M)) := if x7 = 0 then some (.inr M8) else bd1 (f_MScriptRows_pieceEnd x6 v3 M8) fun (x9 : Int32) => bd2 (if (x9 - x6) ≤ v4 then some (x9, (x9 + 1)) else bd1 (lp (uc1 (f_MScriptRows_makeLines_L73 v2 v3 v4 x5 x6 M8)) (x6 + v4)) fun (y19 : Int32) => if x6 ≤ y19 then some (y19, (y19 + 1)) else some ((x6 + v4), (x6 + v4))) fun (y20 : Int32) (y21 : Int32) => bd1 (f_MScriptRows_giveLine v2 x5 x6 (y20 - x6) M8) fun (M30 : im_M) => some (.inl ((x5 + 1), y21, ((if v3 < y21 then 0 else 1) : Int32), M30))
noncomputable def f_MScriptRows_makeLines (p0 : Int32) (M : im_M) : Option (im_M) := gd (inb (((16 : Int32) * p0) + 10) 2000) <| gd (inb (((16 : Int32) * p0) + 1) 2000) <| bd1 (lp (uc4 (f_MScriptRows_makeLines_L34 p0 (im_i M 82 (Int32.toNatClampNeg (((16 : Int32) * p0) + 10))) (im_i M 82 (Int32.toNatClampNeg (((16 : Int32) * p0) + 1))))) (0, 0, 1, M)) fun (M32 : im_M) => some M32
theorem J_MScriptRows_makeLines_d0 : decode J_MScriptRows_makeLines.2.1 0 = .ok (.aload_n 0, 1) := by decide +kernel
theorem J_MScriptRows_makeLines_d1 : decode J_MScriptRows_makeLines.2.1 1 = .ok (.getfield 44, 3) := by decide +kernel
theorem J_MScriptRows_makeLines_d4 : decode J_MScriptRows_makeLines.2.1 4 = .ok (.bipush 16, 2) := by decide +kernel
theorem J_MScriptRows_makeLines_d6 : decode J_MScriptRows_makeLines.2.1 6 = .ok (.iload_n 1, 1) := by decide +kernel
theorem J_MScriptRows_makeLines_d7 : decode J_MScriptRows_makeLines.2.1 7 = .ok (.imul, 1) := by decide +kernel
theorem J_MScriptRows_makeLines_d8 : decode J_MScriptRows_makeLines.2.1 8 = .ok (.bipush 10, 2) := by decide +kernel
theorem J_MScriptRows_makeLines_d10 : decode J_MScriptRows_makeLines.2.1 10 = .ok (.iadd, 1) := by decide +kernel
theorem J_MScriptRows_makeLines_d11 : decode J_MScriptRows_makeLines.2.1 11 = .ok (.iaload, 1) := by decide +kernel
theorem J_MScriptRows_makeLines_d12 : decode J_MScriptRows_makeLines.2.1 12 = .ok (.istore_n 2, 1) := by decide +kernel
theorem J_MScriptRows_makeLines_d13 : decode J_MScriptRows_makeLines.2.1 13 = .ok (.aload_n 0, 1) := by decide +kernel
theorem J_MScriptRows_makeLines_d14 : decode J_MScriptRows_makeLines.2.1 14 = .ok (.getfield 44, 3) := by decide +kernel
theorem J_MScriptRows_makeLines_d17 : decode J_MScriptRows_makeLines.2.1 17 = .ok (.bipush 16, 2) := by decide +kernel
theorem J_MScriptRows_makeLines_d19 : decode J_MScriptRows_makeLines.2.1 19 = .ok (.iload_n 1, 1) := by decide +kernel
theorem J_MScriptRows_makeLines_d20 : decode J_MScriptRows_makeLines.2.1 20 = .ok (.imul, 1) := by decide +kernel
theorem J_MScriptRows_makeLines_d21 : decode J_MScriptRows_makeLines.2.1 21 = .ok (.iconst 1, 1) := by decide +kernel
theorem J_MScriptRows_makeLines_d22 : decode J_MScriptRows_makeLines.2.1 22 = .ok (.iadd, 1) := by decide +kernel
theorem J_MScriptRows_makeLines_d23 : decode J_MScriptRows_makeLines.2.1 23 = .ok (.iaload, 1) := by decide +kernel
theorem J_MScriptRows_makeLines_d24 : decode J_MScriptRows_makeLines.2.1 24 = .ok (.istore_n 3, 1) := by decide +kernel
theorem J_MScriptRows_makeLines_d25 : decode J_MScriptRows_makeLines.2.1 25 = .ok (.iconst 0, 1) := by decide +kernel
theorem J_MScriptRows_makeLines_d26 : decode J_MScriptRows_makeLines.2.1 26 = .ok (.istore 4, 2) := by decide +kernel
theorem J_MScriptRows_makeLines_d28 : decode J_MScriptRows_makeLines.2.1 28 = .ok (.iconst 0, 1) := by decide +kernel
theorem J_MScriptRows_makeLines_d29 : decode J_MScriptRows_makeLines.2.1 29 = .ok (.istore 5, 2) := by decide +kernel
theorem J_MScriptRows_makeLines_d31 : decode J_MScriptRows_makeLines.2.1 31 = .ok (.iconst 1, 1) := by decide +kernel
theorem J_MScriptRows_makeLines_d32 : decode J_MScriptRows_makeLines.2.1 32 = .ok (.istore 6, 2) := by decide +kernel
theorem J_MScriptRows_makeLines_d34 : decode J_MScriptRows_makeLines.2.1 34 = .ok (.iload 6, 2) := by decide +kernel
theorem J_MScriptRows_makeLines_d36 : decode J_MScriptRows_makeLines.2.1 36 = .ok (.ifCond .eq 122, 3) := by decide +kernel
theorem J_MScriptRows_makeLines_d39 : decode J_MScriptRows_makeLines.2.1 39 = .ok (.aload_n 0, 1) := by decide +kernel
theorem J_MScriptRows_makeLines_d40 : decode J_MScriptRows_makeLines.2.1 40 = .ok (.iload 5, 2) := by decide +kernel
theorem J_MScriptRows_makeLines_d42 : decode J_MScriptRows_makeLines.2.1 42 = .ok (.iload_n 2, 1) := by decide +kernel
theorem J_MScriptRows_makeLines_d43 : decode J_MScriptRows_makeLines.2.1 43 = .ok (.invokevirtual 173, 3) := by decide +kernel
theorem J_MScriptRows_makeLines_d46 : decode J_MScriptRows_makeLines.2.1 46 = .ok (.istore 7, 2) := by decide +kernel
theorem J_MScriptRows_makeLines_d48 : decode J_MScriptRows_makeLines.2.1 48 = .ok (.iload 7, 2) := by decide +kernel
theorem J_MScriptRows_makeLines_d50 : decode J_MScriptRows_makeLines.2.1 50 = .ok (.istore 8, 2) := by decide +kernel
theorem J_MScriptRows_makeLines_d52 : decode J_MScriptRows_makeLines.2.1 52 = .ok (.iload 7, 2) := by decide +kernel
theorem J_MScriptRows_makeLines_d54 : decode J_MScriptRows_makeLines.2.1 54 = .ok (.iconst 1, 1) := by decide +kernel
theorem J_MScriptRows_makeLines_d55 : decode J_MScriptRows_makeLines.2.1 55 = .ok (.iadd, 1) := by decide +kernel
theorem J_MScriptRows_makeLines_d56 : decode J_MScriptRows_makeLines.2.1 56 = .ok (.istore 9, 2) := by decide +kernel
theorem J_MScriptRows_makeLines_d58 : decode J_MScriptRows_makeLines.2.1 58 = .ok (.iload 7, 2) := by decide +kernel
theorem J_MScriptRows_makeLines_d60 : decode J_MScriptRows_makeLines.2.1 60 = .ok (.iload 5, 2) := by decide +kernel
theorem J_MScriptRows_makeLines_d62 : decode J_MScriptRows_makeLines.2.1 62 = .ok (.isub, 1) := by decide +kernel
theorem J_MScriptRows_makeLines_d63 : decode J_MScriptRows_makeLines.2.1 63 = .ok (.iload_n 3, 1) := by decide +kernel
theorem J_MScriptRows_makeLines_d64 : decode J_MScriptRows_makeLines.2.1 64 = .ok (.if_icmp .le 57, 3) := by decide +kernel
theorem J_MScriptRows_makeLines_d67 : decode J_MScriptRows_makeLines.2.1 67 = .ok (.iload 5, 2) := by decide +kernel
theorem J_MScriptRows_makeLines_d69 : decode J_MScriptRows_makeLines.2.1 69 = .ok (.iload_n 3, 1) := by decide +kernel
theorem J_MScriptRows_makeLines_d70 : decode J_MScriptRows_makeLines.2.1 70 = .ok (.iadd, 1) := by decide +kernel
theorem J_MScriptRows_makeLines_d71 : decode J_MScriptRows_makeLines.2.1 71 = .ok (.istore 8, 2) := by decide +kernel
theorem J_MScriptRows_makeLines_d73 : decode J_MScriptRows_makeLines.2.1 73 = .ok (.iload 8, 2) := by decide +kernel
theorem J_MScriptRows_makeLines_d75 : decode J_MScriptRows_makeLines.2.1 75 = .ok (.iload 5, 2) := by decide +kernel
theorem J_MScriptRows_makeLines_d77 : decode J_MScriptRows_makeLines.2.1 77 = .ok (.if_icmp .lt 21, 3) := by decide +kernel
theorem J_MScriptRows_makeLines_d80 : decode J_MScriptRows_makeLines.2.1 80 = .ok (.aload_n 0, 1) := by decide +kernel
theorem J_MScriptRows_makeLines_d81 : decode J_MScriptRows_makeLines.2.1 81 = .ok (.getfield 53, 3) := by decide +kernel
theorem J_MScriptRows_makeLines_d84 : decode J_MScriptRows_makeLines.2.1 84 = .ok (.iload 8, 2) := by decide +kernel
theorem J_MScriptRows_makeLines_d86 : decode J_MScriptRows_makeLines.2.1 86 = .ok (.iaload, 1) := by decide +kernel
theorem J_MScriptRows_makeLines_d87 : decode J_MScriptRows_makeLines.2.1 87 = .ok (.bipush 32, 2) := by decide +kernel
theorem J_MScriptRows_makeLines_d89 : decode J_MScriptRows_makeLines.2.1 89 = .ok (.if_icmp .eq 9, 3) := by decide +kernel
theorem J_MScriptRows_makeLines_d92 : decode J_MScriptRows_makeLines.2.1 92 = .ok (.iinc 8 (-1), 3) := by decide +kernel
theorem J_MScriptRows_makeLines_d95 : decode J_MScriptRows_makeLines.2.1 95 = .ok (.goto (-22), 3) := by decide +kernel
theorem J_MScriptRows_makeLines_d98 : decode J_MScriptRows_makeLines.2.1 98 = .ok (.iload 8, 2) := by decide +kernel
theorem J_MScriptRows_makeLines_d100 : decode J_MScriptRows_makeLines.2.1 100 = .ok (.iconst 1, 1) := by decide +kernel
theorem J_MScriptRows_makeLines_d101 : decode J_MScriptRows_makeLines.2.1 101 = .ok (.iadd, 1) := by decide +kernel
theorem J_MScriptRows_makeLines_d102 : decode J_MScriptRows_makeLines.2.1 102 = .ok (.istore 9, 2) := by decide +kernel
theorem J_MScriptRows_makeLines_d104 : decode J_MScriptRows_makeLines.2.1 104 = .ok (.iload 8, 2) := by decide +kernel
theorem J_MScriptRows_makeLines_d106 : decode J_MScriptRows_makeLines.2.1 106 = .ok (.iload 5, 2) := by decide +kernel
theorem J_MScriptRows_makeLines_d108 : decode J_MScriptRows_makeLines.2.1 108 = .ok (.if_icmp .ge 13, 3) := by decide +kernel
theorem J_MScriptRows_makeLines_d111 : decode J_MScriptRows_makeLines.2.1 111 = .ok (.iload 5, 2) := by decide +kernel
theorem J_MScriptRows_makeLines_d113 : decode J_MScriptRows_makeLines.2.1 113 = .ok (.iload_n 3, 1) := by decide +kernel
theorem J_MScriptRows_makeLines_d114 : decode J_MScriptRows_makeLines.2.1 114 = .ok (.iadd, 1) := by decide +kernel
theorem J_MScriptRows_makeLines_d115 : decode J_MScriptRows_makeLines.2.1 115 = .ok (.istore 8, 2) := by decide +kernel
theorem J_MScriptRows_makeLines_d117 : decode J_MScriptRows_makeLines.2.1 117 = .ok (.iload 8, 2) := by decide +kernel
theorem J_MScriptRows_makeLines_d119 : decode J_MScriptRows_makeLines.2.1 119 = .ok (.istore 9, 2) := by decide +kernel
theorem J_MScriptRows_makeLines_d121 : decode J_MScriptRows_makeLines.2.1 121 = .ok (.aload_n 0, 1) := by decide +kernel
theorem J_MScriptRows_makeLines_d122 : decode J_MScriptRows_makeLines.2.1 122 = .ok (.iload_n 1, 1) := by decide +kernel
theorem J_MScriptRows_makeLines_d123 : decode J_MScriptRows_makeLines.2.1 123 = .ok (.iload 4, 2) := by decide +kernel
theorem J_MScriptRows_makeLines_d125 : decode J_MScriptRows_makeLines.2.1 125 = .ok (.iload 5, 2) := by decide +kernel
theorem J_MScriptRows_makeLines_d127 : decode J_MScriptRows_makeLines.2.1 127 = .ok (.iload 8, 2) := by decide +kernel
theorem J_MScriptRows_makeLines_d129 : decode J_MScriptRows_makeLines.2.1 129 = .ok (.iload 5, 2) := by decide +kernel
theorem J_MScriptRows_makeLines_d131 : decode J_MScriptRows_makeLines.2.1 131 = .ok (.isub, 1) := by decide +kernel
theorem J_MScriptRows_makeLines_d132 : decode J_MScriptRows_makeLines.2.1 132 = .ok (.invokevirtual 176, 3) := by decide +kernel
theorem J_MScriptRows_makeLines_d135 : decode J_MScriptRows_makeLines.2.1 135 = .ok (.iinc 4 1, 3) := by decide +kernel
theorem J_MScriptRows_makeLines_d138 : decode J_MScriptRows_makeLines.2.1 138 = .ok (.iload 9, 2) := by decide +kernel
theorem J_MScriptRows_makeLines_d140 : decode J_MScriptRows_makeLines.2.1 140 = .ok (.iload_n 2, 1) := by decide +kernel
theorem J_MScriptRows_makeLines_d141 : decode J_MScriptRows_makeLines.2.1 141 = .ok (.if_icmp .gt 7, 3) := by decide +kernel
theorem J_MScriptRows_makeLines_d144 : decode J_MScriptRows_makeLines.2.1 144 = .ok (.iconst 1, 1) := by decide +kernel
theorem J_MScriptRows_makeLines_d145 : decode J_MScriptRows_makeLines.2.1 145 = .ok (.goto 4, 3) := by decide +kernel
theorem J_MScriptRows_makeLines_d148 : decode J_MScriptRows_makeLines.2.1 148 = .ok (.iconst 0, 1) := by decide +kernel
theorem J_MScriptRows_makeLines_d149 : decode J_MScriptRows_makeLines.2.1 149 = .ok (.istore 6, 2) := by decide +kernel
theorem J_MScriptRows_makeLines_d151 : decode J_MScriptRows_makeLines.2.1 151 = .ok (.iload 9, 2) := by decide +kernel
theorem J_MScriptRows_makeLines_d153 : decode J_MScriptRows_makeLines.2.1 153 = .ok (.istore 5, 2) := by decide +kernel
theorem J_MScriptRows_makeLines_d155 : decode J_MScriptRows_makeLines.2.1 155 = .ok (.goto (-121), 3) := by decide +kernel
theorem J_MScriptRows_makeLines_d158 : decode J_MScriptRows_makeLines.2.1 158 = .ok (.return_, 1) := by decide +kernel
theorem f_MScriptRows_makeLines_ok {L : Nat} {xs : Nat → Int32} {dep : Nat} {w : Bool} {p0 : Int32} {M : im_M} {Q : im_M → Prop} (hM : lw_S w M) (h : ed (f_MScriptRows_makeLines p0 M) Q) : ia (tb_G L xs) (dep + 4) J_MScriptRows_makeLines (rwV w Q) (0, lv_args 0 [.ref 71, .int p0], [], M) := by
  have hS : im_St (tb_G L xs) (dep + 4) J_MScriptRows_makeLines (ia (tb_G L xs) (dep + 4) J_MScriptRows_makeLines (rwV w Q)) := ia_St
  unfold f_MScriptRows_makeLines at h
  have l0 : im_lk (lv_args 0 [.ref 71, .int p0]) 0 = some (.ref 71) := rfl
  have l1 : im_lk (lv_args 0 [.ref 71, .int p0]) 1 = some (.int p0) := rfl
  refine iq_aload_n hS 1 J_MScriptRows_makeLines_d0 l0 rfl ?_
  refine iq_getR hS 4 J_MScriptRows_makeLines_d1 lf_15_44 (Or.inr ⟨_, rfl⟩) (ka_71 hM) (ra_71_28 hM) rfl ?_
  refine iq_bipush hS 6 J_MScriptRows_makeLines_d4 (v := 16) (by decide +kernel) rfl ?_
  refine iq_iload_n hS 7 J_MScriptRows_makeLines_d6 l1 rfl ?_
  refine iq_imul hS 8 J_MScriptRows_makeLines_d7 rfl ?_
  refine iq_bipush hS 10 J_MScriptRows_makeLines_d8 (v := 10) (by decide +kernel) rfl ?_
  refine iq_iadd hS 11 J_MScriptRows_makeLines_d10 rfl ?_
  obtain ⟨g11, h⟩ := ed_gd h
  refine iq_iaload hS 12 J_MScriptRows_makeLines_d11 ⟨(ka_82 hM).1, (ka_82 hM).2, g11.1, ix_lt (kl_82 hM) g11.2⟩ rfl ?_
  refine iq_istore_n hS 13 J_MScriptRows_makeLines_d12 (by decide) rfl ?_
  refine iq_aload_n hS 14 J_MScriptRows_makeLines_d13 (lk_1r l0 (by decide)) rfl ?_
  refine iq_getR hS 17 J_MScriptRows_makeLines_d14 lf_15_44 (Or.inr ⟨_, rfl⟩) (ka_71 hM) (ra_71_28 hM) rfl ?_
  refine iq_bipush hS 19 J_MScriptRows_makeLines_d17 (v := 16) (by decide +kernel) rfl ?_
  refine iq_iload_n hS 20 J_MScriptRows_makeLines_d19 (lk_1i l1 (by decide)) rfl ?_
  refine iq_imul hS 21 J_MScriptRows_makeLines_d20 rfl ?_
  refine iq_iconst hS 22 J_MScriptRows_makeLines_d21 (v := 1) (by decide +kernel) rfl ?_
  refine iq_iadd hS 23 J_MScriptRows_makeLines_d22 rfl ?_
  obtain ⟨g23, h⟩ := ed_gd h
  refine iq_iaload hS 24 J_MScriptRows_makeLines_d23 ⟨(ka_82 hM).1, (ka_82 hM).2, g23.1, ix_lt (kl_82 hM) g23.2⟩ rfl ?_
  refine iq_istore_n hS 25 J_MScriptRows_makeLines_d24 (by decide) rfl ?_
  refine iq_iconst hS 26 J_MScriptRows_makeLines_d25 (v := 0) (by decide +kernel) rfl ?_
  refine iq_istore hS 28 J_MScriptRows_makeLines_d26 (by decide) rfl ?_
  refine iq_iconst hS 29 J_MScriptRows_makeLines_d28 (v := 0) (by decide +kernel) rfl ?_
  refine iq_istore hS 31 J_MScriptRows_makeLines_d29 (by decide) rfl ?_
  refine iq_iconst hS 32 J_MScriptRows_makeLines_d31 (v := 1) (by decide +kernel) rfl ?_
  refine iq_istore hS 34 J_MScriptRows_makeLines_d32 (by decide) rfl ?_
  obtain ⟨Q1, hQ1, h⟩ := bd1_ed h
  have K1 : ∀ (M2 : im_M) (L' : List (Nat × Value)), lw_S w M2 → Q1 M2 → ia (tb_G L xs) (dep + 4) J_MScriptRows_makeLines (rwV w Q) (158, L', [], M2) := by
    intro M2 L' hM2  h
    replace h := hQ1 _ h
    exact iq_ret J_MScriptRows_makeLines_d158 rfl ⟨rfl, hM2, ed_some h⟩
  obtain ⟨r1, hr1, hq1⟩ := h
  obtain ⟨n1, hn1⟩ := lp_n hr1
  have I1 : ∀ (n : Nat) (x3 : Int32) (x4 : Int32) (x5 : Int32) (M6 : im_M) (L' : List (Nat × Value)), lw_S w M6 → im_lk L' 0 = some (.ref 71) → im_lk L' 1 = some (.int p0) → im_lk L' 2 = some (.int (im_i M 82 (Int32.toNatClampNeg (((16 : Int32) * p0) + 10)))) → im_lk L' 3 = some (.int (im_i M 82 (Int32.toNatClampNeg (((16 : Int32) * p0) + 1)))) → im_lk L' 4 = some (.int x3) → im_lk L' 5 = some (.int x4) → im_lk L' 6 = some (.int x5) → lpn (uc4 (f_MScriptRows_makeLines_L34 p0 (im_i M 82 (Int32.toNatClampNeg (((16 : Int32) * p0) + 10))) (im_i M 82 (Int32.toNatClampNeg (((16 : Int32) * p0) + 1))))) n (x3, x4, x5, M6) = some r1 → ia (tb_G L xs) (dep + 4) J_MScriptRows_makeLines (rwV w Q) (34, L', [], M6) := by
    intro n
    induction n with
    | zero => intro x3 x4 x5 M6 L' hM6 l7 l8 l9 l10 l11 l12 l13 hn; exact (lpn_0 hn).elim
    | succ n ih =>
      intro x3 x4 x5 M6 L' hM6 l7 l8 l9 l10 l11 l12 l13 hn
      have h := lpn_ed4 hn
      unfold f_MScriptRows_makeLines_L34 at h
      refine iq_iload hS 36 J_MScriptRows_makeLines_d34 l13 rfl ?_
      refine iq_if_eq hS 39 J_MScriptRows_makeLines_d36 (t := 158) rfl (fun q36 => ?_) rfl (fun q36 => ?_)
      · replace h := ed_pos q36 h
        exact K1 _ _ hM6  (lq_r h hq1)
      · replace h := ed_neg q36 h
        refine iq_aload_n hS 40 J_MScriptRows_makeLines_d39 l7 rfl ?_
        refine iq_iload hS 42 J_MScriptRows_makeLines_d40 l12 rfl ?_
        refine iq_iload_n hS 43 J_MScriptRows_makeLines_d42 l9 rfl ?_
        obtain ⟨Q14, hQ14, h⟩ := bd1_ed h
        refine iq_cpI hS 46 J_MScriptRows_makeLines_d43 rfl (pr_inst (vs := [_, _]) lc_15_173 lT_308 rfl rfl (by decide) (by decide) rfl (Nat.le_of_ble_eq_true rfl) (Nat.le_of_ble_eq_true rfl) (fun _ => Or.inl (pr_b (ka_71 hM6) (by decide) rfl))) (f_MScriptRows_pieceEnd_ok (dep := dep + 3) hM6 h) rfl ?_
        intro x14 h
        replace h := hQ14 _ h
        refine iq_istore hS 48 J_MScriptRows_makeLines_d46 (by decide) rfl ?_
        refine iq_iload hS 50 J_MScriptRows_makeLines_d48 lk_1s rfl ?_
        refine iq_istore hS 52 J_MScriptRows_makeLines_d50 (by decide) rfl ?_
        refine iq_iload hS 54 J_MScriptRows_makeLines_d52 (lk_1i lk_1s (by decide)) rfl ?_
        refine iq_iconst hS 55 J_MScriptRows_makeLines_d54 (v := 1) (by decide +kernel) rfl ?_
        refine iq_iadd hS 56 J_MScriptRows_makeLines_d55 rfl ?_
        refine iq_istore hS 58 J_MScriptRows_makeLines_d56 (by decide) rfl ?_
        refine iq_iload hS 60 J_MScriptRows_makeLines_d58 (lk_1i (lk_1i lk_1s (by decide)) (by decide)) rfl ?_
        refine iq_iload hS 62 J_MScriptRows_makeLines_d60 (lk_1i (lk_1i (lk_1i l12 (by decide)) (by decide)) (by decide)) rfl ?_
        refine iq_isub hS 63 J_MScriptRows_makeLines_d62 rfl ?_
        refine iq_iload_n hS 64 J_MScriptRows_makeLines_d63 (lk_1i (lk_1i (lk_1i l10 (by decide)) (by decide)) (by decide)) rfl ?_
        obtain ⟨Q15, hQ15, h⟩ := bd2_ed h
        have J15 : ∀ (y33 : Int32) (y34 : Int32) (L' : List (Nat × Value)), im_lk L' 0 = some (.ref 71) → im_lk L' 1 = some (.int p0) → im_lk L' 2 = some (.int (im_i M 82 (Int32.toNatClampNeg (((16 : Int32) * p0) + 10)))) → im_lk L' 3 = some (.int (im_i M 82 (Int32.toNatClampNeg (((16 : Int32) * p0) + 1)))) → im_lk L' 4 = some (.int x3) → im_lk L' 5 = some (.int x4) → im_lk L' 8 = some (.int y33) → im_lk L' 9 = some (.int y34) → Q15 (y33, y34) → ia (tb_G L xs) (dep + 4) J_MScriptRows_makeLines (rwV w Q) (121, L', [], M6) := by
          intro y33 y34 L' l35 l36 l37 l38 l39 l40 l41 l42 h
          replace h := hQ15 _ _ h
          refine iq_aload_n hS 122 J_MScriptRows_makeLines_d121 l35 rfl ?_
          refine iq_iload_n hS 123 J_MScriptRows_makeLines_d122 l36 rfl ?_
          refine iq_iload hS 125 J_MScriptRows_makeLines_d123 l39 rfl ?_
          refine iq_iload hS 127 J_MScriptRows_makeLines_d125 l40 rfl ?_
          refine iq_iload hS 129 J_MScriptRows_makeLines_d127 l41 rfl ?_
          refine iq_iload hS 131 J_MScriptRows_makeLines_d129 l40 rfl ?_
          refine iq_isub hS 132 J_MScriptRows_makeLines_d131 rfl ?_
          obtain ⟨Q43, hQ43, h⟩ := bd1_ed h
          refine iq_cwV hS 135 J_MScriptRows_makeLines_d132 rfl (pr_inst (vs := [_, _, _, _]) lc_15_176 lT_309 rfl rfl (by decide) (by decide) rfl (Nat.le_of_ble_eq_true rfl) (Nat.le_of_ble_eq_true rfl) (fun _ => Or.inl (pr_b (ka_71 hM6) (by decide) rfl))) (f_MScriptRows_giveLine_ok (dep := dep + 0) hM6 h) rfl ?_
          intro M43 hM43 h
          replace h := hQ43 _ h
          refine iq_iincv hS 138 J_MScriptRows_makeLines_d135 (c := 1) (by decide +kernel) l39 (by decide) rfl ?_
          refine iq_iload hS 140 J_MScriptRows_makeLines_d138 (lk_1i l42 (by decide)) rfl ?_
          refine iq_iload_n hS 141 J_MScriptRows_makeLines_d140 (lk_1i l37 (by decide)) rfl ?_
          have J44 : ∀ (z45 : Int32) (L' : List (Nat × Value)), z45 = ((if (im_i M 82 (Int32.toNatClampNeg (((16 : Int32) * p0) + 10))) < y34 then 0 else 1) : Int32) → im_lk L' 0 = some (.ref 71) → im_lk L' 1 = some (.int p0) → im_lk L' 2 = some (.int (im_i M 82 (Int32.toNatClampNeg (((16 : Int32) * p0) + 10)))) → im_lk L' 3 = some (.int (im_i M 82 (Int32.toNatClampNeg (((16 : Int32) * p0) + 1)))) → im_lk L' 4 = some (.int (x3 + 1)) → im_lk L' 9 = some (.int y34) → ia (tb_G L xs) (dep + 4) J_MScriptRows_makeLines (rwV w Q) (149, L', [.int z45], M43) := by
            intro z45 L' e46 l47 l48 l49 l50 l51 l52
            subst e46
            refine iq_istore hS 151 J_MScriptRows_makeLines_d149 (by decide) rfl ?_
            refine iq_iload hS 153 J_MScriptRows_makeLines_d151 (lk_1i l52 (by decide)) rfl ?_
            refine iq_istore hS 155 J_MScriptRows_makeLines_d153 (by decide) rfl ?_
            refine iq_goto hS J_MScriptRows_makeLines_d155 (t := 34) rfl ?_
            exact ih _ _ _ _ _ hM43 (lk_1r (lk_1r l47 (by decide)) (by decide)) (lk_1i (lk_1i l48 (by decide)) (by decide)) (lk_1i (lk_1i l49 (by decide)) (by decide)) (lk_1i (lk_1i l50 (by decide)) (by decide)) (lk_1i (lk_1i l51 (by decide)) (by decide)) lk_1s (lk_1i lk_1s (by decide)) (lq_l h)
          refine iq_icmp_gt hS 144 J_MScriptRows_makeLines_d141 (t := 148) rfl (fun q141 => ?_) rfl (fun q141 => ?_)
          · refine iq_iconst hS 149 J_MScriptRows_makeLines_d148 (v := 0) (by decide +kernel) rfl ?_
            exact J44 _ _ (by simp only [if_pos q141]) (lk_1r l35 (by decide)) (lk_1i l36 (by decide)) (lk_1i l37 (by decide)) (lk_1i l38 (by decide)) lk_1s (lk_1i l42 (by decide))
          · refine iq_iconst hS 145 J_MScriptRows_makeLines_d144 (v := 1) (by decide +kernel) rfl ?_
            refine iq_goto hS J_MScriptRows_makeLines_d145 (t := 149) rfl ?_
            exact J44 _ _ (by simp only [if_neg q141]) (lk_1r l35 (by decide)) (lk_1i l36 (by decide)) (lk_1i l37 (by decide)) (lk_1i l38 (by decide)) lk_1s (lk_1i l42 (by decide))
        refine iq_icmp_le hS 67 J_MScriptRows_makeLines_d64 (t := 121) rfl (fun q64 => ?_) rfl (fun q64 => ?_)
        · replace h := ed_pos q64 h
          exact J15 _ _ _ (lk_1r (lk_1r (lk_1r l7 (by decide)) (by decide)) (by decide)) (lk_1i (lk_1i (lk_1i l8 (by decide)) (by decide)) (by decide)) (lk_1i (lk_1i (lk_1i l9 (by decide)) (by decide)) (by decide)) (lk_1i (lk_1i (lk_1i l10 (by decide)) (by decide)) (by decide)) (lk_1i (lk_1i (lk_1i l11 (by decide)) (by decide)) (by decide)) (lk_1i (lk_1i (lk_1i l12 (by decide)) (by decide)) (by decide)) (lk_1i lk_1s (by decide)) lk_1s (ed_some h)
        · replace h := ed_neg q64 h
          refine iq_iload hS 69 J_MScriptRows_makeLines_d67 (lk_1i (lk_1i (lk_1i l12 (by decide)) (by decide)) (by decide)) rfl ?_
          refine iq_iload_n hS 70 J_MScriptRows_makeLines_d69 (lk_1i (lk_1i (lk_1i l10 (by decide)) (by decide)) (by decide)) rfl ?_
          refine iq_iadd hS 71 J_MScriptRows_makeLines_d70 rfl ?_
          refine iq_istore hS 73 J_MScriptRows_makeLines_d71 (by decide) rfl ?_
          obtain ⟨Q16, hQ16, h⟩ := bd1_ed h
          have K16 : ∀ (y17 : Int32) (L' : List (Nat × Value)), im_lk L' 0 = some (.ref 71) → im_lk L' 1 = some (.int p0) → im_lk L' 2 = some (.int (im_i M 82 (Int32.toNatClampNeg (((16 : Int32) * p0) + 10)))) → im_lk L' 3 = some (.int (im_i M 82 (Int32.toNatClampNeg (((16 : Int32) * p0) + 1)))) → im_lk L' 4 = some (.int x3) → im_lk L' 5 = some (.int x4) → im_lk L' 8 = some (.int y17) → Q16 y17 → ia (tb_G L xs) (dep + 4) J_MScriptRows_makeLines (rwV w Q) (98, L', [], M6) := by
            intro y17 L' l18 l19 l20 l21 l22 l23 l24 h
            replace h := hQ16 _ h
            refine iq_iload hS 100 J_MScriptRows_makeLines_d98 l24 rfl ?_
            refine iq_iconst hS 101 J_MScriptRows_makeLines_d100 (v := 1) (by decide +kernel) rfl ?_
            refine iq_iadd hS 102 J_MScriptRows_makeLines_d101 rfl ?_
            refine iq_istore hS 104 J_MScriptRows_makeLines_d102 (by decide) rfl ?_
            refine iq_iload hS 106 J_MScriptRows_makeLines_d104 (lk_1i l24 (by decide)) rfl ?_
            refine iq_iload hS 108 J_MScriptRows_makeLines_d106 (lk_1i l23 (by decide)) rfl ?_
            refine iq_icmp_ge hS 111 J_MScriptRows_makeLines_d108 (t := 121) rfl (fun q108 => ?_) rfl (fun q108 => ?_)
            · replace h := ed_pos q108 h
              exact J15 _ _ _ (lk_1r l18 (by decide)) (lk_1i l19 (by decide)) (lk_1i l20 (by decide)) (lk_1i l21 (by decide)) (lk_1i l22 (by decide)) (lk_1i l23 (by decide)) (lk_1i l24 (by decide)) lk_1s (ed_some h)
            · replace h := ed_neg q108 h
              refine iq_iload hS 113 J_MScriptRows_makeLines_d111 (lk_1i l23 (by decide)) rfl ?_
              refine iq_iload_n hS 114 J_MScriptRows_makeLines_d113 (lk_1i l21 (by decide)) rfl ?_
              refine iq_iadd hS 115 J_MScriptRows_makeLines_d114 rfl ?_
              refine iq_istore hS 117 J_MScriptRows_makeLines_d115 (by decide) rfl ?_
              refine iq_iload hS 119 J_MScriptRows_makeLines_d117 lk_1s rfl ?_
              refine iq_istore hS 121 J_MScriptRows_makeLines_d119 (by decide) rfl ?_
              exact J15 _ _ _ (lk_1r (lk_1r (lk_1r l18 (by decide)) (by decide)) (by decide)) (lk_1i (lk_1i (lk_1i l19 (by decide)) (by decide)) (by decide)) (lk_1i (lk_1i (lk_1i l20 (by decide)) (by decide)) (by decide)) (lk_1i (lk_1i (lk_1i l21 (by decide)) (by decide)) (by decide)) (lk_1i (lk_1i (lk_1i l22 (by decide)) (by decide)) (by decide)) (lk_1i (lk_1i (lk_1i l23 (by decide)) (by decide)) (by decide)) (lk_1i lk_1s (by decide)) lk_1s (ed_some h)
          obtain ⟨r16, hr16, hq16⟩ := h
          obtain ⟨n16, hn16⟩ := lp_n hr16
          have I16 : ∀ (n : Nat) (x25 : Int32) (L' : List (Nat × Value)), im_lk L' 0 = some (.ref 71) → im_lk L' 1 = some (.int p0) → im_lk L' 2 = some (.int (im_i M 82 (Int32.toNatClampNeg (((16 : Int32) * p0) + 10)))) → im_lk L' 3 = some (.int (im_i M 82 (Int32.toNatClampNeg (((16 : Int32) * p0) + 1)))) → im_lk L' 4 = some (.int x3) → im_lk L' 5 = some (.int x4) → im_lk L' 8 = some (.int x25) → lpn (uc1 (f_MScriptRows_makeLines_L73 p0 (im_i M 82 (Int32.toNatClampNeg (((16 : Int32) * p0) + 10))) (im_i M 82 (Int32.toNatClampNeg (((16 : Int32) * p0) + 1))) x3 x4 M6)) n x25 = some r16 → ia (tb_G L xs) (dep + 4) J_MScriptRows_makeLines (rwV w Q) (73, L', [], M6) := by
            intro n
            induction n with
            | zero => intro x25 L' l26 l27 l28 l29 l30 l31 l32 hn; exact (lpn_0 hn).elim
            | succ n ih =>
              intro x25 L' l26 l27 l28 l29 l30 l31 l32 hn
              have h := lpn_ed1 hn
              unfold f_MScriptRows_makeLines_L73 at h
              refine iq_iload hS 75 J_MScriptRows_makeLines_d73 l32 rfl ?_
              refine iq_iload hS 77 J_MScriptRows_makeLines_d75 l31 rfl ?_
              refine iq_icmp_lt hS 80 J_MScriptRows_makeLines_d77 (t := 98) rfl (fun q77 => ?_) rfl (fun q77 => ?_)
              · replace h := ed_pos q77 h
                exact K16 _ _ l26 l27 l28 l29 l30 l31 l32 (lq_r h hq16)
              · replace h := ed_neg q77 h
                refine iq_aload_n hS 81 J_MScriptRows_makeLines_d80 l26 rfl ?_
                refine iq_getR hS 84 J_MScriptRows_makeLines_d81 lf_15_53 (Or.inr ⟨_, rfl⟩) (ka_71 hM6) (ra_71_31 hM6) rfl ?_
                refine iq_iload hS 86 J_MScriptRows_makeLines_d84 l32 rfl ?_
                obtain ⟨g86, h⟩ := ed_gd h
                refine iq_iaload hS 87 J_MScriptRows_makeLines_d86 ⟨(ka_85 hM6).1, (ka_85 hM6).2, g86.1, ix_lt (kl_85 hM6) g86.2⟩ rfl ?_
                refine iq_bipush hS 89 J_MScriptRows_makeLines_d87 (v := 32) (by decide +kernel) rfl ?_
                refine iq_icmp_eq hS 92 J_MScriptRows_makeLines_d89 (t := 98) rfl (fun q89 => ?_) rfl (fun q89 => ?_)
                · replace h := ed_pos q89 h
                  exact K16 _ _ l26 l27 l28 l29 l30 l31 l32 (lq_r h hq16)
                · replace h := ed_neg q89 h
                  refine iq_iincv hS 95 J_MScriptRows_makeLines_d92 (c := (-1)) (by decide +kernel) l32 (by decide) rfl ?_
                  refine iq_goto hS J_MScriptRows_makeLines_d95 (t := 73) rfl ?_
                  exact ih _ _ (lk_1r l26 (by decide)) (lk_1i l27 (by decide)) (lk_1i l28 (by decide)) (lk_1i l29 (by decide)) (lk_1i l30 (by decide)) (lk_1i l31 (by decide)) lk_1s (lq_l h)
          exact I16 n16 _ _ (lk_1r (lk_1r (lk_1r (lk_1r l7 (by decide)) (by decide)) (by decide)) (by decide)) (lk_1i (lk_1i (lk_1i (lk_1i l8 (by decide)) (by decide)) (by decide)) (by decide)) (lk_1i (lk_1i (lk_1i (lk_1i l9 (by decide)) (by decide)) (by decide)) (by decide)) (lk_1i (lk_1i (lk_1i (lk_1i l10 (by decide)) (by decide)) (by decide)) (by decide)) (lk_1i (lk_1i (lk_1i (lk_1i l11 (by decide)) (by decide)) (by decide)) (by decide)) (lk_1i (lk_1i (lk_1i (lk_1i l12 (by decide)) (by decide)) (by decide)) (by decide)) lk_1s hn16
  exact I1 n1 _ _ _ _ _ hM (lk_1r (lk_1r (lk_1r (lk_1r (lk_1r l0 (by decide)) (by decide)) (by decide)) (by decide)) (by decide)) (lk_1i (lk_1i (lk_1i (lk_1i (lk_1i l1 (by decide)) (by decide)) (by decide)) (by decide)) (by decide)) (lk_1i (lk_1i (lk_1i (lk_1i lk_1s (by decide)) (by decide)) (by decide)) (by decide)) (lk_1i (lk_1i (lk_1i lk_1s (by decide)) (by decide)) (by decide)) (lk_1i (lk_1i lk_1s (by decide)) (by decide)) (lk_1i lk_1s (by decide)) lk_1s hn1
theorem f_MScriptRows_makeLines_fr {p0 : Int32} {M : im_M} {r : im_M} (h : f_MScriptRows_makeLines p0 M = some r) : fr 464227514732017603087171584 [(71, 26), (71, 32), (71, 37)] M r := by
  replace h : ed (f_MScriptRows_makeLines p0 M) (fun x => x = r) := ⟨r, h, rfl⟩
  unfold f_MScriptRows_makeLines at h
  obtain ⟨g11, h⟩ := ed_gd h
  obtain ⟨g23, h⟩ := ed_gd h
  obtain ⟨Q1, hQ1, h⟩ := bd1_ed h
  have K1 : ∀ (M2 : im_M), fr 464227514732017603087171584 [(71, 26), (71, 32), (71, 37)] M M2 → Q1 M2 → fr 464227514732017603087171584 [(71, 26), (71, 32), (71, 37)] M r := by
    intro M2 hM2 h
    replace h := hQ1 _ h
    exact fr_retV h hM2
  obtain ⟨r1, hr1, hq1⟩ := h
  obtain ⟨n1, hn1⟩ := lp_n hr1
  have I1 : ∀ (n : Nat) (x3 : Int32) (x4 : Int32) (x5 : Int32) (M6 : im_M), fr 464227514732017603087171584 [(71, 26), (71, 32), (71, 37)] M M6 → lpn (uc4 (f_MScriptRows_makeLines_L34 p0 (im_i M 82 (Int32.toNatClampNeg (((16 : Int32) * p0) + 10))) (im_i M 82 (Int32.toNatClampNeg (((16 : Int32) * p0) + 1))))) n (x3, x4, x5, M6) = some r1 → fr 464227514732017603087171584 [(71, 26), (71, 32), (71, 37)] M r := by
    intro n
    induction n with
    | zero => intro x3 x4 x5 M6 hM6 hn; exact (lpn_0 hn).elim
    | succ n ih =>
      intro x3 x4 x5 M6 hM6 hn
      have h := lpn_ed4 hn
      unfold f_MScriptRows_makeLines_L34 at h
      by_cases q36 : x5 = 0
      · replace h := ed_pos q36 h
        exact K1 _ hM6 (lq_r h hq1)
      · replace h := ed_neg q36 h
        obtain ⟨Q7, hQ7, h⟩ := bd1_ed h
        obtain ⟨x7, e7, h⟩ := h
        replace h := hQ7 _ h
        obtain ⟨Q8, hQ8, h⟩ := bd2_ed h
        have J8 : ∀ (y12 : Int32) (y13 : Int32), Q8 (y12, y13) → fr 464227514732017603087171584 [(71, 26), (71, 32), (71, 37)] M r := by
          intro y12 y13 h
          replace h := hQ8 _ _ h
          obtain ⟨Q22, hQ22, h⟩ := bd1_ed h
          obtain ⟨M22, e22, h⟩ := h
          replace h := hQ22 _ h
          exact ih _ _ _ _ (fr_tr (fr_mono (by decide) (by decide +kernel) (f_MScriptRows_giveLine_fr e22)) hM6) (lq_l h)
        by_cases q64 : (x7 - x4) ≤ (im_i M 82 (Int32.toNatClampNeg (((16 : Int32) * p0) + 1)))
        · replace h := ed_pos q64 h
          exact J8 _ _ (ed_some h)
        · replace h := ed_neg q64 h
          obtain ⟨Q9, hQ9, h⟩ := bd1_ed h
          have K9 : ∀ (y10 : Int32), Q9 y10 → fr 464227514732017603087171584 [(71, 26), (71, 32), (71, 37)] M r := by
            intro y10 h
            replace h := hQ9 _ h
            by_cases q108 : x4 ≤ y10
            · replace h := ed_pos q108 h
              exact J8 _ _ (ed_some h)
            · replace h := ed_neg q108 h
              exact J8 _ _ (ed_some h)
          obtain ⟨r9, hr9, hq9⟩ := h
          obtain ⟨n9, hn9⟩ := lp_n hr9
          have I9 : ∀ (n : Nat) (x11 : Int32), lpn (uc1 (f_MScriptRows_makeLines_L73 p0 (im_i M 82 (Int32.toNatClampNeg (((16 : Int32) * p0) + 10))) (im_i M 82 (Int32.toNatClampNeg (((16 : Int32) * p0) + 1))) x3 x4 M6)) n x11 = some r9 → fr 464227514732017603087171584 [(71, 26), (71, 32), (71, 37)] M r := by
            intro n
            induction n with
            | zero => intro x11 hn; exact (lpn_0 hn).elim
            | succ n ih =>
              intro x11 hn
              have h := lpn_ed1 hn
              unfold f_MScriptRows_makeLines_L73 at h
              by_cases q77 : x11 < x4
              · replace h := ed_pos q77 h
                exact K9 _ (lq_r h hq9)
              · replace h := ed_neg q77 h
                obtain ⟨g86, h⟩ := ed_gd h
                by_cases q89 : (im_i M6 85 (Int32.toNatClampNeg x11)) = 32
                · replace h := ed_pos q89 h
                  exact K9 _ (lq_r h hq9)
                · replace h := ed_neg q89 h
                  exact ih _ (lq_l h)
          exact I9 n9 _ hn9
  exact I1 n1 _ _ _ _ fr_refl hn1
noncomputable def f_MScriptRows_makeField (p0 : Int32) (p1 : Int32) (M : im_M) : Option (im_M) := gd (inb (((16 : Int32) * p0) + 1) 2000) <| gd (inb (((16 : Int32) * p0) + 2) 2000) <| gd (inb (((16 : Int32) * p0) + 10) 2000) <| bd1 (f_MScriptRows_takeCopy p0 p1 M) fun (M1 : im_M) => gd (inb ((16 : Int32) * p0) 2000) <| if (im_i M1 82 (Int32.toNatClampNeg ((16 : Int32) * p0))) = 0 then gd (inb (((16 : Int32) * p0) + 4) 2000) <| bd1 (f_MScriptRows_give p0 0 (im_i M1 82 (Int32.toNatClampNeg (((16 : Int32) * p0) + 4))) 0 0 0 (im_i M 82 (Int32.toNatClampNeg (((16 : Int32) * p0) + 10))) M1) fun (M2 : im_M) => gd (inb (((16 : Int32) * p0) + 3) 2000) <| bd1 (f_MScriptRows_have (im_i M 82 (Int32.toNatClampNeg (((16 : Int32) * p0) + 1))) (im_i M 82 (Int32.toNatClampNeg (((16 : Int32) * p0) + 2))) (im_i M2 82 (Int32.toNatClampNeg (((16 : Int32) * p0) + 3))) M2) fun (M3 : im_M) => some M3 else if (im_i M1 82 (Int32.toNatClampNeg ((16 : Int32) * p0))) = 1 then gd (inb (((16 : Int32) * p0) + 3) 2000) <| bd1 (f_MScriptRows_give p0 1 (im_i M1 82 (Int32.toNatClampNeg (((16 : Int32) * p0) + 3))) 0 0 0 (im_i M 82 (Int32.toNatClampNeg (((16 : Int32) * p0) + 10))) M1) fun (M4 : im_M) => bd1 (f_MScriptRows_have (im_i M 82 (Int32.toNatClampNeg (((16 : Int32) * p0) + 1))) (im_i M 82 (Int32.toNatClampNeg (((16 : Int32) * p0) + 2))) 0 M4) fun (M5 : im_M) => gd (inb (((16 : Int32) * p0) + 4) 2000) <| if ¬ (im_i M5 82 (Int32.toNatClampNeg (((16 : Int32) * p0) + 4))) = 1 then some M5 else gd (inb (((16 : Int32) * p0) + 3) 2000) <| bd1 (f_MScriptRows_give p0 0 (im_i M5 82 (Int32.toNatClampNeg (((16 : Int32) * p0) + 3))) 0 ((im_i M 82 (Int32.toNatClampNeg (((16 : Int32) * p0) + 2))) + 3) 0 (im_i M 82 (Int32.toNatClampNeg (((16 : Int32) * p0) + 10))) M5) fun (M6 : im_M) => gd (inb (((16 : Int32) * p0) + 11) 2000) <| gd (inb (((16 : Int32) * p0) + 12) 2000) <| gd (inb (((16 : Int32) * p0) + 13) 2000) <| bd1 (f_MScriptRows_have (im_i M6 82 (Int32.toNatClampNeg (((16 : Int32) * p0) + 11))) (im_i M6 82 (Int32.toNatClampNeg (((16 : Int32) * p0) + 12))) (im_i M6 82 (Int32.toNatClampNeg (((16 : Int32) * p0) + 13))) M6) fun (M7 : im_M) => some M7 else if (im_i M1 82 (Int32.toNatClampNeg ((16 : Int32) * p0))) = 2 then gd (inb (((16 : Int32) * p0) + 3) 2000) <| bd1 (f_MScriptRows_give p0 2 (im_i M1 82 (Int32.toNatClampNeg (((16 : Int32) * p0) + 3))) 0 0 0 (im_i M 82 (Int32.toNatClampNeg (((16 : Int32) * p0) + 10))) M1) fun (M8 : im_M) => bd1 (f_MScriptRows_have (im_i M 82 (Int32.toNatClampNeg (((16 : Int32) * p0) + 1))) (im_i M 82 (Int32.toNatClampNeg (((16 : Int32) * p0) + 2))) 0 M8) fun (M9 : im_M) => some M9 else if (im_i M1 82 (Int32.toNatClampNeg ((16 : Int32) * p0))) = 3 then gd (inb (((16 : Int32) * p0) + 4) 2000) <| bd1 (f_MScriptRows_give p0 3 (im_i M1 82 (Int32.toNatClampNeg (((16 : Int32) * p0) + 4))) 0 0 0 (im_i M 82 (Int32.toNatClampNeg (((16 : Int32) * p0) + 10))) M1) fun (M10 : im_M) => gd (inb (((16 : Int32) * p0) + 3) 2000) <| bd1 (f_MScriptRows_have (im_i M 82 (Int32.toNatClampNeg (((16 : Int32) * p0) + 1))) (im_i M 82 (Int32.toNatClampNeg (((16 : Int32) * p0) + 2))) (im_i M10 82 (Int32.toNatClampNeg (((16 : Int32) * p0) + 3))) M10) fun (M11 : im_M) => some M11 else if (im_i M1 82 (Int32.toNatClampNeg ((16 : Int32) * p0))) = 7 then bd1 (f_MScriptRows_give p0 7 0 0 0 0 ((im_i M 82 (Int32.toNatClampNeg (((16 : Int32) * p0) + 10))) / 2) M1) fun (M12 : im_M) => bd1 (f_MScriptRows_have (im_i M 82 (Int32.toNatClampNeg (((16 : Int32) * p0) + 1))) 0 0 M12) fun (M13 : im_M) => some M13 else if (im_i M1 82 (Int32.toNatClampNeg ((16 : Int32) * p0))) = 8 then bd1 (f_MScriptRows_makeLines p0 M1) fun (M14 : im_M) => some M14 else gd (inb ((16 : Int32) * p0) 2000) <| bd1 (f_MScriptRows_give p0 (im_i M1 82 (Int32.toNatClampNeg ((16 : Int32) * p0))) 0 0 0 0 0 M1) fun (M15 : im_M) => gd (inb (((16 : Int32) * p0) + 3) 2000) <| bd1 (f_MScriptRows_have (im_i M 82 (Int32.toNatClampNeg (((16 : Int32) * p0) + 1))) (im_i M 82 (Int32.toNatClampNeg (((16 : Int32) * p0) + 2))) (im_i M15 82 (Int32.toNatClampNeg (((16 : Int32) * p0) + 3))) M15) fun (M16 : im_M) => bd1 (jn0 (fun (_ : Unit) => some 1) fun k18 => if ¬ (im_i M16 71 32) = 0 then k18 () else gd (inb ((16 : Int32) * p0) 2000) <| jn0 (fun (_ : Unit) => some 0) fun k19 => if ¬ (im_i M16 82 (Int32.toNatClampNeg ((16 : Int32) * p0))) = 6 then k19 () else gd (inb (((16 : Int32) * p0) + 5) 2000) <| bd1 (f_MScriptRows_isFar ((im_i M16 82 (Int32.toNatClampNeg (((16 : Int32) * p0) + 5))) + (im_i M 82 (Int32.toNatClampNeg (((16 : Int32) * p0) + 1)))) M16) fun (x20 : Int32) => if ¬ x20 = 0 then k18 () else gd (inb (((16 : Int32) * p0) + 6) 2000) <| bd1 (f_MScriptRows_isFar ((im_i M16 82 (Int32.toNatClampNeg (((16 : Int32) * p0) + 6))) + (im_i M 82 (Int32.toNatClampNeg (((16 : Int32) * p0) + 2)))) M16) fun (x21 : Int32) => if x21 = 0 then k19 () else k18 ()) fun (y22 : Int32) => gd (y22 = 0 ∨ y22 = 1) <| some (im_setI M16 71 32 y22)
theorem J_MScriptRows_makeField_d0 : decode J_MScriptRows_makeField.2.1 0 = .ok (.bipush 16, 2) := by decide +kernel
theorem J_MScriptRows_makeField_d2 : decode J_MScriptRows_makeField.2.1 2 = .ok (.iload_n 1, 1) := by decide +kernel
theorem J_MScriptRows_makeField_d3 : decode J_MScriptRows_makeField.2.1 3 = .ok (.imul, 1) := by decide +kernel
theorem J_MScriptRows_makeField_d4 : decode J_MScriptRows_makeField.2.1 4 = .ok (.istore_n 3, 1) := by decide +kernel
theorem J_MScriptRows_makeField_d5 : decode J_MScriptRows_makeField.2.1 5 = .ok (.aload_n 0, 1) := by decide +kernel
theorem J_MScriptRows_makeField_d6 : decode J_MScriptRows_makeField.2.1 6 = .ok (.getfield 44, 3) := by decide +kernel
theorem J_MScriptRows_makeField_d9 : decode J_MScriptRows_makeField.2.1 9 = .ok (.iload_n 3, 1) := by decide +kernel
theorem J_MScriptRows_makeField_d10 : decode J_MScriptRows_makeField.2.1 10 = .ok (.iconst 1, 1) := by decide +kernel
theorem J_MScriptRows_makeField_d11 : decode J_MScriptRows_makeField.2.1 11 = .ok (.iadd, 1) := by decide +kernel
theorem J_MScriptRows_makeField_d12 : decode J_MScriptRows_makeField.2.1 12 = .ok (.iaload, 1) := by decide +kernel
theorem J_MScriptRows_makeField_d13 : decode J_MScriptRows_makeField.2.1 13 = .ok (.istore 4, 2) := by decide +kernel
theorem J_MScriptRows_makeField_d15 : decode J_MScriptRows_makeField.2.1 15 = .ok (.aload_n 0, 1) := by decide +kernel
theorem J_MScriptRows_makeField_d16 : decode J_MScriptRows_makeField.2.1 16 = .ok (.getfield 44, 3) := by decide +kernel
theorem J_MScriptRows_makeField_d19 : decode J_MScriptRows_makeField.2.1 19 = .ok (.iload_n 3, 1) := by decide +kernel
theorem J_MScriptRows_makeField_d20 : decode J_MScriptRows_makeField.2.1 20 = .ok (.iconst 2, 1) := by decide +kernel
theorem J_MScriptRows_makeField_d21 : decode J_MScriptRows_makeField.2.1 21 = .ok (.iadd, 1) := by decide +kernel
theorem J_MScriptRows_makeField_d22 : decode J_MScriptRows_makeField.2.1 22 = .ok (.iaload, 1) := by decide +kernel
theorem J_MScriptRows_makeField_d23 : decode J_MScriptRows_makeField.2.1 23 = .ok (.istore 5, 2) := by decide +kernel
theorem J_MScriptRows_makeField_d25 : decode J_MScriptRows_makeField.2.1 25 = .ok (.aload_n 0, 1) := by decide +kernel
theorem J_MScriptRows_makeField_d26 : decode J_MScriptRows_makeField.2.1 26 = .ok (.getfield 44, 3) := by decide +kernel
theorem J_MScriptRows_makeField_d29 : decode J_MScriptRows_makeField.2.1 29 = .ok (.iload_n 3, 1) := by decide +kernel
theorem J_MScriptRows_makeField_d30 : decode J_MScriptRows_makeField.2.1 30 = .ok (.bipush 10, 2) := by decide +kernel
theorem J_MScriptRows_makeField_d32 : decode J_MScriptRows_makeField.2.1 32 = .ok (.iadd, 1) := by decide +kernel
theorem J_MScriptRows_makeField_d33 : decode J_MScriptRows_makeField.2.1 33 = .ok (.iaload, 1) := by decide +kernel
theorem J_MScriptRows_makeField_d34 : decode J_MScriptRows_makeField.2.1 34 = .ok (.istore 6, 2) := by decide +kernel
theorem J_MScriptRows_makeField_d36 : decode J_MScriptRows_makeField.2.1 36 = .ok (.aload_n 0, 1) := by decide +kernel
theorem J_MScriptRows_makeField_d37 : decode J_MScriptRows_makeField.2.1 37 = .ok (.iload_n 1, 1) := by decide +kernel
theorem J_MScriptRows_makeField_d38 : decode J_MScriptRows_makeField.2.1 38 = .ok (.iload_n 2, 1) := by decide +kernel
theorem J_MScriptRows_makeField_d39 : decode J_MScriptRows_makeField.2.1 39 = .ok (.invokevirtual 158, 3) := by decide +kernel
theorem J_MScriptRows_makeField_d42 : decode J_MScriptRows_makeField.2.1 42 = .ok (.aload_n 0, 1) := by decide +kernel
theorem J_MScriptRows_makeField_d43 : decode J_MScriptRows_makeField.2.1 43 = .ok (.getfield 44, 3) := by decide +kernel
theorem J_MScriptRows_makeField_d46 : decode J_MScriptRows_makeField.2.1 46 = .ok (.iload_n 3, 1) := by decide +kernel
theorem J_MScriptRows_makeField_d47 : decode J_MScriptRows_makeField.2.1 47 = .ok (.iaload, 1) := by decide +kernel
theorem J_MScriptRows_makeField_d48 : decode J_MScriptRows_makeField.2.1 48 = .ok (.tableswitch 289 0 8 #[52, 90, 186, 217, 289, 289, 289, 255, 281], 52) := by decide +kernel
theorem J_MScriptRows_makeField_d100 : decode J_MScriptRows_makeField.2.1 100 = .ok (.aload_n 0, 1) := by decide +kernel
theorem J_MScriptRows_makeField_d101 : decode J_MScriptRows_makeField.2.1 101 = .ok (.iload_n 1, 1) := by decide +kernel
theorem J_MScriptRows_makeField_d102 : decode J_MScriptRows_makeField.2.1 102 = .ok (.iconst 0, 1) := by decide +kernel
theorem J_MScriptRows_makeField_d103 : decode J_MScriptRows_makeField.2.1 103 = .ok (.aload_n 0, 1) := by decide +kernel
theorem J_MScriptRows_makeField_d104 : decode J_MScriptRows_makeField.2.1 104 = .ok (.getfield 44, 3) := by decide +kernel
theorem J_MScriptRows_makeField_d107 : decode J_MScriptRows_makeField.2.1 107 = .ok (.iload_n 3, 1) := by decide +kernel
theorem J_MScriptRows_makeField_d108 : decode J_MScriptRows_makeField.2.1 108 = .ok (.iconst 4, 1) := by decide +kernel
theorem J_MScriptRows_makeField_d109 : decode J_MScriptRows_makeField.2.1 109 = .ok (.iadd, 1) := by decide +kernel
theorem J_MScriptRows_makeField_d110 : decode J_MScriptRows_makeField.2.1 110 = .ok (.iaload, 1) := by decide +kernel
theorem J_MScriptRows_makeField_d111 : decode J_MScriptRows_makeField.2.1 111 = .ok (.iconst 0, 1) := by decide +kernel
theorem J_MScriptRows_makeField_d112 : decode J_MScriptRows_makeField.2.1 112 = .ok (.iconst 0, 1) := by decide +kernel
theorem J_MScriptRows_makeField_d113 : decode J_MScriptRows_makeField.2.1 113 = .ok (.iconst 0, 1) := by decide +kernel
theorem J_MScriptRows_makeField_d114 : decode J_MScriptRows_makeField.2.1 114 = .ok (.iload 6, 2) := by decide +kernel
theorem J_MScriptRows_makeField_d116 : decode J_MScriptRows_makeField.2.1 116 = .ok (.invokevirtual 161, 3) := by decide +kernel
theorem J_MScriptRows_makeField_d119 : decode J_MScriptRows_makeField.2.1 119 = .ok (.aload_n 0, 1) := by decide +kernel
theorem J_MScriptRows_makeField_d120 : decode J_MScriptRows_makeField.2.1 120 = .ok (.iload 4, 2) := by decide +kernel
theorem J_MScriptRows_makeField_d122 : decode J_MScriptRows_makeField.2.1 122 = .ok (.iload 5, 2) := by decide +kernel
theorem J_MScriptRows_makeField_d124 : decode J_MScriptRows_makeField.2.1 124 = .ok (.aload_n 0, 1) := by decide +kernel
theorem J_MScriptRows_makeField_d125 : decode J_MScriptRows_makeField.2.1 125 = .ok (.getfield 44, 3) := by decide +kernel
theorem J_MScriptRows_makeField_d128 : decode J_MScriptRows_makeField.2.1 128 = .ok (.iload_n 3, 1) := by decide +kernel
theorem J_MScriptRows_makeField_d129 : decode J_MScriptRows_makeField.2.1 129 = .ok (.iconst 3, 1) := by decide +kernel
theorem J_MScriptRows_makeField_d130 : decode J_MScriptRows_makeField.2.1 130 = .ok (.iadd, 1) := by decide +kernel
theorem J_MScriptRows_makeField_d131 : decode J_MScriptRows_makeField.2.1 131 = .ok (.iaload, 1) := by decide +kernel
theorem J_MScriptRows_makeField_d132 : decode J_MScriptRows_makeField.2.1 132 = .ok (.invokevirtual 165, 3) := by decide +kernel
theorem J_MScriptRows_makeField_d135 : decode J_MScriptRows_makeField.2.1 135 = .ok (.goto 296, 3) := by decide +kernel
theorem J_MScriptRows_makeField_d138 : decode J_MScriptRows_makeField.2.1 138 = .ok (.aload_n 0, 1) := by decide +kernel
theorem J_MScriptRows_makeField_d139 : decode J_MScriptRows_makeField.2.1 139 = .ok (.iload_n 1, 1) := by decide +kernel
theorem J_MScriptRows_makeField_d140 : decode J_MScriptRows_makeField.2.1 140 = .ok (.iconst 1, 1) := by decide +kernel
theorem J_MScriptRows_makeField_d141 : decode J_MScriptRows_makeField.2.1 141 = .ok (.aload_n 0, 1) := by decide +kernel
theorem J_MScriptRows_makeField_d142 : decode J_MScriptRows_makeField.2.1 142 = .ok (.getfield 44, 3) := by decide +kernel
theorem J_MScriptRows_makeField_d145 : decode J_MScriptRows_makeField.2.1 145 = .ok (.iload_n 3, 1) := by decide +kernel
theorem J_MScriptRows_makeField_d146 : decode J_MScriptRows_makeField.2.1 146 = .ok (.iconst 3, 1) := by decide +kernel
theorem J_MScriptRows_makeField_d147 : decode J_MScriptRows_makeField.2.1 147 = .ok (.iadd, 1) := by decide +kernel
theorem J_MScriptRows_makeField_d148 : decode J_MScriptRows_makeField.2.1 148 = .ok (.iaload, 1) := by decide +kernel
theorem J_MScriptRows_makeField_d149 : decode J_MScriptRows_makeField.2.1 149 = .ok (.iconst 0, 1) := by decide +kernel
theorem J_MScriptRows_makeField_d150 : decode J_MScriptRows_makeField.2.1 150 = .ok (.iconst 0, 1) := by decide +kernel
theorem J_MScriptRows_makeField_d151 : decode J_MScriptRows_makeField.2.1 151 = .ok (.iconst 0, 1) := by decide +kernel
theorem J_MScriptRows_makeField_d152 : decode J_MScriptRows_makeField.2.1 152 = .ok (.iload 6, 2) := by decide +kernel
theorem J_MScriptRows_makeField_d154 : decode J_MScriptRows_makeField.2.1 154 = .ok (.invokevirtual 161, 3) := by decide +kernel
theorem J_MScriptRows_makeField_d157 : decode J_MScriptRows_makeField.2.1 157 = .ok (.aload_n 0, 1) := by decide +kernel
theorem J_MScriptRows_makeField_d158 : decode J_MScriptRows_makeField.2.1 158 = .ok (.iload 4, 2) := by decide +kernel
theorem J_MScriptRows_makeField_d160 : decode J_MScriptRows_makeField.2.1 160 = .ok (.iload 5, 2) := by decide +kernel
theorem J_MScriptRows_makeField_d162 : decode J_MScriptRows_makeField.2.1 162 = .ok (.iconst 0, 1) := by decide +kernel
theorem J_MScriptRows_makeField_d163 : decode J_MScriptRows_makeField.2.1 163 = .ok (.invokevirtual 165, 3) := by decide +kernel
theorem J_MScriptRows_makeField_d166 : decode J_MScriptRows_makeField.2.1 166 = .ok (.aload_n 0, 1) := by decide +kernel
theorem J_MScriptRows_makeField_d167 : decode J_MScriptRows_makeField.2.1 167 = .ok (.getfield 44, 3) := by decide +kernel
theorem J_MScriptRows_makeField_d170 : decode J_MScriptRows_makeField.2.1 170 = .ok (.iload_n 3, 1) := by decide +kernel
theorem J_MScriptRows_makeField_d171 : decode J_MScriptRows_makeField.2.1 171 = .ok (.iconst 4, 1) := by decide +kernel
theorem J_MScriptRows_makeField_d172 : decode J_MScriptRows_makeField.2.1 172 = .ok (.iadd, 1) := by decide +kernel
theorem J_MScriptRows_makeField_d173 : decode J_MScriptRows_makeField.2.1 173 = .ok (.iaload, 1) := by decide +kernel
theorem J_MScriptRows_makeField_d174 : decode J_MScriptRows_makeField.2.1 174 = .ok (.iconst 1, 1) := by decide +kernel
theorem J_MScriptRows_makeField_d175 : decode J_MScriptRows_makeField.2.1 175 = .ok (.if_icmp .ne 256, 3) := by decide +kernel
theorem J_MScriptRows_makeField_d178 : decode J_MScriptRows_makeField.2.1 178 = .ok (.aload_n 0, 1) := by decide +kernel
theorem J_MScriptRows_makeField_d179 : decode J_MScriptRows_makeField.2.1 179 = .ok (.iload_n 1, 1) := by decide +kernel
theorem J_MScriptRows_makeField_d180 : decode J_MScriptRows_makeField.2.1 180 = .ok (.iconst 0, 1) := by decide +kernel
theorem J_MScriptRows_makeField_d181 : decode J_MScriptRows_makeField.2.1 181 = .ok (.aload_n 0, 1) := by decide +kernel
theorem J_MScriptRows_makeField_d182 : decode J_MScriptRows_makeField.2.1 182 = .ok (.getfield 44, 3) := by decide +kernel
theorem J_MScriptRows_makeField_d185 : decode J_MScriptRows_makeField.2.1 185 = .ok (.iload_n 3, 1) := by decide +kernel
theorem J_MScriptRows_makeField_d186 : decode J_MScriptRows_makeField.2.1 186 = .ok (.iconst 3, 1) := by decide +kernel
theorem J_MScriptRows_makeField_d187 : decode J_MScriptRows_makeField.2.1 187 = .ok (.iadd, 1) := by decide +kernel
theorem J_MScriptRows_makeField_d188 : decode J_MScriptRows_makeField.2.1 188 = .ok (.iaload, 1) := by decide +kernel
theorem J_MScriptRows_makeField_d189 : decode J_MScriptRows_makeField.2.1 189 = .ok (.iconst 0, 1) := by decide +kernel
theorem J_MScriptRows_makeField_d190 : decode J_MScriptRows_makeField.2.1 190 = .ok (.iload 5, 2) := by decide +kernel
theorem J_MScriptRows_makeField_d192 : decode J_MScriptRows_makeField.2.1 192 = .ok (.iconst 3, 1) := by decide +kernel
theorem J_MScriptRows_makeField_d193 : decode J_MScriptRows_makeField.2.1 193 = .ok (.iadd, 1) := by decide +kernel
theorem J_MScriptRows_makeField_d194 : decode J_MScriptRows_makeField.2.1 194 = .ok (.iconst 0, 1) := by decide +kernel
theorem J_MScriptRows_makeField_d195 : decode J_MScriptRows_makeField.2.1 195 = .ok (.iload 6, 2) := by decide +kernel
theorem J_MScriptRows_makeField_d197 : decode J_MScriptRows_makeField.2.1 197 = .ok (.invokevirtual 161, 3) := by decide +kernel
theorem J_MScriptRows_makeField_d200 : decode J_MScriptRows_makeField.2.1 200 = .ok (.aload_n 0, 1) := by decide +kernel
theorem J_MScriptRows_makeField_d201 : decode J_MScriptRows_makeField.2.1 201 = .ok (.aload_n 0, 1) := by decide +kernel
theorem J_MScriptRows_makeField_d202 : decode J_MScriptRows_makeField.2.1 202 = .ok (.getfield 44, 3) := by decide +kernel
theorem J_MScriptRows_makeField_d205 : decode J_MScriptRows_makeField.2.1 205 = .ok (.iload_n 3, 1) := by decide +kernel
theorem J_MScriptRows_makeField_d206 : decode J_MScriptRows_makeField.2.1 206 = .ok (.bipush 11, 2) := by decide +kernel
theorem J_MScriptRows_makeField_d208 : decode J_MScriptRows_makeField.2.1 208 = .ok (.iadd, 1) := by decide +kernel
theorem J_MScriptRows_makeField_d209 : decode J_MScriptRows_makeField.2.1 209 = .ok (.iaload, 1) := by decide +kernel
theorem J_MScriptRows_makeField_d210 : decode J_MScriptRows_makeField.2.1 210 = .ok (.aload_n 0, 1) := by decide +kernel
theorem J_MScriptRows_makeField_d211 : decode J_MScriptRows_makeField.2.1 211 = .ok (.getfield 44, 3) := by decide +kernel
theorem J_MScriptRows_makeField_d214 : decode J_MScriptRows_makeField.2.1 214 = .ok (.iload_n 3, 1) := by decide +kernel
theorem J_MScriptRows_makeField_d215 : decode J_MScriptRows_makeField.2.1 215 = .ok (.bipush 12, 2) := by decide +kernel
theorem J_MScriptRows_makeField_d217 : decode J_MScriptRows_makeField.2.1 217 = .ok (.iadd, 1) := by decide +kernel
theorem J_MScriptRows_makeField_d218 : decode J_MScriptRows_makeField.2.1 218 = .ok (.iaload, 1) := by decide +kernel
theorem J_MScriptRows_makeField_d219 : decode J_MScriptRows_makeField.2.1 219 = .ok (.aload_n 0, 1) := by decide +kernel
theorem J_MScriptRows_makeField_d220 : decode J_MScriptRows_makeField.2.1 220 = .ok (.getfield 44, 3) := by decide +kernel
theorem J_MScriptRows_makeField_d223 : decode J_MScriptRows_makeField.2.1 223 = .ok (.iload_n 3, 1) := by decide +kernel
theorem J_MScriptRows_makeField_d224 : decode J_MScriptRows_makeField.2.1 224 = .ok (.bipush 13, 2) := by decide +kernel
theorem J_MScriptRows_makeField_d226 : decode J_MScriptRows_makeField.2.1 226 = .ok (.iadd, 1) := by decide +kernel
theorem J_MScriptRows_makeField_d227 : decode J_MScriptRows_makeField.2.1 227 = .ok (.iaload, 1) := by decide +kernel
theorem J_MScriptRows_makeField_d228 : decode J_MScriptRows_makeField.2.1 228 = .ok (.invokevirtual 165, 3) := by decide +kernel
theorem J_MScriptRows_makeField_d231 : decode J_MScriptRows_makeField.2.1 231 = .ok (.goto 200, 3) := by decide +kernel
theorem J_MScriptRows_makeField_d234 : decode J_MScriptRows_makeField.2.1 234 = .ok (.aload_n 0, 1) := by decide +kernel
theorem J_MScriptRows_makeField_d235 : decode J_MScriptRows_makeField.2.1 235 = .ok (.iload_n 1, 1) := by decide +kernel
theorem J_MScriptRows_makeField_d236 : decode J_MScriptRows_makeField.2.1 236 = .ok (.iconst 2, 1) := by decide +kernel
theorem J_MScriptRows_makeField_d237 : decode J_MScriptRows_makeField.2.1 237 = .ok (.aload_n 0, 1) := by decide +kernel
theorem J_MScriptRows_makeField_d238 : decode J_MScriptRows_makeField.2.1 238 = .ok (.getfield 44, 3) := by decide +kernel
theorem J_MScriptRows_makeField_d241 : decode J_MScriptRows_makeField.2.1 241 = .ok (.iload_n 3, 1) := by decide +kernel
theorem J_MScriptRows_makeField_d242 : decode J_MScriptRows_makeField.2.1 242 = .ok (.iconst 3, 1) := by decide +kernel
theorem J_MScriptRows_makeField_d243 : decode J_MScriptRows_makeField.2.1 243 = .ok (.iadd, 1) := by decide +kernel
theorem J_MScriptRows_makeField_d244 : decode J_MScriptRows_makeField.2.1 244 = .ok (.iaload, 1) := by decide +kernel
theorem J_MScriptRows_makeField_d245 : decode J_MScriptRows_makeField.2.1 245 = .ok (.iconst 0, 1) := by decide +kernel
theorem J_MScriptRows_makeField_d246 : decode J_MScriptRows_makeField.2.1 246 = .ok (.iconst 0, 1) := by decide +kernel
theorem J_MScriptRows_makeField_d247 : decode J_MScriptRows_makeField.2.1 247 = .ok (.iconst 0, 1) := by decide +kernel
theorem J_MScriptRows_makeField_d248 : decode J_MScriptRows_makeField.2.1 248 = .ok (.iload 6, 2) := by decide +kernel
theorem J_MScriptRows_makeField_d250 : decode J_MScriptRows_makeField.2.1 250 = .ok (.invokevirtual 161, 3) := by decide +kernel
theorem J_MScriptRows_makeField_d253 : decode J_MScriptRows_makeField.2.1 253 = .ok (.aload_n 0, 1) := by decide +kernel
theorem J_MScriptRows_makeField_d254 : decode J_MScriptRows_makeField.2.1 254 = .ok (.iload 4, 2) := by decide +kernel
theorem J_MScriptRows_makeField_d256 : decode J_MScriptRows_makeField.2.1 256 = .ok (.iload 5, 2) := by decide +kernel
theorem J_MScriptRows_makeField_d258 : decode J_MScriptRows_makeField.2.1 258 = .ok (.iconst 0, 1) := by decide +kernel
theorem J_MScriptRows_makeField_d259 : decode J_MScriptRows_makeField.2.1 259 = .ok (.invokevirtual 165, 3) := by decide +kernel
theorem J_MScriptRows_makeField_d262 : decode J_MScriptRows_makeField.2.1 262 = .ok (.goto 169, 3) := by decide +kernel
theorem J_MScriptRows_makeField_d265 : decode J_MScriptRows_makeField.2.1 265 = .ok (.aload_n 0, 1) := by decide +kernel
theorem J_MScriptRows_makeField_d266 : decode J_MScriptRows_makeField.2.1 266 = .ok (.iload_n 1, 1) := by decide +kernel
theorem J_MScriptRows_makeField_d267 : decode J_MScriptRows_makeField.2.1 267 = .ok (.iconst 3, 1) := by decide +kernel
theorem J_MScriptRows_makeField_d268 : decode J_MScriptRows_makeField.2.1 268 = .ok (.aload_n 0, 1) := by decide +kernel
theorem J_MScriptRows_makeField_d269 : decode J_MScriptRows_makeField.2.1 269 = .ok (.getfield 44, 3) := by decide +kernel
theorem J_MScriptRows_makeField_d272 : decode J_MScriptRows_makeField.2.1 272 = .ok (.iload_n 3, 1) := by decide +kernel
theorem J_MScriptRows_makeField_d273 : decode J_MScriptRows_makeField.2.1 273 = .ok (.iconst 4, 1) := by decide +kernel
theorem J_MScriptRows_makeField_d274 : decode J_MScriptRows_makeField.2.1 274 = .ok (.iadd, 1) := by decide +kernel
theorem J_MScriptRows_makeField_d275 : decode J_MScriptRows_makeField.2.1 275 = .ok (.iaload, 1) := by decide +kernel
theorem J_MScriptRows_makeField_d276 : decode J_MScriptRows_makeField.2.1 276 = .ok (.iconst 0, 1) := by decide +kernel
theorem J_MScriptRows_makeField_d277 : decode J_MScriptRows_makeField.2.1 277 = .ok (.iconst 0, 1) := by decide +kernel
theorem J_MScriptRows_makeField_d278 : decode J_MScriptRows_makeField.2.1 278 = .ok (.iconst 0, 1) := by decide +kernel
theorem J_MScriptRows_makeField_d279 : decode J_MScriptRows_makeField.2.1 279 = .ok (.iload 6, 2) := by decide +kernel
theorem J_MScriptRows_makeField_d281 : decode J_MScriptRows_makeField.2.1 281 = .ok (.invokevirtual 161, 3) := by decide +kernel
theorem J_MScriptRows_makeField_d284 : decode J_MScriptRows_makeField.2.1 284 = .ok (.aload_n 0, 1) := by decide +kernel
theorem J_MScriptRows_makeField_d285 : decode J_MScriptRows_makeField.2.1 285 = .ok (.iload 4, 2) := by decide +kernel
theorem J_MScriptRows_makeField_d287 : decode J_MScriptRows_makeField.2.1 287 = .ok (.iload 5, 2) := by decide +kernel
theorem J_MScriptRows_makeField_d289 : decode J_MScriptRows_makeField.2.1 289 = .ok (.aload_n 0, 1) := by decide +kernel
theorem J_MScriptRows_makeField_d290 : decode J_MScriptRows_makeField.2.1 290 = .ok (.getfield 44, 3) := by decide +kernel
theorem J_MScriptRows_makeField_d293 : decode J_MScriptRows_makeField.2.1 293 = .ok (.iload_n 3, 1) := by decide +kernel
theorem J_MScriptRows_makeField_d294 : decode J_MScriptRows_makeField.2.1 294 = .ok (.iconst 3, 1) := by decide +kernel
theorem J_MScriptRows_makeField_d295 : decode J_MScriptRows_makeField.2.1 295 = .ok (.iadd, 1) := by decide +kernel
theorem J_MScriptRows_makeField_d296 : decode J_MScriptRows_makeField.2.1 296 = .ok (.iaload, 1) := by decide +kernel
theorem J_MScriptRows_makeField_d297 : decode J_MScriptRows_makeField.2.1 297 = .ok (.invokevirtual 165, 3) := by decide +kernel
theorem J_MScriptRows_makeField_d300 : decode J_MScriptRows_makeField.2.1 300 = .ok (.goto 131, 3) := by decide +kernel
theorem J_MScriptRows_makeField_d303 : decode J_MScriptRows_makeField.2.1 303 = .ok (.aload_n 0, 1) := by decide +kernel
theorem J_MScriptRows_makeField_d304 : decode J_MScriptRows_makeField.2.1 304 = .ok (.iload_n 1, 1) := by decide +kernel
theorem J_MScriptRows_makeField_d305 : decode J_MScriptRows_makeField.2.1 305 = .ok (.bipush 7, 2) := by decide +kernel
theorem J_MScriptRows_makeField_d307 : decode J_MScriptRows_makeField.2.1 307 = .ok (.iconst 0, 1) := by decide +kernel
theorem J_MScriptRows_makeField_d308 : decode J_MScriptRows_makeField.2.1 308 = .ok (.iconst 0, 1) := by decide +kernel
theorem J_MScriptRows_makeField_d309 : decode J_MScriptRows_makeField.2.1 309 = .ok (.iconst 0, 1) := by decide +kernel
theorem J_MScriptRows_makeField_d310 : decode J_MScriptRows_makeField.2.1 310 = .ok (.iconst 0, 1) := by decide +kernel
theorem J_MScriptRows_makeField_d311 : decode J_MScriptRows_makeField.2.1 311 = .ok (.iload 6, 2) := by decide +kernel
theorem J_MScriptRows_makeField_d313 : decode J_MScriptRows_makeField.2.1 313 = .ok (.iconst 2, 1) := by decide +kernel
theorem J_MScriptRows_makeField_d314 : decode J_MScriptRows_makeField.2.1 314 = .ok (.idiv, 1) := by decide +kernel
theorem J_MScriptRows_makeField_d315 : decode J_MScriptRows_makeField.2.1 315 = .ok (.invokevirtual 161, 3) := by decide +kernel
theorem J_MScriptRows_makeField_d318 : decode J_MScriptRows_makeField.2.1 318 = .ok (.aload_n 0, 1) := by decide +kernel
theorem J_MScriptRows_makeField_d319 : decode J_MScriptRows_makeField.2.1 319 = .ok (.iload 4, 2) := by decide +kernel
theorem J_MScriptRows_makeField_d321 : decode J_MScriptRows_makeField.2.1 321 = .ok (.iconst 0, 1) := by decide +kernel
theorem J_MScriptRows_makeField_d322 : decode J_MScriptRows_makeField.2.1 322 = .ok (.iconst 0, 1) := by decide +kernel
theorem J_MScriptRows_makeField_d323 : decode J_MScriptRows_makeField.2.1 323 = .ok (.invokevirtual 165, 3) := by decide +kernel
theorem J_MScriptRows_makeField_d326 : decode J_MScriptRows_makeField.2.1 326 = .ok (.goto 105, 3) := by decide +kernel
theorem J_MScriptRows_makeField_d329 : decode J_MScriptRows_makeField.2.1 329 = .ok (.aload_n 0, 1) := by decide +kernel
theorem J_MScriptRows_makeField_d330 : decode J_MScriptRows_makeField.2.1 330 = .ok (.iload_n 1, 1) := by decide +kernel
theorem J_MScriptRows_makeField_d331 : decode J_MScriptRows_makeField.2.1 331 = .ok (.invokevirtual 169, 3) := by decide +kernel
theorem J_MScriptRows_makeField_d334 : decode J_MScriptRows_makeField.2.1 334 = .ok (.goto 97, 3) := by decide +kernel
theorem J_MScriptRows_makeField_d337 : decode J_MScriptRows_makeField.2.1 337 = .ok (.aload_n 0, 1) := by decide +kernel
theorem J_MScriptRows_makeField_d338 : decode J_MScriptRows_makeField.2.1 338 = .ok (.iload_n 1, 1) := by decide +kernel
theorem J_MScriptRows_makeField_d339 : decode J_MScriptRows_makeField.2.1 339 = .ok (.aload_n 0, 1) := by decide +kernel
theorem J_MScriptRows_makeField_d340 : decode J_MScriptRows_makeField.2.1 340 = .ok (.getfield 44, 3) := by decide +kernel
theorem J_MScriptRows_makeField_d343 : decode J_MScriptRows_makeField.2.1 343 = .ok (.iload_n 3, 1) := by decide +kernel
theorem J_MScriptRows_makeField_d344 : decode J_MScriptRows_makeField.2.1 344 = .ok (.iaload, 1) := by decide +kernel
theorem J_MScriptRows_makeField_d345 : decode J_MScriptRows_makeField.2.1 345 = .ok (.iconst 0, 1) := by decide +kernel
theorem J_MScriptRows_makeField_d346 : decode J_MScriptRows_makeField.2.1 346 = .ok (.iconst 0, 1) := by decide +kernel
theorem J_MScriptRows_makeField_d347 : decode J_MScriptRows_makeField.2.1 347 = .ok (.iconst 0, 1) := by decide +kernel
theorem J_MScriptRows_makeField_d348 : decode J_MScriptRows_makeField.2.1 348 = .ok (.iconst 0, 1) := by decide +kernel
theorem J_MScriptRows_makeField_d349 : decode J_MScriptRows_makeField.2.1 349 = .ok (.iconst 0, 1) := by decide +kernel
theorem J_MScriptRows_makeField_d350 : decode J_MScriptRows_makeField.2.1 350 = .ok (.invokevirtual 161, 3) := by decide +kernel
theorem J_MScriptRows_makeField_d353 : decode J_MScriptRows_makeField.2.1 353 = .ok (.aload_n 0, 1) := by decide +kernel
theorem J_MScriptRows_makeField_d354 : decode J_MScriptRows_makeField.2.1 354 = .ok (.iload 4, 2) := by decide +kernel
theorem J_MScriptRows_makeField_d356 : decode J_MScriptRows_makeField.2.1 356 = .ok (.iload 5, 2) := by decide +kernel
theorem J_MScriptRows_makeField_d358 : decode J_MScriptRows_makeField.2.1 358 = .ok (.aload_n 0, 1) := by decide +kernel
theorem J_MScriptRows_makeField_d359 : decode J_MScriptRows_makeField.2.1 359 = .ok (.getfield 44, 3) := by decide +kernel
theorem J_MScriptRows_makeField_d362 : decode J_MScriptRows_makeField.2.1 362 = .ok (.iload_n 3, 1) := by decide +kernel
theorem J_MScriptRows_makeField_d363 : decode J_MScriptRows_makeField.2.1 363 = .ok (.iconst 3, 1) := by decide +kernel
theorem J_MScriptRows_makeField_d364 : decode J_MScriptRows_makeField.2.1 364 = .ok (.iadd, 1) := by decide +kernel
theorem J_MScriptRows_makeField_d365 : decode J_MScriptRows_makeField.2.1 365 = .ok (.iaload, 1) := by decide +kernel
theorem J_MScriptRows_makeField_d366 : decode J_MScriptRows_makeField.2.1 366 = .ok (.invokevirtual 165, 3) := by decide +kernel
theorem J_MScriptRows_makeField_d369 : decode J_MScriptRows_makeField.2.1 369 = .ok (.aload_n 0, 1) := by decide +kernel
theorem J_MScriptRows_makeField_d370 : decode J_MScriptRows_makeField.2.1 370 = .ok (.aload_n 0, 1) := by decide +kernel
theorem J_MScriptRows_makeField_d371 : decode J_MScriptRows_makeField.2.1 371 = .ok (.getfield 132, 3) := by decide +kernel
theorem J_MScriptRows_makeField_d374 : decode J_MScriptRows_makeField.2.1 374 = .ok (.ifCond .ne 49, 3) := by decide +kernel
theorem J_MScriptRows_makeField_d377 : decode J_MScriptRows_makeField.2.1 377 = .ok (.aload_n 0, 1) := by decide +kernel
theorem J_MScriptRows_makeField_d378 : decode J_MScriptRows_makeField.2.1 378 = .ok (.getfield 44, 3) := by decide +kernel
theorem J_MScriptRows_makeField_d381 : decode J_MScriptRows_makeField.2.1 381 = .ok (.iload_n 3, 1) := by decide +kernel
theorem J_MScriptRows_makeField_d382 : decode J_MScriptRows_makeField.2.1 382 = .ok (.iaload, 1) := by decide +kernel
theorem J_MScriptRows_makeField_d383 : decode J_MScriptRows_makeField.2.1 383 = .ok (.bipush 6, 2) := by decide +kernel
theorem J_MScriptRows_makeField_d385 : decode J_MScriptRows_makeField.2.1 385 = .ok (.if_icmp .ne 42, 3) := by decide +kernel
theorem J_MScriptRows_makeField_d388 : decode J_MScriptRows_makeField.2.1 388 = .ok (.aload_n 0, 1) := by decide +kernel
theorem J_MScriptRows_makeField_d389 : decode J_MScriptRows_makeField.2.1 389 = .ok (.getfield 44, 3) := by decide +kernel
theorem J_MScriptRows_makeField_d392 : decode J_MScriptRows_makeField.2.1 392 = .ok (.iload_n 3, 1) := by decide +kernel
theorem J_MScriptRows_makeField_d393 : decode J_MScriptRows_makeField.2.1 393 = .ok (.iconst 5, 1) := by decide +kernel
theorem J_MScriptRows_makeField_d394 : decode J_MScriptRows_makeField.2.1 394 = .ok (.iadd, 1) := by decide +kernel
theorem J_MScriptRows_makeField_d395 : decode J_MScriptRows_makeField.2.1 395 = .ok (.iaload, 1) := by decide +kernel
theorem J_MScriptRows_makeField_d396 : decode J_MScriptRows_makeField.2.1 396 = .ok (.iload 4, 2) := by decide +kernel
theorem J_MScriptRows_makeField_d398 : decode J_MScriptRows_makeField.2.1 398 = .ok (.iadd, 1) := by decide +kernel
theorem J_MScriptRows_makeField_d399 : decode J_MScriptRows_makeField.2.1 399 = .ok (.invokestatic 152, 3) := by decide +kernel
theorem J_MScriptRows_makeField_d402 : decode J_MScriptRows_makeField.2.1 402 = .ok (.ifCond .ne 21, 3) := by decide +kernel
theorem J_MScriptRows_makeField_d405 : decode J_MScriptRows_makeField.2.1 405 = .ok (.aload_n 0, 1) := by decide +kernel
theorem J_MScriptRows_makeField_d406 : decode J_MScriptRows_makeField.2.1 406 = .ok (.getfield 44, 3) := by decide +kernel
theorem J_MScriptRows_makeField_d409 : decode J_MScriptRows_makeField.2.1 409 = .ok (.iload_n 3, 1) := by decide +kernel
theorem J_MScriptRows_makeField_d410 : decode J_MScriptRows_makeField.2.1 410 = .ok (.bipush 6, 2) := by decide +kernel
theorem J_MScriptRows_makeField_d412 : decode J_MScriptRows_makeField.2.1 412 = .ok (.iadd, 1) := by decide +kernel
theorem J_MScriptRows_makeField_d413 : decode J_MScriptRows_makeField.2.1 413 = .ok (.iaload, 1) := by decide +kernel
theorem J_MScriptRows_makeField_d414 : decode J_MScriptRows_makeField.2.1 414 = .ok (.iload 5, 2) := by decide +kernel
theorem J_MScriptRows_makeField_d416 : decode J_MScriptRows_makeField.2.1 416 = .ok (.iadd, 1) := by decide +kernel
theorem J_MScriptRows_makeField_d417 : decode J_MScriptRows_makeField.2.1 417 = .ok (.invokestatic 152, 3) := by decide +kernel
theorem J_MScriptRows_makeField_d420 : decode J_MScriptRows_makeField.2.1 420 = .ok (.ifCond .eq 7, 3) := by decide +kernel
theorem J_MScriptRows_makeField_d423 : decode J_MScriptRows_makeField.2.1 423 = .ok (.iconst 1, 1) := by decide +kernel
theorem J_MScriptRows_makeField_d424 : decode J_MScriptRows_makeField.2.1 424 = .ok (.goto 4, 3) := by decide +kernel
theorem J_MScriptRows_makeField_d427 : decode J_MScriptRows_makeField.2.1 427 = .ok (.iconst 0, 1) := by decide +kernel
theorem J_MScriptRows_makeField_d428 : decode J_MScriptRows_makeField.2.1 428 = .ok (.putfield 132, 3) := by decide +kernel
theorem J_MScriptRows_makeField_d431 : decode J_MScriptRows_makeField.2.1 431 = .ok (.return_, 1) := by decide +kernel
theorem f_MScriptRows_makeField_ok {L : Nat} {xs : Nat → Int32} {dep : Nat} {w : Bool} {p0 : Int32} {p1 : Int32} {M : im_M} {Q : im_M → Prop} (hM : lw_S w M) (h : ed (f_MScriptRows_makeField p0 p1 M) Q) : ia (tb_G L xs) (dep + 5) J_MScriptRows_makeField (rwV w Q) (0, lv_args 0 [.ref 71, .int p0, .int p1], [], M) := by
  have hS : im_St (tb_G L xs) (dep + 5) J_MScriptRows_makeField (ia (tb_G L xs) (dep + 5) J_MScriptRows_makeField (rwV w Q)) := ia_St
  unfold f_MScriptRows_makeField at h
  have l0 : im_lk (lv_args 0 [.ref 71, .int p0, .int p1]) 0 = some (.ref 71) := rfl
  have l1 : im_lk (lv_args 0 [.ref 71, .int p0, .int p1]) 1 = some (.int p0) := rfl
  have l2 : im_lk (lv_args 0 [.ref 71, .int p0, .int p1]) 2 = some (.int p1) := rfl
  refine iq_bipush hS 2 J_MScriptRows_makeField_d0 (v := 16) (by decide +kernel) rfl ?_
  refine iq_iload_n hS 3 J_MScriptRows_makeField_d2 l1 rfl ?_
  refine iq_imul hS 4 J_MScriptRows_makeField_d3 rfl ?_
  refine iq_istore_n hS 5 J_MScriptRows_makeField_d4 (by decide) rfl ?_
  refine iq_aload_n hS 6 J_MScriptRows_makeField_d5 (lk_1r l0 (by decide)) rfl ?_
  refine iq_getR hS 9 J_MScriptRows_makeField_d6 lf_15_44 (Or.inr ⟨_, rfl⟩) (ka_71 hM) (ra_71_28 hM) rfl ?_
  refine iq_iload_n hS 10 J_MScriptRows_makeField_d9 lk_1s rfl ?_
  refine iq_iconst hS 11 J_MScriptRows_makeField_d10 (v := 1) (by decide +kernel) rfl ?_
  refine iq_iadd hS 12 J_MScriptRows_makeField_d11 rfl ?_
  obtain ⟨g12, h⟩ := ed_gd h
  refine iq_iaload hS 13 J_MScriptRows_makeField_d12 ⟨(ka_82 hM).1, (ka_82 hM).2, g12.1, ix_lt (kl_82 hM) g12.2⟩ rfl ?_
  refine iq_istore hS 15 J_MScriptRows_makeField_d13 (by decide) rfl ?_
  refine iq_aload_n hS 16 J_MScriptRows_makeField_d15 (lk_1r (lk_1r l0 (by decide)) (by decide)) rfl ?_
  refine iq_getR hS 19 J_MScriptRows_makeField_d16 lf_15_44 (Or.inr ⟨_, rfl⟩) (ka_71 hM) (ra_71_28 hM) rfl ?_
  refine iq_iload_n hS 20 J_MScriptRows_makeField_d19 (lk_1i lk_1s (by decide)) rfl ?_
  refine iq_iconst hS 21 J_MScriptRows_makeField_d20 (v := 2) (by decide +kernel) rfl ?_
  refine iq_iadd hS 22 J_MScriptRows_makeField_d21 rfl ?_
  obtain ⟨g22, h⟩ := ed_gd h
  refine iq_iaload hS 23 J_MScriptRows_makeField_d22 ⟨(ka_82 hM).1, (ka_82 hM).2, g22.1, ix_lt (kl_82 hM) g22.2⟩ rfl ?_
  refine iq_istore hS 25 J_MScriptRows_makeField_d23 (by decide) rfl ?_
  refine iq_aload_n hS 26 J_MScriptRows_makeField_d25 (lk_1r (lk_1r (lk_1r l0 (by decide)) (by decide)) (by decide)) rfl ?_
  refine iq_getR hS 29 J_MScriptRows_makeField_d26 lf_15_44 (Or.inr ⟨_, rfl⟩) (ka_71 hM) (ra_71_28 hM) rfl ?_
  refine iq_iload_n hS 30 J_MScriptRows_makeField_d29 (lk_1i (lk_1i lk_1s (by decide)) (by decide)) rfl ?_
  refine iq_bipush hS 32 J_MScriptRows_makeField_d30 (v := 10) (by decide +kernel) rfl ?_
  refine iq_iadd hS 33 J_MScriptRows_makeField_d32 rfl ?_
  obtain ⟨g33, h⟩ := ed_gd h
  refine iq_iaload hS 34 J_MScriptRows_makeField_d33 ⟨(ka_82 hM).1, (ka_82 hM).2, g33.1, ix_lt (kl_82 hM) g33.2⟩ rfl ?_
  refine iq_istore hS 36 J_MScriptRows_makeField_d34 (by decide) rfl ?_
  refine iq_aload_n hS 37 J_MScriptRows_makeField_d36 (lk_1r (lk_1r (lk_1r (lk_1r l0 (by decide)) (by decide)) (by decide)) (by decide)) rfl ?_
  refine iq_iload_n hS 38 J_MScriptRows_makeField_d37 (lk_1i (lk_1i (lk_1i (lk_1i l1 (by decide)) (by decide)) (by decide)) (by decide)) rfl ?_
  refine iq_iload_n hS 39 J_MScriptRows_makeField_d38 (lk_1i (lk_1i (lk_1i (lk_1i l2 (by decide)) (by decide)) (by decide)) (by decide)) rfl ?_
  obtain ⟨Q1, hQ1, h⟩ := bd1_ed h
  refine iq_cwV hS 42 J_MScriptRows_makeField_d39 rfl (pr_inst (vs := [_, _]) lc_15_158 lT_301 rfl rfl (by decide) (by decide) rfl (Nat.le_of_ble_eq_true rfl) (Nat.le_of_ble_eq_true rfl) (fun _ => Or.inl (pr_b (ka_71 hM) (by decide) rfl))) (f_MScriptRows_takeCopy_ok (dep := dep + 3) hM h) rfl ?_
  intro M1 hM1 h
  replace h := hQ1 _ h
  refine iq_aload_n hS 43 J_MScriptRows_makeField_d42 (lk_1r (lk_1r (lk_1r (lk_1r l0 (by decide)) (by decide)) (by decide)) (by decide)) rfl ?_
  refine iq_getR hS 46 J_MScriptRows_makeField_d43 lf_15_44 (Or.inr ⟨_, rfl⟩) (ka_71 hM1) (ra_71_28 hM1) rfl ?_
  refine iq_iload_n hS 47 J_MScriptRows_makeField_d46 (lk_1i (lk_1i (lk_1i lk_1s (by decide)) (by decide)) (by decide)) rfl ?_
  obtain ⟨g47, h⟩ := ed_gd h
  refine iq_iaload hS 48 J_MScriptRows_makeField_d47 ⟨(ka_82 hM1).1, (ka_82 hM1).2, g47.1, ix_lt (kl_82 hM1) g47.2⟩ rfl ?_
  by_cases q48_0 : (im_i M1 82 (Int32.toNatClampNeg ((16 : Int32) * p0))) = 0
  · replace h := ed_pos q48_0 h
    refine iq_tsw hS J_MScriptRows_makeField_d48 (t := 100) (sw_v q48_0 (by decide +kernel)) ?_
    refine iq_aload_n hS 101 J_MScriptRows_makeField_d100 (lk_1r (lk_1r (lk_1r (lk_1r l0 (by decide)) (by decide)) (by decide)) (by decide)) rfl ?_
    refine iq_iload_n hS 102 J_MScriptRows_makeField_d101 (lk_1i (lk_1i (lk_1i (lk_1i l1 (by decide)) (by decide)) (by decide)) (by decide)) rfl ?_
    refine iq_iconst hS 103 J_MScriptRows_makeField_d102 (v := 0) (by decide +kernel) rfl ?_
    refine iq_aload_n hS 104 J_MScriptRows_makeField_d103 (lk_1r (lk_1r (lk_1r (lk_1r l0 (by decide)) (by decide)) (by decide)) (by decide)) rfl ?_
    refine iq_getR hS 107 J_MScriptRows_makeField_d104 lf_15_44 (Or.inr ⟨_, rfl⟩) (ka_71 hM1) (ra_71_28 hM1) rfl ?_
    refine iq_iload_n hS 108 J_MScriptRows_makeField_d107 (lk_1i (lk_1i (lk_1i lk_1s (by decide)) (by decide)) (by decide)) rfl ?_
    refine iq_iconst hS 109 J_MScriptRows_makeField_d108 (v := 4) (by decide +kernel) rfl ?_
    refine iq_iadd hS 110 J_MScriptRows_makeField_d109 rfl ?_
    obtain ⟨g110, h⟩ := ed_gd h
    refine iq_iaload hS 111 J_MScriptRows_makeField_d110 ⟨(ka_82 hM1).1, (ka_82 hM1).2, g110.1, ix_lt (kl_82 hM1) g110.2⟩ rfl ?_
    refine iq_iconst hS 112 J_MScriptRows_makeField_d111 (v := 0) (by decide +kernel) rfl ?_
    refine iq_iconst hS 113 J_MScriptRows_makeField_d112 (v := 0) (by decide +kernel) rfl ?_
    refine iq_iconst hS 114 J_MScriptRows_makeField_d113 (v := 0) (by decide +kernel) rfl ?_
    refine iq_iload hS 116 J_MScriptRows_makeField_d114 lk_1s rfl ?_
    obtain ⟨Q2, hQ2, h⟩ := bd1_ed h
    refine iq_cwV hS 119 J_MScriptRows_makeField_d116 rfl (pr_inst (vs := [_, _, _, _, _, _, _]) lc_15_161 lT_302 rfl rfl (by decide) (by decide) rfl (Nat.le_of_ble_eq_true rfl) (Nat.le_of_ble_eq_true rfl) (fun _ => Or.inl (pr_b (ka_71 hM1) (by decide) rfl))) (f_MScriptRows_give_ok (dep := dep + 2) hM1 h) rfl ?_
    intro M2 hM2 h
    replace h := hQ2 _ h
    refine iq_aload_n hS 120 J_MScriptRows_makeField_d119 (lk_1r (lk_1r (lk_1r (lk_1r l0 (by decide)) (by decide)) (by decide)) (by decide)) rfl ?_
    refine iq_iload hS 122 J_MScriptRows_makeField_d120 (lk_1i (lk_1i lk_1s (by decide)) (by decide)) rfl ?_
    refine iq_iload hS 124 J_MScriptRows_makeField_d122 (lk_1i lk_1s (by decide)) rfl ?_
    refine iq_aload_n hS 125 J_MScriptRows_makeField_d124 (lk_1r (lk_1r (lk_1r (lk_1r l0 (by decide)) (by decide)) (by decide)) (by decide)) rfl ?_
    refine iq_getR hS 128 J_MScriptRows_makeField_d125 lf_15_44 (Or.inr ⟨_, rfl⟩) (ka_71 hM2) (ra_71_28 hM2) rfl ?_
    refine iq_iload_n hS 129 J_MScriptRows_makeField_d128 (lk_1i (lk_1i (lk_1i lk_1s (by decide)) (by decide)) (by decide)) rfl ?_
    refine iq_iconst hS 130 J_MScriptRows_makeField_d129 (v := 3) (by decide +kernel) rfl ?_
    refine iq_iadd hS 131 J_MScriptRows_makeField_d130 rfl ?_
    obtain ⟨g131, h⟩ := ed_gd h
    refine iq_iaload hS 132 J_MScriptRows_makeField_d131 ⟨(ka_82 hM2).1, (ka_82 hM2).2, g131.1, ix_lt (kl_82 hM2) g131.2⟩ rfl ?_
    obtain ⟨Q3, hQ3, h⟩ := bd1_ed h
    refine iq_cwV hS 135 J_MScriptRows_makeField_d132 rfl (pr_inst (vs := [_, _, _]) lc_15_165 lT_306 rfl rfl (by decide) (by decide) rfl (Nat.le_of_ble_eq_true rfl) (Nat.le_of_ble_eq_true rfl) (fun _ => Or.inl (pr_b (ka_71 hM2) (by decide) rfl))) (f_MScriptRows_have_ok (dep := dep + 4) hM2 h) rfl ?_
    intro M3 hM3 h
    replace h := hQ3 _ h
    refine iq_goto hS J_MScriptRows_makeField_d135 (t := 431) rfl ?_
    exact iq_ret J_MScriptRows_makeField_d431 rfl ⟨rfl, hM3, ed_some h⟩
  replace h := ed_neg q48_0 h
  by_cases q48_1 : (im_i M1 82 (Int32.toNatClampNeg ((16 : Int32) * p0))) = 1
  · replace h := ed_pos q48_1 h
    refine iq_tsw hS J_MScriptRows_makeField_d48 (t := 138) (sw_v q48_1 (by decide +kernel)) ?_
    refine iq_aload_n hS 139 J_MScriptRows_makeField_d138 (lk_1r (lk_1r (lk_1r (lk_1r l0 (by decide)) (by decide)) (by decide)) (by decide)) rfl ?_
    refine iq_iload_n hS 140 J_MScriptRows_makeField_d139 (lk_1i (lk_1i (lk_1i (lk_1i l1 (by decide)) (by decide)) (by decide)) (by decide)) rfl ?_
    refine iq_iconst hS 141 J_MScriptRows_makeField_d140 (v := 1) (by decide +kernel) rfl ?_
    refine iq_aload_n hS 142 J_MScriptRows_makeField_d141 (lk_1r (lk_1r (lk_1r (lk_1r l0 (by decide)) (by decide)) (by decide)) (by decide)) rfl ?_
    refine iq_getR hS 145 J_MScriptRows_makeField_d142 lf_15_44 (Or.inr ⟨_, rfl⟩) (ka_71 hM1) (ra_71_28 hM1) rfl ?_
    refine iq_iload_n hS 146 J_MScriptRows_makeField_d145 (lk_1i (lk_1i (lk_1i lk_1s (by decide)) (by decide)) (by decide)) rfl ?_
    refine iq_iconst hS 147 J_MScriptRows_makeField_d146 (v := 3) (by decide +kernel) rfl ?_
    refine iq_iadd hS 148 J_MScriptRows_makeField_d147 rfl ?_
    obtain ⟨g148, h⟩ := ed_gd h
    refine iq_iaload hS 149 J_MScriptRows_makeField_d148 ⟨(ka_82 hM1).1, (ka_82 hM1).2, g148.1, ix_lt (kl_82 hM1) g148.2⟩ rfl ?_
    refine iq_iconst hS 150 J_MScriptRows_makeField_d149 (v := 0) (by decide +kernel) rfl ?_
    refine iq_iconst hS 151 J_MScriptRows_makeField_d150 (v := 0) (by decide +kernel) rfl ?_
    refine iq_iconst hS 152 J_MScriptRows_makeField_d151 (v := 0) (by decide +kernel) rfl ?_
    refine iq_iload hS 154 J_MScriptRows_makeField_d152 lk_1s rfl ?_
    obtain ⟨Q4, hQ4, h⟩ := bd1_ed h
    refine iq_cwV hS 157 J_MScriptRows_makeField_d154 rfl (pr_inst (vs := [_, _, _, _, _, _, _]) lc_15_161 lT_302 rfl rfl (by decide) (by decide) rfl (Nat.le_of_ble_eq_true rfl) (Nat.le_of_ble_eq_true rfl) (fun _ => Or.inl (pr_b (ka_71 hM1) (by decide) rfl))) (f_MScriptRows_give_ok (dep := dep + 2) hM1 h) rfl ?_
    intro M4 hM4 h
    replace h := hQ4 _ h
    refine iq_aload_n hS 158 J_MScriptRows_makeField_d157 (lk_1r (lk_1r (lk_1r (lk_1r l0 (by decide)) (by decide)) (by decide)) (by decide)) rfl ?_
    refine iq_iload hS 160 J_MScriptRows_makeField_d158 (lk_1i (lk_1i lk_1s (by decide)) (by decide)) rfl ?_
    refine iq_iload hS 162 J_MScriptRows_makeField_d160 (lk_1i lk_1s (by decide)) rfl ?_
    refine iq_iconst hS 163 J_MScriptRows_makeField_d162 (v := 0) (by decide +kernel) rfl ?_
    obtain ⟨Q5, hQ5, h⟩ := bd1_ed h
    refine iq_cwV hS 166 J_MScriptRows_makeField_d163 rfl (pr_inst (vs := [_, _, _]) lc_15_165 lT_306 rfl rfl (by decide) (by decide) rfl (Nat.le_of_ble_eq_true rfl) (Nat.le_of_ble_eq_true rfl) (fun _ => Or.inl (pr_b (ka_71 hM4) (by decide) rfl))) (f_MScriptRows_have_ok (dep := dep + 4) hM4 h) rfl ?_
    intro M5 hM5 h
    replace h := hQ5 _ h
    refine iq_aload_n hS 167 J_MScriptRows_makeField_d166 (lk_1r (lk_1r (lk_1r (lk_1r l0 (by decide)) (by decide)) (by decide)) (by decide)) rfl ?_
    refine iq_getR hS 170 J_MScriptRows_makeField_d167 lf_15_44 (Or.inr ⟨_, rfl⟩) (ka_71 hM5) (ra_71_28 hM5) rfl ?_
    refine iq_iload_n hS 171 J_MScriptRows_makeField_d170 (lk_1i (lk_1i (lk_1i lk_1s (by decide)) (by decide)) (by decide)) rfl ?_
    refine iq_iconst hS 172 J_MScriptRows_makeField_d171 (v := 4) (by decide +kernel) rfl ?_
    refine iq_iadd hS 173 J_MScriptRows_makeField_d172 rfl ?_
    obtain ⟨g173, h⟩ := ed_gd h
    refine iq_iaload hS 174 J_MScriptRows_makeField_d173 ⟨(ka_82 hM5).1, (ka_82 hM5).2, g173.1, ix_lt (kl_82 hM5) g173.2⟩ rfl ?_
    refine iq_iconst hS 175 J_MScriptRows_makeField_d174 (v := 1) (by decide +kernel) rfl ?_
    refine iq_icmp_ne hS 178 J_MScriptRows_makeField_d175 (t := 431) rfl (fun q175 => ?_) rfl (fun q175 => ?_)
    · replace h := ed_pos q175 h
      exact iq_ret J_MScriptRows_makeField_d431 rfl ⟨rfl, hM5, ed_some h⟩
    · replace h := ed_neg q175 h
      refine iq_aload_n hS 179 J_MScriptRows_makeField_d178 (lk_1r (lk_1r (lk_1r (lk_1r l0 (by decide)) (by decide)) (by decide)) (by decide)) rfl ?_
      refine iq_iload_n hS 180 J_MScriptRows_makeField_d179 (lk_1i (lk_1i (lk_1i (lk_1i l1 (by decide)) (by decide)) (by decide)) (by decide)) rfl ?_
      refine iq_iconst hS 181 J_MScriptRows_makeField_d180 (v := 0) (by decide +kernel) rfl ?_
      refine iq_aload_n hS 182 J_MScriptRows_makeField_d181 (lk_1r (lk_1r (lk_1r (lk_1r l0 (by decide)) (by decide)) (by decide)) (by decide)) rfl ?_
      refine iq_getR hS 185 J_MScriptRows_makeField_d182 lf_15_44 (Or.inr ⟨_, rfl⟩) (ka_71 hM5) (ra_71_28 hM5) rfl ?_
      refine iq_iload_n hS 186 J_MScriptRows_makeField_d185 (lk_1i (lk_1i (lk_1i lk_1s (by decide)) (by decide)) (by decide)) rfl ?_
      refine iq_iconst hS 187 J_MScriptRows_makeField_d186 (v := 3) (by decide +kernel) rfl ?_
      refine iq_iadd hS 188 J_MScriptRows_makeField_d187 rfl ?_
      obtain ⟨g188, h⟩ := ed_gd h
      refine iq_iaload hS 189 J_MScriptRows_makeField_d188 ⟨(ka_82 hM5).1, (ka_82 hM5).2, g188.1, ix_lt (kl_82 hM5) g188.2⟩ rfl ?_
      refine iq_iconst hS 190 J_MScriptRows_makeField_d189 (v := 0) (by decide +kernel) rfl ?_
      refine iq_iload hS 192 J_MScriptRows_makeField_d190 (lk_1i lk_1s (by decide)) rfl ?_
      refine iq_iconst hS 193 J_MScriptRows_makeField_d192 (v := 3) (by decide +kernel) rfl ?_
      refine iq_iadd hS 194 J_MScriptRows_makeField_d193 rfl ?_
      refine iq_iconst hS 195 J_MScriptRows_makeField_d194 (v := 0) (by decide +kernel) rfl ?_
      refine iq_iload hS 197 J_MScriptRows_makeField_d195 lk_1s rfl ?_
      obtain ⟨Q6, hQ6, h⟩ := bd1_ed h
      refine iq_cwV hS 200 J_MScriptRows_makeField_d197 rfl (pr_inst (vs := [_, _, _, _, _, _, _]) lc_15_161 lT_302 rfl rfl (by decide) (by decide) rfl (Nat.le_of_ble_eq_true rfl) (Nat.le_of_ble_eq_true rfl) (fun _ => Or.inl (pr_b (ka_71 hM5) (by decide) rfl))) (f_MScriptRows_give_ok (dep := dep + 2) hM5 h) rfl ?_
      intro M6 hM6 h
      replace h := hQ6 _ h
      refine iq_aload_n hS 201 J_MScriptRows_makeField_d200 (lk_1r (lk_1r (lk_1r (lk_1r l0 (by decide)) (by decide)) (by decide)) (by decide)) rfl ?_
      refine iq_aload_n hS 202 J_MScriptRows_makeField_d201 (lk_1r (lk_1r (lk_1r (lk_1r l0 (by decide)) (by decide)) (by decide)) (by decide)) rfl ?_
      refine iq_getR hS 205 J_MScriptRows_makeField_d202 lf_15_44 (Or.inr ⟨_, rfl⟩) (ka_71 hM6) (ra_71_28 hM6) rfl ?_
      refine iq_iload_n hS 206 J_MScriptRows_makeField_d205 (lk_1i (lk_1i (lk_1i lk_1s (by decide)) (by decide)) (by decide)) rfl ?_
      refine iq_bipush hS 208 J_MScriptRows_makeField_d206 (v := 11) (by decide +kernel) rfl ?_
      refine iq_iadd hS 209 J_MScriptRows_makeField_d208 rfl ?_
      obtain ⟨g209, h⟩ := ed_gd h
      refine iq_iaload hS 210 J_MScriptRows_makeField_d209 ⟨(ka_82 hM6).1, (ka_82 hM6).2, g209.1, ix_lt (kl_82 hM6) g209.2⟩ rfl ?_
      refine iq_aload_n hS 211 J_MScriptRows_makeField_d210 (lk_1r (lk_1r (lk_1r (lk_1r l0 (by decide)) (by decide)) (by decide)) (by decide)) rfl ?_
      refine iq_getR hS 214 J_MScriptRows_makeField_d211 lf_15_44 (Or.inr ⟨_, rfl⟩) (ka_71 hM6) (ra_71_28 hM6) rfl ?_
      refine iq_iload_n hS 215 J_MScriptRows_makeField_d214 (lk_1i (lk_1i (lk_1i lk_1s (by decide)) (by decide)) (by decide)) rfl ?_
      refine iq_bipush hS 217 J_MScriptRows_makeField_d215 (v := 12) (by decide +kernel) rfl ?_
      refine iq_iadd hS 218 J_MScriptRows_makeField_d217 rfl ?_
      obtain ⟨g218, h⟩ := ed_gd h
      refine iq_iaload hS 219 J_MScriptRows_makeField_d218 ⟨(ka_82 hM6).1, (ka_82 hM6).2, g218.1, ix_lt (kl_82 hM6) g218.2⟩ rfl ?_
      refine iq_aload_n hS 220 J_MScriptRows_makeField_d219 (lk_1r (lk_1r (lk_1r (lk_1r l0 (by decide)) (by decide)) (by decide)) (by decide)) rfl ?_
      refine iq_getR hS 223 J_MScriptRows_makeField_d220 lf_15_44 (Or.inr ⟨_, rfl⟩) (ka_71 hM6) (ra_71_28 hM6) rfl ?_
      refine iq_iload_n hS 224 J_MScriptRows_makeField_d223 (lk_1i (lk_1i (lk_1i lk_1s (by decide)) (by decide)) (by decide)) rfl ?_
      refine iq_bipush hS 226 J_MScriptRows_makeField_d224 (v := 13) (by decide +kernel) rfl ?_
      refine iq_iadd hS 227 J_MScriptRows_makeField_d226 rfl ?_
      obtain ⟨g227, h⟩ := ed_gd h
      refine iq_iaload hS 228 J_MScriptRows_makeField_d227 ⟨(ka_82 hM6).1, (ka_82 hM6).2, g227.1, ix_lt (kl_82 hM6) g227.2⟩ rfl ?_
      obtain ⟨Q7, hQ7, h⟩ := bd1_ed h
      refine iq_cwV hS 231 J_MScriptRows_makeField_d228 rfl (pr_inst (vs := [_, _, _]) lc_15_165 lT_306 rfl rfl (by decide) (by decide) rfl (Nat.le_of_ble_eq_true rfl) (Nat.le_of_ble_eq_true rfl) (fun _ => Or.inl (pr_b (ka_71 hM6) (by decide) rfl))) (f_MScriptRows_have_ok (dep := dep + 4) hM6 h) rfl ?_
      intro M7 hM7 h
      replace h := hQ7 _ h
      refine iq_goto hS J_MScriptRows_makeField_d231 (t := 431) rfl ?_
      exact iq_ret J_MScriptRows_makeField_d431 rfl ⟨rfl, hM7, ed_some h⟩
  replace h := ed_neg q48_1 h
  by_cases q48_2 : (im_i M1 82 (Int32.toNatClampNeg ((16 : Int32) * p0))) = 2
  · replace h := ed_pos q48_2 h
    refine iq_tsw hS J_MScriptRows_makeField_d48 (t := 234) (sw_v q48_2 (by decide +kernel)) ?_
    refine iq_aload_n hS 235 J_MScriptRows_makeField_d234 (lk_1r (lk_1r (lk_1r (lk_1r l0 (by decide)) (by decide)) (by decide)) (by decide)) rfl ?_
    refine iq_iload_n hS 236 J_MScriptRows_makeField_d235 (lk_1i (lk_1i (lk_1i (lk_1i l1 (by decide)) (by decide)) (by decide)) (by decide)) rfl ?_
    refine iq_iconst hS 237 J_MScriptRows_makeField_d236 (v := 2) (by decide +kernel) rfl ?_
    refine iq_aload_n hS 238 J_MScriptRows_makeField_d237 (lk_1r (lk_1r (lk_1r (lk_1r l0 (by decide)) (by decide)) (by decide)) (by decide)) rfl ?_
    refine iq_getR hS 241 J_MScriptRows_makeField_d238 lf_15_44 (Or.inr ⟨_, rfl⟩) (ka_71 hM1) (ra_71_28 hM1) rfl ?_
    refine iq_iload_n hS 242 J_MScriptRows_makeField_d241 (lk_1i (lk_1i (lk_1i lk_1s (by decide)) (by decide)) (by decide)) rfl ?_
    refine iq_iconst hS 243 J_MScriptRows_makeField_d242 (v := 3) (by decide +kernel) rfl ?_
    refine iq_iadd hS 244 J_MScriptRows_makeField_d243 rfl ?_
    obtain ⟨g244, h⟩ := ed_gd h
    refine iq_iaload hS 245 J_MScriptRows_makeField_d244 ⟨(ka_82 hM1).1, (ka_82 hM1).2, g244.1, ix_lt (kl_82 hM1) g244.2⟩ rfl ?_
    refine iq_iconst hS 246 J_MScriptRows_makeField_d245 (v := 0) (by decide +kernel) rfl ?_
    refine iq_iconst hS 247 J_MScriptRows_makeField_d246 (v := 0) (by decide +kernel) rfl ?_
    refine iq_iconst hS 248 J_MScriptRows_makeField_d247 (v := 0) (by decide +kernel) rfl ?_
    refine iq_iload hS 250 J_MScriptRows_makeField_d248 lk_1s rfl ?_
    obtain ⟨Q8, hQ8, h⟩ := bd1_ed h
    refine iq_cwV hS 253 J_MScriptRows_makeField_d250 rfl (pr_inst (vs := [_, _, _, _, _, _, _]) lc_15_161 lT_302 rfl rfl (by decide) (by decide) rfl (Nat.le_of_ble_eq_true rfl) (Nat.le_of_ble_eq_true rfl) (fun _ => Or.inl (pr_b (ka_71 hM1) (by decide) rfl))) (f_MScriptRows_give_ok (dep := dep + 2) hM1 h) rfl ?_
    intro M8 hM8 h
    replace h := hQ8 _ h
    refine iq_aload_n hS 254 J_MScriptRows_makeField_d253 (lk_1r (lk_1r (lk_1r (lk_1r l0 (by decide)) (by decide)) (by decide)) (by decide)) rfl ?_
    refine iq_iload hS 256 J_MScriptRows_makeField_d254 (lk_1i (lk_1i lk_1s (by decide)) (by decide)) rfl ?_
    refine iq_iload hS 258 J_MScriptRows_makeField_d256 (lk_1i lk_1s (by decide)) rfl ?_
    refine iq_iconst hS 259 J_MScriptRows_makeField_d258 (v := 0) (by decide +kernel) rfl ?_
    obtain ⟨Q9, hQ9, h⟩ := bd1_ed h
    refine iq_cwV hS 262 J_MScriptRows_makeField_d259 rfl (pr_inst (vs := [_, _, _]) lc_15_165 lT_306 rfl rfl (by decide) (by decide) rfl (Nat.le_of_ble_eq_true rfl) (Nat.le_of_ble_eq_true rfl) (fun _ => Or.inl (pr_b (ka_71 hM8) (by decide) rfl))) (f_MScriptRows_have_ok (dep := dep + 4) hM8 h) rfl ?_
    intro M9 hM9 h
    replace h := hQ9 _ h
    refine iq_goto hS J_MScriptRows_makeField_d262 (t := 431) rfl ?_
    exact iq_ret J_MScriptRows_makeField_d431 rfl ⟨rfl, hM9, ed_some h⟩
  replace h := ed_neg q48_2 h
  by_cases q48_3 : (im_i M1 82 (Int32.toNatClampNeg ((16 : Int32) * p0))) = 3
  · replace h := ed_pos q48_3 h
    refine iq_tsw hS J_MScriptRows_makeField_d48 (t := 265) (sw_v q48_3 (by decide +kernel)) ?_
    refine iq_aload_n hS 266 J_MScriptRows_makeField_d265 (lk_1r (lk_1r (lk_1r (lk_1r l0 (by decide)) (by decide)) (by decide)) (by decide)) rfl ?_
    refine iq_iload_n hS 267 J_MScriptRows_makeField_d266 (lk_1i (lk_1i (lk_1i (lk_1i l1 (by decide)) (by decide)) (by decide)) (by decide)) rfl ?_
    refine iq_iconst hS 268 J_MScriptRows_makeField_d267 (v := 3) (by decide +kernel) rfl ?_
    refine iq_aload_n hS 269 J_MScriptRows_makeField_d268 (lk_1r (lk_1r (lk_1r (lk_1r l0 (by decide)) (by decide)) (by decide)) (by decide)) rfl ?_
    refine iq_getR hS 272 J_MScriptRows_makeField_d269 lf_15_44 (Or.inr ⟨_, rfl⟩) (ka_71 hM1) (ra_71_28 hM1) rfl ?_
    refine iq_iload_n hS 273 J_MScriptRows_makeField_d272 (lk_1i (lk_1i (lk_1i lk_1s (by decide)) (by decide)) (by decide)) rfl ?_
    refine iq_iconst hS 274 J_MScriptRows_makeField_d273 (v := 4) (by decide +kernel) rfl ?_
    refine iq_iadd hS 275 J_MScriptRows_makeField_d274 rfl ?_
    obtain ⟨g275, h⟩ := ed_gd h
    refine iq_iaload hS 276 J_MScriptRows_makeField_d275 ⟨(ka_82 hM1).1, (ka_82 hM1).2, g275.1, ix_lt (kl_82 hM1) g275.2⟩ rfl ?_
    refine iq_iconst hS 277 J_MScriptRows_makeField_d276 (v := 0) (by decide +kernel) rfl ?_
    refine iq_iconst hS 278 J_MScriptRows_makeField_d277 (v := 0) (by decide +kernel) rfl ?_
    refine iq_iconst hS 279 J_MScriptRows_makeField_d278 (v := 0) (by decide +kernel) rfl ?_
    refine iq_iload hS 281 J_MScriptRows_makeField_d279 lk_1s rfl ?_
    obtain ⟨Q10, hQ10, h⟩ := bd1_ed h
    refine iq_cwV hS 284 J_MScriptRows_makeField_d281 rfl (pr_inst (vs := [_, _, _, _, _, _, _]) lc_15_161 lT_302 rfl rfl (by decide) (by decide) rfl (Nat.le_of_ble_eq_true rfl) (Nat.le_of_ble_eq_true rfl) (fun _ => Or.inl (pr_b (ka_71 hM1) (by decide) rfl))) (f_MScriptRows_give_ok (dep := dep + 2) hM1 h) rfl ?_
    intro M10 hM10 h
    replace h := hQ10 _ h
    refine iq_aload_n hS 285 J_MScriptRows_makeField_d284 (lk_1r (lk_1r (lk_1r (lk_1r l0 (by decide)) (by decide)) (by decide)) (by decide)) rfl ?_
    refine iq_iload hS 287 J_MScriptRows_makeField_d285 (lk_1i (lk_1i lk_1s (by decide)) (by decide)) rfl ?_
    refine iq_iload hS 289 J_MScriptRows_makeField_d287 (lk_1i lk_1s (by decide)) rfl ?_
    refine iq_aload_n hS 290 J_MScriptRows_makeField_d289 (lk_1r (lk_1r (lk_1r (lk_1r l0 (by decide)) (by decide)) (by decide)) (by decide)) rfl ?_
    refine iq_getR hS 293 J_MScriptRows_makeField_d290 lf_15_44 (Or.inr ⟨_, rfl⟩) (ka_71 hM10) (ra_71_28 hM10) rfl ?_
    refine iq_iload_n hS 294 J_MScriptRows_makeField_d293 (lk_1i (lk_1i (lk_1i lk_1s (by decide)) (by decide)) (by decide)) rfl ?_
    refine iq_iconst hS 295 J_MScriptRows_makeField_d294 (v := 3) (by decide +kernel) rfl ?_
    refine iq_iadd hS 296 J_MScriptRows_makeField_d295 rfl ?_
    obtain ⟨g296, h⟩ := ed_gd h
    refine iq_iaload hS 297 J_MScriptRows_makeField_d296 ⟨(ka_82 hM10).1, (ka_82 hM10).2, g296.1, ix_lt (kl_82 hM10) g296.2⟩ rfl ?_
    obtain ⟨Q11, hQ11, h⟩ := bd1_ed h
    refine iq_cwV hS 300 J_MScriptRows_makeField_d297 rfl (pr_inst (vs := [_, _, _]) lc_15_165 lT_306 rfl rfl (by decide) (by decide) rfl (Nat.le_of_ble_eq_true rfl) (Nat.le_of_ble_eq_true rfl) (fun _ => Or.inl (pr_b (ka_71 hM10) (by decide) rfl))) (f_MScriptRows_have_ok (dep := dep + 4) hM10 h) rfl ?_
    intro M11 hM11 h
    replace h := hQ11 _ h
    refine iq_goto hS J_MScriptRows_makeField_d300 (t := 431) rfl ?_
    exact iq_ret J_MScriptRows_makeField_d431 rfl ⟨rfl, hM11, ed_some h⟩
  replace h := ed_neg q48_3 h
  by_cases q48_7 : (im_i M1 82 (Int32.toNatClampNeg ((16 : Int32) * p0))) = 7
  · replace h := ed_pos q48_7 h
    refine iq_tsw hS J_MScriptRows_makeField_d48 (t := 303) (sw_v q48_7 (by decide +kernel)) ?_
    refine iq_aload_n hS 304 J_MScriptRows_makeField_d303 (lk_1r (lk_1r (lk_1r (lk_1r l0 (by decide)) (by decide)) (by decide)) (by decide)) rfl ?_
    refine iq_iload_n hS 305 J_MScriptRows_makeField_d304 (lk_1i (lk_1i (lk_1i (lk_1i l1 (by decide)) (by decide)) (by decide)) (by decide)) rfl ?_
    refine iq_bipush hS 307 J_MScriptRows_makeField_d305 (v := 7) (by decide +kernel) rfl ?_
    refine iq_iconst hS 308 J_MScriptRows_makeField_d307 (v := 0) (by decide +kernel) rfl ?_
    refine iq_iconst hS 309 J_MScriptRows_makeField_d308 (v := 0) (by decide +kernel) rfl ?_
    refine iq_iconst hS 310 J_MScriptRows_makeField_d309 (v := 0) (by decide +kernel) rfl ?_
    refine iq_iconst hS 311 J_MScriptRows_makeField_d310 (v := 0) (by decide +kernel) rfl ?_
    refine iq_iload hS 313 J_MScriptRows_makeField_d311 lk_1s rfl ?_
    refine iq_iconst hS 314 J_MScriptRows_makeField_d313 (v := 2) (by decide +kernel) rfl ?_
    refine iq_idiv hS 315 J_MScriptRows_makeField_d314 (by decide) rfl ?_
    obtain ⟨Q12, hQ12, h⟩ := bd1_ed h
    refine iq_cwV hS 318 J_MScriptRows_makeField_d315 rfl (pr_inst (vs := [_, _, _, _, _, _, _]) lc_15_161 lT_302 rfl rfl (by decide) (by decide) rfl (Nat.le_of_ble_eq_true rfl) (Nat.le_of_ble_eq_true rfl) (fun _ => Or.inl (pr_b (ka_71 hM1) (by decide) rfl))) (f_MScriptRows_give_ok (dep := dep + 2) hM1 h) rfl ?_
    intro M12 hM12 h
    replace h := hQ12 _ h
    refine iq_aload_n hS 319 J_MScriptRows_makeField_d318 (lk_1r (lk_1r (lk_1r (lk_1r l0 (by decide)) (by decide)) (by decide)) (by decide)) rfl ?_
    refine iq_iload hS 321 J_MScriptRows_makeField_d319 (lk_1i (lk_1i lk_1s (by decide)) (by decide)) rfl ?_
    refine iq_iconst hS 322 J_MScriptRows_makeField_d321 (v := 0) (by decide +kernel) rfl ?_
    refine iq_iconst hS 323 J_MScriptRows_makeField_d322 (v := 0) (by decide +kernel) rfl ?_
    obtain ⟨Q13, hQ13, h⟩ := bd1_ed h
    refine iq_cwV hS 326 J_MScriptRows_makeField_d323 rfl (pr_inst (vs := [_, _, _]) lc_15_165 lT_306 rfl rfl (by decide) (by decide) rfl (Nat.le_of_ble_eq_true rfl) (Nat.le_of_ble_eq_true rfl) (fun _ => Or.inl (pr_b (ka_71 hM12) (by decide) rfl))) (f_MScriptRows_have_ok (dep := dep + 4) hM12 h) rfl ?_
    intro M13 hM13 h
    replace h := hQ13 _ h
    refine iq_goto hS J_MScriptRows_makeField_d326 (t := 431) rfl ?_
    exact iq_ret J_MScriptRows_makeField_d431 rfl ⟨rfl, hM13, ed_some h⟩
  replace h := ed_neg q48_7 h
  by_cases q48_8 : (im_i M1 82 (Int32.toNatClampNeg ((16 : Int32) * p0))) = 8
  · replace h := ed_pos q48_8 h
    refine iq_tsw hS J_MScriptRows_makeField_d48 (t := 329) (sw_v q48_8 (by decide +kernel)) ?_
    refine iq_aload_n hS 330 J_MScriptRows_makeField_d329 (lk_1r (lk_1r (lk_1r (lk_1r l0 (by decide)) (by decide)) (by decide)) (by decide)) rfl ?_
    refine iq_iload_n hS 331 J_MScriptRows_makeField_d330 (lk_1i (lk_1i (lk_1i (lk_1i l1 (by decide)) (by decide)) (by decide)) (by decide)) rfl ?_
    obtain ⟨Q14, hQ14, h⟩ := bd1_ed h
    refine iq_cwV hS 334 J_MScriptRows_makeField_d331 rfl (pr_inst (vs := [_]) lc_15_169 lT_307 rfl rfl (by decide) (by decide) rfl (Nat.le_of_ble_eq_true rfl) (Nat.le_of_ble_eq_true rfl) (fun _ => Or.inl (pr_b (ka_71 hM1) (by decide) rfl))) (f_MScriptRows_makeLines_ok (dep := dep + 0) hM1 h) rfl ?_
    intro M14 hM14 h
    replace h := hQ14 _ h
    refine iq_goto hS J_MScriptRows_makeField_d334 (t := 431) rfl ?_
    exact iq_ret J_MScriptRows_makeField_d431 rfl ⟨rfl, hM14, ed_some h⟩
  replace h := ed_neg q48_8 h
  refine iq_tsw hS J_MScriptRows_makeField_d48 (t := 337) (sw_d [0, 1, 2, 3, 7, 8] (by decide) (by decide) (by decide +kernel) (sw_nc q48_0 (sw_nc q48_1 (sw_nc q48_2 (sw_nc q48_3 (sw_nc q48_7 (sw_nc q48_8 sw_nn))))))) ?_
  refine iq_aload_n hS 338 J_MScriptRows_makeField_d337 (lk_1r (lk_1r (lk_1r (lk_1r l0 (by decide)) (by decide)) (by decide)) (by decide)) rfl ?_
  refine iq_iload_n hS 339 J_MScriptRows_makeField_d338 (lk_1i (lk_1i (lk_1i (lk_1i l1 (by decide)) (by decide)) (by decide)) (by decide)) rfl ?_
  refine iq_aload_n hS 340 J_MScriptRows_makeField_d339 (lk_1r (lk_1r (lk_1r (lk_1r l0 (by decide)) (by decide)) (by decide)) (by decide)) rfl ?_
  refine iq_getR hS 343 J_MScriptRows_makeField_d340 lf_15_44 (Or.inr ⟨_, rfl⟩) (ka_71 hM1) (ra_71_28 hM1) rfl ?_
  refine iq_iload_n hS 344 J_MScriptRows_makeField_d343 (lk_1i (lk_1i (lk_1i lk_1s (by decide)) (by decide)) (by decide)) rfl ?_
  obtain ⟨g344, h⟩ := ed_gd h
  refine iq_iaload hS 345 J_MScriptRows_makeField_d344 ⟨(ka_82 hM1).1, (ka_82 hM1).2, g344.1, ix_lt (kl_82 hM1) g344.2⟩ rfl ?_
  refine iq_iconst hS 346 J_MScriptRows_makeField_d345 (v := 0) (by decide +kernel) rfl ?_
  refine iq_iconst hS 347 J_MScriptRows_makeField_d346 (v := 0) (by decide +kernel) rfl ?_
  refine iq_iconst hS 348 J_MScriptRows_makeField_d347 (v := 0) (by decide +kernel) rfl ?_
  refine iq_iconst hS 349 J_MScriptRows_makeField_d348 (v := 0) (by decide +kernel) rfl ?_
  refine iq_iconst hS 350 J_MScriptRows_makeField_d349 (v := 0) (by decide +kernel) rfl ?_
  obtain ⟨Q15, hQ15, h⟩ := bd1_ed h
  refine iq_cwV hS 353 J_MScriptRows_makeField_d350 rfl (pr_inst (vs := [_, _, _, _, _, _, _]) lc_15_161 lT_302 rfl rfl (by decide) (by decide) rfl (Nat.le_of_ble_eq_true rfl) (Nat.le_of_ble_eq_true rfl) (fun _ => Or.inl (pr_b (ka_71 hM1) (by decide) rfl))) (f_MScriptRows_give_ok (dep := dep + 2) hM1 h) rfl ?_
  intro M15 hM15 h
  replace h := hQ15 _ h
  refine iq_aload_n hS 354 J_MScriptRows_makeField_d353 (lk_1r (lk_1r (lk_1r (lk_1r l0 (by decide)) (by decide)) (by decide)) (by decide)) rfl ?_
  refine iq_iload hS 356 J_MScriptRows_makeField_d354 (lk_1i (lk_1i lk_1s (by decide)) (by decide)) rfl ?_
  refine iq_iload hS 358 J_MScriptRows_makeField_d356 (lk_1i lk_1s (by decide)) rfl ?_
  refine iq_aload_n hS 359 J_MScriptRows_makeField_d358 (lk_1r (lk_1r (lk_1r (lk_1r l0 (by decide)) (by decide)) (by decide)) (by decide)) rfl ?_
  refine iq_getR hS 362 J_MScriptRows_makeField_d359 lf_15_44 (Or.inr ⟨_, rfl⟩) (ka_71 hM15) (ra_71_28 hM15) rfl ?_
  refine iq_iload_n hS 363 J_MScriptRows_makeField_d362 (lk_1i (lk_1i (lk_1i lk_1s (by decide)) (by decide)) (by decide)) rfl ?_
  refine iq_iconst hS 364 J_MScriptRows_makeField_d363 (v := 3) (by decide +kernel) rfl ?_
  refine iq_iadd hS 365 J_MScriptRows_makeField_d364 rfl ?_
  obtain ⟨g365, h⟩ := ed_gd h
  refine iq_iaload hS 366 J_MScriptRows_makeField_d365 ⟨(ka_82 hM15).1, (ka_82 hM15).2, g365.1, ix_lt (kl_82 hM15) g365.2⟩ rfl ?_
  obtain ⟨Q16, hQ16, h⟩ := bd1_ed h
  refine iq_cwV hS 369 J_MScriptRows_makeField_d366 rfl (pr_inst (vs := [_, _, _]) lc_15_165 lT_306 rfl rfl (by decide) (by decide) rfl (Nat.le_of_ble_eq_true rfl) (Nat.le_of_ble_eq_true rfl) (fun _ => Or.inl (pr_b (ka_71 hM15) (by decide) rfl))) (f_MScriptRows_have_ok (dep := dep + 4) hM15 h) rfl ?_
  intro M16 hM16 h
  replace h := hQ16 _ h
  refine iq_aload_n hS 370 J_MScriptRows_makeField_d369 (lk_1r (lk_1r (lk_1r (lk_1r l0 (by decide)) (by decide)) (by decide)) (by decide)) rfl ?_
  refine iq_aload_n hS 371 J_MScriptRows_makeField_d370 (lk_1r (lk_1r (lk_1r (lk_1r l0 (by decide)) (by decide)) (by decide)) (by decide)) rfl ?_
  refine iq_getI hS 374 J_MScriptRows_makeField_d371 lf_15_132 (Or.inr rfl) (ka_71 hM16) rfl ?_
  obtain ⟨Q17, hQ17, h⟩ := bd1_ed h
  have J17 : ∀ (y22 : Int32) (L' : List (Nat × Value)), Q17 y22 → ia (tb_G L xs) (dep + 5) J_MScriptRows_makeField (rwV w Q) (428, L', [.int y22, .ref 71], M16) := by
    intro y22 L'  h
    replace h := hQ17 _ h
    obtain ⟨g428, h⟩ := ed_gd h
    refine iq_putZ hS 431 J_MScriptRows_makeField_d428 lf_15_132 (Or.inl rfl) rfl (ka_71 hM16) g428 rfl ?_
    exact iq_ret J_MScriptRows_makeField_d431 rfl ⟨rfl, (lw_sI hM16), ed_some h⟩
  obtain ⟨k18, Q18, hQ18, hk18, h⟩ := jn0_ed h
  have J18 : ∀  (L' : List (Nat × Value)), Q18 () → ia (tb_G L xs) (dep + 5) J_MScriptRows_makeField (rwV w Q) (423, L', [.ref 71], M16) := by
    intro  L'  h
    replace h := hQ18  h
    refine iq_iconst hS 424 J_MScriptRows_makeField_d423 (v := 1) (by decide +kernel) rfl ?_
    refine iq_goto hS J_MScriptRows_makeField_d424 (t := 428) rfl ?_
    exact J17 _ _  (ed_some h)
  refine iq_if_ne hS 377 J_MScriptRows_makeField_d374 (t := 423) rfl (fun q374 => ?_) rfl (fun q374 => ?_)
  · replace h := ed_pos q374 h
    exact J18  _  (hk18  h)
  · replace h := ed_neg q374 h
    refine iq_aload_n hS 378 J_MScriptRows_makeField_d377 (lk_1r (lk_1r (lk_1r (lk_1r l0 (by decide)) (by decide)) (by decide)) (by decide)) rfl ?_
    refine iq_getR hS 381 J_MScriptRows_makeField_d378 lf_15_44 (Or.inr ⟨_, rfl⟩) (ka_71 hM16) (ra_71_28 hM16) rfl ?_
    refine iq_iload_n hS 382 J_MScriptRows_makeField_d381 (lk_1i (lk_1i (lk_1i lk_1s (by decide)) (by decide)) (by decide)) rfl ?_
    obtain ⟨g382, h⟩ := ed_gd h
    refine iq_iaload hS 383 J_MScriptRows_makeField_d382 ⟨(ka_82 hM16).1, (ka_82 hM16).2, g382.1, ix_lt (kl_82 hM16) g382.2⟩ rfl ?_
    refine iq_bipush hS 385 J_MScriptRows_makeField_d383 (v := 6) (by decide +kernel) rfl ?_
    obtain ⟨k19, Q19, hQ19, hk19, h⟩ := jn0_ed h
    have J19 : ∀  (L' : List (Nat × Value)), Q19 () → ia (tb_G L xs) (dep + 5) J_MScriptRows_makeField (rwV w Q) (427, L', [.ref 71], M16) := by
      intro  L'  h
      replace h := hQ19  h
      refine iq_iconst hS 428 J_MScriptRows_makeField_d427 (v := 0) (by decide +kernel) rfl ?_
      exact J17 _ _  (ed_some h)
    refine iq_icmp_ne hS 388 J_MScriptRows_makeField_d385 (t := 427) rfl (fun q385 => ?_) rfl (fun q385 => ?_)
    · replace h := ed_pos q385 h
      exact J19  _  (hk19  h)
    · replace h := ed_neg q385 h
      refine iq_aload_n hS 389 J_MScriptRows_makeField_d388 (lk_1r (lk_1r (lk_1r (lk_1r l0 (by decide)) (by decide)) (by decide)) (by decide)) rfl ?_
      refine iq_getR hS 392 J_MScriptRows_makeField_d389 lf_15_44 (Or.inr ⟨_, rfl⟩) (ka_71 hM16) (ra_71_28 hM16) rfl ?_
      refine iq_iload_n hS 393 J_MScriptRows_makeField_d392 (lk_1i (lk_1i (lk_1i lk_1s (by decide)) (by decide)) (by decide)) rfl ?_
      refine iq_iconst hS 394 J_MScriptRows_makeField_d393 (v := 5) (by decide +kernel) rfl ?_
      refine iq_iadd hS 395 J_MScriptRows_makeField_d394 rfl ?_
      obtain ⟨g395, h⟩ := ed_gd h
      refine iq_iaload hS 396 J_MScriptRows_makeField_d395 ⟨(ka_82 hM16).1, (ka_82 hM16).2, g395.1, ix_lt (kl_82 hM16) g395.2⟩ rfl ?_
      refine iq_iload hS 398 J_MScriptRows_makeField_d396 (lk_1i (lk_1i lk_1s (by decide)) (by decide)) rfl ?_
      refine iq_iadd hS 399 J_MScriptRows_makeField_d398 rfl ?_
      obtain ⟨Q20, hQ20, h⟩ := bd1_ed h
      refine iq_cpI hS 402 J_MScriptRows_makeField_d399 rfl (pr_stat (vs := [_]) lc_15_152 lT_305 rfl rfl (by decide) rfl (Nat.le_of_ble_eq_true rfl) (Nat.le_of_ble_eq_true rfl)) (f_MScriptRows_isFar_ok (dep := dep + 4) hM16 h) rfl ?_
      intro x20 h
      replace h := hQ20 _ h
      refine iq_if_ne hS 405 J_MScriptRows_makeField_d402 (t := 423) rfl (fun q402 => ?_) rfl (fun q402 => ?_)
      · replace h := ed_pos q402 h
        exact J18  _  (hk18  h)
      · replace h := ed_neg q402 h
        refine iq_aload_n hS 406 J_MScriptRows_makeField_d405 (lk_1r (lk_1r (lk_1r (lk_1r l0 (by decide)) (by decide)) (by decide)) (by decide)) rfl ?_
        refine iq_getR hS 409 J_MScriptRows_makeField_d406 lf_15_44 (Or.inr ⟨_, rfl⟩) (ka_71 hM16) (ra_71_28 hM16) rfl ?_
        refine iq_iload_n hS 410 J_MScriptRows_makeField_d409 (lk_1i (lk_1i (lk_1i lk_1s (by decide)) (by decide)) (by decide)) rfl ?_
        refine iq_bipush hS 412 J_MScriptRows_makeField_d410 (v := 6) (by decide +kernel) rfl ?_
        refine iq_iadd hS 413 J_MScriptRows_makeField_d412 rfl ?_
        obtain ⟨g413, h⟩ := ed_gd h
        refine iq_iaload hS 414 J_MScriptRows_makeField_d413 ⟨(ka_82 hM16).1, (ka_82 hM16).2, g413.1, ix_lt (kl_82 hM16) g413.2⟩ rfl ?_
        refine iq_iload hS 416 J_MScriptRows_makeField_d414 (lk_1i lk_1s (by decide)) rfl ?_
        refine iq_iadd hS 417 J_MScriptRows_makeField_d416 rfl ?_
        obtain ⟨Q21, hQ21, h⟩ := bd1_ed h
        refine iq_cpI hS 420 J_MScriptRows_makeField_d417 rfl (pr_stat (vs := [_]) lc_15_152 lT_305 rfl rfl (by decide) rfl (Nat.le_of_ble_eq_true rfl) (Nat.le_of_ble_eq_true rfl)) (f_MScriptRows_isFar_ok (dep := dep + 4) hM16 h) rfl ?_
        intro x21 h
        replace h := hQ21 _ h
        refine iq_if_eq hS 423 J_MScriptRows_makeField_d420 (t := 427) rfl (fun q420 => ?_) rfl (fun q420 => ?_)
        · replace h := ed_pos q420 h
          exact J19  _  (hk19  h)
        · replace h := ed_neg q420 h
          exact J18  _  (hk18  h)
theorem f_MScriptRows_makeField_fr {p0 : Int32} {p1 : Int32} {M : im_M} {r : im_M} (h : f_MScriptRows_makeField p0 p1 M = some r) : fr 502913140959685736677769216 [(71, 26), (71, 32), (71, 37)] M r := by
  replace h : ed (f_MScriptRows_makeField p0 p1 M) (fun x => x = r) := ⟨r, h, rfl⟩
  unfold f_MScriptRows_makeField at h
  obtain ⟨g12, h⟩ := ed_gd h
  obtain ⟨g22, h⟩ := ed_gd h
  obtain ⟨g33, h⟩ := ed_gd h
  obtain ⟨Q1, hQ1, h⟩ := bd1_ed h
  obtain ⟨M1, e1, h⟩ := h
  replace h := hQ1 _ h
  obtain ⟨g47, h⟩ := ed_gd h
  by_cases q48_0 : (im_i M1 82 (Int32.toNatClampNeg ((16 : Int32) * p0))) = 0
  · replace h := ed_pos q48_0 h
    obtain ⟨g110, h⟩ := ed_gd h
    obtain ⟨Q2, hQ2, h⟩ := bd1_ed h
    obtain ⟨M2, e2, h⟩ := h
    replace h := hQ2 _ h
    obtain ⟨g131, h⟩ := ed_gd h
    obtain ⟨Q3, hQ3, h⟩ := bd1_ed h
    obtain ⟨M3, e3, h⟩ := h
    replace h := hQ3 _ h
    exact fr_retV h (fr_tr (fr_mono (by decide) (by decide +kernel) (f_MScriptRows_have_fr e3)) (fr_tr (fr_mono (by decide) (by decide +kernel) (f_MScriptRows_give_fr e2)) (fr_tr (fr_mono (by decide) (by decide +kernel) (f_MScriptRows_takeCopy_fr e1)) fr_refl)))
  replace h := ed_neg q48_0 h
  by_cases q48_1 : (im_i M1 82 (Int32.toNatClampNeg ((16 : Int32) * p0))) = 1
  · replace h := ed_pos q48_1 h
    obtain ⟨g148, h⟩ := ed_gd h
    obtain ⟨Q4, hQ4, h⟩ := bd1_ed h
    obtain ⟨M4, e4, h⟩ := h
    replace h := hQ4 _ h
    obtain ⟨Q5, hQ5, h⟩ := bd1_ed h
    obtain ⟨M5, e5, h⟩ := h
    replace h := hQ5 _ h
    obtain ⟨g173, h⟩ := ed_gd h
    by_cases q175 : ¬ (im_i M5 82 (Int32.toNatClampNeg (((16 : Int32) * p0) + 4))) = 1
    · replace h := ed_pos q175 h
      exact fr_retV h (fr_tr (fr_mono (by decide) (by decide +kernel) (f_MScriptRows_have_fr e5)) (fr_tr (fr_mono (by decide) (by decide +kernel) (f_MScriptRows_give_fr e4)) (fr_tr (fr_mono (by decide) (by decide +kernel) (f_MScriptRows_takeCopy_fr e1)) fr_refl)))
    · replace h := ed_neg q175 h
      obtain ⟨g188, h⟩ := ed_gd h
      obtain ⟨Q6, hQ6, h⟩ := bd1_ed h
      obtain ⟨M6, e6, h⟩ := h
      replace h := hQ6 _ h
      obtain ⟨g209, h⟩ := ed_gd h
      obtain ⟨g218, h⟩ := ed_gd h
      obtain ⟨g227, h⟩ := ed_gd h
      obtain ⟨Q7, hQ7, h⟩ := bd1_ed h
      obtain ⟨M7, e7, h⟩ := h
      replace h := hQ7 _ h
      exact fr_retV h (fr_tr (fr_mono (by decide) (by decide +kernel) (f_MScriptRows_have_fr e7)) (fr_tr (fr_mono (by decide) (by decide +kernel) (f_MScriptRows_give_fr e6)) (fr_tr (fr_mono (by decide) (by decide +kernel) (f_MScriptRows_have_fr e5)) (fr_tr (fr_mono (by decide) (by decide +kernel) (f_MScriptRows_give_fr e4)) (fr_tr (fr_mono (by decide) (by decide +kernel) (f_MScriptRows_takeCopy_fr e1)) fr_refl)))))
  replace h := ed_neg q48_1 h
  by_cases q48_2 : (im_i M1 82 (Int32.toNatClampNeg ((16 : Int32) * p0))) = 2
  · replace h := ed_pos q48_2 h
    obtain ⟨g244, h⟩ := ed_gd h
    obtain ⟨Q8, hQ8, h⟩ := bd1_ed h
    obtain ⟨M8, e8, h⟩ := h
    replace h := hQ8 _ h
    obtain ⟨Q9, hQ9, h⟩ := bd1_ed h
    obtain ⟨M9, e9, h⟩ := h
    replace h := hQ9 _ h
    exact fr_retV h (fr_tr (fr_mono (by decide) (by decide +kernel) (f_MScriptRows_have_fr e9)) (fr_tr (fr_mono (by decide) (by decide +kernel) (f_MScriptRows_give_fr e8)) (fr_tr (fr_mono (by decide) (by decide +kernel) (f_MScriptRows_takeCopy_fr e1)) fr_refl)))
  replace h := ed_neg q48_2 h
  by_cases q48_3 : (im_i M1 82 (Int32.toNatClampNeg ((16 : Int32) * p0))) = 3
  · replace h := ed_pos q48_3 h
    obtain ⟨g275, h⟩ := ed_gd h
    obtain ⟨Q10, hQ10, h⟩ := bd1_ed h
    obtain ⟨M10, e10, h⟩ := h
    replace h := hQ10 _ h
    obtain ⟨g296, h⟩ := ed_gd h
    obtain ⟨Q11, hQ11, h⟩ := bd1_ed h
    obtain ⟨M11, e11, h⟩ := h
    replace h := hQ11 _ h
    exact fr_retV h (fr_tr (fr_mono (by decide) (by decide +kernel) (f_MScriptRows_have_fr e11)) (fr_tr (fr_mono (by decide) (by decide +kernel) (f_MScriptRows_give_fr e10)) (fr_tr (fr_mono (by decide) (by decide +kernel) (f_MScriptRows_takeCopy_fr e1)) fr_refl)))
  replace h := ed_neg q48_3 h
  by_cases q48_7 : (im_i M1 82 (Int32.toNatClampNeg ((16 : Int32) * p0))) = 7
  · replace h := ed_pos q48_7 h
    obtain ⟨Q12, hQ12, h⟩ := bd1_ed h
    obtain ⟨M12, e12, h⟩ := h
    replace h := hQ12 _ h
    obtain ⟨Q13, hQ13, h⟩ := bd1_ed h
    obtain ⟨M13, e13, h⟩ := h
    replace h := hQ13 _ h
    exact fr_retV h (fr_tr (fr_mono (by decide) (by decide +kernel) (f_MScriptRows_have_fr e13)) (fr_tr (fr_mono (by decide) (by decide +kernel) (f_MScriptRows_give_fr e12)) (fr_tr (fr_mono (by decide) (by decide +kernel) (f_MScriptRows_takeCopy_fr e1)) fr_refl)))
  replace h := ed_neg q48_7 h
  by_cases q48_8 : (im_i M1 82 (Int32.toNatClampNeg ((16 : Int32) * p0))) = 8
  · replace h := ed_pos q48_8 h
    obtain ⟨Q14, hQ14, h⟩ := bd1_ed h
    obtain ⟨M14, e14, h⟩ := h
    replace h := hQ14 _ h
    exact fr_retV h (fr_tr (fr_mono (by decide) (by decide +kernel) (f_MScriptRows_makeLines_fr e14)) (fr_tr (fr_mono (by decide) (by decide +kernel) (f_MScriptRows_takeCopy_fr e1)) fr_refl))
  replace h := ed_neg q48_8 h
  obtain ⟨g344, h⟩ := ed_gd h
  obtain ⟨Q15, hQ15, h⟩ := bd1_ed h
  obtain ⟨M15, e15, h⟩ := h
  replace h := hQ15 _ h
  obtain ⟨g365, h⟩ := ed_gd h
  obtain ⟨Q16, hQ16, h⟩ := bd1_ed h
  obtain ⟨M16, e16, h⟩ := h
  replace h := hQ16 _ h
  obtain ⟨Q17, hQ17, h⟩ := bd1_ed h
  have J17 : ∀ (y22 : Int32), Q17 y22 → fr 502913140959685736677769216 [(71, 26), (71, 32), (71, 37)] M r := by
    intro y22 h
    replace h := hQ17 _ h
    obtain ⟨g428, h⟩ := ed_gd h
    exact fr_retV h (fr_F (by decide) (fr_tr (fr_mono (by decide) (by decide +kernel) (f_MScriptRows_have_fr e16)) (fr_tr (fr_mono (by decide) (by decide +kernel) (f_MScriptRows_give_fr e15)) (fr_tr (fr_mono (by decide) (by decide +kernel) (f_MScriptRows_takeCopy_fr e1)) fr_refl))))
  obtain ⟨k18, Q18, hQ18, hk18, h⟩ := jn0_ed h
  have J18 : Q18 () → fr 502913140959685736677769216 [(71, 26), (71, 32), (71, 37)] M r := by
    intro  h
    replace h := hQ18  h
    exact J17 _ (ed_some h)
  by_cases q374 : ¬ (im_i M16 71 32) = 0
  · replace h := ed_pos q374 h
    exact J18  (hk18  h)
  · replace h := ed_neg q374 h
    obtain ⟨g382, h⟩ := ed_gd h
    obtain ⟨k19, Q19, hQ19, hk19, h⟩ := jn0_ed h
    have J19 : Q19 () → fr 502913140959685736677769216 [(71, 26), (71, 32), (71, 37)] M r := by
      intro  h
      replace h := hQ19  h
      exact J17 _ (ed_some h)
    by_cases q385 : ¬ (im_i M16 82 (Int32.toNatClampNeg ((16 : Int32) * p0))) = 6
    · replace h := ed_pos q385 h
      exact J19  (hk19  h)
    · replace h := ed_neg q385 h
      obtain ⟨g395, h⟩ := ed_gd h
      obtain ⟨Q20, hQ20, h⟩ := bd1_ed h
      obtain ⟨x20, e20, h⟩ := h
      replace h := hQ20 _ h
      by_cases q402 : ¬ x20 = 0
      · replace h := ed_pos q402 h
        exact J18  (hk18  h)
      · replace h := ed_neg q402 h
        obtain ⟨g413, h⟩ := ed_gd h
        obtain ⟨Q21, hQ21, h⟩ := bd1_ed h
        obtain ⟨x21, e21, h⟩ := h
        replace h := hQ21 _ h
        by_cases q420 : x21 = 0
        · replace h := ed_pos q420 h
          exact J19  (hk19  h)
        · replace h := ed_neg q420 h
          exact J18  (hk18  h)
noncomputable def f_MScriptRows_isPlaced (p0 : Int32) (M : im_M) : Option (Int32 × im_M) := bd1 (f_MScriptRows_lay M) fun (M1 : im_M) => bd1 (f_MScriptRows_makeField p0 0 (im_setI (im_setI M1 71 32 0) 71 33 0)) fun (M2 : im_M) => gd (inb 0 16) <| bd1 (if ¬ (im_i M2 81 (Int32.toNatClampNeg 0)) = 8 then some M2 else if ((im_i M2 71 26) - (im_i (im_setI (im_setI M1 71 32 0) 71 33 0) 71 26)) ≤ 20 then some M2 else some (im_setI M2 71 32 1)) fun (M4 : im_M) => if ¬ (im_i (im_setI (im_setI M4 71 34 ((im_i M4 71 26) - (im_i (im_setI (im_setI M1 71 32 0) 71 33 0) 71 26))) 71 26 (im_i (im_setI (im_setI M1 71 32 0) 71 33 0) 71 26)) 71 32) = 0 then some (0, (im_setI (im_setI M4 71 34 ((im_i M4 71 26) - (im_i (im_setI (im_setI M1 71 32 0) 71 33 0) 71 26))) 71 26 (im_i (im_setI (im_setI M1 71 32 0) 71 33 0) 71 26))) else some (1, (im_setI (im_setI M4 71 34 ((im_i M4 71 26) - (im_i (im_setI (im_setI M1 71 32 0) 71 33 0) 71 26))) 71 26 (im_i (im_setI (im_setI M1 71 32 0) 71 33 0) 71 26)))
theorem J_MScriptRows_isPlaced_d0 : decode J_MScriptRows_isPlaced.2.1 0 = .ok (.aload_n 0, 1) := by decide +kernel
theorem J_MScriptRows_isPlaced_d1 : decode J_MScriptRows_isPlaced.2.1 1 = .ok (.invokevirtual 129, 3) := by decide +kernel
theorem J_MScriptRows_isPlaced_d4 : decode J_MScriptRows_isPlaced.2.1 4 = .ok (.aload_n 0, 1) := by decide +kernel
theorem J_MScriptRows_isPlaced_d5 : decode J_MScriptRows_isPlaced.2.1 5 = .ok (.iconst 0, 1) := by decide +kernel
theorem J_MScriptRows_isPlaced_d6 : decode J_MScriptRows_isPlaced.2.1 6 = .ok (.putfield 132, 3) := by decide +kernel
theorem J_MScriptRows_isPlaced_d9 : decode J_MScriptRows_isPlaced.2.1 9 = .ok (.aload_n 0, 1) := by decide +kernel
theorem J_MScriptRows_isPlaced_d10 : decode J_MScriptRows_isPlaced.2.1 10 = .ok (.iconst 0, 1) := by decide +kernel
theorem J_MScriptRows_isPlaced_d11 : decode J_MScriptRows_isPlaced.2.1 11 = .ok (.putfield 136, 3) := by decide +kernel
theorem J_MScriptRows_isPlaced_d14 : decode J_MScriptRows_isPlaced.2.1 14 = .ok (.aload_n 0, 1) := by decide +kernel
theorem J_MScriptRows_isPlaced_d15 : decode J_MScriptRows_isPlaced.2.1 15 = .ok (.getfield 123, 3) := by decide +kernel
theorem J_MScriptRows_isPlaced_d18 : decode J_MScriptRows_isPlaced.2.1 18 = .ok (.istore_n 2, 1) := by decide +kernel
theorem J_MScriptRows_isPlaced_d19 : decode J_MScriptRows_isPlaced.2.1 19 = .ok (.aload_n 0, 1) := by decide +kernel
theorem J_MScriptRows_isPlaced_d20 : decode J_MScriptRows_isPlaced.2.1 20 = .ok (.iload_n 1, 1) := by decide +kernel
theorem J_MScriptRows_isPlaced_d21 : decode J_MScriptRows_isPlaced.2.1 21 = .ok (.iconst 0, 1) := by decide +kernel
theorem J_MScriptRows_isPlaced_d22 : decode J_MScriptRows_isPlaced.2.1 22 = .ok (.invokevirtual 139, 3) := by decide +kernel
theorem J_MScriptRows_isPlaced_d25 : decode J_MScriptRows_isPlaced.2.1 25 = .ok (.aload_n 0, 1) := by decide +kernel
theorem J_MScriptRows_isPlaced_d26 : decode J_MScriptRows_isPlaced.2.1 26 = .ok (.getfield 41, 3) := by decide +kernel
theorem J_MScriptRows_isPlaced_d29 : decode J_MScriptRows_isPlaced.2.1 29 = .ok (.iconst 0, 1) := by decide +kernel
theorem J_MScriptRows_isPlaced_d30 : decode J_MScriptRows_isPlaced.2.1 30 = .ok (.iaload, 1) := by decide +kernel
theorem J_MScriptRows_isPlaced_d31 : decode J_MScriptRows_isPlaced.2.1 31 = .ok (.bipush 8, 2) := by decide +kernel
theorem J_MScriptRows_isPlaced_d33 : decode J_MScriptRows_isPlaced.2.1 33 = .ok (.if_icmp .ne 19, 3) := by decide +kernel
theorem J_MScriptRows_isPlaced_d36 : decode J_MScriptRows_isPlaced.2.1 36 = .ok (.aload_n 0, 1) := by decide +kernel
theorem J_MScriptRows_isPlaced_d37 : decode J_MScriptRows_isPlaced.2.1 37 = .ok (.getfield 123, 3) := by decide +kernel
theorem J_MScriptRows_isPlaced_d40 : decode J_MScriptRows_isPlaced.2.1 40 = .ok (.iload_n 2, 1) := by decide +kernel
theorem J_MScriptRows_isPlaced_d41 : decode J_MScriptRows_isPlaced.2.1 41 = .ok (.isub, 1) := by decide +kernel
theorem J_MScriptRows_isPlaced_d42 : decode J_MScriptRows_isPlaced.2.1 42 = .ok (.bipush 20, 2) := by decide +kernel
theorem J_MScriptRows_isPlaced_d44 : decode J_MScriptRows_isPlaced.2.1 44 = .ok (.if_icmp .le 8, 3) := by decide +kernel
theorem J_MScriptRows_isPlaced_d47 : decode J_MScriptRows_isPlaced.2.1 47 = .ok (.aload_n 0, 1) := by decide +kernel
theorem J_MScriptRows_isPlaced_d48 : decode J_MScriptRows_isPlaced.2.1 48 = .ok (.iconst 1, 1) := by decide +kernel
theorem J_MScriptRows_isPlaced_d49 : decode J_MScriptRows_isPlaced.2.1 49 = .ok (.putfield 132, 3) := by decide +kernel
theorem J_MScriptRows_isPlaced_d52 : decode J_MScriptRows_isPlaced.2.1 52 = .ok (.aload_n 0, 1) := by decide +kernel
theorem J_MScriptRows_isPlaced_d53 : decode J_MScriptRows_isPlaced.2.1 53 = .ok (.aload_n 0, 1) := by decide +kernel
theorem J_MScriptRows_isPlaced_d54 : decode J_MScriptRows_isPlaced.2.1 54 = .ok (.getfield 123, 3) := by decide +kernel
theorem J_MScriptRows_isPlaced_d57 : decode J_MScriptRows_isPlaced.2.1 57 = .ok (.iload_n 2, 1) := by decide +kernel
theorem J_MScriptRows_isPlaced_d58 : decode J_MScriptRows_isPlaced.2.1 58 = .ok (.isub, 1) := by decide +kernel
theorem J_MScriptRows_isPlaced_d59 : decode J_MScriptRows_isPlaced.2.1 59 = .ok (.putfield 126, 3) := by decide +kernel
theorem J_MScriptRows_isPlaced_d62 : decode J_MScriptRows_isPlaced.2.1 62 = .ok (.aload_n 0, 1) := by decide +kernel
theorem J_MScriptRows_isPlaced_d63 : decode J_MScriptRows_isPlaced.2.1 63 = .ok (.iload_n 2, 1) := by decide +kernel
theorem J_MScriptRows_isPlaced_d64 : decode J_MScriptRows_isPlaced.2.1 64 = .ok (.putfield 123, 3) := by decide +kernel
theorem J_MScriptRows_isPlaced_d67 : decode J_MScriptRows_isPlaced.2.1 67 = .ok (.aload_n 0, 1) := by decide +kernel
theorem J_MScriptRows_isPlaced_d68 : decode J_MScriptRows_isPlaced.2.1 68 = .ok (.getfield 132, 3) := by decide +kernel
theorem J_MScriptRows_isPlaced_d71 : decode J_MScriptRows_isPlaced.2.1 71 = .ok (.ifCond .ne 7, 3) := by decide +kernel
theorem J_MScriptRows_isPlaced_d74 : decode J_MScriptRows_isPlaced.2.1 74 = .ok (.iconst 1, 1) := by decide +kernel
theorem J_MScriptRows_isPlaced_d75 : decode J_MScriptRows_isPlaced.2.1 75 = .ok (.goto 4, 3) := by decide +kernel
theorem J_MScriptRows_isPlaced_d78 : decode J_MScriptRows_isPlaced.2.1 78 = .ok (.iconst 0, 1) := by decide +kernel
theorem J_MScriptRows_isPlaced_d79 : decode J_MScriptRows_isPlaced.2.1 79 = .ok (.ireturn, 1) := by decide +kernel
theorem f_MScriptRows_isPlaced_ok {L : Nat} {xs : Nat → Int32} {dep : Nat} {w : Bool} {p0 : Int32} {M : im_M} {Q : Int32 × im_M → Prop} (hM : lw_S w M) (h : ed (f_MScriptRows_isPlaced p0 M) Q) : ia (tb_G L xs) (dep + 6) J_MScriptRows_isPlaced (rwI w Q) (0, lv_args 0 [.ref 71, .int p0], [], M) := by
  have hS : im_St (tb_G L xs) (dep + 6) J_MScriptRows_isPlaced (ia (tb_G L xs) (dep + 6) J_MScriptRows_isPlaced (rwI w Q)) := ia_St
  unfold f_MScriptRows_isPlaced at h
  have l0 : im_lk (lv_args 0 [.ref 71, .int p0]) 0 = some (.ref 71) := rfl
  have l1 : im_lk (lv_args 0 [.ref 71, .int p0]) 1 = some (.int p0) := rfl
  refine iq_aload_n hS 1 J_MScriptRows_isPlaced_d0 l0 rfl ?_
  obtain ⟨Q1, hQ1, h⟩ := bd1_ed h
  refine iq_cwV hS 4 J_MScriptRows_isPlaced_d1 rfl (pr_inst (vs := []) lc_15_129 lT_299 rfl rfl (by decide) (by decide) rfl (Nat.le_of_ble_eq_true rfl) (Nat.le_of_ble_eq_true rfl) (fun _ => Or.inl (pr_b (ka_71 hM) (by decide) rfl))) (f_MScriptRows_lay_ok (dep := dep + 5) hM h) rfl ?_
  intro M1 hM1 h
  replace h := hQ1 _ h
  refine iq_aload_n hS 5 J_MScriptRows_isPlaced_d4 l0 rfl ?_
  refine iq_iconst hS 6 J_MScriptRows_isPlaced_d5 (v := 0) (by decide +kernel) rfl ?_
  refine iq_putZ hS 9 J_MScriptRows_isPlaced_d6 lf_15_132 (Or.inl rfl) rfl (ka_71 hM1) (Or.inl rfl) rfl ?_
  refine iq_aload_n hS 10 J_MScriptRows_isPlaced_d9 l0 rfl ?_
  refine iq_iconst hS 11 J_MScriptRows_isPlaced_d10 (v := 0) (by decide +kernel) rfl ?_
  refine iq_putZ hS 14 J_MScriptRows_isPlaced_d11 lf_15_136 (Or.inl rfl) rfl (ka_71 (lw_sI hM1)) (Or.inl rfl) rfl ?_
  refine iq_aload_n hS 15 J_MScriptRows_isPlaced_d14 l0 rfl ?_
  refine iq_getI hS 18 J_MScriptRows_isPlaced_d15 lf_15_123 (Or.inl rfl) (ka_71 (lw_sI (lw_sI hM1))) rfl ?_
  refine iq_istore_n hS 19 J_MScriptRows_isPlaced_d18 (by decide) rfl ?_
  refine iq_aload_n hS 20 J_MScriptRows_isPlaced_d19 (lk_1r l0 (by decide)) rfl ?_
  refine iq_iload_n hS 21 J_MScriptRows_isPlaced_d20 (lk_1i l1 (by decide)) rfl ?_
  refine iq_iconst hS 22 J_MScriptRows_isPlaced_d21 (v := 0) (by decide +kernel) rfl ?_
  obtain ⟨Q2, hQ2, h⟩ := bd1_ed h
  refine iq_cwV hS 25 J_MScriptRows_isPlaced_d22 rfl (pr_inst (vs := [_, _]) lc_15_139 lT_300 rfl rfl (by decide) (by decide) rfl (Nat.le_of_ble_eq_true rfl) (Nat.le_of_ble_eq_true rfl) (fun _ => Or.inl (pr_b (ka_71 (lw_sI (lw_sI hM1))) (by decide) rfl))) (f_MScriptRows_makeField_ok (dep := dep + 0) (lw_sI (lw_sI hM1)) h) rfl ?_
  intro M2 hM2 h
  replace h := hQ2 _ h
  refine iq_aload_n hS 26 J_MScriptRows_isPlaced_d25 (lk_1r l0 (by decide)) rfl ?_
  refine iq_getR hS 29 J_MScriptRows_isPlaced_d26 lf_15_41 (Or.inr ⟨_, rfl⟩) (ka_71 hM2) (ra_71_27 hM2) rfl ?_
  refine iq_iconst hS 30 J_MScriptRows_isPlaced_d29 (v := 0) (by decide +kernel) rfl ?_
  obtain ⟨g30, h⟩ := ed_gd h
  refine iq_iaload hS 31 J_MScriptRows_isPlaced_d30 ⟨(ka_81 hM2).1, (ka_81 hM2).2, g30.1, ix_lt (kl_81 hM2) g30.2⟩ rfl ?_
  refine iq_bipush hS 33 J_MScriptRows_isPlaced_d31 (v := 8) (by decide +kernel) rfl ?_
  obtain ⟨Q3, hQ3, h⟩ := bd1_ed h
  have J3 : ∀ (M4 : im_M) (L' : List (Nat × Value)), lw_S w M4 → im_lk L' 0 = some (.ref 71) → im_lk L' 2 = some (.int (im_i (im_setI (im_setI M1 71 32 0) 71 33 0) 71 26)) → Q3 M4 → ia (tb_G L xs) (dep + 6) J_MScriptRows_isPlaced (rwI w Q) (52, L', [], M4) := by
    intro M4 L' hM4 l5 l6 h
    replace h := hQ3 _ h
    refine iq_aload_n hS 53 J_MScriptRows_isPlaced_d52 l5 rfl ?_
    refine iq_aload_n hS 54 J_MScriptRows_isPlaced_d53 l5 rfl ?_
    refine iq_getI hS 57 J_MScriptRows_isPlaced_d54 lf_15_123 (Or.inl rfl) (ka_71 hM4) rfl ?_
    refine iq_iload_n hS 58 J_MScriptRows_isPlaced_d57 l6 rfl ?_
    refine iq_isub hS 59 J_MScriptRows_isPlaced_d58 rfl ?_
    refine iq_putI hS 62 J_MScriptRows_isPlaced_d59 lf_15_126 (Or.inl rfl) rfl (ka_71 hM4) rfl ?_
    refine iq_aload_n hS 63 J_MScriptRows_isPlaced_d62 l5 rfl ?_
    refine iq_iload_n hS 64 J_MScriptRows_isPlaced_d63 l6 rfl ?_
    refine iq_putI hS 67 J_MScriptRows_isPlaced_d64 lf_15_123 (Or.inl rfl) rfl (ka_71 (lw_sI hM4)) rfl ?_
    refine iq_aload_n hS 68 J_MScriptRows_isPlaced_d67 l5 rfl ?_
    refine iq_getI hS 71 J_MScriptRows_isPlaced_d68 lf_15_132 (Or.inr rfl) (ka_71 (lw_sI (lw_sI hM4))) rfl ?_
    refine iq_if_ne hS 74 J_MScriptRows_isPlaced_d71 (t := 78) rfl (fun q71 => ?_) rfl (fun q71 => ?_)
    · replace h := ed_pos q71 h
      refine iq_iconst hS 79 J_MScriptRows_isPlaced_d78 (v := 0) (by decide +kernel) rfl ?_
      exact iq_iret J_MScriptRows_isPlaced_d79 rfl rfl ⟨_, rfl, (lw_sI (lw_sI hM4)), ed_some h⟩
    · replace h := ed_neg q71 h
      refine iq_iconst hS 75 J_MScriptRows_isPlaced_d74 (v := 1) (by decide +kernel) rfl ?_
      refine iq_goto hS J_MScriptRows_isPlaced_d75 (t := 79) rfl ?_
      exact iq_iret J_MScriptRows_isPlaced_d79 rfl rfl ⟨_, rfl, (lw_sI (lw_sI hM4)), ed_some h⟩
  refine iq_icmp_ne hS 36 J_MScriptRows_isPlaced_d33 (t := 52) rfl (fun q33 => ?_) rfl (fun q33 => ?_)
  · replace h := ed_pos q33 h
    exact J3 _ _ hM2 (lk_1r l0 (by decide)) lk_1s (ed_some h)
  · replace h := ed_neg q33 h
    refine iq_aload_n hS 37 J_MScriptRows_isPlaced_d36 (lk_1r l0 (by decide)) rfl ?_
    refine iq_getI hS 40 J_MScriptRows_isPlaced_d37 lf_15_123 (Or.inl rfl) (ka_71 hM2) rfl ?_
    refine iq_iload_n hS 41 J_MScriptRows_isPlaced_d40 lk_1s rfl ?_
    refine iq_isub hS 42 J_MScriptRows_isPlaced_d41 rfl ?_
    refine iq_bipush hS 44 J_MScriptRows_isPlaced_d42 (v := 20) (by decide +kernel) rfl ?_
    refine iq_icmp_le hS 47 J_MScriptRows_isPlaced_d44 (t := 52) rfl (fun q44 => ?_) rfl (fun q44 => ?_)
    · replace h := ed_pos q44 h
      exact J3 _ _ hM2 (lk_1r l0 (by decide)) lk_1s (ed_some h)
    · replace h := ed_neg q44 h
      refine iq_aload_n hS 48 J_MScriptRows_isPlaced_d47 (lk_1r l0 (by decide)) rfl ?_
      refine iq_iconst hS 49 J_MScriptRows_isPlaced_d48 (v := 1) (by decide +kernel) rfl ?_
      refine iq_putZ hS 52 J_MScriptRows_isPlaced_d49 lf_15_132 (Or.inl rfl) rfl (ka_71 hM2) (Or.inr rfl) rfl ?_
      exact J3 _ _ (lw_sI hM2) (lk_1r l0 (by decide)) lk_1s (ed_some h)
theorem f_MScriptRows_isPlaced_fr {p0 : Int32} {M : im_M} {r : Int32 × im_M} (h : f_MScriptRows_isPlaced p0 M = some r) : fr 529509508991207578521305088 [(71, 26), (71, 32), (71, 33), (71, 34), (71, 37)] M r.2 := by
  replace h : ed (f_MScriptRows_isPlaced p0 M) (fun x => x = r) := ⟨r, h, rfl⟩
  unfold f_MScriptRows_isPlaced at h
  obtain ⟨Q1, hQ1, h⟩ := bd1_ed h
  obtain ⟨M1, e1, h⟩ := h
  replace h := hQ1 _ h
  obtain ⟨Q2, hQ2, h⟩ := bd1_ed h
  obtain ⟨M2, e2, h⟩ := h
  replace h := hQ2 _ h
  obtain ⟨g30, h⟩ := ed_gd h
  obtain ⟨Q3, hQ3, h⟩ := bd1_ed h
  have J3 : ∀ (M4 : im_M), fr 529509508991207578521305088 [(71, 26), (71, 32), (71, 33), (71, 34), (71, 37)] M M4 → Q3 M4 → fr 529509508991207578521305088 [(71, 26), (71, 32), (71, 33), (71, 34), (71, 37)] M r.2 := by
    intro M4 hM4 h
    replace h := hQ3 _ h
    by_cases q71 : ¬ (im_i (im_setI (im_setI M4 71 34 ((im_i M4 71 26) - (im_i (im_setI (im_setI M1 71 32 0) 71 33 0) 71 26))) 71 26 (im_i (im_setI (im_setI M1 71 32 0) 71 33 0) 71 26)) 71 32) = 0
    · replace h := ed_pos q71 h
      exact fr_ret h (fr_F (by decide) (fr_F (by decide) hM4))
    · replace h := ed_neg q71 h
      exact fr_ret h (fr_F (by decide) (fr_F (by decide) hM4))
  by_cases q33 : ¬ (im_i M2 81 (Int32.toNatClampNeg 0)) = 8
  · replace h := ed_pos q33 h
    exact J3 _ (fr_tr (fr_mono (by decide) (by decide +kernel) (f_MScriptRows_makeField_fr e2)) (fr_F (by decide) (fr_F (by decide) (fr_tr (fr_mono (by decide) (by decide +kernel) (f_MScriptRows_lay_fr e1)) fr_refl)))) (ed_some h)
  · replace h := ed_neg q33 h
    by_cases q44 : ((im_i M2 71 26) - (im_i (im_setI (im_setI M1 71 32 0) 71 33 0) 71 26)) ≤ 20
    · replace h := ed_pos q44 h
      exact J3 _ (fr_tr (fr_mono (by decide) (by decide +kernel) (f_MScriptRows_makeField_fr e2)) (fr_F (by decide) (fr_F (by decide) (fr_tr (fr_mono (by decide) (by decide +kernel) (f_MScriptRows_lay_fr e1)) fr_refl)))) (ed_some h)
    · replace h := ed_neg q44 h
      exact J3 _ (fr_F (by decide) (fr_tr (fr_mono (by decide) (by decide +kernel) (f_MScriptRows_makeField_fr e2)) (fr_F (by decide) (fr_F (by decide) (fr_tr (fr_mono (by decide) (by decide +kernel) (f_MScriptRows_lay_fr e1)) fr_refl))))) (ed_some h)
noncomputable def f_MScriptRows_tryField (M : im_M) : Option (Int32 × im_M) := bd1 (f_MScriptRows_fits M) fun (x1 : Int32) => jn1 (fun (M4 : im_M) => some (8, M4)) fun k2 => if x1 = 0 then k2 M else bd2 (f_MScriptRows_isPlaced (im_i M 71 25) M) fun (x3 : Int32) (M3 : im_M) => if ¬ x3 = 0 then if ((im_i M3 71 26) + (im_i M3 71 34)) ≤ 120 then some (0, M3) else some (10, M3) else k2 M3
theorem J_MScriptRows_tryField_d0 : decode J_MScriptRows_tryField.2.1 0 = .ok (.aload_n 0, 1) := by decide +kernel
theorem J_MScriptRows_tryField_d1 : decode J_MScriptRows_tryField.2.1 1 = .ok (.invokevirtual 116, 3) := by decide +kernel
theorem J_MScriptRows_tryField_d4 : decode J_MScriptRows_tryField.2.1 4 = .ok (.ifCond .eq 14, 3) := by decide +kernel
theorem J_MScriptRows_tryField_d7 : decode J_MScriptRows_tryField.2.1 7 = .ok (.aload_n 0, 1) := by decide +kernel
theorem J_MScriptRows_tryField_d8 : decode J_MScriptRows_tryField.2.1 8 = .ok (.aload_n 0, 1) := by decide +kernel
theorem J_MScriptRows_tryField_d9 : decode J_MScriptRows_tryField.2.1 9 = .ok (.getfield 113, 3) := by decide +kernel
theorem J_MScriptRows_tryField_d12 : decode J_MScriptRows_tryField.2.1 12 = .ok (.invokevirtual 120, 3) := by decide +kernel
theorem J_MScriptRows_tryField_d15 : decode J_MScriptRows_tryField.2.1 15 = .ok (.ifCond .ne 8, 3) := by decide +kernel
theorem J_MScriptRows_tryField_d18 : decode J_MScriptRows_tryField.2.1 18 = .ok (.bipush 8, 2) := by decide +kernel
theorem J_MScriptRows_tryField_d20 : decode J_MScriptRows_tryField.2.1 20 = .ok (.goto 23, 3) := by decide +kernel
theorem J_MScriptRows_tryField_d23 : decode J_MScriptRows_tryField.2.1 23 = .ok (.aload_n 0, 1) := by decide +kernel
theorem J_MScriptRows_tryField_d24 : decode J_MScriptRows_tryField.2.1 24 = .ok (.getfield 123, 3) := by decide +kernel
theorem J_MScriptRows_tryField_d27 : decode J_MScriptRows_tryField.2.1 27 = .ok (.aload_n 0, 1) := by decide +kernel
theorem J_MScriptRows_tryField_d28 : decode J_MScriptRows_tryField.2.1 28 = .ok (.getfield 126, 3) := by decide +kernel
theorem J_MScriptRows_tryField_d31 : decode J_MScriptRows_tryField.2.1 31 = .ok (.iadd, 1) := by decide +kernel
theorem J_MScriptRows_tryField_d32 : decode J_MScriptRows_tryField.2.1 32 = .ok (.bipush 120, 2) := by decide +kernel
theorem J_MScriptRows_tryField_d34 : decode J_MScriptRows_tryField.2.1 34 = .ok (.if_icmp .le 8, 3) := by decide +kernel
theorem J_MScriptRows_tryField_d37 : decode J_MScriptRows_tryField.2.1 37 = .ok (.bipush 10, 2) := by decide +kernel
theorem J_MScriptRows_tryField_d39 : decode J_MScriptRows_tryField.2.1 39 = .ok (.goto 4, 3) := by decide +kernel
theorem J_MScriptRows_tryField_d42 : decode J_MScriptRows_tryField.2.1 42 = .ok (.iconst 0, 1) := by decide +kernel
theorem J_MScriptRows_tryField_d43 : decode J_MScriptRows_tryField.2.1 43 = .ok (.ireturn, 1) := by decide +kernel
theorem f_MScriptRows_tryField_ok {L : Nat} {xs : Nat → Int32} {dep : Nat} {w : Bool} {M : im_M} {Q : Int32 × im_M → Prop} (hM : lw_S w M) (h : ed (f_MScriptRows_tryField M) Q) : ia (tb_G L xs) (dep + 7) J_MScriptRows_tryField (rwI w Q) (0, lv_args 0 [.ref 71], [], M) := by
  have hS : im_St (tb_G L xs) (dep + 7) J_MScriptRows_tryField (ia (tb_G L xs) (dep + 7) J_MScriptRows_tryField (rwI w Q)) := ia_St
  unfold f_MScriptRows_tryField at h
  have l0 : im_lk (lv_args 0 [.ref 71]) 0 = some (.ref 71) := rfl
  refine iq_aload_n hS 1 J_MScriptRows_tryField_d0 l0 rfl ?_
  obtain ⟨Q1, hQ1, h⟩ := bd1_ed h
  refine iq_cpI hS 4 J_MScriptRows_tryField_d1 rfl (pr_inst (vs := []) lc_15_116 lT_297 rfl rfl (by decide) (by decide) rfl (Nat.le_of_ble_eq_true rfl) (Nat.le_of_ble_eq_true rfl) (fun _ => Or.inl (pr_b (ka_71 hM) (by decide) rfl))) (f_MScriptRows_fits_ok (dep := dep + 4) hM h) rfl ?_
  intro x1 h
  replace h := hQ1 _ h
  obtain ⟨k2, Q2, hQ2, hk2, h⟩ := jn1_ed h
  have J2 : ∀ (M4 : im_M) (L' : List (Nat × Value)), lw_S w M4 → Q2 M4 → ia (tb_G L xs) (dep + 7) J_MScriptRows_tryField (rwI w Q) (18, L', [], M4) := by
    intro M4 L' hM4  h
    replace h := hQ2 _ h
    refine iq_bipush hS 20 J_MScriptRows_tryField_d18 (v := 8) (by decide +kernel) rfl ?_
    refine iq_goto hS J_MScriptRows_tryField_d20 (t := 43) rfl ?_
    exact iq_iret J_MScriptRows_tryField_d43 rfl rfl ⟨_, rfl, hM4, ed_some h⟩
  refine iq_if_eq hS 7 J_MScriptRows_tryField_d4 (t := 18) rfl (fun q4 => ?_) rfl (fun q4 => ?_)
  · replace h := ed_pos q4 h
    exact J2 _ _ hM  (hk2 _ h)
  · replace h := ed_neg q4 h
    refine iq_aload_n hS 8 J_MScriptRows_tryField_d7 l0 rfl ?_
    refine iq_aload_n hS 9 J_MScriptRows_tryField_d8 l0 rfl ?_
    refine iq_getI hS 12 J_MScriptRows_tryField_d9 lf_15_113 (Or.inl rfl) (ka_71 hM) rfl ?_
    obtain ⟨Q3, hQ3, h⟩ := bd2_ed h
    refine iq_cwI hS 15 J_MScriptRows_tryField_d12 rfl (pr_inst (vs := [_]) lc_15_120 lT_298 rfl rfl (by decide) (by decide) rfl (Nat.le_of_ble_eq_true rfl) (Nat.le_of_ble_eq_true rfl) (fun _ => Or.inl (pr_b (ka_71 hM) (by decide) rfl))) (f_MScriptRows_isPlaced_ok (dep := dep + 0) hM h) rfl ?_
    intro x3 M3 hM3 h
    replace h := hQ3 _ _ h
    refine iq_if_ne hS 18 J_MScriptRows_tryField_d15 (t := 23) rfl (fun q15 => ?_) rfl (fun q15 => ?_)
    · replace h := ed_pos q15 h
      refine iq_aload_n hS 24 J_MScriptRows_tryField_d23 l0 rfl ?_
      refine iq_getI hS 27 J_MScriptRows_tryField_d24 lf_15_123 (Or.inl rfl) (ka_71 hM3) rfl ?_
      refine iq_aload_n hS 28 J_MScriptRows_tryField_d27 l0 rfl ?_
      refine iq_getI hS 31 J_MScriptRows_tryField_d28 lf_15_126 (Or.inl rfl) (ka_71 hM3) rfl ?_
      refine iq_iadd hS 32 J_MScriptRows_tryField_d31 rfl ?_
      refine iq_bipush hS 34 J_MScriptRows_tryField_d32 (v := 120) (by decide +kernel) rfl ?_
      refine iq_icmp_le hS 37 J_MScriptRows_tryField_d34 (t := 42) rfl (fun q34 => ?_) rfl (fun q34 => ?_)
      · replace h := ed_pos q34 h
        refine iq_iconst hS 43 J_MScriptRows_tryField_d42 (v := 0) (by decide +kernel) rfl ?_
        exact iq_iret J_MScriptRows_tryField_d43 rfl rfl ⟨_, rfl, hM3, ed_some h⟩
      · replace h := ed_neg q34 h
        refine iq_bipush hS 39 J_MScriptRows_tryField_d37 (v := 10) (by decide +kernel) rfl ?_
        refine iq_goto hS J_MScriptRows_tryField_d39 (t := 43) rfl ?_
        exact iq_iret J_MScriptRows_tryField_d43 rfl rfl ⟨_, rfl, hM3, ed_some h⟩
    · replace h := ed_neg q15 h
      exact J2 _ _ hM3  (hk2 _ h)
theorem f_MScriptRows_tryField_fr {M : im_M} {r : Int32 × im_M} (h : f_MScriptRows_tryField M = some r) : fr 529509508991207578521305088 [(71, 26), (71, 32), (71, 33), (71, 34), (71, 37)] M r.2 := by
  replace h : ed (f_MScriptRows_tryField M) (fun x => x = r) := ⟨r, h, rfl⟩
  unfold f_MScriptRows_tryField at h
  obtain ⟨Q1, hQ1, h⟩ := bd1_ed h
  obtain ⟨x1, e1, h⟩ := h
  replace h := hQ1 _ h
  obtain ⟨k2, Q2, hQ2, hk2, h⟩ := jn1_ed h
  have J2 : ∀ (M4 : im_M), fr 529509508991207578521305088 [(71, 26), (71, 32), (71, 33), (71, 34), (71, 37)] M M4 → Q2 M4 → fr 529509508991207578521305088 [(71, 26), (71, 32), (71, 33), (71, 34), (71, 37)] M r.2 := by
    intro M4 hM4 h
    replace h := hQ2 _ h
    exact fr_ret h hM4
  by_cases q4 : x1 = 0
  · replace h := ed_pos q4 h
    exact J2 _ fr_refl (hk2 _ h)
  · replace h := ed_neg q4 h
    obtain ⟨Q3, hQ3, h⟩ := bd2_ed h
    obtain ⟨⟨x3, M3⟩, e3, h⟩ := h
    replace h := hQ3 _ _ h
    by_cases q15 : ¬ x3 = 0
    · replace h := ed_pos q15 h
      by_cases q34 : ((im_i M3 71 26) + (im_i M3 71 34)) ≤ 120
      · replace h := ed_pos q34 h
        exact fr_ret h (fr_tr (fr_mono (by decide) (by decide +kernel) (f_MScriptRows_isPlaced_fr e3)) fr_refl)
      · replace h := ed_neg q34 h
        exact fr_ret h (fr_tr (fr_mono (by decide) (by decide +kernel) (f_MScriptRows_isPlaced_fr e3)) fr_refl)
    · replace h := ed_neg q15 h
      exact J2 _ (fr_tr (fr_mono (by decide) (by decide +kernel) (f_MScriptRows_isPlaced_fr e3)) fr_refl) (hk2 _ h)
noncomputable def f_MScriptRows_test (p0 : Int32) (M : im_M) : Option (Int32 × im_M) := bd1 (f_MScriptRows_numbers p0 M) fun (x1 : Int32) => if 0 ≤ x1 then bd1 (f_MScriptRows_mayStand p0 M) fun (x2 : Int32) => if ¬ x2 = 0 then bd2 (f_MScriptRows_takeNumbers p0 M) fun (x3 : Int32) (M3 : im_M) => bd1 (if ¬ x3 = 0 then some x3 else bd1 (f_MScriptRows_testRanges p0 M3) fun (x5 : Int32) => some x5) fun (y6 : Int32) => bd2 (if ¬ y6 = 0 then some (y6, M3) else jn0 (fun (_ : Unit) => bd2 (f_MScriptRows_takeData M3) fun (x13 : Int32) (M13 : im_M) => some (x13, M13)) fun k10 => if p0 = 88 then k10 () else if ¬ p0 = 75 then some (y6, M3) else k10 ()) fun (y14 : Int32) (M15 : im_M) => bd1 (if ¬ y14 = 0 then some y14 else if ¬ p0 = 83 then some y14 else bd1 (f_MScriptRows_formSize M15) fun (x20 : Int32) => jn0 (fun (_ : Unit) => some 7) fun k21 => if x20 < 0 then k21 () else bd1 (f_MScriptRows_formSize M15) fun (x22 : Int32) => if x22 ≤ 400 then some y14 else k21 ()) fun (y25 : Int32) => bd2 (if ¬ y25 = 0 then some (y25, M15) else if ¬ p0 = 59 then some (y25, M15) else bd2 (f_MScriptRows_tryField M15) fun (x30 : Int32) (M30 : im_M) => some (x30, M30)) fun (y31 : Int32) (M32 : im_M) => bd1 (if ¬ y31 = 0 then some y31 else if ¬ p0 = 85 then some y31 else gd (inb 0 4) <| gd (inb (im_i M32 78 (Int32.toNatClampNeg 0)) 8) <| jn0 (fun (_ : Unit) => some 9) fun k37 => if (im_i M32 74 (Int32.toNatClampNeg (im_i M32 78 (Int32.toNatClampNeg 0)))) = 0 then k37 () else if ¬ (im_i M32 71 9) = 4 then some y31 else k37 ()) fun (y40 : Int32) => if ¬ ((if ¬ y40 = 0 then y40 else (if ¬ p0 = 69 then y40 else (if 12 < ((im_i M32 71 35) + (im_i M32 71 21)) then 10 else (if ((im_i M32 71 37) + ((im_i M32 71 21) * (im_i M32 71 26))) ≤ 120 then y40 else 10)))) : Int32) = 0 then some (((if ¬ y40 = 0 then y40 else (if ¬ p0 = 69 then y40 else (if 12 < ((im_i M32 71 35) + (im_i M32 71 21)) then 10 else (if ((im_i M32 71 37) + ((im_i M32 71 21) * (im_i M32 71 26))) ≤ 120 then y40 else 10)))) : Int32), M32) else if ¬ (im_i M32 71 11) = 2000 then some (((if ¬ y40 = 0 then y40 else (if ¬ p0 = 69 then y40 else (if 12 < ((im_i M32 71 35) + (im_i M32 71 21)) then 10 else (if ((im_i M32 71 37) + ((im_i M32 71 21) * (im_i M32 71 26))) ≤ 120 then y40 else 10)))) : Int32), M32) else some (10, M32) else some (3, M) else some (2, M)
theorem J_MScriptRows_test_d0 : decode J_MScriptRows_test.2.1 0 = .ok (.iload_n 1, 1) := by decide +kernel
theorem J_MScriptRows_test_d1 : decode J_MScriptRows_test.2.1 1 = .ok (.invokestatic 88, 3) := by decide +kernel
theorem J_MScriptRows_test_d4 : decode J_MScriptRows_test.2.1 4 = .ok (.ifCond .ge 5, 3) := by decide +kernel
theorem J_MScriptRows_test_d7 : decode J_MScriptRows_test.2.1 7 = .ok (.iconst 2, 1) := by decide +kernel
theorem J_MScriptRows_test_d8 : decode J_MScriptRows_test.2.1 8 = .ok (.ireturn, 1) := by decide +kernel
theorem J_MScriptRows_test_d9 : decode J_MScriptRows_test.2.1 9 = .ok (.aload_n 0, 1) := by decide +kernel
theorem J_MScriptRows_test_d10 : decode J_MScriptRows_test.2.1 10 = .ok (.iload_n 1, 1) := by decide +kernel
theorem J_MScriptRows_test_d11 : decode J_MScriptRows_test.2.1 11 = .ok (.invokevirtual 186, 3) := by decide +kernel
theorem J_MScriptRows_test_d14 : decode J_MScriptRows_test.2.1 14 = .ok (.ifCond .ne 5, 3) := by decide +kernel
theorem J_MScriptRows_test_d17 : decode J_MScriptRows_test.2.1 17 = .ok (.iconst 3, 1) := by decide +kernel
theorem J_MScriptRows_test_d18 : decode J_MScriptRows_test.2.1 18 = .ok (.ireturn, 1) := by decide +kernel
theorem J_MScriptRows_test_d19 : decode J_MScriptRows_test.2.1 19 = .ok (.aload_n 0, 1) := by decide +kernel
theorem J_MScriptRows_test_d20 : decode J_MScriptRows_test.2.1 20 = .ok (.iload_n 1, 1) := by decide +kernel
theorem J_MScriptRows_test_d21 : decode J_MScriptRows_test.2.1 21 = .ok (.invokevirtual 189, 3) := by decide +kernel
theorem J_MScriptRows_test_d24 : decode J_MScriptRows_test.2.1 24 = .ok (.istore_n 2, 1) := by decide +kernel
theorem J_MScriptRows_test_d25 : decode J_MScriptRows_test.2.1 25 = .ok (.iload_n 2, 1) := by decide +kernel
theorem J_MScriptRows_test_d26 : decode J_MScriptRows_test.2.1 26 = .ok (.ifCond .ne 11, 3) := by decide +kernel
theorem J_MScriptRows_test_d29 : decode J_MScriptRows_test.2.1 29 = .ok (.aload_n 0, 1) := by decide +kernel
theorem J_MScriptRows_test_d30 : decode J_MScriptRows_test.2.1 30 = .ok (.iload_n 1, 1) := by decide +kernel
theorem J_MScriptRows_test_d31 : decode J_MScriptRows_test.2.1 31 = .ok (.invokevirtual 192, 3) := by decide +kernel
theorem J_MScriptRows_test_d34 : decode J_MScriptRows_test.2.1 34 = .ok (.goto 4, 3) := by decide +kernel
theorem J_MScriptRows_test_d37 : decode J_MScriptRows_test.2.1 37 = .ok (.iload_n 2, 1) := by decide +kernel
theorem J_MScriptRows_test_d38 : decode J_MScriptRows_test.2.1 38 = .ok (.istore_n 2, 1) := by decide +kernel
theorem J_MScriptRows_test_d39 : decode J_MScriptRows_test.2.1 39 = .ok (.iload_n 2, 1) := by decide +kernel
theorem J_MScriptRows_test_d40 : decode J_MScriptRows_test.2.1 40 = .ok (.ifCond .ne 20, 3) := by decide +kernel
theorem J_MScriptRows_test_d43 : decode J_MScriptRows_test.2.1 43 = .ok (.iload_n 1, 1) := by decide +kernel
theorem J_MScriptRows_test_d44 : decode J_MScriptRows_test.2.1 44 = .ok (.bipush 88, 2) := by decide +kernel
theorem J_MScriptRows_test_d46 : decode J_MScriptRows_test.2.1 46 = .ok (.if_icmp .eq 9, 3) := by decide +kernel
theorem J_MScriptRows_test_d49 : decode J_MScriptRows_test.2.1 49 = .ok (.iload_n 1, 1) := by decide +kernel
theorem J_MScriptRows_test_d50 : decode J_MScriptRows_test.2.1 50 = .ok (.bipush 75, 2) := by decide +kernel
theorem J_MScriptRows_test_d52 : decode J_MScriptRows_test.2.1 52 = .ok (.if_icmp .ne 8, 3) := by decide +kernel
theorem J_MScriptRows_test_d55 : decode J_MScriptRows_test.2.1 55 = .ok (.aload_n 0, 1) := by decide +kernel
theorem J_MScriptRows_test_d56 : decode J_MScriptRows_test.2.1 56 = .ok (.invokevirtual 195, 3) := by decide +kernel
theorem J_MScriptRows_test_d59 : decode J_MScriptRows_test.2.1 59 = .ok (.istore_n 2, 1) := by decide +kernel
theorem J_MScriptRows_test_d60 : decode J_MScriptRows_test.2.1 60 = .ok (.iload_n 2, 1) := by decide +kernel
theorem J_MScriptRows_test_d61 : decode J_MScriptRows_test.2.1 61 = .ok (.ifCond .ne 29, 3) := by decide +kernel
theorem J_MScriptRows_test_d64 : decode J_MScriptRows_test.2.1 64 = .ok (.iload_n 1, 1) := by decide +kernel
theorem J_MScriptRows_test_d65 : decode J_MScriptRows_test.2.1 65 = .ok (.bipush 83, 2) := by decide +kernel
theorem J_MScriptRows_test_d67 : decode J_MScriptRows_test.2.1 67 = .ok (.if_icmp .ne 23, 3) := by decide +kernel
theorem J_MScriptRows_test_d70 : decode J_MScriptRows_test.2.1 70 = .ok (.aload_n 0, 1) := by decide +kernel
theorem J_MScriptRows_test_d71 : decode J_MScriptRows_test.2.1 71 = .ok (.invokevirtual 198, 3) := by decide +kernel
theorem J_MScriptRows_test_d74 : decode J_MScriptRows_test.2.1 74 = .ok (.ifCond .lt 13, 3) := by decide +kernel
theorem J_MScriptRows_test_d77 : decode J_MScriptRows_test.2.1 77 = .ok (.aload_n 0, 1) := by decide +kernel
theorem J_MScriptRows_test_d78 : decode J_MScriptRows_test.2.1 78 = .ok (.invokevirtual 198, 3) := by decide +kernel
theorem J_MScriptRows_test_d81 : decode J_MScriptRows_test.2.1 81 = .ok (.sipush 400, 3) := by decide +kernel
theorem J_MScriptRows_test_d84 : decode J_MScriptRows_test.2.1 84 = .ok (.if_icmp .le 6, 3) := by decide +kernel
theorem J_MScriptRows_test_d87 : decode J_MScriptRows_test.2.1 87 = .ok (.bipush 7, 2) := by decide +kernel
theorem J_MScriptRows_test_d89 : decode J_MScriptRows_test.2.1 89 = .ok (.istore_n 2, 1) := by decide +kernel
theorem J_MScriptRows_test_d90 : decode J_MScriptRows_test.2.1 90 = .ok (.iload_n 2, 1) := by decide +kernel
theorem J_MScriptRows_test_d91 : decode J_MScriptRows_test.2.1 91 = .ok (.ifCond .ne 14, 3) := by decide +kernel
theorem J_MScriptRows_test_d94 : decode J_MScriptRows_test.2.1 94 = .ok (.iload_n 1, 1) := by decide +kernel
theorem J_MScriptRows_test_d95 : decode J_MScriptRows_test.2.1 95 = .ok (.bipush 59, 2) := by decide +kernel
theorem J_MScriptRows_test_d97 : decode J_MScriptRows_test.2.1 97 = .ok (.if_icmp .ne 8, 3) := by decide +kernel
theorem J_MScriptRows_test_d100 : decode J_MScriptRows_test.2.1 100 = .ok (.aload_n 0, 1) := by decide +kernel
theorem J_MScriptRows_test_d101 : decode J_MScriptRows_test.2.1 101 = .ok (.invokevirtual 201, 3) := by decide +kernel
theorem J_MScriptRows_test_d104 : decode J_MScriptRows_test.2.1 104 = .ok (.istore_n 2, 1) := by decide +kernel
theorem J_MScriptRows_test_d105 : decode J_MScriptRows_test.2.1 105 = .ok (.iload_n 2, 1) := by decide +kernel
theorem J_MScriptRows_test_d106 : decode J_MScriptRows_test.2.1 106 = .ok (.ifCond .ne 34, 3) := by decide +kernel
theorem J_MScriptRows_test_d109 : decode J_MScriptRows_test.2.1 109 = .ok (.iload_n 1, 1) := by decide +kernel
theorem J_MScriptRows_test_d110 : decode J_MScriptRows_test.2.1 110 = .ok (.bipush 85, 2) := by decide +kernel
theorem J_MScriptRows_test_d112 : decode J_MScriptRows_test.2.1 112 = .ok (.if_icmp .ne 28, 3) := by decide +kernel
theorem J_MScriptRows_test_d115 : decode J_MScriptRows_test.2.1 115 = .ok (.aload_n 0, 1) := by decide +kernel
theorem J_MScriptRows_test_d116 : decode J_MScriptRows_test.2.1 116 = .ok (.getfield 16, 3) := by decide +kernel
theorem J_MScriptRows_test_d119 : decode J_MScriptRows_test.2.1 119 = .ok (.aload_n 0, 1) := by decide +kernel
theorem J_MScriptRows_test_d120 : decode J_MScriptRows_test.2.1 120 = .ok (.getfield 32, 3) := by decide +kernel
theorem J_MScriptRows_test_d123 : decode J_MScriptRows_test.2.1 123 = .ok (.iconst 0, 1) := by decide +kernel
theorem J_MScriptRows_test_d124 : decode J_MScriptRows_test.2.1 124 = .ok (.iaload, 1) := by decide +kernel
theorem J_MScriptRows_test_d125 : decode J_MScriptRows_test.2.1 125 = .ok (.iaload, 1) := by decide +kernel
theorem J_MScriptRows_test_d126 : decode J_MScriptRows_test.2.1 126 = .ok (.ifCond .eq 11, 3) := by decide +kernel
theorem J_MScriptRows_test_d129 : decode J_MScriptRows_test.2.1 129 = .ok (.aload_n 0, 1) := by decide +kernel
theorem J_MScriptRows_test_d130 : decode J_MScriptRows_test.2.1 130 = .ok (.getfield 183, 3) := by decide +kernel
theorem J_MScriptRows_test_d133 : decode J_MScriptRows_test.2.1 133 = .ok (.iconst 4, 1) := by decide +kernel
theorem J_MScriptRows_test_d134 : decode J_MScriptRows_test.2.1 134 = .ok (.if_icmp .ne 6, 3) := by decide +kernel
theorem J_MScriptRows_test_d137 : decode J_MScriptRows_test.2.1 137 = .ok (.bipush 9, 2) := by decide +kernel
theorem J_MScriptRows_test_d139 : decode J_MScriptRows_test.2.1 139 = .ok (.istore_n 2, 1) := by decide +kernel
theorem J_MScriptRows_test_d140 : decode J_MScriptRows_test.2.1 140 = .ok (.iload_n 2, 1) := by decide +kernel
theorem J_MScriptRows_test_d141 : decode J_MScriptRows_test.2.1 141 = .ok (.ifCond .ne 45, 3) := by decide +kernel
theorem J_MScriptRows_test_d144 : decode J_MScriptRows_test.2.1 144 = .ok (.iload_n 1, 1) := by decide +kernel
theorem J_MScriptRows_test_d145 : decode J_MScriptRows_test.2.1 145 = .ok (.bipush 69, 2) := by decide +kernel
theorem J_MScriptRows_test_d147 : decode J_MScriptRows_test.2.1 147 = .ok (.if_icmp .ne 39, 3) := by decide +kernel
theorem J_MScriptRows_test_d150 : decode J_MScriptRows_test.2.1 150 = .ok (.aload_n 0, 1) := by decide +kernel
theorem J_MScriptRows_test_d151 : decode J_MScriptRows_test.2.1 151 = .ok (.getfield 204, 3) := by decide +kernel
theorem J_MScriptRows_test_d154 : decode J_MScriptRows_test.2.1 154 = .ok (.aload_n 0, 1) := by decide +kernel
theorem J_MScriptRows_test_d155 : decode J_MScriptRows_test.2.1 155 = .ok (.getfield 207, 3) := by decide +kernel
theorem J_MScriptRows_test_d158 : decode J_MScriptRows_test.2.1 158 = .ok (.iadd, 1) := by decide +kernel
theorem J_MScriptRows_test_d159 : decode J_MScriptRows_test.2.1 159 = .ok (.bipush 12, 2) := by decide +kernel
theorem J_MScriptRows_test_d161 : decode J_MScriptRows_test.2.1 161 = .ok (.if_icmp .gt 22, 3) := by decide +kernel
theorem J_MScriptRows_test_d164 : decode J_MScriptRows_test.2.1 164 = .ok (.aload_n 0, 1) := by decide +kernel
theorem J_MScriptRows_test_d165 : decode J_MScriptRows_test.2.1 165 = .ok (.getfield 155, 3) := by decide +kernel
theorem J_MScriptRows_test_d168 : decode J_MScriptRows_test.2.1 168 = .ok (.aload_n 0, 1) := by decide +kernel
theorem J_MScriptRows_test_d169 : decode J_MScriptRows_test.2.1 169 = .ok (.getfield 207, 3) := by decide +kernel
theorem J_MScriptRows_test_d172 : decode J_MScriptRows_test.2.1 172 = .ok (.aload_n 0, 1) := by decide +kernel
theorem J_MScriptRows_test_d173 : decode J_MScriptRows_test.2.1 173 = .ok (.getfield 123, 3) := by decide +kernel
theorem J_MScriptRows_test_d176 : decode J_MScriptRows_test.2.1 176 = .ok (.imul, 1) := by decide +kernel
theorem J_MScriptRows_test_d177 : decode J_MScriptRows_test.2.1 177 = .ok (.iadd, 1) := by decide +kernel
theorem J_MScriptRows_test_d178 : decode J_MScriptRows_test.2.1 178 = .ok (.bipush 120, 2) := by decide +kernel
theorem J_MScriptRows_test_d180 : decode J_MScriptRows_test.2.1 180 = .ok (.if_icmp .le 6, 3) := by decide +kernel
theorem J_MScriptRows_test_d183 : decode J_MScriptRows_test.2.1 183 = .ok (.bipush 10, 2) := by decide +kernel
theorem J_MScriptRows_test_d185 : decode J_MScriptRows_test.2.1 185 = .ok (.istore_n 2, 1) := by decide +kernel
theorem J_MScriptRows_test_d186 : decode J_MScriptRows_test.2.1 186 = .ok (.iload_n 2, 1) := by decide +kernel
theorem J_MScriptRows_test_d187 : decode J_MScriptRows_test.2.1 187 = .ok (.ifCond .ne 18, 3) := by decide +kernel
theorem J_MScriptRows_test_d190 : decode J_MScriptRows_test.2.1 190 = .ok (.aload_n 0, 1) := by decide +kernel
theorem J_MScriptRows_test_d191 : decode J_MScriptRows_test.2.1 191 = .ok (.getfield 210, 3) := by decide +kernel
theorem J_MScriptRows_test_d194 : decode J_MScriptRows_test.2.1 194 = .ok (.sipush 2000, 3) := by decide +kernel
theorem J_MScriptRows_test_d197 : decode J_MScriptRows_test.2.1 197 = .ok (.if_icmp .ne 8, 3) := by decide +kernel
theorem J_MScriptRows_test_d200 : decode J_MScriptRows_test.2.1 200 = .ok (.bipush 10, 2) := by decide +kernel
theorem J_MScriptRows_test_d202 : decode J_MScriptRows_test.2.1 202 = .ok (.goto 4, 3) := by decide +kernel
theorem J_MScriptRows_test_d205 : decode J_MScriptRows_test.2.1 205 = .ok (.iload_n 2, 1) := by decide +kernel
theorem J_MScriptRows_test_d206 : decode J_MScriptRows_test.2.1 206 = .ok (.ireturn, 1) := by decide +kernel
theorem f_MScriptRows_test_ok {L : Nat} {xs : Nat → Int32} {dep : Nat} {w : Bool} {p0 : Int32} {M : im_M} {Q : Int32 × im_M → Prop} (hM : lw_S w M) (h : ed (f_MScriptRows_test p0 M) Q) : ia (tb_G L xs) (dep + 8) J_MScriptRows_test (rwI w Q) (0, lv_args 0 [.ref 71, .int p0], [], M) := by
  have hS : im_St (tb_G L xs) (dep + 8) J_MScriptRows_test (ia (tb_G L xs) (dep + 8) J_MScriptRows_test (rwI w Q)) := ia_St
  unfold f_MScriptRows_test at h
  have l0 : im_lk (lv_args 0 [.ref 71, .int p0]) 0 = some (.ref 71) := rfl
  have l1 : im_lk (lv_args 0 [.ref 71, .int p0]) 1 = some (.int p0) := rfl
  refine iq_iload_n hS 1 J_MScriptRows_test_d0 l1 rfl ?_
  obtain ⟨Q1, hQ1, h⟩ := bd1_ed h
  refine iq_cpI hS 4 J_MScriptRows_test_d1 rfl (pr_stat (vs := [_]) lc_15_88 lT_285 rfl rfl (by decide) rfl (Nat.le_of_ble_eq_true rfl) (Nat.le_of_ble_eq_true rfl)) (f_MScriptRows_numbers_ok (dep := dep + 7) hM h) rfl ?_
  intro x1 h
  replace h := hQ1 _ h
  refine iq_if_ge hS 7 J_MScriptRows_test_d4 (t := 9) rfl (fun q4 => ?_) rfl (fun q4 => ?_)
  · replace h := ed_pos q4 h
    refine iq_aload_n hS 10 J_MScriptRows_test_d9 l0 rfl ?_
    refine iq_iload_n hS 11 J_MScriptRows_test_d10 l1 rfl ?_
    obtain ⟨Q2, hQ2, h⟩ := bd1_ed h
    refine iq_cpI hS 14 J_MScriptRows_test_d11 rfl (pr_inst (vs := [_]) lc_15_186 lT_286 rfl rfl (by decide) (by decide) rfl (Nat.le_of_ble_eq_true rfl) (Nat.le_of_ble_eq_true rfl) (fun _ => Or.inl (pr_b (ka_71 hM) (by decide) rfl))) (f_MScriptRows_mayStand_ok (dep := dep + 7) hM h) rfl ?_
    intro x2 h
    replace h := hQ2 _ h
    refine iq_if_ne hS 17 J_MScriptRows_test_d14 (t := 19) rfl (fun q14 => ?_) rfl (fun q14 => ?_)
    · replace h := ed_pos q14 h
      refine iq_aload_n hS 20 J_MScriptRows_test_d19 l0 rfl ?_
      refine iq_iload_n hS 21 J_MScriptRows_test_d20 l1 rfl ?_
      obtain ⟨Q3, hQ3, h⟩ := bd2_ed h
      refine iq_cwI hS 24 J_MScriptRows_test_d21 rfl (pr_inst (vs := [_]) lc_15_189 lT_287 rfl rfl (by decide) (by decide) rfl (Nat.le_of_ble_eq_true rfl) (Nat.le_of_ble_eq_true rfl) (fun _ => Or.inl (pr_b (ka_71 hM) (by decide) rfl))) (f_MScriptRows_takeNumbers_ok (dep := dep + 5) hM h) rfl ?_
      intro x3 M3 hM3 h
      replace h := hQ3 _ _ h
      refine iq_istore_n hS 25 J_MScriptRows_test_d24 (by decide) rfl ?_
      refine iq_iload_n hS 26 J_MScriptRows_test_d25 lk_1s rfl ?_
      obtain ⟨Q4, hQ4, h⟩ := bd1_ed h
      have J4 : ∀ (y6 : Int32) (L' : List (Nat × Value)), im_lk L' 0 = some (.ref 71) → im_lk L' 1 = some (.int p0) → Q4 y6 → ia (tb_G L xs) (dep + 8) J_MScriptRows_test (rwI w Q) (38, L', [.int y6], M3) := by
        intro y6 L' l7 l8 h
        replace h := hQ4 _ h
        refine iq_istore_n hS 39 J_MScriptRows_test_d38 (by decide) rfl ?_
        refine iq_iload_n hS 40 J_MScriptRows_test_d39 lk_1s rfl ?_
        obtain ⟨Q9, hQ9, h⟩ := bd2_ed h
        have J9 : ∀ (y14 : Int32) (M15 : im_M) (L' : List (Nat × Value)), lw_S w M15 → im_lk L' 0 = some (.ref 71) → im_lk L' 1 = some (.int p0) → im_lk L' 2 = some (.int y14) → Q9 (y14, M15) → ia (tb_G L xs) (dep + 8) J_MScriptRows_test (rwI w Q) (60, L', [], M15) := by
          intro y14 M15 L' hM15 l16 l17 l18 h
          replace h := hQ9 _ _ h
          refine iq_iload_n hS 61 J_MScriptRows_test_d60 l18 rfl ?_
          obtain ⟨Q19, hQ19, h⟩ := bd1_ed h
          have J19 : ∀ (y25 : Int32) (L' : List (Nat × Value)), im_lk L' 0 = some (.ref 71) → im_lk L' 1 = some (.int p0) → im_lk L' 2 = some (.int y25) → Q19 y25 → ia (tb_G L xs) (dep + 8) J_MScriptRows_test (rwI w Q) (90, L', [], M15) := by
            intro y25 L' l26 l27 l28 h
            replace h := hQ19 _ h
            refine iq_iload_n hS 91 J_MScriptRows_test_d90 l28 rfl ?_
            obtain ⟨Q29, hQ29, h⟩ := bd2_ed h
            have J29 : ∀ (y31 : Int32) (M32 : im_M) (L' : List (Nat × Value)), lw_S w M32 → im_lk L' 0 = some (.ref 71) → im_lk L' 1 = some (.int p0) → im_lk L' 2 = some (.int y31) → Q29 (y31, M32) → ia (tb_G L xs) (dep + 8) J_MScriptRows_test (rwI w Q) (105, L', [], M32) := by
              intro y31 M32 L' hM32 l33 l34 l35 h
              replace h := hQ29 _ _ h
              refine iq_iload_n hS 106 J_MScriptRows_test_d105 l35 rfl ?_
              obtain ⟨Q36, hQ36, h⟩ := bd1_ed h
              have J36 : ∀ (y40 : Int32) (L' : List (Nat × Value)), im_lk L' 0 = some (.ref 71) → im_lk L' 1 = some (.int p0) → im_lk L' 2 = some (.int y40) → Q36 y40 → ia (tb_G L xs) (dep + 8) J_MScriptRows_test (rwI w Q) (140, L', [], M32) := by
                intro y40 L' l41 l42 l43 h
                replace h := hQ36 _ h
                refine iq_iload_n hS 141 J_MScriptRows_test_d140 l43 rfl ?_
                have J44 : ∀ (z45 : Int32) (L' : List (Nat × Value)), z45 = ((if ¬ y40 = 0 then y40 else (if ¬ p0 = 69 then y40 else (if 12 < ((im_i M32 71 35) + (im_i M32 71 21)) then 10 else (if ((im_i M32 71 37) + ((im_i M32 71 21) * (im_i M32 71 26))) ≤ 120 then y40 else 10)))) : Int32) → im_lk L' 0 = some (.ref 71) → im_lk L' 2 = some (.int z45) → ia (tb_G L xs) (dep + 8) J_MScriptRows_test (rwI w Q) (186, L', [], M32) := by
                  intro z45 L' e46 l47 l48
                  subst e46
                  refine iq_iload_n hS 187 J_MScriptRows_test_d186 l48 rfl ?_
                  refine iq_if_ne hS 190 J_MScriptRows_test_d187 (t := 205) rfl (fun q187 => ?_) rfl (fun q187 => ?_)
                  · replace h := ed_pos q187 h
                    refine iq_iload_n hS 206 J_MScriptRows_test_d205 l48 rfl ?_
                    exact iq_iret J_MScriptRows_test_d206 rfl rfl ⟨_, rfl, hM32, ed_some h⟩
                  · replace h := ed_neg q187 h
                    refine iq_aload_n hS 191 J_MScriptRows_test_d190 l47 rfl ?_
                    refine iq_getI hS 194 J_MScriptRows_test_d191 lf_15_210 (Or.inl rfl) (ka_71 hM32) rfl ?_
                    refine iq_sipush hS 197 J_MScriptRows_test_d194 (v := 2000) (by decide +kernel) rfl ?_
                    refine iq_icmp_ne hS 200 J_MScriptRows_test_d197 (t := 205) rfl (fun q197 => ?_) rfl (fun q197 => ?_)
                    · replace h := ed_pos q197 h
                      refine iq_iload_n hS 206 J_MScriptRows_test_d205 l48 rfl ?_
                      exact iq_iret J_MScriptRows_test_d206 rfl rfl ⟨_, rfl, hM32, ed_some h⟩
                    · replace h := ed_neg q197 h
                      refine iq_bipush hS 202 J_MScriptRows_test_d200 (v := 10) (by decide +kernel) rfl ?_
                      refine iq_goto hS J_MScriptRows_test_d202 (t := 206) rfl ?_
                      exact iq_iret J_MScriptRows_test_d206 rfl rfl ⟨_, rfl, hM32, ed_some h⟩
                refine iq_if_ne hS 144 J_MScriptRows_test_d141 (t := 186) rfl (fun q141 => ?_) rfl (fun q141 => ?_)
                · exact J44 _ _ (by simp only [if_pos q141]) l41 l43
                · refine iq_iload_n hS 145 J_MScriptRows_test_d144 l42 rfl ?_
                  refine iq_bipush hS 147 J_MScriptRows_test_d145 (v := 69) (by decide +kernel) rfl ?_
                  refine iq_icmp_ne hS 150 J_MScriptRows_test_d147 (t := 186) rfl (fun q147 => ?_) rfl (fun q147 => ?_)
                  · exact J44 _ _ (by simp only [if_neg q141, if_pos q147]) l41 l43
                  · refine iq_aload_n hS 151 J_MScriptRows_test_d150 l41 rfl ?_
                    refine iq_getI hS 154 J_MScriptRows_test_d151 lf_15_204 (Or.inl rfl) (ka_71 hM32) rfl ?_
                    refine iq_aload_n hS 155 J_MScriptRows_test_d154 l41 rfl ?_
                    refine iq_getI hS 158 J_MScriptRows_test_d155 lf_15_207 (Or.inl rfl) (ka_71 hM32) rfl ?_
                    refine iq_iadd hS 159 J_MScriptRows_test_d158 rfl ?_
                    refine iq_bipush hS 161 J_MScriptRows_test_d159 (v := 12) (by decide +kernel) rfl ?_
                    refine iq_icmp_gt hS 164 J_MScriptRows_test_d161 (t := 183) rfl (fun q161 => ?_) rfl (fun q161 => ?_)
                    · refine iq_bipush hS 185 J_MScriptRows_test_d183 (v := 10) (by decide +kernel) rfl ?_
                      refine iq_istore_n hS 186 J_MScriptRows_test_d185 (by decide) rfl ?_
                      exact J44 _ _ (by simp only [if_neg q141, if_neg q147, if_pos q161]) (lk_1r l41 (by decide)) lk_1s
                    · refine iq_aload_n hS 165 J_MScriptRows_test_d164 l41 rfl ?_
                      refine iq_getI hS 168 J_MScriptRows_test_d165 lf_15_155 (Or.inl rfl) (ka_71 hM32) rfl ?_
                      refine iq_aload_n hS 169 J_MScriptRows_test_d168 l41 rfl ?_
                      refine iq_getI hS 172 J_MScriptRows_test_d169 lf_15_207 (Or.inl rfl) (ka_71 hM32) rfl ?_
                      refine iq_aload_n hS 173 J_MScriptRows_test_d172 l41 rfl ?_
                      refine iq_getI hS 176 J_MScriptRows_test_d173 lf_15_123 (Or.inl rfl) (ka_71 hM32) rfl ?_
                      refine iq_imul hS 177 J_MScriptRows_test_d176 rfl ?_
                      refine iq_iadd hS 178 J_MScriptRows_test_d177 rfl ?_
                      refine iq_bipush hS 180 J_MScriptRows_test_d178 (v := 120) (by decide +kernel) rfl ?_
                      refine iq_icmp_le hS 183 J_MScriptRows_test_d180 (t := 186) rfl (fun q180 => ?_) rfl (fun q180 => ?_)
                      · exact J44 _ _ (by simp only [if_neg q141, if_neg q147, if_neg q161, if_pos q180]) l41 l43
                      · refine iq_bipush hS 185 J_MScriptRows_test_d183 (v := 10) (by decide +kernel) rfl ?_
                        refine iq_istore_n hS 186 J_MScriptRows_test_d185 (by decide) rfl ?_
                        exact J44 _ _ (by simp only [if_neg q141, if_neg q147, if_neg q161, if_neg q180]) (lk_1r l41 (by decide)) lk_1s
              refine iq_if_ne hS 109 J_MScriptRows_test_d106 (t := 140) rfl (fun q106 => ?_) rfl (fun q106 => ?_)
              · replace h := ed_pos q106 h
                exact J36 _ _ l33 l34 l35 (ed_some h)
              · replace h := ed_neg q106 h
                refine iq_iload_n hS 110 J_MScriptRows_test_d109 l34 rfl ?_
                refine iq_bipush hS 112 J_MScriptRows_test_d110 (v := 85) (by decide +kernel) rfl ?_
                refine iq_icmp_ne hS 115 J_MScriptRows_test_d112 (t := 140) rfl (fun q112 => ?_) rfl (fun q112 => ?_)
                · replace h := ed_pos q112 h
                  exact J36 _ _ l33 l34 l35 (ed_some h)
                · replace h := ed_neg q112 h
                  refine iq_aload_n hS 116 J_MScriptRows_test_d115 l33 rfl ?_
                  refine iq_getR hS 119 J_MScriptRows_test_d116 lf_15_16 (Or.inr ⟨_, rfl⟩) (ka_71 hM32) (ra_71_4 hM32) rfl ?_
                  refine iq_aload_n hS 120 J_MScriptRows_test_d119 l33 rfl ?_
                  refine iq_getR hS 123 J_MScriptRows_test_d120 lf_15_32 (Or.inr ⟨_, rfl⟩) (ka_71 hM32) (ra_71_15 hM32) rfl ?_
                  refine iq_iconst hS 124 J_MScriptRows_test_d123 (v := 0) (by decide +kernel) rfl ?_
                  obtain ⟨g124, h⟩ := ed_gd h
                  refine iq_iaload hS 125 J_MScriptRows_test_d124 ⟨(ka_78 hM32).1, (ka_78 hM32).2, g124.1, ix_lt (kl_78 hM32) g124.2⟩ rfl ?_
                  obtain ⟨g125, h⟩ := ed_gd h
                  refine iq_iaload hS 126 J_MScriptRows_test_d125 ⟨(ka_74 hM32).1, (ka_74 hM32).2, g125.1, ix_lt (kl_74 hM32) g125.2⟩ rfl ?_
                  obtain ⟨k37, Q37, hQ37, hk37, h⟩ := jn0_ed h
                  have J37 : ∀  (L' : List (Nat × Value)), im_lk L' 0 = some (.ref 71) → im_lk L' 1 = some (.int p0) → Q37 () → ia (tb_G L xs) (dep + 8) J_MScriptRows_test (rwI w Q) (137, L', [], M32) := by
                    intro  L' l38 l39 h
                    replace h := hQ37  h
                    refine iq_bipush hS 139 J_MScriptRows_test_d137 (v := 9) (by decide +kernel) rfl ?_
                    refine iq_istore_n hS 140 J_MScriptRows_test_d139 (by decide) rfl ?_
                    exact J36 _ _ (lk_1r l38 (by decide)) (lk_1i l39 (by decide)) lk_1s (ed_some h)
                  refine iq_if_eq hS 129 J_MScriptRows_test_d126 (t := 137) rfl (fun q126 => ?_) rfl (fun q126 => ?_)
                  · replace h := ed_pos q126 h
                    exact J37  _ l33 l34 (hk37  h)
                  · replace h := ed_neg q126 h
                    refine iq_aload_n hS 130 J_MScriptRows_test_d129 l33 rfl ?_
                    refine iq_getI hS 133 J_MScriptRows_test_d130 lf_15_183 (Or.inl rfl) (ka_71 hM32) rfl ?_
                    refine iq_iconst hS 134 J_MScriptRows_test_d133 (v := 4) (by decide +kernel) rfl ?_
                    refine iq_icmp_ne hS 137 J_MScriptRows_test_d134 (t := 140) rfl (fun q134 => ?_) rfl (fun q134 => ?_)
                    · replace h := ed_pos q134 h
                      exact J36 _ _ l33 l34 l35 (ed_some h)
                    · replace h := ed_neg q134 h
                      exact J37  _ l33 l34 (hk37  h)
            refine iq_if_ne hS 94 J_MScriptRows_test_d91 (t := 105) rfl (fun q91 => ?_) rfl (fun q91 => ?_)
            · replace h := ed_pos q91 h
              exact J29 _ _ _ hM15 l26 l27 l28 (ed_some h)
            · replace h := ed_neg q91 h
              refine iq_iload_n hS 95 J_MScriptRows_test_d94 l27 rfl ?_
              refine iq_bipush hS 97 J_MScriptRows_test_d95 (v := 59) (by decide +kernel) rfl ?_
              refine iq_icmp_ne hS 100 J_MScriptRows_test_d97 (t := 105) rfl (fun q97 => ?_) rfl (fun q97 => ?_)
              · replace h := ed_pos q97 h
                exact J29 _ _ _ hM15 l26 l27 l28 (ed_some h)
              · replace h := ed_neg q97 h
                refine iq_aload_n hS 101 J_MScriptRows_test_d100 l26 rfl ?_
                obtain ⟨Q30, hQ30, h⟩ := bd2_ed h
                refine iq_cwI hS 104 J_MScriptRows_test_d101 rfl (pr_inst (vs := []) lc_15_201 lT_296 rfl rfl (by decide) (by decide) rfl (Nat.le_of_ble_eq_true rfl) (Nat.le_of_ble_eq_true rfl) (fun _ => Or.inl (pr_b (ka_71 hM15) (by decide) rfl))) (f_MScriptRows_tryField_ok (dep := dep + 0) hM15 h) rfl ?_
                intro x30 M30 hM30 h
                replace h := hQ30 _ _ h
                refine iq_istore_n hS 105 J_MScriptRows_test_d104 (by decide) rfl ?_
                exact J29 _ _ _ hM30 (lk_1r l26 (by decide)) (lk_1i l27 (by decide)) lk_1s (ed_some h)
          refine iq_if_ne hS 64 J_MScriptRows_test_d61 (t := 90) rfl (fun q61 => ?_) rfl (fun q61 => ?_)
          · replace h := ed_pos q61 h
            exact J19 _ _ l16 l17 l18 (ed_some h)
          · replace h := ed_neg q61 h
            refine iq_iload_n hS 65 J_MScriptRows_test_d64 l17 rfl ?_
            refine iq_bipush hS 67 J_MScriptRows_test_d65 (v := 83) (by decide +kernel) rfl ?_
            refine iq_icmp_ne hS 70 J_MScriptRows_test_d67 (t := 90) rfl (fun q67 => ?_) rfl (fun q67 => ?_)
            · replace h := ed_pos q67 h
              exact J19 _ _ l16 l17 l18 (ed_some h)
            · replace h := ed_neg q67 h
              refine iq_aload_n hS 71 J_MScriptRows_test_d70 l16 rfl ?_
              obtain ⟨Q20, hQ20, h⟩ := bd1_ed h
              refine iq_cpI hS 74 J_MScriptRows_test_d71 rfl (pr_inst (vs := []) lc_15_198 lT_295 rfl rfl (by decide) (by decide) rfl (Nat.le_of_ble_eq_true rfl) (Nat.le_of_ble_eq_true rfl) (fun _ => Or.inl (pr_b (ka_71 hM15) (by decide) rfl))) (f_MScriptRows_formSize_ok (dep := dep + 7) hM15 h) rfl ?_
              intro x20 h
              replace h := hQ20 _ h
              obtain ⟨k21, Q21, hQ21, hk21, h⟩ := jn0_ed h
              have J21 : ∀  (L' : List (Nat × Value)), im_lk L' 0 = some (.ref 71) → im_lk L' 1 = some (.int p0) → Q21 () → ia (tb_G L xs) (dep + 8) J_MScriptRows_test (rwI w Q) (87, L', [], M15) := by
                intro  L' l23 l24 h
                replace h := hQ21  h
                refine iq_bipush hS 89 J_MScriptRows_test_d87 (v := 7) (by decide +kernel) rfl ?_
                refine iq_istore_n hS 90 J_MScriptRows_test_d89 (by decide) rfl ?_
                exact J19 _ _ (lk_1r l23 (by decide)) (lk_1i l24 (by decide)) lk_1s (ed_some h)
              refine iq_if_lt hS 77 J_MScriptRows_test_d74 (t := 87) rfl (fun q74 => ?_) rfl (fun q74 => ?_)
              · replace h := ed_pos q74 h
                exact J21  _ l16 l17 (hk21  h)
              · replace h := ed_neg q74 h
                refine iq_aload_n hS 78 J_MScriptRows_test_d77 l16 rfl ?_
                obtain ⟨Q22, hQ22, h⟩ := bd1_ed h
                refine iq_cpI hS 81 J_MScriptRows_test_d78 rfl (pr_inst (vs := []) lc_15_198 lT_295 rfl rfl (by decide) (by decide) rfl (Nat.le_of_ble_eq_true rfl) (Nat.le_of_ble_eq_true rfl) (fun _ => Or.inl (pr_b (ka_71 hM15) (by decide) rfl))) (f_MScriptRows_formSize_ok (dep := dep + 7) hM15 h) rfl ?_
                intro x22 h
                replace h := hQ22 _ h
                refine iq_sipush hS 84 J_MScriptRows_test_d81 (v := 400) (by decide +kernel) rfl ?_
                refine iq_icmp_le hS 87 J_MScriptRows_test_d84 (t := 90) rfl (fun q84 => ?_) rfl (fun q84 => ?_)
                · replace h := ed_pos q84 h
                  exact J19 _ _ l16 l17 l18 (ed_some h)
                · replace h := ed_neg q84 h
                  exact J21  _ l16 l17 (hk21  h)
        refine iq_if_ne hS 43 J_MScriptRows_test_d40 (t := 60) rfl (fun q40 => ?_) rfl (fun q40 => ?_)
        · replace h := ed_pos q40 h
          exact J9 _ _ _ hM3 (lk_1r l7 (by decide)) (lk_1i l8 (by decide)) lk_1s (ed_some h)
        · replace h := ed_neg q40 h
          refine iq_iload_n hS 44 J_MScriptRows_test_d43 (lk_1i l8 (by decide)) rfl ?_
          refine iq_bipush hS 46 J_MScriptRows_test_d44 (v := 88) (by decide +kernel) rfl ?_
          obtain ⟨k10, Q10, hQ10, hk10, h⟩ := jn0_ed h
          have J10 : ∀  (L' : List (Nat × Value)), im_lk L' 0 = some (.ref 71) → im_lk L' 1 = some (.int p0) → Q10 () → ia (tb_G L xs) (dep + 8) J_MScriptRows_test (rwI w Q) (55, L', [], M3) := by
            intro  L' l11 l12 h
            replace h := hQ10  h
            refine iq_aload_n hS 56 J_MScriptRows_test_d55 l11 rfl ?_
            obtain ⟨Q13, hQ13, h⟩ := bd2_ed h
            refine iq_cwI hS 59 J_MScriptRows_test_d56 rfl (pr_inst (vs := []) lc_15_195 lT_293 rfl rfl (by decide) (by decide) rfl (Nat.le_of_ble_eq_true rfl) (Nat.le_of_ble_eq_true rfl) (fun _ => Or.inl (pr_b (ka_71 hM3) (by decide) rfl))) (f_MScriptRows_takeData_ok (dep := dep + 5) hM3 h) rfl ?_
            intro x13 M13 hM13 h
            replace h := hQ13 _ _ h
            refine iq_istore_n hS 60 J_MScriptRows_test_d59 (by decide) rfl ?_
            exact J9 _ _ _ hM13 (lk_1r l11 (by decide)) (lk_1i l12 (by decide)) lk_1s (ed_some h)
          refine iq_icmp_eq hS 49 J_MScriptRows_test_d46 (t := 55) rfl (fun q46 => ?_) rfl (fun q46 => ?_)
          · replace h := ed_pos q46 h
            exact J10  _ (lk_1r l7 (by decide)) (lk_1i l8 (by decide)) (hk10  h)
          · replace h := ed_neg q46 h
            refine iq_iload_n hS 50 J_MScriptRows_test_d49 (lk_1i l8 (by decide)) rfl ?_
            refine iq_bipush hS 52 J_MScriptRows_test_d50 (v := 75) (by decide +kernel) rfl ?_
            refine iq_icmp_ne hS 55 J_MScriptRows_test_d52 (t := 60) rfl (fun q52 => ?_) rfl (fun q52 => ?_)
            · replace h := ed_pos q52 h
              exact J9 _ _ _ hM3 (lk_1r l7 (by decide)) (lk_1i l8 (by decide)) lk_1s (ed_some h)
            · replace h := ed_neg q52 h
              exact J10  _ (lk_1r l7 (by decide)) (lk_1i l8 (by decide)) (hk10  h)
      refine iq_if_ne hS 29 J_MScriptRows_test_d26 (t := 37) rfl (fun q26 => ?_) rfl (fun q26 => ?_)
      · replace h := ed_pos q26 h
        refine iq_iload_n hS 38 J_MScriptRows_test_d37 lk_1s rfl ?_
        exact J4 _ _ (lk_1r l0 (by decide)) (lk_1i l1 (by decide)) (ed_some h)
      · replace h := ed_neg q26 h
        refine iq_aload_n hS 30 J_MScriptRows_test_d29 (lk_1r l0 (by decide)) rfl ?_
        refine iq_iload_n hS 31 J_MScriptRows_test_d30 (lk_1i l1 (by decide)) rfl ?_
        obtain ⟨Q5, hQ5, h⟩ := bd1_ed h
        refine iq_cpI hS 34 J_MScriptRows_test_d31 rfl (pr_inst (vs := [_]) lc_15_192 lT_290 rfl rfl (by decide) (by decide) rfl (Nat.le_of_ble_eq_true rfl) (Nat.le_of_ble_eq_true rfl) (fun _ => Or.inl (pr_b (ka_71 hM3) (by decide) rfl))) (f_MScriptRows_testRanges_ok (dep := dep + 5) hM3 h) rfl ?_
        intro x5 h
        replace h := hQ5 _ h
        refine iq_goto hS J_MScriptRows_test_d34 (t := 38) rfl ?_
        exact J4 _ _ (lk_1r l0 (by decide)) (lk_1i l1 (by decide)) (ed_some h)
    · replace h := ed_neg q14 h
      refine iq_iconst hS 18 J_MScriptRows_test_d17 (v := 3) (by decide +kernel) rfl ?_
      exact iq_iret J_MScriptRows_test_d18 rfl rfl ⟨_, rfl, hM, ed_some h⟩
  · replace h := ed_neg q4 h
    refine iq_iconst hS 8 J_MScriptRows_test_d7 (v := 2) (by decide +kernel) rfl ?_
    exact iq_iret J_MScriptRows_test_d8 rfl rfl ⟨_, rfl, hM, ed_some h⟩
theorem f_MScriptRows_test_fr {p0 : Int32} {M : im_M} {r : Int32 × im_M} (h : f_MScriptRows_test p0 M = some r) : fr 530416203355918550402334720 [(71, 8), (71, 17), (71, 26), (71, 32), (71, 33), (71, 34), (71, 37)] M r.2 := by
  replace h : ed (f_MScriptRows_test p0 M) (fun x => x = r) := ⟨r, h, rfl⟩
  unfold f_MScriptRows_test at h
  obtain ⟨Q1, hQ1, h⟩ := bd1_ed h
  obtain ⟨x1, e1, h⟩ := h
  replace h := hQ1 _ h
  by_cases q4 : 0 ≤ x1
  · replace h := ed_pos q4 h
    obtain ⟨Q2, hQ2, h⟩ := bd1_ed h
    obtain ⟨x2, e2, h⟩ := h
    replace h := hQ2 _ h
    by_cases q14 : ¬ x2 = 0
    · replace h := ed_pos q14 h
      obtain ⟨Q3, hQ3, h⟩ := bd2_ed h
      obtain ⟨⟨x3, M3⟩, e3, h⟩ := h
      replace h := hQ3 _ _ h
      obtain ⟨Q4, hQ4, h⟩ := bd1_ed h
      have J4 : ∀ (y6 : Int32), Q4 y6 → fr 530416203355918550402334720 [(71, 8), (71, 17), (71, 26), (71, 32), (71, 33), (71, 34), (71, 37)] M r.2 := by
        intro y6 h
        replace h := hQ4 _ h
        obtain ⟨Q9, hQ9, h⟩ := bd2_ed h
        have J9 : ∀ (y14 : Int32) (M15 : im_M), fr 530416203355918550402334720 [(71, 8), (71, 17), (71, 26), (71, 32), (71, 33), (71, 34), (71, 37)] M M15 → Q9 (y14, M15) → fr 530416203355918550402334720 [(71, 8), (71, 17), (71, 26), (71, 32), (71, 33), (71, 34), (71, 37)] M r.2 := by
          intro y14 M15 hM15 h
          replace h := hQ9 _ _ h
          obtain ⟨Q19, hQ19, h⟩ := bd1_ed h
          have J19 : ∀ (y25 : Int32), Q19 y25 → fr 530416203355918550402334720 [(71, 8), (71, 17), (71, 26), (71, 32), (71, 33), (71, 34), (71, 37)] M r.2 := by
            intro y25 h
            replace h := hQ19 _ h
            obtain ⟨Q29, hQ29, h⟩ := bd2_ed h
            have J29 : ∀ (y31 : Int32) (M32 : im_M), fr 530416203355918550402334720 [(71, 8), (71, 17), (71, 26), (71, 32), (71, 33), (71, 34), (71, 37)] M M32 → Q29 (y31, M32) → fr 530416203355918550402334720 [(71, 8), (71, 17), (71, 26), (71, 32), (71, 33), (71, 34), (71, 37)] M r.2 := by
              intro y31 M32 hM32 h
              replace h := hQ29 _ _ h
              obtain ⟨Q36, hQ36, h⟩ := bd1_ed h
              have J36 : ∀ (y40 : Int32), Q36 y40 → fr 530416203355918550402334720 [(71, 8), (71, 17), (71, 26), (71, 32), (71, 33), (71, 34), (71, 37)] M r.2 := by
                intro y40 h
                replace h := hQ36 _ h
                by_cases q187 : ¬ ((if ¬ y40 = 0 then y40 else (if ¬ p0 = 69 then y40 else (if 12 < ((im_i M32 71 35) + (im_i M32 71 21)) then 10 else (if ((im_i M32 71 37) + ((im_i M32 71 21) * (im_i M32 71 26))) ≤ 120 then y40 else 10)))) : Int32) = 0
                · replace h := ed_pos q187 h
                  exact fr_ret h hM32
                · replace h := ed_neg q187 h
                  by_cases q197 : ¬ (im_i M32 71 11) = 2000
                  · replace h := ed_pos q197 h
                    exact fr_ret h hM32
                  · replace h := ed_neg q197 h
                    exact fr_ret h hM32
              by_cases q106 : ¬ y31 = 0
              · replace h := ed_pos q106 h
                exact J36 _ (ed_some h)
              · replace h := ed_neg q106 h
                by_cases q112 : ¬ p0 = 85
                · replace h := ed_pos q112 h
                  exact J36 _ (ed_some h)
                · replace h := ed_neg q112 h
                  obtain ⟨g124, h⟩ := ed_gd h
                  obtain ⟨g125, h⟩ := ed_gd h
                  obtain ⟨k37, Q37, hQ37, hk37, h⟩ := jn0_ed h
                  have J37 : Q37 () → fr 530416203355918550402334720 [(71, 8), (71, 17), (71, 26), (71, 32), (71, 33), (71, 34), (71, 37)] M r.2 := by
                    intro  h
                    replace h := hQ37  h
                    exact J36 _ (ed_some h)
                  by_cases q126 : (im_i M32 74 (Int32.toNatClampNeg (im_i M32 78 (Int32.toNatClampNeg 0)))) = 0
                  · replace h := ed_pos q126 h
                    exact J37  (hk37  h)
                  · replace h := ed_neg q126 h
                    by_cases q134 : ¬ (im_i M32 71 9) = 4
                    · replace h := ed_pos q134 h
                      exact J36 _ (ed_some h)
                    · replace h := ed_neg q134 h
                      exact J37  (hk37  h)
            by_cases q91 : ¬ y25 = 0
            · replace h := ed_pos q91 h
              exact J29 _ _ hM15 (ed_some h)
            · replace h := ed_neg q91 h
              by_cases q97 : ¬ p0 = 59
              · replace h := ed_pos q97 h
                exact J29 _ _ hM15 (ed_some h)
              · replace h := ed_neg q97 h
                obtain ⟨Q30, hQ30, h⟩ := bd2_ed h
                obtain ⟨⟨x30, M30⟩, e30, h⟩ := h
                replace h := hQ30 _ _ h
                exact J29 _ _ (fr_tr (fr_mono (by decide) (by decide +kernel) (f_MScriptRows_tryField_fr e30)) hM15) (ed_some h)
          by_cases q61 : ¬ y14 = 0
          · replace h := ed_pos q61 h
            exact J19 _ (ed_some h)
          · replace h := ed_neg q61 h
            by_cases q67 : ¬ p0 = 83
            · replace h := ed_pos q67 h
              exact J19 _ (ed_some h)
            · replace h := ed_neg q67 h
              obtain ⟨Q20, hQ20, h⟩ := bd1_ed h
              obtain ⟨x20, e20, h⟩ := h
              replace h := hQ20 _ h
              obtain ⟨k21, Q21, hQ21, hk21, h⟩ := jn0_ed h
              have J21 : Q21 () → fr 530416203355918550402334720 [(71, 8), (71, 17), (71, 26), (71, 32), (71, 33), (71, 34), (71, 37)] M r.2 := by
                intro  h
                replace h := hQ21  h
                exact J19 _ (ed_some h)
              by_cases q74 : x20 < 0
              · replace h := ed_pos q74 h
                exact J21  (hk21  h)
              · replace h := ed_neg q74 h
                obtain ⟨Q22, hQ22, h⟩ := bd1_ed h
                obtain ⟨x22, e22, h⟩ := h
                replace h := hQ22 _ h
                by_cases q84 : x22 ≤ 400
                · replace h := ed_pos q84 h
                  exact J19 _ (ed_some h)
                · replace h := ed_neg q84 h
                  exact J21  (hk21  h)
        by_cases q40 : ¬ y6 = 0
        · replace h := ed_pos q40 h
          exact J9 _ _ (fr_tr (fr_mono (by decide) (by decide +kernel) (f_MScriptRows_takeNumbers_fr e3)) fr_refl) (ed_some h)
        · replace h := ed_neg q40 h
          obtain ⟨k10, Q10, hQ10, hk10, h⟩ := jn0_ed h
          have J10 : Q10 () → fr 530416203355918550402334720 [(71, 8), (71, 17), (71, 26), (71, 32), (71, 33), (71, 34), (71, 37)] M r.2 := by
            intro  h
            replace h := hQ10  h
            obtain ⟨Q13, hQ13, h⟩ := bd2_ed h
            obtain ⟨⟨x13, M13⟩, e13, h⟩ := h
            replace h := hQ13 _ _ h
            exact J9 _ _ (fr_tr (fr_mono (by decide) (by decide +kernel) (f_MScriptRows_takeData_fr e13)) (fr_tr (fr_mono (by decide) (by decide +kernel) (f_MScriptRows_takeNumbers_fr e3)) fr_refl)) (ed_some h)
          by_cases q46 : p0 = 88
          · replace h := ed_pos q46 h
            exact J10  (hk10  h)
          · replace h := ed_neg q46 h
            by_cases q52 : ¬ p0 = 75
            · replace h := ed_pos q52 h
              exact J9 _ _ (fr_tr (fr_mono (by decide) (by decide +kernel) (f_MScriptRows_takeNumbers_fr e3)) fr_refl) (ed_some h)
            · replace h := ed_neg q52 h
              exact J10  (hk10  h)
      by_cases q26 : ¬ x3 = 0
      · replace h := ed_pos q26 h
        exact J4 _ (ed_some h)
      · replace h := ed_neg q26 h
        obtain ⟨Q5, hQ5, h⟩ := bd1_ed h
        obtain ⟨x5, e5, h⟩ := h
        replace h := hQ5 _ h
        exact J4 _ (ed_some h)
    · replace h := ed_neg q14 h
      exact fr_ret h fr_refl
  · replace h := ed_neg q4 h
    exact fr_ret h fr_refl
noncomputable def f_MScriptRows_newField_L2 (x2 : Int32) (M3 : im_M) : Option ((Int32 × im_M) ⊕ (im_M)) := if 16 ≤ x2 then some (.inr M3) else gd (inb x2 16) <| some (.inl ((x2 + 1), (im_setI M3 81 (Int32.toNatClampNeg x2) 0)))
noncomputable def f_MScriptRows_newField (M : im_M) : Option (im_M) := bd1 (lp (uc2 (f_MScriptRows_newField_L2)) (0, M)) fun (M4 : im_M) => gd (inb 0 16) <| some (im_setI M4 81 (Int32.toNatClampNeg 0) (-1))
theorem J_MScriptRows_newField_d0 : decode J_MScriptRows_newField.2.1 0 = .ok (.iconst 0, 1) := by decide +kernel
theorem J_MScriptRows_newField_d1 : decode J_MScriptRows_newField.2.1 1 = .ok (.istore_n 1, 1) := by decide +kernel
theorem J_MScriptRows_newField_d2 : decode J_MScriptRows_newField.2.1 2 = .ok (.iload_n 1, 1) := by decide +kernel
theorem J_MScriptRows_newField_d3 : decode J_MScriptRows_newField.2.1 3 = .ok (.bipush 16, 2) := by decide +kernel
theorem J_MScriptRows_newField_d5 : decode J_MScriptRows_newField.2.1 5 = .ok (.if_icmp .ge 16, 3) := by decide +kernel
theorem J_MScriptRows_newField_d8 : decode J_MScriptRows_newField.2.1 8 = .ok (.aload_n 0, 1) := by decide +kernel
theorem J_MScriptRows_newField_d9 : decode J_MScriptRows_newField.2.1 9 = .ok (.getfield 41, 3) := by decide +kernel
theorem J_MScriptRows_newField_d12 : decode J_MScriptRows_newField.2.1 12 = .ok (.iload_n 1, 1) := by decide +kernel
theorem J_MScriptRows_newField_d13 : decode J_MScriptRows_newField.2.1 13 = .ok (.iconst 0, 1) := by decide +kernel
theorem J_MScriptRows_newField_d14 : decode J_MScriptRows_newField.2.1 14 = .ok (.iastore, 1) := by decide +kernel
theorem J_MScriptRows_newField_d15 : decode J_MScriptRows_newField.2.1 15 = .ok (.iinc 1 1, 3) := by decide +kernel
theorem J_MScriptRows_newField_d18 : decode J_MScriptRows_newField.2.1 18 = .ok (.goto (-16), 3) := by decide +kernel
theorem J_MScriptRows_newField_d21 : decode J_MScriptRows_newField.2.1 21 = .ok (.aload_n 0, 1) := by decide +kernel
theorem J_MScriptRows_newField_d22 : decode J_MScriptRows_newField.2.1 22 = .ok (.getfield 41, 3) := by decide +kernel
theorem J_MScriptRows_newField_d25 : decode J_MScriptRows_newField.2.1 25 = .ok (.iconst 0, 1) := by decide +kernel
theorem J_MScriptRows_newField_d26 : decode J_MScriptRows_newField.2.1 26 = .ok (.iconst (-1), 1) := by decide +kernel
theorem J_MScriptRows_newField_d27 : decode J_MScriptRows_newField.2.1 27 = .ok (.iastore, 1) := by decide +kernel
theorem J_MScriptRows_newField_d28 : decode J_MScriptRows_newField.2.1 28 = .ok (.return_, 1) := by decide +kernel
theorem f_MScriptRows_newField_ok {L : Nat} {xs : Nat → Int32} {dep : Nat} {w : Bool} {M : im_M} {Q : im_M → Prop} (hM : lw_S w M) (h : ed (f_MScriptRows_newField M) Q) : ia (tb_G L xs) dep J_MScriptRows_newField (rwV w Q) (0, lv_args 0 [.ref 71], [], M) := by
  have hS : im_St (tb_G L xs) dep J_MScriptRows_newField (ia (tb_G L xs) dep J_MScriptRows_newField (rwV w Q)) := ia_St
  unfold f_MScriptRows_newField at h
  have l0 : im_lk (lv_args 0 [.ref 71]) 0 = some (.ref 71) := rfl
  refine iq_iconst hS 1 J_MScriptRows_newField_d0 (v := 0) (by decide +kernel) rfl ?_
  refine iq_istore_n hS 2 J_MScriptRows_newField_d1 (by decide) rfl ?_
  obtain ⟨Q1, hQ1, h⟩ := bd1_ed h
  have K1 : ∀ (M2 : im_M) (L' : List (Nat × Value)), lw_S w M2 → im_lk L' 0 = some (.ref 71) → Q1 M2 → ia (tb_G L xs) dep J_MScriptRows_newField (rwV w Q) (21, L', [], M2) := by
    intro M2 L' hM2 l3 h
    replace h := hQ1 _ h
    refine iq_aload_n hS 22 J_MScriptRows_newField_d21 l3 rfl ?_
    refine iq_getR hS 25 J_MScriptRows_newField_d22 lf_15_41 (Or.inr ⟨_, rfl⟩) (ka_71 hM2) (ra_71_27 hM2) rfl ?_
    refine iq_iconst hS 26 J_MScriptRows_newField_d25 (v := 0) (by decide +kernel) rfl ?_
    refine iq_iconst hS 27 J_MScriptRows_newField_d26 (v := (-1)) (by decide +kernel) rfl ?_
    obtain ⟨g27, h⟩ := ed_gd h
    refine iq_iastore hS 28 J_MScriptRows_newField_d27 ⟨(ka_81 hM2).1, (ka_81 hM2).2, g27.1, ix_lt (kl_81 hM2) g27.2⟩ rfl ?_
    exact iq_ret J_MScriptRows_newField_d28 rfl ⟨rfl, (lw_sI hM2), ed_some h⟩
  obtain ⟨r1, hr1, hq1⟩ := h
  obtain ⟨n1, hn1⟩ := lp_n hr1
  have I1 : ∀ (n : Nat) (x4 : Int32) (M5 : im_M) (L' : List (Nat × Value)), lw_S w M5 → im_lk L' 0 = some (.ref 71) → im_lk L' 1 = some (.int x4) → lpn (uc2 (f_MScriptRows_newField_L2)) n (x4, M5) = some r1 → ia (tb_G L xs) dep J_MScriptRows_newField (rwV w Q) (2, L', [], M5) := by
    intro n
    induction n with
    | zero => intro x4 M5 L' hM5 l6 l7 hn; exact (lpn_0 hn).elim
    | succ n ih =>
      intro x4 M5 L' hM5 l6 l7 hn
      have h := lpn_ed2 hn
      unfold f_MScriptRows_newField_L2 at h
      refine iq_iload_n hS 3 J_MScriptRows_newField_d2 l7 rfl ?_
      refine iq_bipush hS 5 J_MScriptRows_newField_d3 (v := 16) (by decide +kernel) rfl ?_
      refine iq_icmp_ge hS 8 J_MScriptRows_newField_d5 (t := 21) rfl (fun q5 => ?_) rfl (fun q5 => ?_)
      · replace h := ed_pos q5 h
        exact K1 _ _ hM5 l6 (lq_r h hq1)
      · replace h := ed_neg q5 h
        refine iq_aload_n hS 9 J_MScriptRows_newField_d8 l6 rfl ?_
        refine iq_getR hS 12 J_MScriptRows_newField_d9 lf_15_41 (Or.inr ⟨_, rfl⟩) (ka_71 hM5) (ra_71_27 hM5) rfl ?_
        refine iq_iload_n hS 13 J_MScriptRows_newField_d12 l7 rfl ?_
        refine iq_iconst hS 14 J_MScriptRows_newField_d13 (v := 0) (by decide +kernel) rfl ?_
        obtain ⟨g14, h⟩ := ed_gd h
        refine iq_iastore hS 15 J_MScriptRows_newField_d14 ⟨(ka_81 hM5).1, (ka_81 hM5).2, g14.1, ix_lt (kl_81 hM5) g14.2⟩ rfl ?_
        refine iq_iincv hS 18 J_MScriptRows_newField_d15 (c := 1) (by decide +kernel) l7 (by decide) rfl ?_
        refine iq_goto hS J_MScriptRows_newField_d18 (t := 2) rfl ?_
        exact ih _ _ _ (lw_sI hM5) (lk_1r l6 (by decide)) lk_1s (lq_l h)
  exact I1 n1 _ _ _ hM (lk_1r l0 (by decide)) lk_1s hn1
theorem f_MScriptRows_newField_fr {M : im_M} {r : im_M} (h : f_MScriptRows_newField M = some r) : fr 2417851639229258349412352 [] M r := by
  replace h : ed (f_MScriptRows_newField M) (fun x => x = r) := ⟨r, h, rfl⟩
  unfold f_MScriptRows_newField at h
  obtain ⟨Q1, hQ1, h⟩ := bd1_ed h
  have K1 : ∀ (M2 : im_M), fr 2417851639229258349412352 [] M M2 → Q1 M2 → fr 2417851639229258349412352 [] M r := by
    intro M2 hM2 h
    replace h := hQ1 _ h
    obtain ⟨g27, h⟩ := ed_gd h
    exact fr_retV h (fr_I (by decide) hM2)
  obtain ⟨r1, hr1, hq1⟩ := h
  obtain ⟨n1, hn1⟩ := lp_n hr1
  have I1 : ∀ (n : Nat) (x3 : Int32) (M4 : im_M), fr 2417851639229258349412352 [] M M4 → lpn (uc2 (f_MScriptRows_newField_L2)) n (x3, M4) = some r1 → fr 2417851639229258349412352 [] M r := by
    intro n
    induction n with
    | zero => intro x3 M4 hM4 hn; exact (lpn_0 hn).elim
    | succ n ih =>
      intro x3 M4 hM4 hn
      have h := lpn_ed2 hn
      unfold f_MScriptRows_newField_L2 at h
      by_cases q5 : 16 ≤ x3
      · replace h := ed_pos q5 h
        exact K1 _ hM4 (lq_r h hq1)
      · replace h := ed_neg q5 h
        obtain ⟨g14, h⟩ := ed_gd h
        exact ih _ _ (fr_I (by decide) hM4) (lq_l h)
  exact I1 n1 _ _ fr_refl hn1
noncomputable def f_MScriptRows_endLabel_L90 (v6 : Int32) (v7 : Int32) (x8 : Int32) (M9 : im_M) : Option ((Int32 × im_M) ⊕ (im_M)) := if (im_i M9 71 25) ≤ x8 then some (.inr M9) else bd1 (f_MScriptRows_makeField x8 v7 M9) fun (M10 : im_M) => some (.inl ((x8 + 1), M10))
noncomputable def f_MScriptRows_endLabel_L17 (v2 : Int32) (x3 : Int32) (M4 : im_M) : Option ((Int32 × im_M) ⊕ (im_M)) := if (im_i M4 71 21) ≤ x3 then some (.inr M4) else gd (inb ((4 : Int32) * (im_i M4 71 35)) 48) <| gd (inb (((4 : Int32) * (im_i (im_setI M4 86 (Int32.toNatClampNeg ((4 : Int32) * (im_i M4 71 35))) (im_i M4 71 19)) 71 35)) + 1) 48) <| gd (inb (((4 : Int32) * (im_i (im_setI (im_setI M4 86 (Int32.toNatClampNeg ((4 : Int32) * (im_i M4 71 35))) (im_i M4 71 19)) 86 (Int32.toNatClampNeg (((4 : Int32) * (im_i (im_setI M4 86 (Int32.toNatClampNeg ((4 : Int32) * (im_i M4 71 35))) (im_i M4 71 19)) 71 35)) + 1)) (im_i (im_setI M4 86 (Int32.toNatClampNeg ((4 : Int32) * (im_i M4 71 35))) (im_i M4 71 19)) 71 20)) 71 35)) + 2) 48) <| gd (inb (((4 : Int32) * (im_i (im_setI (im_setI (im_setI M4 86 (Int32.toNatClampNeg ((4 : Int32) * (im_i M4 71 35))) (im_i M4 71 19)) 86 (Int32.toNatClampNeg (((4 : Int32) * (im_i (im_setI M4 86 (Int32.toNatClampNeg ((4 : Int32) * (im_i M4 71 35))) (im_i M4 71 19)) 71 35)) + 1)) (im_i (im_setI M4 86 (Int32.toNatClampNeg ((4 : Int32) * (im_i M4 71 35))) (im_i M4 71 19)) 71 20)) 86 (Int32.toNatClampNeg (((4 : Int32) * (im_i (im_setI (im_setI M4 86 (Int32.toNatClampNeg ((4 : Int32) * (im_i M4 71 35))) (im_i M4 71 19)) 86 (Int32.toNatClampNeg (((4 : Int32) * (im_i (im_setI M4 86 (Int32.toNatClampNeg ((4 : Int32) * (im_i M4 71 35))) (im_i M4 71 19)) 71 35)) + 1)) (im_i (im_setI M4 86 (Int32.toNatClampNeg ((4 : Int32) * (im_i M4 71 35))) (im_i M4 71 19)) 71 20)) 71 35)) + 2)) (im_i (im_setI (im_setI M4 86 (Int32.toNatClampNeg ((4 : Int32) * (im_i M4 71 35))) (im_i M4 71 19)) 86 (Int32.toNatClampNeg (((4 : Int32) * (im_i (im_setI M4 86 (Int32.toNatClampNeg ((4 : Int32) * (im_i M4 71 35))) (im_i M4 71 19)) 71 35)) + 1)) (im_i (im_setI M4 86 (Int32.toNatClampNeg ((4 : Int32) * (im_i M4 71 35))) (im_i M4 71 19)) 71 20)) 71 37)) 71 35)) + 3) 48) <| bd1 (lp (uc2 (f_MScriptRows_endLabel_L90 v2 x3)) (0, (im_setI (im_setI (im_setI (im_setI M4 86 (Int32.toNatClampNeg ((4 : Int32) * (im_i M4 71 35))) (im_i M4 71 19)) 86 (Int32.toNatClampNeg (((4 : Int32) * (im_i (im_setI M4 86 (Int32.toNatClampNeg ((4 : Int32) * (im_i M4 71 35))) (im_i M4 71 19)) 71 35)) + 1)) (im_i (im_setI M4 86 (Int32.toNatClampNeg ((4 : Int32) * (im_i M4 71 35))) (im_i M4 71 19)) 71 20)) 86 (Int32.toNatClampNeg (((4 : Int32) * (im_i (im_setI (im_setI M4 86 (Int32.toNatClampNeg ((4 : Int32) * (im_i M4 71 35))) (im_i M4 71 19)) 86 (Int32.toNatClampNeg (((4 : Int32) * (im_i (im_setI M4 86 (Int32.toNatClampNeg ((4 : Int32) * (im_i M4 71 35))) (im_i M4 71 19)) 71 35)) + 1)) (im_i (im_setI M4 86 (Int32.toNatClampNeg ((4 : Int32) * (im_i M4 71 35))) (im_i M4 71 19)) 71 20)) 71 35)) + 2)) (im_i (im_setI (im_setI M4 86 (Int32.toNatClampNeg ((4 : Int32) * (im_i M4 71 35))) (im_i M4 71 19)) 86 (Int32.toNatClampNeg (((4 : Int32) * (im_i (im_setI M4 86 (Int32.toNatClampNeg ((4 : Int32) * (im_i M4 71 35))) (im_i M4 71 19)) 71 35)) + 1)) (im_i (im_setI M4 86 (Int32.toNatClampNeg ((4 : Int32) * (im_i M4 71 35))) (im_i M4 71 19)) 71 20)) 71 37)) 86 (Int32.toNatClampNeg (((4 : Int32) * (im_i (im_setI (im_setI (im_setI M4 86 (Int32.toNatClampNeg ((4 : Int32) * (im_i M4 71 35))) (im_i M4 71 19)) 86 (Int32.toNatClampNeg (((4 : Int32) * (im_i (im_setI M4 86 (Int32.toNatClampNeg ((4 : Int32) * (im_i M4 71 35))) (im_i M4 71 19)) 71 35)) + 1)) (im_i (im_setI M4 86 (Int32.toNatClampNeg ((4 : Int32) * (im_i M4 71 35))) (im_i M4 71 19)) 71 20)) 86 (Int32.toNatClampNeg (((4 : Int32) * (im_i (im_setI (im_setI M4 86 (Int32.toNatClampNeg ((4 : Int32) * (im_i M4 71 35))) (im_i M4 71 19)) 86 (Int32.toNatClampNeg (((4 : Int32) * (im_i (im_setI M4 86 (Int32.toNatClampNeg ((4 : Int32) * (im_i M4 71 35))) (im_i M4 71 19)) 71 35)) + 1)) (im_i (im_setI M4 86 (Int32.toNatClampNeg ((4 : Int32) * (im_i M4 71 35))) (im_i M4 71 19)) 71 20)) 71 35)) + 2)) (im_i (im_setI (im_setI M4 86 (Int32.toNatClampNeg ((4 : Int32) * (im_i M4 71 35))) (im_i M4 71 19)) 86 (Int32.toNatClampNeg (((4 : Int32) * (im_i (im_setI M4 86 (Int32.toNatClampNeg ((4 : Int32) * (im_i M4 71 35))) (im_i M4 71 19)) 71 35)) + 1)) (im_i (im_setI M4 86 (Int32.toNatClampNeg ((4 : Int32) * (im_i M4 71 35))) (im_i M4 71 19)) 71 20)) 71 37)) 71 35)) + 3)) v2))) fun (M11 : im_M) => some (.inl ((x3 + 1), (im_setI M11 71 35 ((im_i M11 71 35) + 1))))
noncomputable def f_MScriptRows_endLabel (M : im_M) : Option (im_M) := bd1 (lp (uc2 (f_MScriptRows_endLabel_L17 (im_i (im_setI (im_setI M 71 18 0) 71 33 1) 71 26))) (0, (im_setI (im_setI M 71 18 0) 71 33 1))) fun (M12 : im_M) => some M12
theorem J_MScriptRows_endLabel_d0 : decode J_MScriptRows_endLabel.2.1 0 = .ok (.aload_n 0, 1) := by decide +kernel
theorem J_MScriptRows_endLabel_d1 : decode J_MScriptRows_endLabel.2.1 1 = .ok (.iconst 0, 1) := by decide +kernel
theorem J_MScriptRows_endLabel_d2 : decode J_MScriptRows_endLabel.2.1 2 = .ok (.putfield 180, 3) := by decide +kernel
theorem J_MScriptRows_endLabel_d5 : decode J_MScriptRows_endLabel.2.1 5 = .ok (.aload_n 0, 1) := by decide +kernel
theorem J_MScriptRows_endLabel_d6 : decode J_MScriptRows_endLabel.2.1 6 = .ok (.iconst 1, 1) := by decide +kernel
theorem J_MScriptRows_endLabel_d7 : decode J_MScriptRows_endLabel.2.1 7 = .ok (.putfield 136, 3) := by decide +kernel
theorem J_MScriptRows_endLabel_d10 : decode J_MScriptRows_endLabel.2.1 10 = .ok (.aload_n 0, 1) := by decide +kernel
theorem J_MScriptRows_endLabel_d11 : decode J_MScriptRows_endLabel.2.1 11 = .ok (.getfield 123, 3) := by decide +kernel
theorem J_MScriptRows_endLabel_d14 : decode J_MScriptRows_endLabel.2.1 14 = .ok (.istore_n 1, 1) := by decide +kernel
theorem J_MScriptRows_endLabel_d15 : decode J_MScriptRows_endLabel.2.1 15 = .ok (.iconst 0, 1) := by decide +kernel
theorem J_MScriptRows_endLabel_d16 : decode J_MScriptRows_endLabel.2.1 16 = .ok (.istore_n 2, 1) := by decide +kernel
theorem J_MScriptRows_endLabel_d17 : decode J_MScriptRows_endLabel.2.1 17 = .ok (.iload_n 2, 1) := by decide +kernel
theorem J_MScriptRows_endLabel_d18 : decode J_MScriptRows_endLabel.2.1 18 = .ok (.aload_n 0, 1) := by decide +kernel
theorem J_MScriptRows_endLabel_d19 : decode J_MScriptRows_endLabel.2.1 19 = .ok (.getfield 207, 3) := by decide +kernel
theorem J_MScriptRows_endLabel_d22 : decode J_MScriptRows_endLabel.2.1 22 = .ok (.if_icmp .ge 104, 3) := by decide +kernel
theorem J_MScriptRows_endLabel_d25 : decode J_MScriptRows_endLabel.2.1 25 = .ok (.aload_n 0, 1) := by decide +kernel
theorem J_MScriptRows_endLabel_d26 : decode J_MScriptRows_endLabel.2.1 26 = .ok (.getfield 56, 3) := by decide +kernel
theorem J_MScriptRows_endLabel_d29 : decode J_MScriptRows_endLabel.2.1 29 = .ok (.iconst 4, 1) := by decide +kernel
theorem J_MScriptRows_endLabel_d30 : decode J_MScriptRows_endLabel.2.1 30 = .ok (.aload_n 0, 1) := by decide +kernel
theorem J_MScriptRows_endLabel_d31 : decode J_MScriptRows_endLabel.2.1 31 = .ok (.getfield 204, 3) := by decide +kernel
theorem J_MScriptRows_endLabel_d34 : decode J_MScriptRows_endLabel.2.1 34 = .ok (.imul, 1) := by decide +kernel
theorem J_MScriptRows_endLabel_d35 : decode J_MScriptRows_endLabel.2.1 35 = .ok (.aload_n 0, 1) := by decide +kernel
theorem J_MScriptRows_endLabel_d36 : decode J_MScriptRows_endLabel.2.1 36 = .ok (.getfield 219, 3) := by decide +kernel
theorem J_MScriptRows_endLabel_d39 : decode J_MScriptRows_endLabel.2.1 39 = .ok (.iastore, 1) := by decide +kernel
theorem J_MScriptRows_endLabel_d40 : decode J_MScriptRows_endLabel.2.1 40 = .ok (.aload_n 0, 1) := by decide +kernel
theorem J_MScriptRows_endLabel_d41 : decode J_MScriptRows_endLabel.2.1 41 = .ok (.getfield 56, 3) := by decide +kernel
theorem J_MScriptRows_endLabel_d44 : decode J_MScriptRows_endLabel.2.1 44 = .ok (.iconst 4, 1) := by decide +kernel
theorem J_MScriptRows_endLabel_d45 : decode J_MScriptRows_endLabel.2.1 45 = .ok (.aload_n 0, 1) := by decide +kernel
theorem J_MScriptRows_endLabel_d46 : decode J_MScriptRows_endLabel.2.1 46 = .ok (.getfield 204, 3) := by decide +kernel
theorem J_MScriptRows_endLabel_d49 : decode J_MScriptRows_endLabel.2.1 49 = .ok (.imul, 1) := by decide +kernel
theorem J_MScriptRows_endLabel_d50 : decode J_MScriptRows_endLabel.2.1 50 = .ok (.iconst 1, 1) := by decide +kernel
theorem J_MScriptRows_endLabel_d51 : decode J_MScriptRows_endLabel.2.1 51 = .ok (.iadd, 1) := by decide +kernel
theorem J_MScriptRows_endLabel_d52 : decode J_MScriptRows_endLabel.2.1 52 = .ok (.aload_n 0, 1) := by decide +kernel
theorem J_MScriptRows_endLabel_d53 : decode J_MScriptRows_endLabel.2.1 53 = .ok (.getfield 222, 3) := by decide +kernel
theorem J_MScriptRows_endLabel_d56 : decode J_MScriptRows_endLabel.2.1 56 = .ok (.iastore, 1) := by decide +kernel
theorem J_MScriptRows_endLabel_d57 : decode J_MScriptRows_endLabel.2.1 57 = .ok (.aload_n 0, 1) := by decide +kernel
theorem J_MScriptRows_endLabel_d58 : decode J_MScriptRows_endLabel.2.1 58 = .ok (.getfield 56, 3) := by decide +kernel
theorem J_MScriptRows_endLabel_d61 : decode J_MScriptRows_endLabel.2.1 61 = .ok (.iconst 4, 1) := by decide +kernel
theorem J_MScriptRows_endLabel_d62 : decode J_MScriptRows_endLabel.2.1 62 = .ok (.aload_n 0, 1) := by decide +kernel
theorem J_MScriptRows_endLabel_d63 : decode J_MScriptRows_endLabel.2.1 63 = .ok (.getfield 204, 3) := by decide +kernel
theorem J_MScriptRows_endLabel_d66 : decode J_MScriptRows_endLabel.2.1 66 = .ok (.imul, 1) := by decide +kernel
theorem J_MScriptRows_endLabel_d67 : decode J_MScriptRows_endLabel.2.1 67 = .ok (.iconst 2, 1) := by decide +kernel
theorem J_MScriptRows_endLabel_d68 : decode J_MScriptRows_endLabel.2.1 68 = .ok (.iadd, 1) := by decide +kernel
theorem J_MScriptRows_endLabel_d69 : decode J_MScriptRows_endLabel.2.1 69 = .ok (.aload_n 0, 1) := by decide +kernel
theorem J_MScriptRows_endLabel_d70 : decode J_MScriptRows_endLabel.2.1 70 = .ok (.getfield 155, 3) := by decide +kernel
theorem J_MScriptRows_endLabel_d73 : decode J_MScriptRows_endLabel.2.1 73 = .ok (.iastore, 1) := by decide +kernel
theorem J_MScriptRows_endLabel_d74 : decode J_MScriptRows_endLabel.2.1 74 = .ok (.aload_n 0, 1) := by decide +kernel
theorem J_MScriptRows_endLabel_d75 : decode J_MScriptRows_endLabel.2.1 75 = .ok (.getfield 56, 3) := by decide +kernel
theorem J_MScriptRows_endLabel_d78 : decode J_MScriptRows_endLabel.2.1 78 = .ok (.iconst 4, 1) := by decide +kernel
theorem J_MScriptRows_endLabel_d79 : decode J_MScriptRows_endLabel.2.1 79 = .ok (.aload_n 0, 1) := by decide +kernel
theorem J_MScriptRows_endLabel_d80 : decode J_MScriptRows_endLabel.2.1 80 = .ok (.getfield 204, 3) := by decide +kernel
theorem J_MScriptRows_endLabel_d83 : decode J_MScriptRows_endLabel.2.1 83 = .ok (.imul, 1) := by decide +kernel
theorem J_MScriptRows_endLabel_d84 : decode J_MScriptRows_endLabel.2.1 84 = .ok (.iconst 3, 1) := by decide +kernel
theorem J_MScriptRows_endLabel_d85 : decode J_MScriptRows_endLabel.2.1 85 = .ok (.iadd, 1) := by decide +kernel
theorem J_MScriptRows_endLabel_d86 : decode J_MScriptRows_endLabel.2.1 86 = .ok (.iload_n 1, 1) := by decide +kernel
theorem J_MScriptRows_endLabel_d87 : decode J_MScriptRows_endLabel.2.1 87 = .ok (.iastore, 1) := by decide +kernel
theorem J_MScriptRows_endLabel_d88 : decode J_MScriptRows_endLabel.2.1 88 = .ok (.iconst 0, 1) := by decide +kernel
theorem J_MScriptRows_endLabel_d89 : decode J_MScriptRows_endLabel.2.1 89 = .ok (.istore_n 3, 1) := by decide +kernel
theorem J_MScriptRows_endLabel_d90 : decode J_MScriptRows_endLabel.2.1 90 = .ok (.iload_n 3, 1) := by decide +kernel
theorem J_MScriptRows_endLabel_d91 : decode J_MScriptRows_endLabel.2.1 91 = .ok (.aload_n 0, 1) := by decide +kernel
theorem J_MScriptRows_endLabel_d92 : decode J_MScriptRows_endLabel.2.1 92 = .ok (.getfield 113, 3) := by decide +kernel
theorem J_MScriptRows_endLabel_d95 : decode J_MScriptRows_endLabel.2.1 95 = .ok (.if_icmp .ge 15, 3) := by decide +kernel
theorem J_MScriptRows_endLabel_d98 : decode J_MScriptRows_endLabel.2.1 98 = .ok (.aload_n 0, 1) := by decide +kernel
theorem J_MScriptRows_endLabel_d99 : decode J_MScriptRows_endLabel.2.1 99 = .ok (.iload_n 3, 1) := by decide +kernel
theorem J_MScriptRows_endLabel_d100 : decode J_MScriptRows_endLabel.2.1 100 = .ok (.iload_n 2, 1) := by decide +kernel
theorem J_MScriptRows_endLabel_d101 : decode J_MScriptRows_endLabel.2.1 101 = .ok (.invokevirtual 139, 3) := by decide +kernel
theorem J_MScriptRows_endLabel_d104 : decode J_MScriptRows_endLabel.2.1 104 = .ok (.iinc 3 1, 3) := by decide +kernel
theorem J_MScriptRows_endLabel_d107 : decode J_MScriptRows_endLabel.2.1 107 = .ok (.goto (-17), 3) := by decide +kernel
theorem J_MScriptRows_endLabel_d110 : decode J_MScriptRows_endLabel.2.1 110 = .ok (.aload_n 0, 1) := by decide +kernel
theorem J_MScriptRows_endLabel_d111 : decode J_MScriptRows_endLabel.2.1 111 = .ok (.dup, 1) := by decide +kernel
theorem J_MScriptRows_endLabel_d112 : decode J_MScriptRows_endLabel.2.1 112 = .ok (.getfield 204, 3) := by decide +kernel
theorem J_MScriptRows_endLabel_d115 : decode J_MScriptRows_endLabel.2.1 115 = .ok (.iconst 1, 1) := by decide +kernel
theorem J_MScriptRows_endLabel_d116 : decode J_MScriptRows_endLabel.2.1 116 = .ok (.iadd, 1) := by decide +kernel
theorem J_MScriptRows_endLabel_d117 : decode J_MScriptRows_endLabel.2.1 117 = .ok (.putfield 204, 3) := by decide +kernel
theorem J_MScriptRows_endLabel_d120 : decode J_MScriptRows_endLabel.2.1 120 = .ok (.iinc 2 1, 3) := by decide +kernel
theorem J_MScriptRows_endLabel_d123 : decode J_MScriptRows_endLabel.2.1 123 = .ok (.goto (-106), 3) := by decide +kernel
theorem J_MScriptRows_endLabel_d126 : decode J_MScriptRows_endLabel.2.1 126 = .ok (.return_, 1) := by decide +kernel
theorem f_MScriptRows_endLabel_ok {L : Nat} {xs : Nat → Int32} {dep : Nat} {w : Bool} {M : im_M} {Q : im_M → Prop} (hM : lw_S w M) (h : ed (f_MScriptRows_endLabel M) Q) : ia (tb_G L xs) (dep + 6) J_MScriptRows_endLabel (rwV w Q) (0, lv_args 0 [.ref 71], [], M) := by
  have hS : im_St (tb_G L xs) (dep + 6) J_MScriptRows_endLabel (ia (tb_G L xs) (dep + 6) J_MScriptRows_endLabel (rwV w Q)) := ia_St
  unfold f_MScriptRows_endLabel at h
  have l0 : im_lk (lv_args 0 [.ref 71]) 0 = some (.ref 71) := rfl
  refine iq_aload_n hS 1 J_MScriptRows_endLabel_d0 l0 rfl ?_
  refine iq_iconst hS 2 J_MScriptRows_endLabel_d1 (v := 0) (by decide +kernel) rfl ?_
  refine iq_putZ hS 5 J_MScriptRows_endLabel_d2 lf_15_180 (Or.inl rfl) rfl (ka_71 hM) (Or.inl rfl) rfl ?_
  refine iq_aload_n hS 6 J_MScriptRows_endLabel_d5 l0 rfl ?_
  refine iq_iconst hS 7 J_MScriptRows_endLabel_d6 (v := 1) (by decide +kernel) rfl ?_
  refine iq_putZ hS 10 J_MScriptRows_endLabel_d7 lf_15_136 (Or.inl rfl) rfl (ka_71 (lw_sI hM)) (Or.inr rfl) rfl ?_
  refine iq_aload_n hS 11 J_MScriptRows_endLabel_d10 l0 rfl ?_
  refine iq_getI hS 14 J_MScriptRows_endLabel_d11 lf_15_123 (Or.inl rfl) (ka_71 (lw_sI (lw_sI hM))) rfl ?_
  refine iq_istore_n hS 15 J_MScriptRows_endLabel_d14 (by decide) rfl ?_
  refine iq_iconst hS 16 J_MScriptRows_endLabel_d15 (v := 0) (by decide +kernel) rfl ?_
  refine iq_istore_n hS 17 J_MScriptRows_endLabel_d16 (by decide) rfl ?_
  obtain ⟨Q1, hQ1, h⟩ := bd1_ed h
  have K1 : ∀ (M2 : im_M) (L' : List (Nat × Value)), lw_S w M2 → Q1 M2 → ia (tb_G L xs) (dep + 6) J_MScriptRows_endLabel (rwV w Q) (126, L', [], M2) := by
    intro M2 L' hM2  h
    replace h := hQ1 _ h
    exact iq_ret J_MScriptRows_endLabel_d126 rfl ⟨rfl, hM2, ed_some h⟩
  obtain ⟨r1, hr1, hq1⟩ := h
  obtain ⟨n1, hn1⟩ := lp_n hr1
  have I1 : ∀ (n : Nat) (x3 : Int32) (M4 : im_M) (L' : List (Nat × Value)), lw_S w M4 → im_lk L' 0 = some (.ref 71) → im_lk L' 1 = some (.int (im_i (im_setI (im_setI M 71 18 0) 71 33 1) 71 26)) → im_lk L' 2 = some (.int x3) → lpn (uc2 (f_MScriptRows_endLabel_L17 (im_i (im_setI (im_setI M 71 18 0) 71 33 1) 71 26))) n (x3, M4) = some r1 → ia (tb_G L xs) (dep + 6) J_MScriptRows_endLabel (rwV w Q) (17, L', [], M4) := by
    intro n
    induction n with
    | zero => intro x3 M4 L' hM4 l5 l6 l7 hn; exact (lpn_0 hn).elim
    | succ n ih =>
      intro x3 M4 L' hM4 l5 l6 l7 hn
      have h := lpn_ed2 hn
      unfold f_MScriptRows_endLabel_L17 at h
      refine iq_iload_n hS 18 J_MScriptRows_endLabel_d17 l7 rfl ?_
      refine iq_aload_n hS 19 J_MScriptRows_endLabel_d18 l5 rfl ?_
      refine iq_getI hS 22 J_MScriptRows_endLabel_d19 lf_15_207 (Or.inl rfl) (ka_71 hM4) rfl ?_
      refine iq_icmp_ge hS 25 J_MScriptRows_endLabel_d22 (t := 126) rfl (fun q22 => ?_) rfl (fun q22 => ?_)
      · replace h := ed_pos q22 h
        exact K1 _ _ hM4  (lq_r h hq1)
      · replace h := ed_neg q22 h
        refine iq_aload_n hS 26 J_MScriptRows_endLabel_d25 l5 rfl ?_
        refine iq_getR hS 29 J_MScriptRows_endLabel_d26 lf_15_56 (Or.inr ⟨_, rfl⟩) (ka_71 hM4) (ra_71_36 hM4) rfl ?_
        refine iq_iconst hS 30 J_MScriptRows_endLabel_d29 (v := 4) (by decide +kernel) rfl ?_
        refine iq_aload_n hS 31 J_MScriptRows_endLabel_d30 l5 rfl ?_
        refine iq_getI hS 34 J_MScriptRows_endLabel_d31 lf_15_204 (Or.inl rfl) (ka_71 hM4) rfl ?_
        refine iq_imul hS 35 J_MScriptRows_endLabel_d34 rfl ?_
        refine iq_aload_n hS 36 J_MScriptRows_endLabel_d35 l5 rfl ?_
        refine iq_getI hS 39 J_MScriptRows_endLabel_d36 lf_15_219 (Or.inl rfl) (ka_71 hM4) rfl ?_
        obtain ⟨g39, h⟩ := ed_gd h
        refine iq_iastore hS 40 J_MScriptRows_endLabel_d39 ⟨(ka_86 hM4).1, (ka_86 hM4).2, g39.1, ix_lt (kl_86 hM4) g39.2⟩ rfl ?_
        refine iq_aload_n hS 41 J_MScriptRows_endLabel_d40 l5 rfl ?_
        refine iq_getR hS 44 J_MScriptRows_endLabel_d41 lf_15_56 (Or.inr ⟨_, rfl⟩) (ka_71 (lw_sI hM4)) (ra_71_36 (lw_sI hM4)) rfl ?_
        refine iq_iconst hS 45 J_MScriptRows_endLabel_d44 (v := 4) (by decide +kernel) rfl ?_
        refine iq_aload_n hS 46 J_MScriptRows_endLabel_d45 l5 rfl ?_
        refine iq_getI hS 49 J_MScriptRows_endLabel_d46 lf_15_204 (Or.inl rfl) (ka_71 (lw_sI hM4)) rfl ?_
        refine iq_imul hS 50 J_MScriptRows_endLabel_d49 rfl ?_
        refine iq_iconst hS 51 J_MScriptRows_endLabel_d50 (v := 1) (by decide +kernel) rfl ?_
        refine iq_iadd hS 52 J_MScriptRows_endLabel_d51 rfl ?_
        refine iq_aload_n hS 53 J_MScriptRows_endLabel_d52 l5 rfl ?_
        refine iq_getI hS 56 J_MScriptRows_endLabel_d53 lf_15_222 (Or.inl rfl) (ka_71 (lw_sI hM4)) rfl ?_
        obtain ⟨g56, h⟩ := ed_gd h
        refine iq_iastore hS 57 J_MScriptRows_endLabel_d56 ⟨(ka_86 (lw_sI hM4)).1, (ka_86 (lw_sI hM4)).2, g56.1, ix_lt (kl_86 (lw_sI hM4)) g56.2⟩ rfl ?_
        refine iq_aload_n hS 58 J_MScriptRows_endLabel_d57 l5 rfl ?_
        refine iq_getR hS 61 J_MScriptRows_endLabel_d58 lf_15_56 (Or.inr ⟨_, rfl⟩) (ka_71 (lw_sI (lw_sI hM4))) (ra_71_36 (lw_sI (lw_sI hM4))) rfl ?_
        refine iq_iconst hS 62 J_MScriptRows_endLabel_d61 (v := 4) (by decide +kernel) rfl ?_
        refine iq_aload_n hS 63 J_MScriptRows_endLabel_d62 l5 rfl ?_
        refine iq_getI hS 66 J_MScriptRows_endLabel_d63 lf_15_204 (Or.inl rfl) (ka_71 (lw_sI (lw_sI hM4))) rfl ?_
        refine iq_imul hS 67 J_MScriptRows_endLabel_d66 rfl ?_
        refine iq_iconst hS 68 J_MScriptRows_endLabel_d67 (v := 2) (by decide +kernel) rfl ?_
        refine iq_iadd hS 69 J_MScriptRows_endLabel_d68 rfl ?_
        refine iq_aload_n hS 70 J_MScriptRows_endLabel_d69 l5 rfl ?_
        refine iq_getI hS 73 J_MScriptRows_endLabel_d70 lf_15_155 (Or.inl rfl) (ka_71 (lw_sI (lw_sI hM4))) rfl ?_
        obtain ⟨g73, h⟩ := ed_gd h
        refine iq_iastore hS 74 J_MScriptRows_endLabel_d73 ⟨(ka_86 (lw_sI (lw_sI hM4))).1, (ka_86 (lw_sI (lw_sI hM4))).2, g73.1, ix_lt (kl_86 (lw_sI (lw_sI hM4))) g73.2⟩ rfl ?_
        refine iq_aload_n hS 75 J_MScriptRows_endLabel_d74 l5 rfl ?_
        refine iq_getR hS 78 J_MScriptRows_endLabel_d75 lf_15_56 (Or.inr ⟨_, rfl⟩) (ka_71 (lw_sI (lw_sI (lw_sI hM4)))) (ra_71_36 (lw_sI (lw_sI (lw_sI hM4)))) rfl ?_
        refine iq_iconst hS 79 J_MScriptRows_endLabel_d78 (v := 4) (by decide +kernel) rfl ?_
        refine iq_aload_n hS 80 J_MScriptRows_endLabel_d79 l5 rfl ?_
        refine iq_getI hS 83 J_MScriptRows_endLabel_d80 lf_15_204 (Or.inl rfl) (ka_71 (lw_sI (lw_sI (lw_sI hM4)))) rfl ?_
        refine iq_imul hS 84 J_MScriptRows_endLabel_d83 rfl ?_
        refine iq_iconst hS 85 J_MScriptRows_endLabel_d84 (v := 3) (by decide +kernel) rfl ?_
        refine iq_iadd hS 86 J_MScriptRows_endLabel_d85 rfl ?_
        refine iq_iload_n hS 87 J_MScriptRows_endLabel_d86 l6 rfl ?_
        obtain ⟨g87, h⟩ := ed_gd h
        refine iq_iastore hS 88 J_MScriptRows_endLabel_d87 ⟨(ka_86 (lw_sI (lw_sI (lw_sI hM4)))).1, (ka_86 (lw_sI (lw_sI (lw_sI hM4)))).2, g87.1, ix_lt (kl_86 (lw_sI (lw_sI (lw_sI hM4)))) g87.2⟩ rfl ?_
        refine iq_iconst hS 89 J_MScriptRows_endLabel_d88 (v := 0) (by decide +kernel) rfl ?_
        refine iq_istore_n hS 90 J_MScriptRows_endLabel_d89 (by decide) rfl ?_
        obtain ⟨Q8, hQ8, h⟩ := bd1_ed h
        have K8 : ∀ (M9 : im_M) (L' : List (Nat × Value)), lw_S w M9 → im_lk L' 0 = some (.ref 71) → im_lk L' 1 = some (.int (im_i (im_setI (im_setI M 71 18 0) 71 33 1) 71 26)) → im_lk L' 2 = some (.int x3) → Q8 M9 → ia (tb_G L xs) (dep + 6) J_MScriptRows_endLabel (rwV w Q) (110, L', [], M9) := by
          intro M9 L' hM9 l10 l11 l12 h
          replace h := hQ8 _ h
          refine iq_aload_n hS 111 J_MScriptRows_endLabel_d110 l10 rfl ?_
          refine iq_dup hS 112 J_MScriptRows_endLabel_d111 rfl rfl ?_
          refine iq_getI hS 115 J_MScriptRows_endLabel_d112 lf_15_204 (Or.inl rfl) (ka_71 hM9) rfl ?_
          refine iq_iconst hS 116 J_MScriptRows_endLabel_d115 (v := 1) (by decide +kernel) rfl ?_
          refine iq_iadd hS 117 J_MScriptRows_endLabel_d116 rfl ?_
          refine iq_putI hS 120 J_MScriptRows_endLabel_d117 lf_15_204 (Or.inl rfl) rfl (ka_71 hM9) rfl ?_
          refine iq_iincv hS 123 J_MScriptRows_endLabel_d120 (c := 1) (by decide +kernel) l12 (by decide) rfl ?_
          refine iq_goto hS J_MScriptRows_endLabel_d123 (t := 17) rfl ?_
          exact ih _ _ _ (lw_sI hM9) (lk_1r l10 (by decide)) (lk_1i l11 (by decide)) lk_1s (lq_l h)
        obtain ⟨r8, hr8, hq8⟩ := h
        obtain ⟨n8, hn8⟩ := lp_n hr8
        have I8 : ∀ (n : Nat) (x13 : Int32) (M14 : im_M) (L' : List (Nat × Value)), lw_S w M14 → im_lk L' 0 = some (.ref 71) → im_lk L' 1 = some (.int (im_i (im_setI (im_setI M 71 18 0) 71 33 1) 71 26)) → im_lk L' 2 = some (.int x3) → im_lk L' 3 = some (.int x13) → lpn (uc2 (f_MScriptRows_endLabel_L90 (im_i (im_setI (im_setI M 71 18 0) 71 33 1) 71 26) x3)) n (x13, M14) = some r8 → ia (tb_G L xs) (dep + 6) J_MScriptRows_endLabel (rwV w Q) (90, L', [], M14) := by
          intro n
          induction n with
          | zero => intro x13 M14 L' hM14 l15 l16 l17 l18 hn; exact (lpn_0 hn).elim
          | succ n ih =>
            intro x13 M14 L' hM14 l15 l16 l17 l18 hn
            have h := lpn_ed2 hn
            unfold f_MScriptRows_endLabel_L90 at h
            refine iq_iload_n hS 91 J_MScriptRows_endLabel_d90 l18 rfl ?_
            refine iq_aload_n hS 92 J_MScriptRows_endLabel_d91 l15 rfl ?_
            refine iq_getI hS 95 J_MScriptRows_endLabel_d92 lf_15_113 (Or.inl rfl) (ka_71 hM14) rfl ?_
            refine iq_icmp_ge hS 98 J_MScriptRows_endLabel_d95 (t := 110) rfl (fun q95 => ?_) rfl (fun q95 => ?_)
            · replace h := ed_pos q95 h
              exact K8 _ _ hM14 l15 l16 l17 (lq_r h hq8)
            · replace h := ed_neg q95 h
              refine iq_aload_n hS 99 J_MScriptRows_endLabel_d98 l15 rfl ?_
              refine iq_iload_n hS 100 J_MScriptRows_endLabel_d99 l18 rfl ?_
              refine iq_iload_n hS 101 J_MScriptRows_endLabel_d100 l17 rfl ?_
              obtain ⟨Q19, hQ19, h⟩ := bd1_ed h
              refine iq_cwV hS 104 J_MScriptRows_endLabel_d101 rfl (pr_inst (vs := [_, _]) lc_15_139 lT_300 rfl rfl (by decide) (by decide) rfl (Nat.le_of_ble_eq_true rfl) (Nat.le_of_ble_eq_true rfl) (fun _ => Or.inl (pr_b (ka_71 hM14) (by decide) rfl))) (f_MScriptRows_makeField_ok (dep := dep + 0) hM14 h) rfl ?_
              intro M19 hM19 h
              replace h := hQ19 _ h
              refine iq_iincv hS 107 J_MScriptRows_endLabel_d104 (c := 1) (by decide +kernel) l18 (by decide) rfl ?_
              refine iq_goto hS J_MScriptRows_endLabel_d107 (t := 90) rfl ?_
              exact ih _ _ _ hM19 (lk_1r l15 (by decide)) (lk_1i l16 (by decide)) (lk_1i l17 (by decide)) lk_1s (lq_l h)
        exact I8 n8 _ _ _ (lw_sI (lw_sI (lw_sI (lw_sI hM4)))) (lk_1r l5 (by decide)) (lk_1i l6 (by decide)) (lk_1i l7 (by decide)) lk_1s hn8
  exact I1 n1 _ _ _ (lw_sI (lw_sI hM)) (lk_1r (lk_1r l0 (by decide)) (by decide)) (lk_1i lk_1s (by decide)) lk_1s hn1
theorem f_MScriptRows_endLabel_fr {M : im_M} {r : im_M} (h : f_MScriptRows_endLabel M = some r) : fr 580284393415022003858964480 [(71, 18), (71, 26), (71, 32), (71, 33), (71, 35), (71, 37)] M r := by
  replace h : ed (f_MScriptRows_endLabel M) (fun x => x = r) := ⟨r, h, rfl⟩
  unfold f_MScriptRows_endLabel at h
  obtain ⟨Q1, hQ1, h⟩ := bd1_ed h
  have K1 : ∀ (M2 : im_M), fr 580284393415022003858964480 [(71, 18), (71, 26), (71, 32), (71, 33), (71, 35), (71, 37)] M M2 → Q1 M2 → fr 580284393415022003858964480 [(71, 18), (71, 26), (71, 32), (71, 33), (71, 35), (71, 37)] M r := by
    intro M2 hM2 h
    replace h := hQ1 _ h
    exact fr_retV h hM2
  obtain ⟨r1, hr1, hq1⟩ := h
  obtain ⟨n1, hn1⟩ := lp_n hr1
  have I1 : ∀ (n : Nat) (x3 : Int32) (M4 : im_M), fr 580284393415022003858964480 [(71, 18), (71, 26), (71, 32), (71, 33), (71, 35), (71, 37)] M M4 → lpn (uc2 (f_MScriptRows_endLabel_L17 (im_i (im_setI (im_setI M 71 18 0) 71 33 1) 71 26))) n (x3, M4) = some r1 → fr 580284393415022003858964480 [(71, 18), (71, 26), (71, 32), (71, 33), (71, 35), (71, 37)] M r := by
    intro n
    induction n with
    | zero => intro x3 M4 hM4 hn; exact (lpn_0 hn).elim
    | succ n ih =>
      intro x3 M4 hM4 hn
      have h := lpn_ed2 hn
      unfold f_MScriptRows_endLabel_L17 at h
      by_cases q22 : (im_i M4 71 21) ≤ x3
      · replace h := ed_pos q22 h
        exact K1 _ hM4 (lq_r h hq1)
      · replace h := ed_neg q22 h
        obtain ⟨g39, h⟩ := ed_gd h
        obtain ⟨g56, h⟩ := ed_gd h
        obtain ⟨g73, h⟩ := ed_gd h
        obtain ⟨g87, h⟩ := ed_gd h
        obtain ⟨Q5, hQ5, h⟩ := bd1_ed h
        have K5 : ∀ (M6 : im_M), fr 580284393415022003858964480 [(71, 18), (71, 26), (71, 32), (71, 33), (71, 35), (71, 37)] M M6 → Q5 M6 → fr 580284393415022003858964480 [(71, 18), (71, 26), (71, 32), (71, 33), (71, 35), (71, 37)] M r := by
          intro M6 hM6 h
          replace h := hQ5 _ h
          exact ih _ _ (fr_F (by decide) hM6) (lq_l h)
        obtain ⟨r5, hr5, hq5⟩ := h
        obtain ⟨n5, hn5⟩ := lp_n hr5
        have I5 : ∀ (n : Nat) (x7 : Int32) (M8 : im_M), fr 580284393415022003858964480 [(71, 18), (71, 26), (71, 32), (71, 33), (71, 35), (71, 37)] M M8 → lpn (uc2 (f_MScriptRows_endLabel_L90 (im_i (im_setI (im_setI M 71 18 0) 71 33 1) 71 26) x3)) n (x7, M8) = some r5 → fr 580284393415022003858964480 [(71, 18), (71, 26), (71, 32), (71, 33), (71, 35), (71, 37)] M r := by
          intro n
          induction n with
          | zero => intro x7 M8 hM8 hn; exact (lpn_0 hn).elim
          | succ n ih =>
            intro x7 M8 hM8 hn
            have h := lpn_ed2 hn
            unfold f_MScriptRows_endLabel_L90 at h
            by_cases q95 : (im_i M8 71 25) ≤ x7
            · replace h := ed_pos q95 h
              exact K5 _ hM8 (lq_r h hq5)
            · replace h := ed_neg q95 h
              obtain ⟨Q9, hQ9, h⟩ := bd1_ed h
              obtain ⟨M9, e9, h⟩ := h
              replace h := hQ9 _ h
              exact ih _ _ (fr_tr (fr_mono (by decide) (by decide +kernel) (f_MScriptRows_makeField_fr e9)) hM8) (lq_l h)
        exact I5 n5 _ _ (fr_I (by decide) (fr_I (by decide) (fr_I (by decide) (fr_I (by decide) hM4)))) hn5
  exact I1 n1 _ _ (fr_F (by decide) (fr_F (by decide) fr_refl)) hn1
noncomputable def f_MScriptRows_storeData_L54 (v12 : Int32) (v13 : Int32) (x14 : Int32) (M15 : im_M) : Option ((Int32 × im_M) ⊕ (im_M)) := if 200 ≤ x14 then some (.inr M15) else bd1 (if ¬ v12 = 75 then bd1 (if ¬ v12 = 88 then gd (inb (((200 : Int32) * v13) + x14) 2000) <| some (im_i M15 75 (Int32.toNatClampNeg (((200 : Int32) * v13) + x14))) else gd (inb x14 200) <| some (im_i M15 79 (Int32.toNatClampNeg x14))) fun (y18 : Int32) => gd (inb x14 200) <| some (im_setI M15 83 (Int32.toNatClampNeg x14) y18) else gd (inb x14 200) <| gd (inb (((200 : Int32) * v13) + x14) 2000) <| some (im_setI M15 75 (Int32.toNatClampNeg (((200 : Int32) * v13) + x14)) (im_i M15 79 (Int32.toNatClampNeg x14)))) fun (M23 : im_M) => some (.inl ((x14 + 1), M23))
noncomputable def f_MScriptRows_storeData (p0 : Int32) (M : im_M) : Option (im_M) := gd (inb 0 4) <| bd1 (if ¬ p0 = 75 then bd1 (if ¬ p0 = 88 then gd (inb (im_i M 78 (Int32.toNatClampNeg 0)) 10) <| some (im_i M 76 (Int32.toNatClampNeg (im_i M 78 (Int32.toNatClampNeg 0)))) else some (im_i M 71 17)) fun (y3 : Int32) => gd (inb 10 16) <| some (im_setI M 81 (Int32.toNatClampNeg 10) y3) else gd (inb (im_i M 78 (Int32.toNatClampNeg 0)) 10) <| some (im_setI M 76 (Int32.toNatClampNeg (im_i M 78 (Int32.toNatClampNeg 0))) (im_i M 71 17))) fun (M7 : im_M) => bd1 (lp (uc2 (f_MScriptRows_storeData_L54 p0 (im_i M 78 (Int32.toNatClampNeg 0)))) (0, M7)) fun (M28 : im_M) => some M28
theorem J_MScriptRows_storeData_d0 : decode J_MScriptRows_storeData.2.1 0 = .ok (.aload_n 0, 1) := by decide +kernel
theorem J_MScriptRows_storeData_d1 : decode J_MScriptRows_storeData.2.1 1 = .ok (.getfield 32, 3) := by decide +kernel
theorem J_MScriptRows_storeData_d4 : decode J_MScriptRows_storeData.2.1 4 = .ok (.iconst 0, 1) := by decide +kernel
theorem J_MScriptRows_storeData_d5 : decode J_MScriptRows_storeData.2.1 5 = .ok (.iaload, 1) := by decide +kernel
theorem J_MScriptRows_storeData_d6 : decode J_MScriptRows_storeData.2.1 6 = .ok (.istore_n 2, 1) := by decide +kernel
theorem J_MScriptRows_storeData_d7 : decode J_MScriptRows_storeData.2.1 7 = .ok (.iload_n 1, 1) := by decide +kernel
theorem J_MScriptRows_storeData_d8 : decode J_MScriptRows_storeData.2.1 8 = .ok (.bipush 75, 2) := by decide +kernel
theorem J_MScriptRows_storeData_d10 : decode J_MScriptRows_storeData.2.1 10 = .ok (.if_icmp .ne 16, 3) := by decide +kernel
theorem J_MScriptRows_storeData_d13 : decode J_MScriptRows_storeData.2.1 13 = .ok (.aload_n 0, 1) := by decide +kernel
theorem J_MScriptRows_storeData_d14 : decode J_MScriptRows_storeData.2.1 14 = .ok (.getfield 22, 3) := by decide +kernel
theorem J_MScriptRows_storeData_d17 : decode J_MScriptRows_storeData.2.1 17 = .ok (.iload_n 2, 1) := by decide +kernel
theorem J_MScriptRows_storeData_d18 : decode J_MScriptRows_storeData.2.1 18 = .ok (.aload_n 0, 1) := by decide +kernel
theorem J_MScriptRows_storeData_d19 : decode J_MScriptRows_storeData.2.1 19 = .ok (.getfield 101, 3) := by decide +kernel
theorem J_MScriptRows_storeData_d22 : decode J_MScriptRows_storeData.2.1 22 = .ok (.iastore, 1) := by decide +kernel
theorem J_MScriptRows_storeData_d23 : decode J_MScriptRows_storeData.2.1 23 = .ok (.goto 29, 3) := by decide +kernel
theorem J_MScriptRows_storeData_d26 : decode J_MScriptRows_storeData.2.1 26 = .ok (.aload_n 0, 1) := by decide +kernel
theorem J_MScriptRows_storeData_d27 : decode J_MScriptRows_storeData.2.1 27 = .ok (.getfield 41, 3) := by decide +kernel
theorem J_MScriptRows_storeData_d30 : decode J_MScriptRows_storeData.2.1 30 = .ok (.bipush 10, 2) := by decide +kernel
theorem J_MScriptRows_storeData_d32 : decode J_MScriptRows_storeData.2.1 32 = .ok (.iload_n 1, 1) := by decide +kernel
theorem J_MScriptRows_storeData_d33 : decode J_MScriptRows_storeData.2.1 33 = .ok (.bipush 88, 2) := by decide +kernel
theorem J_MScriptRows_storeData_d35 : decode J_MScriptRows_storeData.2.1 35 = .ok (.if_icmp .ne 10, 3) := by decide +kernel
theorem J_MScriptRows_storeData_d38 : decode J_MScriptRows_storeData.2.1 38 = .ok (.aload_n 0, 1) := by decide +kernel
theorem J_MScriptRows_storeData_d39 : decode J_MScriptRows_storeData.2.1 39 = .ok (.getfield 101, 3) := by decide +kernel
theorem J_MScriptRows_storeData_d42 : decode J_MScriptRows_storeData.2.1 42 = .ok (.goto 9, 3) := by decide +kernel
theorem J_MScriptRows_storeData_d45 : decode J_MScriptRows_storeData.2.1 45 = .ok (.aload_n 0, 1) := by decide +kernel
theorem J_MScriptRows_storeData_d46 : decode J_MScriptRows_storeData.2.1 46 = .ok (.getfield 22, 3) := by decide +kernel
theorem J_MScriptRows_storeData_d49 : decode J_MScriptRows_storeData.2.1 49 = .ok (.iload_n 2, 1) := by decide +kernel
theorem J_MScriptRows_storeData_d50 : decode J_MScriptRows_storeData.2.1 50 = .ok (.iaload, 1) := by decide +kernel
theorem J_MScriptRows_storeData_d51 : decode J_MScriptRows_storeData.2.1 51 = .ok (.iastore, 1) := by decide +kernel
theorem J_MScriptRows_storeData_d52 : decode J_MScriptRows_storeData.2.1 52 = .ok (.iconst 0, 1) := by decide +kernel
theorem J_MScriptRows_storeData_d53 : decode J_MScriptRows_storeData.2.1 53 = .ok (.istore_n 3, 1) := by decide +kernel
theorem J_MScriptRows_storeData_d54 : decode J_MScriptRows_storeData.2.1 54 = .ok (.iload_n 3, 1) := by decide +kernel
theorem J_MScriptRows_storeData_d55 : decode J_MScriptRows_storeData.2.1 55 = .ok (.sipush 200, 3) := by decide +kernel
theorem J_MScriptRows_storeData_d58 : decode J_MScriptRows_storeData.2.1 58 = .ok (.if_icmp .ge 69, 3) := by decide +kernel
theorem J_MScriptRows_storeData_d61 : decode J_MScriptRows_storeData.2.1 61 = .ok (.iload_n 1, 1) := by decide +kernel
theorem J_MScriptRows_storeData_d62 : decode J_MScriptRows_storeData.2.1 62 = .ok (.bipush 75, 2) := by decide +kernel
theorem J_MScriptRows_storeData_d64 : decode J_MScriptRows_storeData.2.1 64 = .ok (.if_icmp .ne 24, 3) := by decide +kernel
theorem J_MScriptRows_storeData_d67 : decode J_MScriptRows_storeData.2.1 67 = .ok (.aload_n 0, 1) := by decide +kernel
theorem J_MScriptRows_storeData_d68 : decode J_MScriptRows_storeData.2.1 68 = .ok (.getfield 19, 3) := by decide +kernel
theorem J_MScriptRows_storeData_d71 : decode J_MScriptRows_storeData.2.1 71 = .ok (.sipush 200, 3) := by decide +kernel
theorem J_MScriptRows_storeData_d74 : decode J_MScriptRows_storeData.2.1 74 = .ok (.iload_n 2, 1) := by decide +kernel
theorem J_MScriptRows_storeData_d75 : decode J_MScriptRows_storeData.2.1 75 = .ok (.imul, 1) := by decide +kernel
theorem J_MScriptRows_storeData_d76 : decode J_MScriptRows_storeData.2.1 76 = .ok (.iload_n 3, 1) := by decide +kernel
theorem J_MScriptRows_storeData_d77 : decode J_MScriptRows_storeData.2.1 77 = .ok (.iadd, 1) := by decide +kernel
theorem J_MScriptRows_storeData_d78 : decode J_MScriptRows_storeData.2.1 78 = .ok (.aload_n 0, 1) := by decide +kernel
theorem J_MScriptRows_storeData_d79 : decode J_MScriptRows_storeData.2.1 79 = .ok (.getfield 35, 3) := by decide +kernel
theorem J_MScriptRows_storeData_d82 : decode J_MScriptRows_storeData.2.1 82 = .ok (.iload_n 3, 1) := by decide +kernel
theorem J_MScriptRows_storeData_d83 : decode J_MScriptRows_storeData.2.1 83 = .ok (.iaload, 1) := by decide +kernel
theorem J_MScriptRows_storeData_d84 : decode J_MScriptRows_storeData.2.1 84 = .ok (.iastore, 1) := by decide +kernel
theorem J_MScriptRows_storeData_d85 : decode J_MScriptRows_storeData.2.1 85 = .ok (.goto 36, 3) := by decide +kernel
theorem J_MScriptRows_storeData_d88 : decode J_MScriptRows_storeData.2.1 88 = .ok (.aload_n 0, 1) := by decide +kernel
theorem J_MScriptRows_storeData_d89 : decode J_MScriptRows_storeData.2.1 89 = .ok (.getfield 47, 3) := by decide +kernel
theorem J_MScriptRows_storeData_d92 : decode J_MScriptRows_storeData.2.1 92 = .ok (.iload_n 3, 1) := by decide +kernel
theorem J_MScriptRows_storeData_d93 : decode J_MScriptRows_storeData.2.1 93 = .ok (.iload_n 1, 1) := by decide +kernel
theorem J_MScriptRows_storeData_d94 : decode J_MScriptRows_storeData.2.1 94 = .ok (.bipush 88, 2) := by decide +kernel
theorem J_MScriptRows_storeData_d96 : decode J_MScriptRows_storeData.2.1 96 = .ok (.if_icmp .ne 12, 3) := by decide +kernel
theorem J_MScriptRows_storeData_d99 : decode J_MScriptRows_storeData.2.1 99 = .ok (.aload_n 0, 1) := by decide +kernel
theorem J_MScriptRows_storeData_d100 : decode J_MScriptRows_storeData.2.1 100 = .ok (.getfield 35, 3) := by decide +kernel
theorem J_MScriptRows_storeData_d103 : decode J_MScriptRows_storeData.2.1 103 = .ok (.iload_n 3, 1) := by decide +kernel
theorem J_MScriptRows_storeData_d104 : decode J_MScriptRows_storeData.2.1 104 = .ok (.iaload, 1) := by decide +kernel
theorem J_MScriptRows_storeData_d105 : decode J_MScriptRows_storeData.2.1 105 = .ok (.goto 15, 3) := by decide +kernel
theorem J_MScriptRows_storeData_d108 : decode J_MScriptRows_storeData.2.1 108 = .ok (.aload_n 0, 1) := by decide +kernel
theorem J_MScriptRows_storeData_d109 : decode J_MScriptRows_storeData.2.1 109 = .ok (.getfield 19, 3) := by decide +kernel
theorem J_MScriptRows_storeData_d112 : decode J_MScriptRows_storeData.2.1 112 = .ok (.sipush 200, 3) := by decide +kernel
theorem J_MScriptRows_storeData_d115 : decode J_MScriptRows_storeData.2.1 115 = .ok (.iload_n 2, 1) := by decide +kernel
theorem J_MScriptRows_storeData_d116 : decode J_MScriptRows_storeData.2.1 116 = .ok (.imul, 1) := by decide +kernel
theorem J_MScriptRows_storeData_d117 : decode J_MScriptRows_storeData.2.1 117 = .ok (.iload_n 3, 1) := by decide +kernel
theorem J_MScriptRows_storeData_d118 : decode J_MScriptRows_storeData.2.1 118 = .ok (.iadd, 1) := by decide +kernel
theorem J_MScriptRows_storeData_d119 : decode J_MScriptRows_storeData.2.1 119 = .ok (.iaload, 1) := by decide +kernel
theorem J_MScriptRows_storeData_d120 : decode J_MScriptRows_storeData.2.1 120 = .ok (.iastore, 1) := by decide +kernel
theorem J_MScriptRows_storeData_d121 : decode J_MScriptRows_storeData.2.1 121 = .ok (.iinc 3 1, 3) := by decide +kernel
theorem J_MScriptRows_storeData_d124 : decode J_MScriptRows_storeData.2.1 124 = .ok (.goto (-70), 3) := by decide +kernel
theorem J_MScriptRows_storeData_d127 : decode J_MScriptRows_storeData.2.1 127 = .ok (.return_, 1) := by decide +kernel
theorem f_MScriptRows_storeData_ok {L : Nat} {xs : Nat → Int32} {dep : Nat} {w : Bool} {p0 : Int32} {M : im_M} {Q : im_M → Prop} (hM : lw_S w M) (h : ed (f_MScriptRows_storeData p0 M) Q) : ia (tb_G L xs) dep J_MScriptRows_storeData (rwV w Q) (0, lv_args 0 [.ref 71, .int p0], [], M) := by
  have hS : im_St (tb_G L xs) dep J_MScriptRows_storeData (ia (tb_G L xs) dep J_MScriptRows_storeData (rwV w Q)) := ia_St
  unfold f_MScriptRows_storeData at h
  have l0 : im_lk (lv_args 0 [.ref 71, .int p0]) 0 = some (.ref 71) := rfl
  have l1 : im_lk (lv_args 0 [.ref 71, .int p0]) 1 = some (.int p0) := rfl
  refine iq_aload_n hS 1 J_MScriptRows_storeData_d0 l0 rfl ?_
  refine iq_getR hS 4 J_MScriptRows_storeData_d1 lf_15_32 (Or.inr ⟨_, rfl⟩) (ka_71 hM) (ra_71_15 hM) rfl ?_
  refine iq_iconst hS 5 J_MScriptRows_storeData_d4 (v := 0) (by decide +kernel) rfl ?_
  obtain ⟨g5, h⟩ := ed_gd h
  refine iq_iaload hS 6 J_MScriptRows_storeData_d5 ⟨(ka_78 hM).1, (ka_78 hM).2, g5.1, ix_lt (kl_78 hM) g5.2⟩ rfl ?_
  refine iq_istore_n hS 7 J_MScriptRows_storeData_d6 (by decide) rfl ?_
  refine iq_iload_n hS 8 J_MScriptRows_storeData_d7 (lk_1i l1 (by decide)) rfl ?_
  refine iq_bipush hS 10 J_MScriptRows_storeData_d8 (v := 75) (by decide +kernel) rfl ?_
  obtain ⟨Q1, hQ1, h⟩ := bd1_ed h
  have J1 : ∀ (M7 : im_M) (L' : List (Nat × Value)), lw_S w M7 → im_lk L' 0 = some (.ref 71) → im_lk L' 1 = some (.int p0) → im_lk L' 2 = some (.int (im_i M 78 (Int32.toNatClampNeg 0))) → Q1 M7 → ia (tb_G L xs) dep J_MScriptRows_storeData (rwV w Q) (52, L', [], M7) := by
    intro M7 L' hM7 l8 l9 l10 h
    replace h := hQ1 _ h
    refine iq_iconst hS 53 J_MScriptRows_storeData_d52 (v := 0) (by decide +kernel) rfl ?_
    refine iq_istore_n hS 54 J_MScriptRows_storeData_d53 (by decide) rfl ?_
    obtain ⟨Q11, hQ11, h⟩ := bd1_ed h
    have K11 : ∀ (M12 : im_M) (L' : List (Nat × Value)), lw_S w M12 → Q11 M12 → ia (tb_G L xs) dep J_MScriptRows_storeData (rwV w Q) (127, L', [], M12) := by
      intro M12 L' hM12  h
      replace h := hQ11 _ h
      exact iq_ret J_MScriptRows_storeData_d127 rfl ⟨rfl, hM12, ed_some h⟩
    obtain ⟨r11, hr11, hq11⟩ := h
    obtain ⟨n11, hn11⟩ := lp_n hr11
    have I11 : ∀ (n : Nat) (x13 : Int32) (M14 : im_M) (L' : List (Nat × Value)), lw_S w M14 → im_lk L' 0 = some (.ref 71) → im_lk L' 1 = some (.int p0) → im_lk L' 2 = some (.int (im_i M 78 (Int32.toNatClampNeg 0))) → im_lk L' 3 = some (.int x13) → lpn (uc2 (f_MScriptRows_storeData_L54 p0 (im_i M 78 (Int32.toNatClampNeg 0)))) n (x13, M14) = some r11 → ia (tb_G L xs) dep J_MScriptRows_storeData (rwV w Q) (54, L', [], M14) := by
      intro n
      induction n with
      | zero => intro x13 M14 L' hM14 l15 l16 l17 l18 hn; exact (lpn_0 hn).elim
      | succ n ih =>
        intro x13 M14 L' hM14 l15 l16 l17 l18 hn
        have h := lpn_ed2 hn
        unfold f_MScriptRows_storeData_L54 at h
        refine iq_iload_n hS 55 J_MScriptRows_storeData_d54 l18 rfl ?_
        refine iq_sipush hS 58 J_MScriptRows_storeData_d55 (v := 200) (by decide +kernel) rfl ?_
        refine iq_icmp_ge hS 61 J_MScriptRows_storeData_d58 (t := 127) rfl (fun q58 => ?_) rfl (fun q58 => ?_)
        · replace h := ed_pos q58 h
          exact K11 _ _ hM14  (lq_r h hq11)
        · replace h := ed_neg q58 h
          refine iq_iload_n hS 62 J_MScriptRows_storeData_d61 l16 rfl ?_
          refine iq_bipush hS 64 J_MScriptRows_storeData_d62 (v := 75) (by decide +kernel) rfl ?_
          obtain ⟨Q19, hQ19, h⟩ := bd1_ed h
          have J19 : ∀ (M26 : im_M) (L' : List (Nat × Value)), lw_S w M26 → im_lk L' 0 = some (.ref 71) → im_lk L' 1 = some (.int p0) → im_lk L' 2 = some (.int (im_i M 78 (Int32.toNatClampNeg 0))) → im_lk L' 3 = some (.int x13) → Q19 M26 → ia (tb_G L xs) dep J_MScriptRows_storeData (rwV w Q) (121, L', [], M26) := by
            intro M26 L' hM26 l27 l28 l29 l30 h
            replace h := hQ19 _ h
            refine iq_iincv hS 124 J_MScriptRows_storeData_d121 (c := 1) (by decide +kernel) l30 (by decide) rfl ?_
            refine iq_goto hS J_MScriptRows_storeData_d124 (t := 54) rfl ?_
            exact ih _ _ _ hM26 (lk_1r l27 (by decide)) (lk_1i l28 (by decide)) (lk_1i l29 (by decide)) lk_1s (lq_l h)
          refine iq_icmp_ne hS 67 J_MScriptRows_storeData_d64 (t := 88) rfl (fun q64 => ?_) rfl (fun q64 => ?_)
          · replace h := ed_pos q64 h
            refine iq_aload_n hS 89 J_MScriptRows_storeData_d88 l15 rfl ?_
            refine iq_getR hS 92 J_MScriptRows_storeData_d89 lf_15_47 (Or.inr ⟨_, rfl⟩) (ka_71 hM14) (ra_71_29 hM14) rfl ?_
            refine iq_iload_n hS 93 J_MScriptRows_storeData_d92 l18 rfl ?_
            refine iq_iload_n hS 94 J_MScriptRows_storeData_d93 l16 rfl ?_
            refine iq_bipush hS 96 J_MScriptRows_storeData_d94 (v := 88) (by decide +kernel) rfl ?_
            obtain ⟨Q20, hQ20, h⟩ := bd1_ed h
            have J20 : ∀ (y21 : Int32) (L' : List (Nat × Value)), im_lk L' 0 = some (.ref 71) → im_lk L' 1 = some (.int p0) → im_lk L' 2 = some (.int (im_i M 78 (Int32.toNatClampNeg 0))) → im_lk L' 3 = some (.int x13) → Q20 y21 → ia (tb_G L xs) dep J_MScriptRows_storeData (rwV w Q) (120, L', [.int y21, .int x13, .ref 83], M14) := by
              intro y21 L' l22 l23 l24 l25 h
              replace h := hQ20 _ h
              obtain ⟨g120, h⟩ := ed_gd h
              refine iq_iastore hS 121 J_MScriptRows_storeData_d120 ⟨(ka_83 hM14).1, (ka_83 hM14).2, g120.1, ix_lt (kl_83 hM14) g120.2⟩ rfl ?_
              exact J19 _ _ (lw_sI hM14) l22 l23 l24 l25 (ed_some h)
            refine iq_icmp_ne hS 99 J_MScriptRows_storeData_d96 (t := 108) rfl (fun q96 => ?_) rfl (fun q96 => ?_)
            · replace h := ed_pos q96 h
              refine iq_aload_n hS 109 J_MScriptRows_storeData_d108 l15 rfl ?_
              refine iq_getR hS 112 J_MScriptRows_storeData_d109 lf_15_19 (Or.inr ⟨_, rfl⟩) (ka_71 hM14) (ra_71_5 hM14) rfl ?_
              refine iq_sipush hS 115 J_MScriptRows_storeData_d112 (v := 200) (by decide +kernel) rfl ?_
              refine iq_iload_n hS 116 J_MScriptRows_storeData_d115 l17 rfl ?_
              refine iq_imul hS 117 J_MScriptRows_storeData_d116 rfl ?_
              refine iq_iload_n hS 118 J_MScriptRows_storeData_d117 l18 rfl ?_
              refine iq_iadd hS 119 J_MScriptRows_storeData_d118 rfl ?_
              obtain ⟨g119, h⟩ := ed_gd h
              refine iq_iaload hS 120 J_MScriptRows_storeData_d119 ⟨(ka_75 hM14).1, (ka_75 hM14).2, g119.1, ix_lt (kl_75 hM14) g119.2⟩ rfl ?_
              exact J20 _ _ l15 l16 l17 l18 (ed_some h)
            · replace h := ed_neg q96 h
              refine iq_aload_n hS 100 J_MScriptRows_storeData_d99 l15 rfl ?_
              refine iq_getR hS 103 J_MScriptRows_storeData_d100 lf_15_35 (Or.inr ⟨_, rfl⟩) (ka_71 hM14) (ra_71_16 hM14) rfl ?_
              refine iq_iload_n hS 104 J_MScriptRows_storeData_d103 l18 rfl ?_
              obtain ⟨g104, h⟩ := ed_gd h
              refine iq_iaload hS 105 J_MScriptRows_storeData_d104 ⟨(ka_79 hM14).1, (ka_79 hM14).2, g104.1, ix_lt (kl_79 hM14) g104.2⟩ rfl ?_
              refine iq_goto hS J_MScriptRows_storeData_d105 (t := 120) rfl ?_
              exact J20 _ _ l15 l16 l17 l18 (ed_some h)
          · replace h := ed_neg q64 h
            refine iq_aload_n hS 68 J_MScriptRows_storeData_d67 l15 rfl ?_
            refine iq_getR hS 71 J_MScriptRows_storeData_d68 lf_15_19 (Or.inr ⟨_, rfl⟩) (ka_71 hM14) (ra_71_5 hM14) rfl ?_
            refine iq_sipush hS 74 J_MScriptRows_storeData_d71 (v := 200) (by decide +kernel) rfl ?_
            refine iq_iload_n hS 75 J_MScriptRows_storeData_d74 l17 rfl ?_
            refine iq_imul hS 76 J_MScriptRows_storeData_d75 rfl ?_
            refine iq_iload_n hS 77 J_MScriptRows_storeData_d76 l18 rfl ?_
            refine iq_iadd hS 78 J_MScriptRows_storeData_d77 rfl ?_
            refine iq_aload_n hS 79 J_MScriptRows_storeData_d78 l15 rfl ?_
            refine iq_getR hS 82 J_MScriptRows_storeData_d79 lf_15_35 (Or.inr ⟨_, rfl⟩) (ka_71 hM14) (ra_71_16 hM14) rfl ?_
            refine iq_iload_n hS 83 J_MScriptRows_storeData_d82 l18 rfl ?_
            obtain ⟨g83, h⟩ := ed_gd h
            refine iq_iaload hS 84 J_MScriptRows_storeData_d83 ⟨(ka_79 hM14).1, (ka_79 hM14).2, g83.1, ix_lt (kl_79 hM14) g83.2⟩ rfl ?_
            obtain ⟨g84, h⟩ := ed_gd h
            refine iq_iastore hS 85 J_MScriptRows_storeData_d84 ⟨(ka_75 hM14).1, (ka_75 hM14).2, g84.1, ix_lt (kl_75 hM14) g84.2⟩ rfl ?_
            refine iq_goto hS J_MScriptRows_storeData_d85 (t := 121) rfl ?_
            exact J19 _ _ (lw_sI hM14) l15 l16 l17 l18 (ed_some h)
    exact I11 n11 _ _ _ hM7 (lk_1r l8 (by decide)) (lk_1i l9 (by decide)) (lk_1i l10 (by decide)) lk_1s hn11
  refine iq_icmp_ne hS 13 J_MScriptRows_storeData_d10 (t := 26) rfl (fun q10 => ?_) rfl (fun q10 => ?_)
  · replace h := ed_pos q10 h
    refine iq_aload_n hS 27 J_MScriptRows_storeData_d26 (lk_1r l0 (by decide)) rfl ?_
    refine iq_getR hS 30 J_MScriptRows_storeData_d27 lf_15_41 (Or.inr ⟨_, rfl⟩) (ka_71 hM) (ra_71_27 hM) rfl ?_
    refine iq_bipush hS 32 J_MScriptRows_storeData_d30 (v := 10) (by decide +kernel) rfl ?_
    refine iq_iload_n hS 33 J_MScriptRows_storeData_d32 (lk_1i l1 (by decide)) rfl ?_
    refine iq_bipush hS 35 J_MScriptRows_storeData_d33 (v := 88) (by decide +kernel) rfl ?_
    obtain ⟨Q2, hQ2, h⟩ := bd1_ed h
    have J2 : ∀ (y3 : Int32) (L' : List (Nat × Value)), im_lk L' 0 = some (.ref 71) → im_lk L' 1 = some (.int p0) → im_lk L' 2 = some (.int (im_i M 78 (Int32.toNatClampNeg 0))) → Q2 y3 → ia (tb_G L xs) dep J_MScriptRows_storeData (rwV w Q) (51, L', [.int y3, .int 10, .ref 81], M) := by
      intro y3 L' l4 l5 l6 h
      replace h := hQ2 _ h
      obtain ⟨g51, h⟩ := ed_gd h
      refine iq_iastore hS 52 J_MScriptRows_storeData_d51 ⟨(ka_81 hM).1, (ka_81 hM).2, g51.1, ix_lt (kl_81 hM) g51.2⟩ rfl ?_
      exact J1 _ _ (lw_sI hM) l4 l5 l6 (ed_some h)
    refine iq_icmp_ne hS 38 J_MScriptRows_storeData_d35 (t := 45) rfl (fun q35 => ?_) rfl (fun q35 => ?_)
    · replace h := ed_pos q35 h
      refine iq_aload_n hS 46 J_MScriptRows_storeData_d45 (lk_1r l0 (by decide)) rfl ?_
      refine iq_getR hS 49 J_MScriptRows_storeData_d46 lf_15_22 (Or.inr ⟨_, rfl⟩) (ka_71 hM) (ra_71_6 hM) rfl ?_
      refine iq_iload_n hS 50 J_MScriptRows_storeData_d49 lk_1s rfl ?_
      obtain ⟨g50, h⟩ := ed_gd h
      refine iq_iaload hS 51 J_MScriptRows_storeData_d50 ⟨(ka_76 hM).1, (ka_76 hM).2, g50.1, ix_lt (kl_76 hM) g50.2⟩ rfl ?_
      exact J2 _ _ (lk_1r l0 (by decide)) (lk_1i l1 (by decide)) lk_1s (ed_some h)
    · replace h := ed_neg q35 h
      refine iq_aload_n hS 39 J_MScriptRows_storeData_d38 (lk_1r l0 (by decide)) rfl ?_
      refine iq_getI hS 42 J_MScriptRows_storeData_d39 lf_15_101 (Or.inl rfl) (ka_71 hM) rfl ?_
      refine iq_goto hS J_MScriptRows_storeData_d42 (t := 51) rfl ?_
      exact J2 _ _ (lk_1r l0 (by decide)) (lk_1i l1 (by decide)) lk_1s (ed_some h)
  · replace h := ed_neg q10 h
    refine iq_aload_n hS 14 J_MScriptRows_storeData_d13 (lk_1r l0 (by decide)) rfl ?_
    refine iq_getR hS 17 J_MScriptRows_storeData_d14 lf_15_22 (Or.inr ⟨_, rfl⟩) (ka_71 hM) (ra_71_6 hM) rfl ?_
    refine iq_iload_n hS 18 J_MScriptRows_storeData_d17 lk_1s rfl ?_
    refine iq_aload_n hS 19 J_MScriptRows_storeData_d18 (lk_1r l0 (by decide)) rfl ?_
    refine iq_getI hS 22 J_MScriptRows_storeData_d19 lf_15_101 (Or.inl rfl) (ka_71 hM) rfl ?_
    obtain ⟨g22, h⟩ := ed_gd h
    refine iq_iastore hS 23 J_MScriptRows_storeData_d22 ⟨(ka_76 hM).1, (ka_76 hM).2, g22.1, ix_lt (kl_76 hM) g22.2⟩ rfl ?_
    refine iq_goto hS J_MScriptRows_storeData_d23 (t := 52) rfl ?_
    exact J1 _ _ (lw_sI hM) (lk_1r l0 (by decide)) (lk_1i l1 (by decide)) lk_1s (ed_some h)
theorem f_MScriptRows_storeData_fr {p0 : Int32} {M : im_M} {r : im_M} (h : f_MScriptRows_storeData p0 M = some r) : fr 12202594991735163232190464 [] M r := by
  replace h : ed (f_MScriptRows_storeData p0 M) (fun x => x = r) := ⟨r, h, rfl⟩
  unfold f_MScriptRows_storeData at h
  obtain ⟨g5, h⟩ := ed_gd h
  obtain ⟨Q1, hQ1, h⟩ := bd1_ed h
  have J1 : ∀ (M7 : im_M), fr 12202594991735163232190464 [] M M7 → Q1 M7 → fr 12202594991735163232190464 [] M r := by
    intro M7 hM7 h
    replace h := hQ1 _ h
    obtain ⟨Q11, hQ11, h⟩ := bd1_ed h
    have K11 : ∀ (M12 : im_M), fr 12202594991735163232190464 [] M M12 → Q11 M12 → fr 12202594991735163232190464 [] M r := by
      intro M12 hM12 h
      replace h := hQ11 _ h
      exact fr_retV h hM12
    obtain ⟨r11, hr11, hq11⟩ := h
    obtain ⟨n11, hn11⟩ := lp_n hr11
    have I11 : ∀ (n : Nat) (x13 : Int32) (M14 : im_M), fr 12202594991735163232190464 [] M M14 → lpn (uc2 (f_MScriptRows_storeData_L54 p0 (im_i M 78 (Int32.toNatClampNeg 0)))) n (x13, M14) = some r11 → fr 12202594991735163232190464 [] M r := by
      intro n
      induction n with
      | zero => intro x13 M14 hM14 hn; exact (lpn_0 hn).elim
      | succ n ih =>
        intro x13 M14 hM14 hn
        have h := lpn_ed2 hn
        unfold f_MScriptRows_storeData_L54 at h
        by_cases q58 : 200 ≤ x13
        · replace h := ed_pos q58 h
          exact K11 _ hM14 (lq_r h hq11)
        · replace h := ed_neg q58 h
          obtain ⟨Q15, hQ15, h⟩ := bd1_ed h
          have J15 : ∀ (M22 : im_M), fr 12202594991735163232190464 [] M M22 → Q15 M22 → fr 12202594991735163232190464 [] M r := by
            intro M22 hM22 h
            replace h := hQ15 _ h
            exact ih _ _ hM22 (lq_l h)
          by_cases q64 : ¬ p0 = 75
          · replace h := ed_pos q64 h
            obtain ⟨Q16, hQ16, h⟩ := bd1_ed h
            have J16 : ∀ (y17 : Int32), Q16 y17 → fr 12202594991735163232190464 [] M r := by
              intro y17 h
              replace h := hQ16 _ h
              obtain ⟨g120, h⟩ := ed_gd h
              exact J15 _ (fr_I (by decide) hM14) (ed_some h)
            by_cases q96 : ¬ p0 = 88
            · replace h := ed_pos q96 h
              obtain ⟨g119, h⟩ := ed_gd h
              exact J16 _ (ed_some h)
            · replace h := ed_neg q96 h
              obtain ⟨g104, h⟩ := ed_gd h
              exact J16 _ (ed_some h)
          · replace h := ed_neg q64 h
            obtain ⟨g83, h⟩ := ed_gd h
            obtain ⟨g84, h⟩ := ed_gd h
            exact J15 _ (fr_I (by decide) hM14) (ed_some h)
    exact I11 n11 _ _ hM7 hn11
  by_cases q10 : ¬ p0 = 75
  · replace h := ed_pos q10 h
    obtain ⟨Q2, hQ2, h⟩ := bd1_ed h
    have J2 : ∀ (y3 : Int32), Q2 y3 → fr 12202594991735163232190464 [] M r := by
      intro y3 h
      replace h := hQ2 _ h
      obtain ⟨g51, h⟩ := ed_gd h
      exact J1 _ (fr_I (by decide) fr_refl) (ed_some h)
    by_cases q35 : ¬ p0 = 88
    · replace h := ed_pos q35 h
      obtain ⟨g50, h⟩ := ed_gd h
      exact J2 _ (ed_some h)
    · replace h := ed_neg q35 h
      exact J2 _ (ed_some h)
  · replace h := ed_neg q10 h
    obtain ⟨g22, h⟩ := ed_gd h
    exact J1 _ (fr_I (by decide) fr_refl) (ed_some h)
noncomputable def f_MScriptRows_beginLabel (M : im_M) : Option (im_M) := gd (inb 0 4) <| gd (inb 1 4) <| gd (inb 0 4) <| gd (inb 1 4) <| gd (inb 2 4) <| gd (inb 3 4) <| bd1 (f_MScriptRows_newField (im_setI (im_setI (im_setI (im_setI (im_setI (im_setI (im_setI (im_setI (im_setI (im_setI (im_setI (im_setI M 71 18 1) 71 19 (im_i (im_setI M 71 18 1) 78 (Int32.toNatClampNeg 0))) 71 20 (im_i (im_setI (im_setI M 71 18 1) 71 19 (im_i (im_setI M 71 18 1) 78 (Int32.toNatClampNeg 0))) 78 (Int32.toNatClampNeg 1))) 71 21 1) 71 22 0) 71 23 0) 80 (Int32.toNatClampNeg 0) 0) 80 (Int32.toNatClampNeg 1) 1) 80 (Int32.toNatClampNeg 2) 1) 80 (Int32.toNatClampNeg 3) 0) 71 25 0) 71 26 0)) fun (M1 : im_M) => some M1
theorem J_MScriptRows_beginLabel_d0 : decode J_MScriptRows_beginLabel.2.1 0 = .ok (.aload_n 0, 1) := by decide +kernel
theorem J_MScriptRows_beginLabel_d1 : decode J_MScriptRows_beginLabel.2.1 1 = .ok (.iconst 1, 1) := by decide +kernel
theorem J_MScriptRows_beginLabel_d2 : decode J_MScriptRows_beginLabel.2.1 2 = .ok (.putfield 180, 3) := by decide +kernel
theorem J_MScriptRows_beginLabel_d5 : decode J_MScriptRows_beginLabel.2.1 5 = .ok (.aload_n 0, 1) := by decide +kernel
theorem J_MScriptRows_beginLabel_d6 : decode J_MScriptRows_beginLabel.2.1 6 = .ok (.aload_n 0, 1) := by decide +kernel
theorem J_MScriptRows_beginLabel_d7 : decode J_MScriptRows_beginLabel.2.1 7 = .ok (.getfield 32, 3) := by decide +kernel
theorem J_MScriptRows_beginLabel_d10 : decode J_MScriptRows_beginLabel.2.1 10 = .ok (.iconst 0, 1) := by decide +kernel
theorem J_MScriptRows_beginLabel_d11 : decode J_MScriptRows_beginLabel.2.1 11 = .ok (.iaload, 1) := by decide +kernel
theorem J_MScriptRows_beginLabel_d12 : decode J_MScriptRows_beginLabel.2.1 12 = .ok (.putfield 219, 3) := by decide +kernel
theorem J_MScriptRows_beginLabel_d15 : decode J_MScriptRows_beginLabel.2.1 15 = .ok (.aload_n 0, 1) := by decide +kernel
theorem J_MScriptRows_beginLabel_d16 : decode J_MScriptRows_beginLabel.2.1 16 = .ok (.aload_n 0, 1) := by decide +kernel
theorem J_MScriptRows_beginLabel_d17 : decode J_MScriptRows_beginLabel.2.1 17 = .ok (.getfield 32, 3) := by decide +kernel
theorem J_MScriptRows_beginLabel_d20 : decode J_MScriptRows_beginLabel.2.1 20 = .ok (.iconst 1, 1) := by decide +kernel
theorem J_MScriptRows_beginLabel_d21 : decode J_MScriptRows_beginLabel.2.1 21 = .ok (.iaload, 1) := by decide +kernel
theorem J_MScriptRows_beginLabel_d22 : decode J_MScriptRows_beginLabel.2.1 22 = .ok (.putfield 222, 3) := by decide +kernel
theorem J_MScriptRows_beginLabel_d25 : decode J_MScriptRows_beginLabel.2.1 25 = .ok (.aload_n 0, 1) := by decide +kernel
theorem J_MScriptRows_beginLabel_d26 : decode J_MScriptRows_beginLabel.2.1 26 = .ok (.iconst 1, 1) := by decide +kernel
theorem J_MScriptRows_beginLabel_d27 : decode J_MScriptRows_beginLabel.2.1 27 = .ok (.putfield 207, 3) := by decide +kernel
theorem J_MScriptRows_beginLabel_d30 : decode J_MScriptRows_beginLabel.2.1 30 = .ok (.aload_n 0, 1) := by decide +kernel
theorem J_MScriptRows_beginLabel_d31 : decode J_MScriptRows_beginLabel.2.1 31 = .ok (.iconst 0, 1) := by decide +kernel
theorem J_MScriptRows_beginLabel_d32 : decode J_MScriptRows_beginLabel.2.1 32 = .ok (.putfield 107, 3) := by decide +kernel
theorem J_MScriptRows_beginLabel_d35 : decode J_MScriptRows_beginLabel.2.1 35 = .ok (.aload_n 0, 1) := by decide +kernel
theorem J_MScriptRows_beginLabel_d36 : decode J_MScriptRows_beginLabel.2.1 36 = .ok (.iconst 0, 1) := by decide +kernel
theorem J_MScriptRows_beginLabel_d37 : decode J_MScriptRows_beginLabel.2.1 37 = .ok (.putfield 110, 3) := by decide +kernel
theorem J_MScriptRows_beginLabel_d40 : decode J_MScriptRows_beginLabel.2.1 40 = .ok (.aload_n 0, 1) := by decide +kernel
theorem J_MScriptRows_beginLabel_d41 : decode J_MScriptRows_beginLabel.2.1 41 = .ok (.getfield 38, 3) := by decide +kernel
theorem J_MScriptRows_beginLabel_d44 : decode J_MScriptRows_beginLabel.2.1 44 = .ok (.iconst 0, 1) := by decide +kernel
theorem J_MScriptRows_beginLabel_d45 : decode J_MScriptRows_beginLabel.2.1 45 = .ok (.iconst 0, 1) := by decide +kernel
theorem J_MScriptRows_beginLabel_d46 : decode J_MScriptRows_beginLabel.2.1 46 = .ok (.iastore, 1) := by decide +kernel
theorem J_MScriptRows_beginLabel_d47 : decode J_MScriptRows_beginLabel.2.1 47 = .ok (.aload_n 0, 1) := by decide +kernel
theorem J_MScriptRows_beginLabel_d48 : decode J_MScriptRows_beginLabel.2.1 48 = .ok (.getfield 38, 3) := by decide +kernel
theorem J_MScriptRows_beginLabel_d51 : decode J_MScriptRows_beginLabel.2.1 51 = .ok (.iconst 1, 1) := by decide +kernel
theorem J_MScriptRows_beginLabel_d52 : decode J_MScriptRows_beginLabel.2.1 52 = .ok (.iconst 1, 1) := by decide +kernel
theorem J_MScriptRows_beginLabel_d53 : decode J_MScriptRows_beginLabel.2.1 53 = .ok (.iastore, 1) := by decide +kernel
theorem J_MScriptRows_beginLabel_d54 : decode J_MScriptRows_beginLabel.2.1 54 = .ok (.aload_n 0, 1) := by decide +kernel
theorem J_MScriptRows_beginLabel_d55 : decode J_MScriptRows_beginLabel.2.1 55 = .ok (.getfield 38, 3) := by decide +kernel
theorem J_MScriptRows_beginLabel_d58 : decode J_MScriptRows_beginLabel.2.1 58 = .ok (.iconst 2, 1) := by decide +kernel
theorem J_MScriptRows_beginLabel_d59 : decode J_MScriptRows_beginLabel.2.1 59 = .ok (.iconst 1, 1) := by decide +kernel
theorem J_MScriptRows_beginLabel_d60 : decode J_MScriptRows_beginLabel.2.1 60 = .ok (.iastore, 1) := by decide +kernel
theorem J_MScriptRows_beginLabel_d61 : decode J_MScriptRows_beginLabel.2.1 61 = .ok (.aload_n 0, 1) := by decide +kernel
theorem J_MScriptRows_beginLabel_d62 : decode J_MScriptRows_beginLabel.2.1 62 = .ok (.getfield 38, 3) := by decide +kernel
theorem J_MScriptRows_beginLabel_d65 : decode J_MScriptRows_beginLabel.2.1 65 = .ok (.iconst 3, 1) := by decide +kernel
theorem J_MScriptRows_beginLabel_d66 : decode J_MScriptRows_beginLabel.2.1 66 = .ok (.iconst 0, 1) := by decide +kernel
theorem J_MScriptRows_beginLabel_d67 : decode J_MScriptRows_beginLabel.2.1 67 = .ok (.iastore, 1) := by decide +kernel
theorem J_MScriptRows_beginLabel_d68 : decode J_MScriptRows_beginLabel.2.1 68 = .ok (.aload_n 0, 1) := by decide +kernel
theorem J_MScriptRows_beginLabel_d69 : decode J_MScriptRows_beginLabel.2.1 69 = .ok (.iconst 0, 1) := by decide +kernel
theorem J_MScriptRows_beginLabel_d70 : decode J_MScriptRows_beginLabel.2.1 70 = .ok (.putfield 113, 3) := by decide +kernel
theorem J_MScriptRows_beginLabel_d73 : decode J_MScriptRows_beginLabel.2.1 73 = .ok (.aload_n 0, 1) := by decide +kernel
theorem J_MScriptRows_beginLabel_d74 : decode J_MScriptRows_beginLabel.2.1 74 = .ok (.iconst 0, 1) := by decide +kernel
theorem J_MScriptRows_beginLabel_d75 : decode J_MScriptRows_beginLabel.2.1 75 = .ok (.putfield 123, 3) := by decide +kernel
theorem J_MScriptRows_beginLabel_d78 : decode J_MScriptRows_beginLabel.2.1 78 = .ok (.aload_n 0, 1) := by decide +kernel
theorem J_MScriptRows_beginLabel_d79 : decode J_MScriptRows_beginLabel.2.1 79 = .ok (.invokevirtual 225, 3) := by decide +kernel
theorem J_MScriptRows_beginLabel_d82 : decode J_MScriptRows_beginLabel.2.1 82 = .ok (.return_, 1) := by decide +kernel
theorem f_MScriptRows_beginLabel_ok {L : Nat} {xs : Nat → Int32} {dep : Nat} {w : Bool} {M : im_M} {Q : im_M → Prop} (hM : lw_S w M) (h : ed (f_MScriptRows_beginLabel M) Q) : ia (tb_G L xs) (dep + 1) J_MScriptRows_beginLabel (rwV w Q) (0, lv_args 0 [.ref 71], [], M) := by
  have hS : im_St (tb_G L xs) (dep + 1) J_MScriptRows_beginLabel (ia (tb_G L xs) (dep + 1) J_MScriptRows_beginLabel (rwV w Q)) := ia_St
  unfold f_MScriptRows_beginLabel at h
  have l0 : im_lk (lv_args 0 [.ref 71]) 0 = some (.ref 71) := rfl
  refine iq_aload_n hS 1 J_MScriptRows_beginLabel_d0 l0 rfl ?_
  refine iq_iconst hS 2 J_MScriptRows_beginLabel_d1 (v := 1) (by decide +kernel) rfl ?_
  refine iq_putZ hS 5 J_MScriptRows_beginLabel_d2 lf_15_180 (Or.inl rfl) rfl (ka_71 hM) (Or.inr rfl) rfl ?_
  refine iq_aload_n hS 6 J_MScriptRows_beginLabel_d5 l0 rfl ?_
  refine iq_aload_n hS 7 J_MScriptRows_beginLabel_d6 l0 rfl ?_
  refine iq_getR hS 10 J_MScriptRows_beginLabel_d7 lf_15_32 (Or.inr ⟨_, rfl⟩) (ka_71 (lw_sI hM)) (ra_71_15 (lw_sI hM)) rfl ?_
  refine iq_iconst hS 11 J_MScriptRows_beginLabel_d10 (v := 0) (by decide +kernel) rfl ?_
  obtain ⟨g11, h⟩ := ed_gd h
  refine iq_iaload hS 12 J_MScriptRows_beginLabel_d11 ⟨(ka_78 (lw_sI hM)).1, (ka_78 (lw_sI hM)).2, g11.1, ix_lt (kl_78 (lw_sI hM)) g11.2⟩ rfl ?_
  refine iq_putI hS 15 J_MScriptRows_beginLabel_d12 lf_15_219 (Or.inl rfl) rfl (ka_71 (lw_sI hM)) rfl ?_
  refine iq_aload_n hS 16 J_MScriptRows_beginLabel_d15 l0 rfl ?_
  refine iq_aload_n hS 17 J_MScriptRows_beginLabel_d16 l0 rfl ?_
  refine iq_getR hS 20 J_MScriptRows_beginLabel_d17 lf_15_32 (Or.inr ⟨_, rfl⟩) (ka_71 (lw_sI (lw_sI hM))) (ra_71_15 (lw_sI (lw_sI hM))) rfl ?_
  refine iq_iconst hS 21 J_MScriptRows_beginLabel_d20 (v := 1) (by decide +kernel) rfl ?_
  obtain ⟨g21, h⟩ := ed_gd h
  refine iq_iaload hS 22 J_MScriptRows_beginLabel_d21 ⟨(ka_78 (lw_sI (lw_sI hM))).1, (ka_78 (lw_sI (lw_sI hM))).2, g21.1, ix_lt (kl_78 (lw_sI (lw_sI hM))) g21.2⟩ rfl ?_
  refine iq_putI hS 25 J_MScriptRows_beginLabel_d22 lf_15_222 (Or.inl rfl) rfl (ka_71 (lw_sI (lw_sI hM))) rfl ?_
  refine iq_aload_n hS 26 J_MScriptRows_beginLabel_d25 l0 rfl ?_
  refine iq_iconst hS 27 J_MScriptRows_beginLabel_d26 (v := 1) (by decide +kernel) rfl ?_
  refine iq_putI hS 30 J_MScriptRows_beginLabel_d27 lf_15_207 (Or.inl rfl) rfl (ka_71 (lw_sI (lw_sI (lw_sI hM)))) rfl ?_
  refine iq_aload_n hS 31 J_MScriptRows_beginLabel_d30 l0 rfl ?_
  refine iq_iconst hS 32 J_MScriptRows_beginLabel_d31 (v := 0) (by decide +kernel) rfl ?_
  refine iq_putI hS 35 J_MScriptRows_beginLabel_d32 lf_15_107 (Or.inl rfl) rfl (ka_71 (lw_sI (lw_sI (lw_sI (lw_sI hM))))) rfl ?_
  refine iq_aload_n hS 36 J_MScriptRows_beginLabel_d35 l0 rfl ?_
  refine iq_iconst hS 37 J_MScriptRows_beginLabel_d36 (v := 0) (by decide +kernel) rfl ?_
  refine iq_putI hS 40 J_MScriptRows_beginLabel_d37 lf_15_110 (Or.inl rfl) rfl (ka_71 (lw_sI (lw_sI (lw_sI (lw_sI (lw_sI hM)))))) rfl ?_
  refine iq_aload_n hS 41 J_MScriptRows_beginLabel_d40 l0 rfl ?_
  refine iq_getR hS 44 J_MScriptRows_beginLabel_d41 lf_15_38 (Or.inr ⟨_, rfl⟩) (ka_71 (lw_sI (lw_sI (lw_sI (lw_sI (lw_sI (lw_sI hM))))))) (ra_71_24 (lw_sI (lw_sI (lw_sI (lw_sI (lw_sI (lw_sI hM))))))) rfl ?_
  refine iq_iconst hS 45 J_MScriptRows_beginLabel_d44 (v := 0) (by decide +kernel) rfl ?_
  refine iq_iconst hS 46 J_MScriptRows_beginLabel_d45 (v := 0) (by decide +kernel) rfl ?_
  obtain ⟨g46, h⟩ := ed_gd h
  refine iq_iastore hS 47 J_MScriptRows_beginLabel_d46 ⟨(ka_80 (lw_sI (lw_sI (lw_sI (lw_sI (lw_sI (lw_sI hM))))))).1, (ka_80 (lw_sI (lw_sI (lw_sI (lw_sI (lw_sI (lw_sI hM))))))).2, g46.1, ix_lt (kl_80 (lw_sI (lw_sI (lw_sI (lw_sI (lw_sI (lw_sI hM))))))) g46.2⟩ rfl ?_
  refine iq_aload_n hS 48 J_MScriptRows_beginLabel_d47 l0 rfl ?_
  refine iq_getR hS 51 J_MScriptRows_beginLabel_d48 lf_15_38 (Or.inr ⟨_, rfl⟩) (ka_71 (lw_sI (lw_sI (lw_sI (lw_sI (lw_sI (lw_sI (lw_sI hM)))))))) (ra_71_24 (lw_sI (lw_sI (lw_sI (lw_sI (lw_sI (lw_sI (lw_sI hM)))))))) rfl ?_
  refine iq_iconst hS 52 J_MScriptRows_beginLabel_d51 (v := 1) (by decide +kernel) rfl ?_
  refine iq_iconst hS 53 J_MScriptRows_beginLabel_d52 (v := 1) (by decide +kernel) rfl ?_
  obtain ⟨g53, h⟩ := ed_gd h
  refine iq_iastore hS 54 J_MScriptRows_beginLabel_d53 ⟨(ka_80 (lw_sI (lw_sI (lw_sI (lw_sI (lw_sI (lw_sI (lw_sI hM)))))))).1, (ka_80 (lw_sI (lw_sI (lw_sI (lw_sI (lw_sI (lw_sI (lw_sI hM)))))))).2, g53.1, ix_lt (kl_80 (lw_sI (lw_sI (lw_sI (lw_sI (lw_sI (lw_sI (lw_sI hM)))))))) g53.2⟩ rfl ?_
  refine iq_aload_n hS 55 J_MScriptRows_beginLabel_d54 l0 rfl ?_
  refine iq_getR hS 58 J_MScriptRows_beginLabel_d55 lf_15_38 (Or.inr ⟨_, rfl⟩) (ka_71 (lw_sI (lw_sI (lw_sI (lw_sI (lw_sI (lw_sI (lw_sI (lw_sI hM))))))))) (ra_71_24 (lw_sI (lw_sI (lw_sI (lw_sI (lw_sI (lw_sI (lw_sI (lw_sI hM))))))))) rfl ?_
  refine iq_iconst hS 59 J_MScriptRows_beginLabel_d58 (v := 2) (by decide +kernel) rfl ?_
  refine iq_iconst hS 60 J_MScriptRows_beginLabel_d59 (v := 1) (by decide +kernel) rfl ?_
  obtain ⟨g60, h⟩ := ed_gd h
  refine iq_iastore hS 61 J_MScriptRows_beginLabel_d60 ⟨(ka_80 (lw_sI (lw_sI (lw_sI (lw_sI (lw_sI (lw_sI (lw_sI (lw_sI hM))))))))).1, (ka_80 (lw_sI (lw_sI (lw_sI (lw_sI (lw_sI (lw_sI (lw_sI (lw_sI hM))))))))).2, g60.1, ix_lt (kl_80 (lw_sI (lw_sI (lw_sI (lw_sI (lw_sI (lw_sI (lw_sI (lw_sI hM))))))))) g60.2⟩ rfl ?_
  refine iq_aload_n hS 62 J_MScriptRows_beginLabel_d61 l0 rfl ?_
  refine iq_getR hS 65 J_MScriptRows_beginLabel_d62 lf_15_38 (Or.inr ⟨_, rfl⟩) (ka_71 (lw_sI (lw_sI (lw_sI (lw_sI (lw_sI (lw_sI (lw_sI (lw_sI (lw_sI hM)))))))))) (ra_71_24 (lw_sI (lw_sI (lw_sI (lw_sI (lw_sI (lw_sI (lw_sI (lw_sI (lw_sI hM)))))))))) rfl ?_
  refine iq_iconst hS 66 J_MScriptRows_beginLabel_d65 (v := 3) (by decide +kernel) rfl ?_
  refine iq_iconst hS 67 J_MScriptRows_beginLabel_d66 (v := 0) (by decide +kernel) rfl ?_
  obtain ⟨g67, h⟩ := ed_gd h
  refine iq_iastore hS 68 J_MScriptRows_beginLabel_d67 ⟨(ka_80 (lw_sI (lw_sI (lw_sI (lw_sI (lw_sI (lw_sI (lw_sI (lw_sI (lw_sI hM)))))))))).1, (ka_80 (lw_sI (lw_sI (lw_sI (lw_sI (lw_sI (lw_sI (lw_sI (lw_sI (lw_sI hM)))))))))).2, g67.1, ix_lt (kl_80 (lw_sI (lw_sI (lw_sI (lw_sI (lw_sI (lw_sI (lw_sI (lw_sI (lw_sI hM)))))))))) g67.2⟩ rfl ?_
  refine iq_aload_n hS 69 J_MScriptRows_beginLabel_d68 l0 rfl ?_
  refine iq_iconst hS 70 J_MScriptRows_beginLabel_d69 (v := 0) (by decide +kernel) rfl ?_
  refine iq_putI hS 73 J_MScriptRows_beginLabel_d70 lf_15_113 (Or.inl rfl) rfl (ka_71 (lw_sI (lw_sI (lw_sI (lw_sI (lw_sI (lw_sI (lw_sI (lw_sI (lw_sI (lw_sI hM))))))))))) rfl ?_
  refine iq_aload_n hS 74 J_MScriptRows_beginLabel_d73 l0 rfl ?_
  refine iq_iconst hS 75 J_MScriptRows_beginLabel_d74 (v := 0) (by decide +kernel) rfl ?_
  refine iq_putI hS 78 J_MScriptRows_beginLabel_d75 lf_15_123 (Or.inl rfl) rfl (ka_71 (lw_sI (lw_sI (lw_sI (lw_sI (lw_sI (lw_sI (lw_sI (lw_sI (lw_sI (lw_sI (lw_sI hM)))))))))))) rfl ?_
  refine iq_aload_n hS 79 J_MScriptRows_beginLabel_d78 l0 rfl ?_
  obtain ⟨Q1, hQ1, h⟩ := bd1_ed h
  refine iq_cwV hS 82 J_MScriptRows_beginLabel_d79 rfl (pr_inst (vs := []) lc_15_225 lT_314 rfl rfl (by decide) (by decide) rfl (Nat.le_of_ble_eq_true rfl) (Nat.le_of_ble_eq_true rfl) (fun _ => Or.inl (pr_b (ka_71 (lw_sI (lw_sI (lw_sI (lw_sI (lw_sI (lw_sI (lw_sI (lw_sI (lw_sI (lw_sI (lw_sI (lw_sI hM))))))))))))) (by decide) rfl))) (f_MScriptRows_newField_ok (dep := dep + 0) (lw_sI (lw_sI (lw_sI (lw_sI (lw_sI (lw_sI (lw_sI (lw_sI (lw_sI (lw_sI (lw_sI (lw_sI hM)))))))))))) h) rfl ?_
  intro M1 hM1 h
  replace h := hQ1 _ h
  exact iq_ret J_MScriptRows_beginLabel_d82 rfl ⟨rfl, hM1, ed_some h⟩
theorem f_MScriptRows_beginLabel_fr {M : im_M} {r : im_M} (h : f_MScriptRows_beginLabel M = some r) : fr 3626777458843887524118528 [(71, 18), (71, 19), (71, 20), (71, 21), (71, 22), (71, 23), (71, 25), (71, 26)] M r := by
  replace h : ed (f_MScriptRows_beginLabel M) (fun x => x = r) := ⟨r, h, rfl⟩
  unfold f_MScriptRows_beginLabel at h
  obtain ⟨g11, h⟩ := ed_gd h
  obtain ⟨g21, h⟩ := ed_gd h
  obtain ⟨g46, h⟩ := ed_gd h
  obtain ⟨g53, h⟩ := ed_gd h
  obtain ⟨g60, h⟩ := ed_gd h
  obtain ⟨g67, h⟩ := ed_gd h
  obtain ⟨Q1, hQ1, h⟩ := bd1_ed h
  obtain ⟨M1, e1, h⟩ := h
  replace h := hQ1 _ h
  exact fr_retV h (fr_tr (fr_mono (by decide) (by decide +kernel) (f_MScriptRows_newField_fr e1)) (fr_F (by decide) (fr_F (by decide) (fr_I (by decide) (fr_I (by decide) (fr_I (by decide) (fr_I (by decide) (fr_F (by decide) (fr_F (by decide) (fr_F (by decide) (fr_F (by decide) (fr_F (by decide) (fr_F (by decide) fr_refl)))))))))))))
noncomputable def f_MScriptRows_storeForm_L19 (v3 : Int32) (x4 : Int32) (M5 : im_M) : Option ((Int32 × im_M) ⊕ (im_M)) := gd (inb v3 8) <| if (im_i M5 74 (Int32.toNatClampNeg v3)) ≤ x4 then some (.inr M5) else bd2 (f_MScriptRows_next M5) fun (x6 : Int32) (M6 : im_M) => gd (inb (((400 : Int32) * v3) + x4) 3200) <| some (.inl ((x4 + 1), (im_setI M6 73 (Int32.toNatClampNeg (((400 : Int32) * v3) + x4)) x6)))
noncomputable def f_MScriptRows_storeForm (M : im_M) : Option (im_M) := gd (inb 0 4) <| bd1 (f_MScriptRows_formSize M) fun (x1 : Int32) => gd (inb (im_i M 78 (Int32.toNatClampNeg 0)) 8) <| bd1 (lp (uc2 (f_MScriptRows_storeForm_L19 (im_i M 78 (Int32.toNatClampNeg 0)))) (0, (im_setI M 74 (Int32.toNatClampNeg (im_i M 78 (Int32.toNatClampNeg 0))) x1))) fun (M7 : im_M) => some (im_setI M7 71 8 ((im_i M7 71 8) - 2))
theorem J_MScriptRows_storeForm_d0 : decode J_MScriptRows_storeForm.2.1 0 = .ok (.aload_n 0, 1) := by decide +kernel
theorem J_MScriptRows_storeForm_d1 : decode J_MScriptRows_storeForm.2.1 1 = .ok (.getfield 32, 3) := by decide +kernel
theorem J_MScriptRows_storeForm_d4 : decode J_MScriptRows_storeForm.2.1 4 = .ok (.iconst 0, 1) := by decide +kernel
theorem J_MScriptRows_storeForm_d5 : decode J_MScriptRows_storeForm.2.1 5 = .ok (.iaload, 1) := by decide +kernel
theorem J_MScriptRows_storeForm_d6 : decode J_MScriptRows_storeForm.2.1 6 = .ok (.istore_n 1, 1) := by decide +kernel
theorem J_MScriptRows_storeForm_d7 : decode J_MScriptRows_storeForm.2.1 7 = .ok (.aload_n 0, 1) := by decide +kernel
theorem J_MScriptRows_storeForm_d8 : decode J_MScriptRows_storeForm.2.1 8 = .ok (.getfield 16, 3) := by decide +kernel
theorem J_MScriptRows_storeForm_d11 : decode J_MScriptRows_storeForm.2.1 11 = .ok (.iload_n 1, 1) := by decide +kernel
theorem J_MScriptRows_storeForm_d12 : decode J_MScriptRows_storeForm.2.1 12 = .ok (.aload_n 0, 1) := by decide +kernel
theorem J_MScriptRows_storeForm_d13 : decode J_MScriptRows_storeForm.2.1 13 = .ok (.invokevirtual 198, 3) := by decide +kernel
theorem J_MScriptRows_storeForm_d16 : decode J_MScriptRows_storeForm.2.1 16 = .ok (.iastore, 1) := by decide +kernel
theorem J_MScriptRows_storeForm_d17 : decode J_MScriptRows_storeForm.2.1 17 = .ok (.iconst 0, 1) := by decide +kernel
theorem J_MScriptRows_storeForm_d18 : decode J_MScriptRows_storeForm.2.1 18 = .ok (.istore_n 2, 1) := by decide +kernel
theorem J_MScriptRows_storeForm_d19 : decode J_MScriptRows_storeForm.2.1 19 = .ok (.iload_n 2, 1) := by decide +kernel
theorem J_MScriptRows_storeForm_d20 : decode J_MScriptRows_storeForm.2.1 20 = .ok (.aload_n 0, 1) := by decide +kernel
theorem J_MScriptRows_storeForm_d21 : decode J_MScriptRows_storeForm.2.1 21 = .ok (.getfield 16, 3) := by decide +kernel
theorem J_MScriptRows_storeForm_d24 : decode J_MScriptRows_storeForm.2.1 24 = .ok (.iload_n 1, 1) := by decide +kernel
theorem J_MScriptRows_storeForm_d25 : decode J_MScriptRows_storeForm.2.1 25 = .ok (.iaload, 1) := by decide +kernel
theorem J_MScriptRows_storeForm_d26 : decode J_MScriptRows_storeForm.2.1 26 = .ok (.if_icmp .ge 25, 3) := by decide +kernel
theorem J_MScriptRows_storeForm_d29 : decode J_MScriptRows_storeForm.2.1 29 = .ok (.aload_n 0, 1) := by decide +kernel
theorem J_MScriptRows_storeForm_d30 : decode J_MScriptRows_storeForm.2.1 30 = .ok (.getfield 13, 3) := by decide +kernel
theorem J_MScriptRows_storeForm_d33 : decode J_MScriptRows_storeForm.2.1 33 = .ok (.sipush 400, 3) := by decide +kernel
theorem J_MScriptRows_storeForm_d36 : decode J_MScriptRows_storeForm.2.1 36 = .ok (.iload_n 1, 1) := by decide +kernel
theorem J_MScriptRows_storeForm_d37 : decode J_MScriptRows_storeForm.2.1 37 = .ok (.imul, 1) := by decide +kernel
theorem J_MScriptRows_storeForm_d38 : decode J_MScriptRows_storeForm.2.1 38 = .ok (.iload_n 2, 1) := by decide +kernel
theorem J_MScriptRows_storeForm_d39 : decode J_MScriptRows_storeForm.2.1 39 = .ok (.iadd, 1) := by decide +kernel
theorem J_MScriptRows_storeForm_d40 : decode J_MScriptRows_storeForm.2.1 40 = .ok (.aload_n 0, 1) := by decide +kernel
theorem J_MScriptRows_storeForm_d41 : decode J_MScriptRows_storeForm.2.1 41 = .ok (.invokevirtual 95, 3) := by decide +kernel
theorem J_MScriptRows_storeForm_d44 : decode J_MScriptRows_storeForm.2.1 44 = .ok (.iastore, 1) := by decide +kernel
theorem J_MScriptRows_storeForm_d45 : decode J_MScriptRows_storeForm.2.1 45 = .ok (.iinc 2 1, 3) := by decide +kernel
theorem J_MScriptRows_storeForm_d48 : decode J_MScriptRows_storeForm.2.1 48 = .ok (.goto (-29), 3) := by decide +kernel
theorem J_MScriptRows_storeForm_d51 : decode J_MScriptRows_storeForm.2.1 51 = .ok (.aload_n 0, 1) := by decide +kernel
theorem J_MScriptRows_storeForm_d52 : decode J_MScriptRows_storeForm.2.1 52 = .ok (.aload_n 0, 1) := by decide +kernel
theorem J_MScriptRows_storeForm_d53 : decode J_MScriptRows_storeForm.2.1 53 = .ok (.getfield 73, 3) := by decide +kernel
theorem J_MScriptRows_storeForm_d56 : decode J_MScriptRows_storeForm.2.1 56 = .ok (.iconst 2, 1) := by decide +kernel
theorem J_MScriptRows_storeForm_d57 : decode J_MScriptRows_storeForm.2.1 57 = .ok (.isub, 1) := by decide +kernel
theorem J_MScriptRows_storeForm_d58 : decode J_MScriptRows_storeForm.2.1 58 = .ok (.putfield 73, 3) := by decide +kernel
theorem J_MScriptRows_storeForm_d61 : decode J_MScriptRows_storeForm.2.1 61 = .ok (.return_, 1) := by decide +kernel
theorem f_MScriptRows_storeForm_ok {L : Nat} {xs : Nat → Int32} {dep : Nat} {w : Bool} {M : im_M} {Q : im_M → Prop} (hM : lw_S w M) (h : ed (f_MScriptRows_storeForm M) Q) : ia (tb_G L xs) (dep + 2) J_MScriptRows_storeForm (rwV w Q) (0, lv_args 0 [.ref 71], [], M) := by
  have hS : im_St (tb_G L xs) (dep + 2) J_MScriptRows_storeForm (ia (tb_G L xs) (dep + 2) J_MScriptRows_storeForm (rwV w Q)) := ia_St
  unfold f_MScriptRows_storeForm at h
  have l0 : im_lk (lv_args 0 [.ref 71]) 0 = some (.ref 71) := rfl
  refine iq_aload_n hS 1 J_MScriptRows_storeForm_d0 l0 rfl ?_
  refine iq_getR hS 4 J_MScriptRows_storeForm_d1 lf_15_32 (Or.inr ⟨_, rfl⟩) (ka_71 hM) (ra_71_15 hM) rfl ?_
  refine iq_iconst hS 5 J_MScriptRows_storeForm_d4 (v := 0) (by decide +kernel) rfl ?_
  obtain ⟨g5, h⟩ := ed_gd h
  refine iq_iaload hS 6 J_MScriptRows_storeForm_d5 ⟨(ka_78 hM).1, (ka_78 hM).2, g5.1, ix_lt (kl_78 hM) g5.2⟩ rfl ?_
  refine iq_istore_n hS 7 J_MScriptRows_storeForm_d6 (by decide) rfl ?_
  refine iq_aload_n hS 8 J_MScriptRows_storeForm_d7 (lk_1r l0 (by decide)) rfl ?_
  refine iq_getR hS 11 J_MScriptRows_storeForm_d8 lf_15_16 (Or.inr ⟨_, rfl⟩) (ka_71 hM) (ra_71_4 hM) rfl ?_
  refine iq_iload_n hS 12 J_MScriptRows_storeForm_d11 lk_1s rfl ?_
  refine iq_aload_n hS 13 J_MScriptRows_storeForm_d12 (lk_1r l0 (by decide)) rfl ?_
  obtain ⟨Q1, hQ1, h⟩ := bd1_ed h
  refine iq_cpI hS 16 J_MScriptRows_storeForm_d13 rfl (pr_inst (vs := []) lc_15_198 lT_295 rfl rfl (by decide) (by decide) rfl (Nat.le_of_ble_eq_true rfl) (Nat.le_of_ble_eq_true rfl) (fun _ => Or.inl (pr_b (ka_71 hM) (by decide) rfl))) (f_MScriptRows_formSize_ok (dep := dep + 1) hM h) rfl ?_
  intro x1 h
  replace h := hQ1 _ h
  obtain ⟨g16, h⟩ := ed_gd h
  refine iq_iastore hS 17 J_MScriptRows_storeForm_d16 ⟨(ka_74 hM).1, (ka_74 hM).2, g16.1, ix_lt (kl_74 hM) g16.2⟩ rfl ?_
  refine iq_iconst hS 18 J_MScriptRows_storeForm_d17 (v := 0) (by decide +kernel) rfl ?_
  refine iq_istore_n hS 19 J_MScriptRows_storeForm_d18 (by decide) rfl ?_
  obtain ⟨Q2, hQ2, h⟩ := bd1_ed h
  have K2 : ∀ (M3 : im_M) (L' : List (Nat × Value)), lw_S w M3 → im_lk L' 0 = some (.ref 71) → Q2 M3 → ia (tb_G L xs) (dep + 2) J_MScriptRows_storeForm (rwV w Q) (51, L', [], M3) := by
    intro M3 L' hM3 l4 h
    replace h := hQ2 _ h
    refine iq_aload_n hS 52 J_MScriptRows_storeForm_d51 l4 rfl ?_
    refine iq_aload_n hS 53 J_MScriptRows_storeForm_d52 l4 rfl ?_
    refine iq_getI hS 56 J_MScriptRows_storeForm_d53 lf_15_73 (Or.inl rfl) (ka_71 hM3) rfl ?_
    refine iq_iconst hS 57 J_MScriptRows_storeForm_d56 (v := 2) (by decide +kernel) rfl ?_
    refine iq_isub hS 58 J_MScriptRows_storeForm_d57 rfl ?_
    refine iq_putI hS 61 J_MScriptRows_storeForm_d58 lf_15_73 (Or.inl rfl) rfl (ka_71 hM3) rfl ?_
    exact iq_ret J_MScriptRows_storeForm_d61 rfl ⟨rfl, (lw_sI hM3), ed_some h⟩
  obtain ⟨r2, hr2, hq2⟩ := h
  obtain ⟨n2, hn2⟩ := lp_n hr2
  have I2 : ∀ (n : Nat) (x5 : Int32) (M6 : im_M) (L' : List (Nat × Value)), lw_S w M6 → im_lk L' 0 = some (.ref 71) → im_lk L' 1 = some (.int (im_i M 78 (Int32.toNatClampNeg 0))) → im_lk L' 2 = some (.int x5) → lpn (uc2 (f_MScriptRows_storeForm_L19 (im_i M 78 (Int32.toNatClampNeg 0)))) n (x5, M6) = some r2 → ia (tb_G L xs) (dep + 2) J_MScriptRows_storeForm (rwV w Q) (19, L', [], M6) := by
    intro n
    induction n with
    | zero => intro x5 M6 L' hM6 l7 l8 l9 hn; exact (lpn_0 hn).elim
    | succ n ih =>
      intro x5 M6 L' hM6 l7 l8 l9 hn
      have h := lpn_ed2 hn
      unfold f_MScriptRows_storeForm_L19 at h
      refine iq_iload_n hS 20 J_MScriptRows_storeForm_d19 l9 rfl ?_
      refine iq_aload_n hS 21 J_MScriptRows_storeForm_d20 l7 rfl ?_
      refine iq_getR hS 24 J_MScriptRows_storeForm_d21 lf_15_16 (Or.inr ⟨_, rfl⟩) (ka_71 hM6) (ra_71_4 hM6) rfl ?_
      refine iq_iload_n hS 25 J_MScriptRows_storeForm_d24 l8 rfl ?_
      obtain ⟨g25, h⟩ := ed_gd h
      refine iq_iaload hS 26 J_MScriptRows_storeForm_d25 ⟨(ka_74 hM6).1, (ka_74 hM6).2, g25.1, ix_lt (kl_74 hM6) g25.2⟩ rfl ?_
      refine iq_icmp_ge hS 29 J_MScriptRows_storeForm_d26 (t := 51) rfl (fun q26 => ?_) rfl (fun q26 => ?_)
      · replace h := ed_pos q26 h
        exact K2 _ _ hM6 l7 (lq_r h hq2)
      · replace h := ed_neg q26 h
        refine iq_aload_n hS 30 J_MScriptRows_storeForm_d29 l7 rfl ?_
        refine iq_getR hS 33 J_MScriptRows_storeForm_d30 lf_15_13 (Or.inr ⟨_, rfl⟩) (ka_71 hM6) (ra_71_3 hM6) rfl ?_
        refine iq_sipush hS 36 J_MScriptRows_storeForm_d33 (v := 400) (by decide +kernel) rfl ?_
        refine iq_iload_n hS 37 J_MScriptRows_storeForm_d36 l8 rfl ?_
        refine iq_imul hS 38 J_MScriptRows_storeForm_d37 rfl ?_
        refine iq_iload_n hS 39 J_MScriptRows_storeForm_d38 l9 rfl ?_
        refine iq_iadd hS 40 J_MScriptRows_storeForm_d39 rfl ?_
        refine iq_aload_n hS 41 J_MScriptRows_storeForm_d40 l7 rfl ?_
        obtain ⟨Q10, hQ10, h⟩ := bd2_ed h
        refine iq_cwI hS 44 J_MScriptRows_storeForm_d41 rfl (pr_inst (vs := []) lc_15_95 lT_283 rfl rfl (by decide) (by decide) rfl (Nat.le_of_ble_eq_true rfl) (Nat.le_of_ble_eq_true rfl) (fun _ => Or.inl (pr_b (ka_71 hM6) (by decide) rfl))) (f_MScriptRows_next_ok (dep := dep + 0) hM6 h) rfl ?_
        intro x10 M10 hM10 h
        replace h := hQ10 _ _ h
        obtain ⟨g44, h⟩ := ed_gd h
        refine iq_iastore hS 45 J_MScriptRows_storeForm_d44 ⟨(ka_73 hM10).1, (ka_73 hM10).2, g44.1, ix_lt (kl_73 hM10) g44.2⟩ rfl ?_
        refine iq_iincv hS 48 J_MScriptRows_storeForm_d45 (c := 1) (by decide +kernel) l9 (by decide) rfl ?_
        refine iq_goto hS J_MScriptRows_storeForm_d48 (t := 19) rfl ?_
        exact ih _ _ _ (lw_sI hM10) (lk_1r l7 (by decide)) (lk_1i l8 (by decide)) lk_1s (lq_l h)
  exact I2 n2 _ _ _ (lw_sI hM) (lk_1r (lk_1r l0 (by decide)) (by decide)) (lk_1i lk_1s (by decide)) lk_1s hn2
theorem f_MScriptRows_storeForm_fr {M : im_M} {r : im_M} (h : f_MScriptRows_storeForm M = some r) : fr 28334198897217871282176 [(71, 8)] M r := by
  replace h : ed (f_MScriptRows_storeForm M) (fun x => x = r) := ⟨r, h, rfl⟩
  unfold f_MScriptRows_storeForm at h
  obtain ⟨g5, h⟩ := ed_gd h
  obtain ⟨Q1, hQ1, h⟩ := bd1_ed h
  obtain ⟨x1, e1, h⟩ := h
  replace h := hQ1 _ h
  obtain ⟨g16, h⟩ := ed_gd h
  obtain ⟨Q2, hQ2, h⟩ := bd1_ed h
  have K2 : ∀ (M3 : im_M), fr 28334198897217871282176 [(71, 8)] M M3 → Q2 M3 → fr 28334198897217871282176 [(71, 8)] M r := by
    intro M3 hM3 h
    replace h := hQ2 _ h
    exact fr_retV h (fr_F (by decide) hM3)
  obtain ⟨r2, hr2, hq2⟩ := h
  obtain ⟨n2, hn2⟩ := lp_n hr2
  have I2 : ∀ (n : Nat) (x4 : Int32) (M5 : im_M), fr 28334198897217871282176 [(71, 8)] M M5 → lpn (uc2 (f_MScriptRows_storeForm_L19 (im_i M 78 (Int32.toNatClampNeg 0)))) n (x4, M5) = some r2 → fr 28334198897217871282176 [(71, 8)] M r := by
    intro n
    induction n with
    | zero => intro x4 M5 hM5 hn; exact (lpn_0 hn).elim
    | succ n ih =>
      intro x4 M5 hM5 hn
      have h := lpn_ed2 hn
      unfold f_MScriptRows_storeForm_L19 at h
      obtain ⟨g25, h⟩ := ed_gd h
      by_cases q26 : (im_i M5 74 (Int32.toNatClampNeg (im_i M 78 (Int32.toNatClampNeg 0)))) ≤ x4
      · replace h := ed_pos q26 h
        exact K2 _ hM5 (lq_r h hq2)
      · replace h := ed_neg q26 h
        obtain ⟨Q6, hQ6, h⟩ := bd2_ed h
        obtain ⟨⟨x6, M6⟩, e6, h⟩ := h
        replace h := hQ6 _ _ h
        obtain ⟨g44, h⟩ := ed_gd h
        exact ih _ _ (fr_I (by decide) (fr_tr (fr_mono (by decide) (by decide +kernel) (f_MScriptRows_next_fr e6)) hM5)) (lq_l h)
  exact I2 n2 _ _ (fr_I (by decide) fr_refl) hn2
noncomputable def f_MScriptRows_layForm_L68 (v3 : Int32) (x4 : Int32) (M5 : im_M) : Option ((Int32 × im_M) ⊕ (im_M)) := if x4 < 0 then some (.inr M5) else gd (inb (((400 : Int32) * v3) + x4) 3200) <| gd (inb (im_i M5 71 8) 5800) <| some (.inl ((x4 + (-1)), (im_setI (im_setI M5 77 (Int32.toNatClampNeg (im_i M5 71 8)) (im_i M5 73 (Int32.toNatClampNeg (((400 : Int32) * v3) + x4)))) 71 8 ((im_i (im_setI M5 77 (Int32.toNatClampNeg (im_i M5 71 8)) (im_i M5 73 (Int32.toNatClampNeg (((400 : Int32) * v3) + x4)))) 71 8) + 1))))
noncomputable def f_MScriptRows_layForm (M : im_M) : Option (im_M) := gd (inb 0 4) <| gd (inb (im_i (im_setI (im_setI M 71 10 ((if ¬ (im_i M 71 9) = 0 then (im_i M 71 10) else (im_i M 71 12)) : Int32)) 71 9 ((im_i (im_setI M 71 10 ((if ¬ (im_i M 71 9) = 0 then (im_i M 71 10) else (im_i M 71 12)) : Int32)) 71 9) + 1)) 71 8) 5800) <| gd (inb (im_i M 78 (Int32.toNatClampNeg 0)) 8) <| bd1 (lp (uc2 (f_MScriptRows_layForm_L68 (im_i M 78 (Int32.toNatClampNeg 0)))) (((im_i (im_setI (im_setI (im_setI (im_setI M 71 10 ((if ¬ (im_i M 71 9) = 0 then (im_i M 71 10) else (im_i M 71 12)) : Int32)) 71 9 ((im_i (im_setI M 71 10 ((if ¬ (im_i M 71 9) = 0 then (im_i M 71 10) else (im_i M 71 12)) : Int32)) 71 9) + 1)) 77 (Int32.toNatClampNeg (im_i (im_setI (im_setI M 71 10 ((if ¬ (im_i M 71 9) = 0 then (im_i M 71 10) else (im_i M 71 12)) : Int32)) 71 9 ((im_i (im_setI M 71 10 ((if ¬ (im_i M 71 9) = 0 then (im_i M 71 10) else (im_i M 71 12)) : Int32)) 71 9) + 1)) 71 8)) (-1)) 71 8 ((im_i (im_setI (im_setI (im_setI M 71 10 ((if ¬ (im_i M 71 9) = 0 then (im_i M 71 10) else (im_i M 71 12)) : Int32)) 71 9 ((im_i (im_setI M 71 10 ((if ¬ (im_i M 71 9) = 0 then (im_i M 71 10) else (im_i M 71 12)) : Int32)) 71 9) + 1)) 77 (Int32.toNatClampNeg (im_i (im_setI (im_setI M 71 10 ((if ¬ (im_i M 71 9) = 0 then (im_i M 71 10) else (im_i M 71 12)) : Int32)) 71 9 ((im_i (im_setI M 71 10 ((if ¬ (im_i M 71 9) = 0 then (im_i M 71 10) else (im_i M 71 12)) : Int32)) 71 9) + 1)) 71 8)) (-1)) 71 8) + 1)) 74 (Int32.toNatClampNeg (im_i M 78 (Int32.toNatClampNeg 0)))) - 1), (im_setI (im_setI (im_setI (im_setI M 71 10 ((if ¬ (im_i M 71 9) = 0 then (im_i M 71 10) else (im_i M 71 12)) : Int32)) 71 9 ((im_i (im_setI M 71 10 ((if ¬ (im_i M 71 9) = 0 then (im_i M 71 10) else (im_i M 71 12)) : Int32)) 71 9) + 1)) 77 (Int32.toNatClampNeg (im_i (im_setI (im_setI M 71 10 ((if ¬ (im_i M 71 9) = 0 then (im_i M 71 10) else (im_i M 71 12)) : Int32)) 71 9 ((im_i (im_setI M 71 10 ((if ¬ (im_i M 71 9) = 0 then (im_i M 71 10) else (im_i M 71 12)) : Int32)) 71 9) + 1)) 71 8)) (-1)) 71 8 ((im_i (im_setI (im_setI (im_setI M 71 10 ((if ¬ (im_i M 71 9) = 0 then (im_i M 71 10) else (im_i M 71 12)) : Int32)) 71 9 ((im_i (im_setI M 71 10 ((if ¬ (im_i M 71 9) = 0 then (im_i M 71 10) else (im_i M 71 12)) : Int32)) 71 9) + 1)) 77 (Int32.toNatClampNeg (im_i (im_setI (im_setI M 71 10 ((if ¬ (im_i M 71 9) = 0 then (im_i M 71 10) else (im_i M 71 12)) : Int32)) 71 9 ((im_i (im_setI M 71 10 ((if ¬ (im_i M 71 9) = 0 then (im_i M 71 10) else (im_i M 71 12)) : Int32)) 71 9) + 1)) 71 8)) (-1)) 71 8) + 1)))) fun (M6 : im_M) => some M6
theorem J_MScriptRows_layForm_d0 : decode J_MScriptRows_layForm.2.1 0 = .ok (.aload_n 0, 1) := by decide +kernel
theorem J_MScriptRows_layForm_d1 : decode J_MScriptRows_layForm.2.1 1 = .ok (.getfield 32, 3) := by decide +kernel
theorem J_MScriptRows_layForm_d4 : decode J_MScriptRows_layForm.2.1 4 = .ok (.iconst 0, 1) := by decide +kernel
theorem J_MScriptRows_layForm_d5 : decode J_MScriptRows_layForm.2.1 5 = .ok (.iaload, 1) := by decide +kernel
theorem J_MScriptRows_layForm_d6 : decode J_MScriptRows_layForm.2.1 6 = .ok (.istore_n 1, 1) := by decide +kernel
theorem J_MScriptRows_layForm_d7 : decode J_MScriptRows_layForm.2.1 7 = .ok (.aload_n 0, 1) := by decide +kernel
theorem J_MScriptRows_layForm_d8 : decode J_MScriptRows_layForm.2.1 8 = .ok (.aload_n 0, 1) := by decide +kernel
theorem J_MScriptRows_layForm_d9 : decode J_MScriptRows_layForm.2.1 9 = .ok (.getfield 183, 3) := by decide +kernel
theorem J_MScriptRows_layForm_d12 : decode J_MScriptRows_layForm.2.1 12 = .ok (.ifCond .ne 10, 3) := by decide +kernel
theorem J_MScriptRows_layForm_d15 : decode J_MScriptRows_layForm.2.1 15 = .ok (.aload_n 0, 1) := by decide +kernel
theorem J_MScriptRows_layForm_d16 : decode J_MScriptRows_layForm.2.1 16 = .ok (.getfield 213, 3) := by decide +kernel
theorem J_MScriptRows_layForm_d19 : decode J_MScriptRows_layForm.2.1 19 = .ok (.goto 7, 3) := by decide +kernel
theorem J_MScriptRows_layForm_d22 : decode J_MScriptRows_layForm.2.1 22 = .ok (.aload_n 0, 1) := by decide +kernel
theorem J_MScriptRows_layForm_d23 : decode J_MScriptRows_layForm.2.1 23 = .ok (.getfield 216, 3) := by decide +kernel
theorem J_MScriptRows_layForm_d26 : decode J_MScriptRows_layForm.2.1 26 = .ok (.putfield 216, 3) := by decide +kernel
theorem J_MScriptRows_layForm_d29 : decode J_MScriptRows_layForm.2.1 29 = .ok (.aload_n 0, 1) := by decide +kernel
theorem J_MScriptRows_layForm_d30 : decode J_MScriptRows_layForm.2.1 30 = .ok (.dup, 1) := by decide +kernel
theorem J_MScriptRows_layForm_d31 : decode J_MScriptRows_layForm.2.1 31 = .ok (.getfield 183, 3) := by decide +kernel
theorem J_MScriptRows_layForm_d34 : decode J_MScriptRows_layForm.2.1 34 = .ok (.iconst 1, 1) := by decide +kernel
theorem J_MScriptRows_layForm_d35 : decode J_MScriptRows_layForm.2.1 35 = .ok (.iadd, 1) := by decide +kernel
theorem J_MScriptRows_layForm_d36 : decode J_MScriptRows_layForm.2.1 36 = .ok (.putfield 183, 3) := by decide +kernel
theorem J_MScriptRows_layForm_d39 : decode J_MScriptRows_layForm.2.1 39 = .ok (.aload_n 0, 1) := by decide +kernel
theorem J_MScriptRows_layForm_d40 : decode J_MScriptRows_layForm.2.1 40 = .ok (.getfield 25, 3) := by decide +kernel
theorem J_MScriptRows_layForm_d43 : decode J_MScriptRows_layForm.2.1 43 = .ok (.aload_n 0, 1) := by decide +kernel
theorem J_MScriptRows_layForm_d44 : decode J_MScriptRows_layForm.2.1 44 = .ok (.getfield 73, 3) := by decide +kernel
theorem J_MScriptRows_layForm_d47 : decode J_MScriptRows_layForm.2.1 47 = .ok (.iconst (-1), 1) := by decide +kernel
theorem J_MScriptRows_layForm_d48 : decode J_MScriptRows_layForm.2.1 48 = .ok (.iastore, 1) := by decide +kernel
theorem J_MScriptRows_layForm_d49 : decode J_MScriptRows_layForm.2.1 49 = .ok (.aload_n 0, 1) := by decide +kernel
theorem J_MScriptRows_layForm_d50 : decode J_MScriptRows_layForm.2.1 50 = .ok (.dup, 1) := by decide +kernel
theorem J_MScriptRows_layForm_d51 : decode J_MScriptRows_layForm.2.1 51 = .ok (.getfield 73, 3) := by decide +kernel
theorem J_MScriptRows_layForm_d54 : decode J_MScriptRows_layForm.2.1 54 = .ok (.iconst 1, 1) := by decide +kernel
theorem J_MScriptRows_layForm_d55 : decode J_MScriptRows_layForm.2.1 55 = .ok (.iadd, 1) := by decide +kernel
theorem J_MScriptRows_layForm_d56 : decode J_MScriptRows_layForm.2.1 56 = .ok (.putfield 73, 3) := by decide +kernel
theorem J_MScriptRows_layForm_d59 : decode J_MScriptRows_layForm.2.1 59 = .ok (.aload_n 0, 1) := by decide +kernel
theorem J_MScriptRows_layForm_d60 : decode J_MScriptRows_layForm.2.1 60 = .ok (.getfield 16, 3) := by decide +kernel
theorem J_MScriptRows_layForm_d63 : decode J_MScriptRows_layForm.2.1 63 = .ok (.iload_n 1, 1) := by decide +kernel
theorem J_MScriptRows_layForm_d64 : decode J_MScriptRows_layForm.2.1 64 = .ok (.iaload, 1) := by decide +kernel
theorem J_MScriptRows_layForm_d65 : decode J_MScriptRows_layForm.2.1 65 = .ok (.iconst 1, 1) := by decide +kernel
theorem J_MScriptRows_layForm_d66 : decode J_MScriptRows_layForm.2.1 66 = .ok (.isub, 1) := by decide +kernel
theorem J_MScriptRows_layForm_d67 : decode J_MScriptRows_layForm.2.1 67 = .ok (.istore_n 2, 1) := by decide +kernel
theorem J_MScriptRows_layForm_d68 : decode J_MScriptRows_layForm.2.1 68 = .ok (.iload_n 2, 1) := by decide +kernel
theorem J_MScriptRows_layForm_d69 : decode J_MScriptRows_layForm.2.1 69 = .ok (.ifCond .lt 40, 3) := by decide +kernel
theorem J_MScriptRows_layForm_d72 : decode J_MScriptRows_layForm.2.1 72 = .ok (.aload_n 0, 1) := by decide +kernel
theorem J_MScriptRows_layForm_d73 : decode J_MScriptRows_layForm.2.1 73 = .ok (.getfield 25, 3) := by decide +kernel
theorem J_MScriptRows_layForm_d76 : decode J_MScriptRows_layForm.2.1 76 = .ok (.aload_n 0, 1) := by decide +kernel
theorem J_MScriptRows_layForm_d77 : decode J_MScriptRows_layForm.2.1 77 = .ok (.getfield 73, 3) := by decide +kernel
theorem J_MScriptRows_layForm_d80 : decode J_MScriptRows_layForm.2.1 80 = .ok (.aload_n 0, 1) := by decide +kernel
theorem J_MScriptRows_layForm_d81 : decode J_MScriptRows_layForm.2.1 81 = .ok (.getfield 13, 3) := by decide +kernel
theorem J_MScriptRows_layForm_d84 : decode J_MScriptRows_layForm.2.1 84 = .ok (.sipush 400, 3) := by decide +kernel
theorem J_MScriptRows_layForm_d87 : decode J_MScriptRows_layForm.2.1 87 = .ok (.iload_n 1, 1) := by decide +kernel
theorem J_MScriptRows_layForm_d88 : decode J_MScriptRows_layForm.2.1 88 = .ok (.imul, 1) := by decide +kernel
theorem J_MScriptRows_layForm_d89 : decode J_MScriptRows_layForm.2.1 89 = .ok (.iload_n 2, 1) := by decide +kernel
theorem J_MScriptRows_layForm_d90 : decode J_MScriptRows_layForm.2.1 90 = .ok (.iadd, 1) := by decide +kernel
theorem J_MScriptRows_layForm_d91 : decode J_MScriptRows_layForm.2.1 91 = .ok (.iaload, 1) := by decide +kernel
theorem J_MScriptRows_layForm_d92 : decode J_MScriptRows_layForm.2.1 92 = .ok (.iastore, 1) := by decide +kernel
theorem J_MScriptRows_layForm_d93 : decode J_MScriptRows_layForm.2.1 93 = .ok (.aload_n 0, 1) := by decide +kernel
theorem J_MScriptRows_layForm_d94 : decode J_MScriptRows_layForm.2.1 94 = .ok (.dup, 1) := by decide +kernel
theorem J_MScriptRows_layForm_d95 : decode J_MScriptRows_layForm.2.1 95 = .ok (.getfield 73, 3) := by decide +kernel
theorem J_MScriptRows_layForm_d98 : decode J_MScriptRows_layForm.2.1 98 = .ok (.iconst 1, 1) := by decide +kernel
theorem J_MScriptRows_layForm_d99 : decode J_MScriptRows_layForm.2.1 99 = .ok (.iadd, 1) := by decide +kernel
theorem J_MScriptRows_layForm_d100 : decode J_MScriptRows_layForm.2.1 100 = .ok (.putfield 73, 3) := by decide +kernel
theorem J_MScriptRows_layForm_d103 : decode J_MScriptRows_layForm.2.1 103 = .ok (.iinc 2 (-1), 3) := by decide +kernel
theorem J_MScriptRows_layForm_d106 : decode J_MScriptRows_layForm.2.1 106 = .ok (.goto (-38), 3) := by decide +kernel
theorem J_MScriptRows_layForm_d109 : decode J_MScriptRows_layForm.2.1 109 = .ok (.return_, 1) := by decide +kernel
theorem f_MScriptRows_layForm_ok {L : Nat} {xs : Nat → Int32} {dep : Nat} {w : Bool} {M : im_M} {Q : im_M → Prop} (hM : lw_S w M) (h : ed (f_MScriptRows_layForm M) Q) : ia (tb_G L xs) dep J_MScriptRows_layForm (rwV w Q) (0, lv_args 0 [.ref 71], [], M) := by
  have hS : im_St (tb_G L xs) dep J_MScriptRows_layForm (ia (tb_G L xs) dep J_MScriptRows_layForm (rwV w Q)) := ia_St
  unfold f_MScriptRows_layForm at h
  have l0 : im_lk (lv_args 0 [.ref 71]) 0 = some (.ref 71) := rfl
  refine iq_aload_n hS 1 J_MScriptRows_layForm_d0 l0 rfl ?_
  refine iq_getR hS 4 J_MScriptRows_layForm_d1 lf_15_32 (Or.inr ⟨_, rfl⟩) (ka_71 hM) (ra_71_15 hM) rfl ?_
  refine iq_iconst hS 5 J_MScriptRows_layForm_d4 (v := 0) (by decide +kernel) rfl ?_
  obtain ⟨g5, h⟩ := ed_gd h
  refine iq_iaload hS 6 J_MScriptRows_layForm_d5 ⟨(ka_78 hM).1, (ka_78 hM).2, g5.1, ix_lt (kl_78 hM) g5.2⟩ rfl ?_
  refine iq_istore_n hS 7 J_MScriptRows_layForm_d6 (by decide) rfl ?_
  refine iq_aload_n hS 8 J_MScriptRows_layForm_d7 (lk_1r l0 (by decide)) rfl ?_
  refine iq_aload_n hS 9 J_MScriptRows_layForm_d8 (lk_1r l0 (by decide)) rfl ?_
  refine iq_getI hS 12 J_MScriptRows_layForm_d9 lf_15_183 (Or.inl rfl) (ka_71 hM) rfl ?_
  have J1 : ∀ (z2 : Int32) (L' : List (Nat × Value)), z2 = ((if ¬ (im_i M 71 9) = 0 then (im_i M 71 10) else (im_i M 71 12)) : Int32) → im_lk L' 0 = some (.ref 71) → im_lk L' 1 = some (.int (im_i M 78 (Int32.toNatClampNeg 0))) → ia (tb_G L xs) dep J_MScriptRows_layForm (rwV w Q) (26, L', [.int z2, .ref 71], M) := by
    intro z2 L' e3 l4 l5
    subst e3
    refine iq_putI hS 29 J_MScriptRows_layForm_d26 lf_15_216 (Or.inl rfl) rfl (ka_71 hM) rfl ?_
    refine iq_aload_n hS 30 J_MScriptRows_layForm_d29 l4 rfl ?_
    refine iq_dup hS 31 J_MScriptRows_layForm_d30 rfl rfl ?_
    refine iq_getI hS 34 J_MScriptRows_layForm_d31 lf_15_183 (Or.inl rfl) (ka_71 (lw_sI hM)) rfl ?_
    refine iq_iconst hS 35 J_MScriptRows_layForm_d34 (v := 1) (by decide +kernel) rfl ?_
    refine iq_iadd hS 36 J_MScriptRows_layForm_d35 rfl ?_
    refine iq_putI hS 39 J_MScriptRows_layForm_d36 lf_15_183 (Or.inl rfl) rfl (ka_71 (lw_sI hM)) rfl ?_
    refine iq_aload_n hS 40 J_MScriptRows_layForm_d39 l4 rfl ?_
    refine iq_getR hS 43 J_MScriptRows_layForm_d40 lf_15_25 (Or.inr ⟨_, rfl⟩) (ka_71 (lw_sI (lw_sI hM))) (ra_71_7 (lw_sI (lw_sI hM))) rfl ?_
    refine iq_aload_n hS 44 J_MScriptRows_layForm_d43 l4 rfl ?_
    refine iq_getI hS 47 J_MScriptRows_layForm_d44 lf_15_73 (Or.inl rfl) (ka_71 (lw_sI (lw_sI hM))) rfl ?_
    refine iq_iconst hS 48 J_MScriptRows_layForm_d47 (v := (-1)) (by decide +kernel) rfl ?_
    obtain ⟨g48, h⟩ := ed_gd h
    refine iq_iastore hS 49 J_MScriptRows_layForm_d48 ⟨(ka_77 (lw_sI (lw_sI hM))).1, (ka_77 (lw_sI (lw_sI hM))).2, g48.1, ix_lt (kl_77 (lw_sI (lw_sI hM))) g48.2⟩ rfl ?_
    refine iq_aload_n hS 50 J_MScriptRows_layForm_d49 l4 rfl ?_
    refine iq_dup hS 51 J_MScriptRows_layForm_d50 rfl rfl ?_
    refine iq_getI hS 54 J_MScriptRows_layForm_d51 lf_15_73 (Or.inl rfl) (ka_71 (lw_sI (lw_sI (lw_sI hM)))) rfl ?_
    refine iq_iconst hS 55 J_MScriptRows_layForm_d54 (v := 1) (by decide +kernel) rfl ?_
    refine iq_iadd hS 56 J_MScriptRows_layForm_d55 rfl ?_
    refine iq_putI hS 59 J_MScriptRows_layForm_d56 lf_15_73 (Or.inl rfl) rfl (ka_71 (lw_sI (lw_sI (lw_sI hM)))) rfl ?_
    refine iq_aload_n hS 60 J_MScriptRows_layForm_d59 l4 rfl ?_
    refine iq_getR hS 63 J_MScriptRows_layForm_d60 lf_15_16 (Or.inr ⟨_, rfl⟩) (ka_71 (lw_sI (lw_sI (lw_sI (lw_sI hM))))) (ra_71_4 (lw_sI (lw_sI (lw_sI (lw_sI hM))))) rfl ?_
    refine iq_iload_n hS 64 J_MScriptRows_layForm_d63 l5 rfl ?_
    obtain ⟨g64, h⟩ := ed_gd h
    refine iq_iaload hS 65 J_MScriptRows_layForm_d64 ⟨(ka_74 (lw_sI (lw_sI (lw_sI (lw_sI hM))))).1, (ka_74 (lw_sI (lw_sI (lw_sI (lw_sI hM))))).2, g64.1, ix_lt (kl_74 (lw_sI (lw_sI (lw_sI (lw_sI hM))))) g64.2⟩ rfl ?_
    refine iq_iconst hS 66 J_MScriptRows_layForm_d65 (v := 1) (by decide +kernel) rfl ?_
    refine iq_isub hS 67 J_MScriptRows_layForm_d66 rfl ?_
    refine iq_istore_n hS 68 J_MScriptRows_layForm_d67 (by decide) rfl ?_
    obtain ⟨Q6, hQ6, h⟩ := bd1_ed h
    have K6 : ∀ (M7 : im_M) (L' : List (Nat × Value)), lw_S w M7 → Q6 M7 → ia (tb_G L xs) dep J_MScriptRows_layForm (rwV w Q) (109, L', [], M7) := by
      intro M7 L' hM7  h
      replace h := hQ6 _ h
      exact iq_ret J_MScriptRows_layForm_d109 rfl ⟨rfl, hM7, ed_some h⟩
    obtain ⟨r6, hr6, hq6⟩ := h
    obtain ⟨n6, hn6⟩ := lp_n hr6
    have I6 : ∀ (n : Nat) (x8 : Int32) (M9 : im_M) (L' : List (Nat × Value)), lw_S w M9 → im_lk L' 0 = some (.ref 71) → im_lk L' 1 = some (.int (im_i M 78 (Int32.toNatClampNeg 0))) → im_lk L' 2 = some (.int x8) → lpn (uc2 (f_MScriptRows_layForm_L68 (im_i M 78 (Int32.toNatClampNeg 0)))) n (x8, M9) = some r6 → ia (tb_G L xs) dep J_MScriptRows_layForm (rwV w Q) (68, L', [], M9) := by
      intro n
      induction n with
      | zero => intro x8 M9 L' hM9 l10 l11 l12 hn; exact (lpn_0 hn).elim
      | succ n ih =>
        intro x8 M9 L' hM9 l10 l11 l12 hn
        have h := lpn_ed2 hn
        unfold f_MScriptRows_layForm_L68 at h
        refine iq_iload_n hS 69 J_MScriptRows_layForm_d68 l12 rfl ?_
        refine iq_if_lt hS 72 J_MScriptRows_layForm_d69 (t := 109) rfl (fun q69 => ?_) rfl (fun q69 => ?_)
        · replace h := ed_pos q69 h
          exact K6 _ _ hM9  (lq_r h hq6)
        · replace h := ed_neg q69 h
          refine iq_aload_n hS 73 J_MScriptRows_layForm_d72 l10 rfl ?_
          refine iq_getR hS 76 J_MScriptRows_layForm_d73 lf_15_25 (Or.inr ⟨_, rfl⟩) (ka_71 hM9) (ra_71_7 hM9) rfl ?_
          refine iq_aload_n hS 77 J_MScriptRows_layForm_d76 l10 rfl ?_
          refine iq_getI hS 80 J_MScriptRows_layForm_d77 lf_15_73 (Or.inl rfl) (ka_71 hM9) rfl ?_
          refine iq_aload_n hS 81 J_MScriptRows_layForm_d80 l10 rfl ?_
          refine iq_getR hS 84 J_MScriptRows_layForm_d81 lf_15_13 (Or.inr ⟨_, rfl⟩) (ka_71 hM9) (ra_71_3 hM9) rfl ?_
          refine iq_sipush hS 87 J_MScriptRows_layForm_d84 (v := 400) (by decide +kernel) rfl ?_
          refine iq_iload_n hS 88 J_MScriptRows_layForm_d87 l11 rfl ?_
          refine iq_imul hS 89 J_MScriptRows_layForm_d88 rfl ?_
          refine iq_iload_n hS 90 J_MScriptRows_layForm_d89 l12 rfl ?_
          refine iq_iadd hS 91 J_MScriptRows_layForm_d90 rfl ?_
          obtain ⟨g91, h⟩ := ed_gd h
          refine iq_iaload hS 92 J_MScriptRows_layForm_d91 ⟨(ka_73 hM9).1, (ka_73 hM9).2, g91.1, ix_lt (kl_73 hM9) g91.2⟩ rfl ?_
          obtain ⟨g92, h⟩ := ed_gd h
          refine iq_iastore hS 93 J_MScriptRows_layForm_d92 ⟨(ka_77 hM9).1, (ka_77 hM9).2, g92.1, ix_lt (kl_77 hM9) g92.2⟩ rfl ?_
          refine iq_aload_n hS 94 J_MScriptRows_layForm_d93 l10 rfl ?_
          refine iq_dup hS 95 J_MScriptRows_layForm_d94 rfl rfl ?_
          refine iq_getI hS 98 J_MScriptRows_layForm_d95 lf_15_73 (Or.inl rfl) (ka_71 (lw_sI hM9)) rfl ?_
          refine iq_iconst hS 99 J_MScriptRows_layForm_d98 (v := 1) (by decide +kernel) rfl ?_
          refine iq_iadd hS 100 J_MScriptRows_layForm_d99 rfl ?_
          refine iq_putI hS 103 J_MScriptRows_layForm_d100 lf_15_73 (Or.inl rfl) rfl (ka_71 (lw_sI hM9)) rfl ?_
          refine iq_iincv hS 106 J_MScriptRows_layForm_d103 (c := (-1)) (by decide +kernel) l12 (by decide) rfl ?_
          refine iq_goto hS J_MScriptRows_layForm_d106 (t := 68) rfl ?_
          exact ih _ _ _ (lw_sI (lw_sI hM9)) (lk_1r l10 (by decide)) (lk_1i l11 (by decide)) lk_1s (lq_l h)
    exact I6 n6 _ _ _ (lw_sI (lw_sI (lw_sI (lw_sI hM)))) (lk_1r l4 (by decide)) (lk_1i l5 (by decide)) lk_1s hn6
  refine iq_if_ne hS 15 J_MScriptRows_layForm_d12 (t := 22) rfl (fun q12 => ?_) rfl (fun q12 => ?_)
  · refine iq_aload_n hS 23 J_MScriptRows_layForm_d22 (lk_1r l0 (by decide)) rfl ?_
    refine iq_getI hS 26 J_MScriptRows_layForm_d23 lf_15_216 (Or.inl rfl) (ka_71 hM) rfl ?_
    exact J1 _ _ (by simp only [if_pos q12]) (lk_1r l0 (by decide)) lk_1s
  · refine iq_aload_n hS 16 J_MScriptRows_layForm_d15 (lk_1r l0 (by decide)) rfl ?_
    refine iq_getI hS 19 J_MScriptRows_layForm_d16 lf_15_213 (Or.inl rfl) (ka_71 hM) rfl ?_
    refine iq_goto hS J_MScriptRows_layForm_d19 (t := 26) rfl ?_
    exact J1 _ _ (by simp only [if_neg q12]) (lk_1r l0 (by decide)) lk_1s
theorem f_MScriptRows_layForm_fr {M : im_M} {r : im_M} (h : f_MScriptRows_layForm M = some r) : fr 151115727451828646838272 [(71, 8), (71, 9), (71, 10)] M r := by
  replace h : ed (f_MScriptRows_layForm M) (fun x => x = r) := ⟨r, h, rfl⟩
  unfold f_MScriptRows_layForm at h
  obtain ⟨g5, h⟩ := ed_gd h
  obtain ⟨g48, h⟩ := ed_gd h
  obtain ⟨g64, h⟩ := ed_gd h
  obtain ⟨Q2, hQ2, h⟩ := bd1_ed h
  have K2 : ∀ (M3 : im_M), fr 151115727451828646838272 [(71, 8), (71, 9), (71, 10)] M M3 → Q2 M3 → fr 151115727451828646838272 [(71, 8), (71, 9), (71, 10)] M r := by
    intro M3 hM3 h
    replace h := hQ2 _ h
    exact fr_retV h hM3
  obtain ⟨r2, hr2, hq2⟩ := h
  obtain ⟨n2, hn2⟩ := lp_n hr2
  have I2 : ∀ (n : Nat) (x4 : Int32) (M5 : im_M), fr 151115727451828646838272 [(71, 8), (71, 9), (71, 10)] M M5 → lpn (uc2 (f_MScriptRows_layForm_L68 (im_i M 78 (Int32.toNatClampNeg 0)))) n (x4, M5) = some r2 → fr 151115727451828646838272 [(71, 8), (71, 9), (71, 10)] M r := by
    intro n
    induction n with
    | zero => intro x4 M5 hM5 hn; exact (lpn_0 hn).elim
    | succ n ih =>
      intro x4 M5 hM5 hn
      have h := lpn_ed2 hn
      unfold f_MScriptRows_layForm_L68 at h
      by_cases q69 : x4 < 0
      · replace h := ed_pos q69 h
        exact K2 _ hM5 (lq_r h hq2)
      · replace h := ed_neg q69 h
        obtain ⟨g91, h⟩ := ed_gd h
        obtain ⟨g92, h⟩ := ed_gd h
        exact ih _ _ (fr_F (by decide) (fr_I (by decide) hM5)) (lq_l h)
  exact I2 n2 _ _ (fr_F (by decide) (fr_I (by decide) (fr_F (by decide) (fr_F (by decide) fr_refl)))) hn2
noncomputable def f_MScriptRows_kindOf (p0 : Int32) (M : im_M) : Option (Int32) := if p0 = 66 then some 1 else if p0 = 70 then some 4 else if p0 = 71 then some 6 else if p0 = 73 then some 5 else if p0 = 78 then some 2 else if p0 = 80 then some 7 else if p0 = 81 then some 3 else if p0 = 84 then some 0 else if p0 = 87 then some 8 else some (-1)
theorem J_MScriptRows_kindOf_d0 : decode J_MScriptRows_kindOf.2.1 0 = .ok (.iload_n 0, 1) := by decide +kernel
theorem J_MScriptRows_kindOf_d1 : decode J_MScriptRows_kindOf.2.1 1 = .ok (.tableswitch 124 66 87 #[105, 124, 124, 124, 111, 115, 124, 113, 124, 124, 124, 124, 107, 124, 118, 109, 124, 124, 103, 124, 124, 121], 103) := by decide +kernel
theorem J_MScriptRows_kindOf_d104 : decode J_MScriptRows_kindOf.2.1 104 = .ok (.iconst 0, 1) := by decide +kernel
theorem J_MScriptRows_kindOf_d105 : decode J_MScriptRows_kindOf.2.1 105 = .ok (.ireturn, 1) := by decide +kernel
theorem J_MScriptRows_kindOf_d106 : decode J_MScriptRows_kindOf.2.1 106 = .ok (.iconst 1, 1) := by decide +kernel
theorem J_MScriptRows_kindOf_d107 : decode J_MScriptRows_kindOf.2.1 107 = .ok (.ireturn, 1) := by decide +kernel
theorem J_MScriptRows_kindOf_d108 : decode J_MScriptRows_kindOf.2.1 108 = .ok (.iconst 2, 1) := by decide +kernel
theorem J_MScriptRows_kindOf_d109 : decode J_MScriptRows_kindOf.2.1 109 = .ok (.ireturn, 1) := by decide +kernel
theorem J_MScriptRows_kindOf_d110 : decode J_MScriptRows_kindOf.2.1 110 = .ok (.iconst 3, 1) := by decide +kernel
theorem J_MScriptRows_kindOf_d111 : decode J_MScriptRows_kindOf.2.1 111 = .ok (.ireturn, 1) := by decide +kernel
theorem J_MScriptRows_kindOf_d112 : decode J_MScriptRows_kindOf.2.1 112 = .ok (.iconst 4, 1) := by decide +kernel
theorem J_MScriptRows_kindOf_d113 : decode J_MScriptRows_kindOf.2.1 113 = .ok (.ireturn, 1) := by decide +kernel
theorem J_MScriptRows_kindOf_d114 : decode J_MScriptRows_kindOf.2.1 114 = .ok (.iconst 5, 1) := by decide +kernel
theorem J_MScriptRows_kindOf_d115 : decode J_MScriptRows_kindOf.2.1 115 = .ok (.ireturn, 1) := by decide +kernel
theorem J_MScriptRows_kindOf_d116 : decode J_MScriptRows_kindOf.2.1 116 = .ok (.bipush 6, 2) := by decide +kernel
theorem J_MScriptRows_kindOf_d118 : decode J_MScriptRows_kindOf.2.1 118 = .ok (.ireturn, 1) := by decide +kernel
theorem J_MScriptRows_kindOf_d119 : decode J_MScriptRows_kindOf.2.1 119 = .ok (.bipush 7, 2) := by decide +kernel
theorem J_MScriptRows_kindOf_d121 : decode J_MScriptRows_kindOf.2.1 121 = .ok (.ireturn, 1) := by decide +kernel
theorem J_MScriptRows_kindOf_d122 : decode J_MScriptRows_kindOf.2.1 122 = .ok (.bipush 8, 2) := by decide +kernel
theorem J_MScriptRows_kindOf_d124 : decode J_MScriptRows_kindOf.2.1 124 = .ok (.ireturn, 1) := by decide +kernel
theorem J_MScriptRows_kindOf_d125 : decode J_MScriptRows_kindOf.2.1 125 = .ok (.iconst (-1), 1) := by decide +kernel
theorem J_MScriptRows_kindOf_d126 : decode J_MScriptRows_kindOf.2.1 126 = .ok (.ireturn, 1) := by decide +kernel
theorem f_MScriptRows_kindOf_ok {L : Nat} {xs : Nat → Int32} {dep : Nat} {w : Bool} {p0 : Int32} {M : im_M} {Q : Int32 → Prop} (hM : lw_S w M) (h : ed (f_MScriptRows_kindOf p0 M) Q) : ia (tb_G L xs) dep J_MScriptRows_kindOf (rpI M Q) (0, lv_args 0 [.int p0], [], M) := by
  have hS : im_St (tb_G L xs) dep J_MScriptRows_kindOf (ia (tb_G L xs) dep J_MScriptRows_kindOf (rpI M Q)) := ia_St
  unfold f_MScriptRows_kindOf at h
  have l0 : im_lk (lv_args 0 [.int p0]) 0 = some (.int p0) := rfl
  refine iq_iload_n hS 1 J_MScriptRows_kindOf_d0 l0 rfl ?_
  by_cases q1_66 : p0 = 66
  · replace h := ed_pos q1_66 h
    refine iq_tsw hS J_MScriptRows_kindOf_d1 (t := 106) (sw_v q1_66 (by decide +kernel)) ?_
    refine iq_iconst hS 107 J_MScriptRows_kindOf_d106 (v := 1) (by decide +kernel) rfl ?_
    exact iq_iret J_MScriptRows_kindOf_d107 rfl rfl ⟨_, rfl, rfl, ed_some h⟩
  replace h := ed_neg q1_66 h
  by_cases q1_70 : p0 = 70
  · replace h := ed_pos q1_70 h
    refine iq_tsw hS J_MScriptRows_kindOf_d1 (t := 112) (sw_v q1_70 (by decide +kernel)) ?_
    refine iq_iconst hS 113 J_MScriptRows_kindOf_d112 (v := 4) (by decide +kernel) rfl ?_
    exact iq_iret J_MScriptRows_kindOf_d113 rfl rfl ⟨_, rfl, rfl, ed_some h⟩
  replace h := ed_neg q1_70 h
  by_cases q1_71 : p0 = 71
  · replace h := ed_pos q1_71 h
    refine iq_tsw hS J_MScriptRows_kindOf_d1 (t := 116) (sw_v q1_71 (by decide +kernel)) ?_
    refine iq_bipush hS 118 J_MScriptRows_kindOf_d116 (v := 6) (by decide +kernel) rfl ?_
    exact iq_iret J_MScriptRows_kindOf_d118 rfl rfl ⟨_, rfl, rfl, ed_some h⟩
  replace h := ed_neg q1_71 h
  by_cases q1_73 : p0 = 73
  · replace h := ed_pos q1_73 h
    refine iq_tsw hS J_MScriptRows_kindOf_d1 (t := 114) (sw_v q1_73 (by decide +kernel)) ?_
    refine iq_iconst hS 115 J_MScriptRows_kindOf_d114 (v := 5) (by decide +kernel) rfl ?_
    exact iq_iret J_MScriptRows_kindOf_d115 rfl rfl ⟨_, rfl, rfl, ed_some h⟩
  replace h := ed_neg q1_73 h
  by_cases q1_78 : p0 = 78
  · replace h := ed_pos q1_78 h
    refine iq_tsw hS J_MScriptRows_kindOf_d1 (t := 108) (sw_v q1_78 (by decide +kernel)) ?_
    refine iq_iconst hS 109 J_MScriptRows_kindOf_d108 (v := 2) (by decide +kernel) rfl ?_
    exact iq_iret J_MScriptRows_kindOf_d109 rfl rfl ⟨_, rfl, rfl, ed_some h⟩
  replace h := ed_neg q1_78 h
  by_cases q1_80 : p0 = 80
  · replace h := ed_pos q1_80 h
    refine iq_tsw hS J_MScriptRows_kindOf_d1 (t := 119) (sw_v q1_80 (by decide +kernel)) ?_
    refine iq_bipush hS 121 J_MScriptRows_kindOf_d119 (v := 7) (by decide +kernel) rfl ?_
    exact iq_iret J_MScriptRows_kindOf_d121 rfl rfl ⟨_, rfl, rfl, ed_some h⟩
  replace h := ed_neg q1_80 h
  by_cases q1_81 : p0 = 81
  · replace h := ed_pos q1_81 h
    refine iq_tsw hS J_MScriptRows_kindOf_d1 (t := 110) (sw_v q1_81 (by decide +kernel)) ?_
    refine iq_iconst hS 111 J_MScriptRows_kindOf_d110 (v := 3) (by decide +kernel) rfl ?_
    exact iq_iret J_MScriptRows_kindOf_d111 rfl rfl ⟨_, rfl, rfl, ed_some h⟩
  replace h := ed_neg q1_81 h
  by_cases q1_84 : p0 = 84
  · replace h := ed_pos q1_84 h
    refine iq_tsw hS J_MScriptRows_kindOf_d1 (t := 104) (sw_v q1_84 (by decide +kernel)) ?_
    refine iq_iconst hS 105 J_MScriptRows_kindOf_d104 (v := 0) (by decide +kernel) rfl ?_
    exact iq_iret J_MScriptRows_kindOf_d105 rfl rfl ⟨_, rfl, rfl, ed_some h⟩
  replace h := ed_neg q1_84 h
  by_cases q1_87 : p0 = 87
  · replace h := ed_pos q1_87 h
    refine iq_tsw hS J_MScriptRows_kindOf_d1 (t := 122) (sw_v q1_87 (by decide +kernel)) ?_
    refine iq_bipush hS 124 J_MScriptRows_kindOf_d122 (v := 8) (by decide +kernel) rfl ?_
    exact iq_iret J_MScriptRows_kindOf_d124 rfl rfl ⟨_, rfl, rfl, ed_some h⟩
  replace h := ed_neg q1_87 h
  refine iq_tsw hS J_MScriptRows_kindOf_d1 (t := 125) (sw_d [66, 70, 71, 73, 78, 80, 81, 84, 87] (by decide) (by decide) (by decide +kernel) (sw_nc q1_66 (sw_nc q1_70 (sw_nc q1_71 (sw_nc q1_73 (sw_nc q1_78 (sw_nc q1_80 (sw_nc q1_81 (sw_nc q1_84 (sw_nc q1_87 sw_nn)))))))))) ?_
  refine iq_iconst hS 126 J_MScriptRows_kindOf_d125 (v := (-1)) (by decide +kernel) rfl ?_
  exact iq_iret J_MScriptRows_kindOf_d126 rfl rfl ⟨_, rfl, rfl, ed_some h⟩
noncomputable def f_MScriptRows_set_L131 (v2 : Int32) (x3 : Int32) (M4 : im_M) : Option ((Int32 × im_M) ⊕ (im_M)) := bd1 (f_MScriptRows_numbers v2 M4) fun (x5 : Int32) => if x5 ≤ x3 then some (.inr M4) else bd1 (if ¬ v2 = 68 then gd (inb x3 4) <| gd (inb ((1 : Int32) + x3) 16) <| some (im_setI M4 81 (Int32.toNatClampNeg ((1 : Int32) + x3)) (im_i M4 78 (Int32.toNatClampNeg x3))) else gd (inb x3 4) <| gd (inb x3 4) <| some (im_setI M4 80 (Int32.toNatClampNeg x3) (im_i M4 78 (Int32.toNatClampNeg x3)))) fun (M7 : im_M) => some (.inl ((x3 + 1), M7))
noncomputable def f_MScriptRows_set (p0 : Int32) (M : im_M) : Option (im_M) := if ¬ p0 = 72 then if ¬ p0 = 67 then if ¬ p0 = 79 then if ¬ p0 = 82 then if ¬ p0 = 35 then bd1 (lp (uc2 (f_MScriptRows_set_L131 p0)) (0, M)) fun (M11 : im_M) => bd1 (if ¬ p0 = 68 then bd1 (f_MScriptRows_kindOf p0 M11) fun (x13 : Int32) => some x13 else gd (inb 0 16) <| some (im_i M11 81 (Int32.toNatClampNeg 0))) fun (y14 : Int32) => gd (inb 0 16) <| some (im_setI M11 81 (Int32.toNatClampNeg 0) y14) else gd (inb 8 16) <| gd (inb 0 4) <| gd (inb 9 16) <| some (im_setI (im_setI M 81 (Int32.toNatClampNeg 8) 1) 81 (Int32.toNatClampNeg 9) (im_i (im_setI M 81 (Int32.toNatClampNeg 8) 1) 78 (Int32.toNatClampNeg 0))) else gd (inb 7 16) <| some (im_setI M 81 (Int32.toNatClampNeg 7) 2) else gd (inb 0 4) <| gd (inb 5 16) <| gd (inb 1 4) <| gd (inb 6 16) <| some (im_setI (im_setI M 81 (Int32.toNatClampNeg 5) (im_i M 78 (Int32.toNatClampNeg 0))) 81 (Int32.toNatClampNeg 6) (im_i (im_setI M 81 (Int32.toNatClampNeg 5) (im_i M 78 (Int32.toNatClampNeg 0))) 78 (Int32.toNatClampNeg 1))) else gd (inb 0 4) <| some (im_setI M 71 21 (im_i M 78 (Int32.toNatClampNeg 0))) else gd (inb 0 4) <| gd (inb 1 4) <| some (im_setI (im_setI M 71 22 (im_i M 78 (Int32.toNatClampNeg 0))) 71 23 (im_i (im_setI M 71 22 (im_i M 78 (Int32.toNatClampNeg 0))) 78 (Int32.toNatClampNeg 1)))
theorem J_MScriptRows_set_d0 : decode J_MScriptRows_set.2.1 0 = .ok (.iload_n 1, 1) := by decide +kernel
theorem J_MScriptRows_set_d1 : decode J_MScriptRows_set.2.1 1 = .ok (.bipush 72, 2) := by decide +kernel
theorem J_MScriptRows_set_d3 : decode J_MScriptRows_set.2.1 3 = .ok (.if_icmp .ne 26, 3) := by decide +kernel
theorem J_MScriptRows_set_d6 : decode J_MScriptRows_set.2.1 6 = .ok (.aload_n 0, 1) := by decide +kernel
theorem J_MScriptRows_set_d7 : decode J_MScriptRows_set.2.1 7 = .ok (.aload_n 0, 1) := by decide +kernel
theorem J_MScriptRows_set_d8 : decode J_MScriptRows_set.2.1 8 = .ok (.getfield 32, 3) := by decide +kernel
theorem J_MScriptRows_set_d11 : decode J_MScriptRows_set.2.1 11 = .ok (.iconst 0, 1) := by decide +kernel
theorem J_MScriptRows_set_d12 : decode J_MScriptRows_set.2.1 12 = .ok (.iaload, 1) := by decide +kernel
theorem J_MScriptRows_set_d13 : decode J_MScriptRows_set.2.1 13 = .ok (.putfield 107, 3) := by decide +kernel
theorem J_MScriptRows_set_d16 : decode J_MScriptRows_set.2.1 16 = .ok (.aload_n 0, 1) := by decide +kernel
theorem J_MScriptRows_set_d17 : decode J_MScriptRows_set.2.1 17 = .ok (.aload_n 0, 1) := by decide +kernel
theorem J_MScriptRows_set_d18 : decode J_MScriptRows_set.2.1 18 = .ok (.getfield 32, 3) := by decide +kernel
theorem J_MScriptRows_set_d21 : decode J_MScriptRows_set.2.1 21 = .ok (.iconst 1, 1) := by decide +kernel
theorem J_MScriptRows_set_d22 : decode J_MScriptRows_set.2.1 22 = .ok (.iaload, 1) := by decide +kernel
theorem J_MScriptRows_set_d23 : decode J_MScriptRows_set.2.1 23 = .ok (.putfield 110, 3) := by decide +kernel
theorem J_MScriptRows_set_d26 : decode J_MScriptRows_set.2.1 26 = .ok (.goto 179, 3) := by decide +kernel
theorem J_MScriptRows_set_d29 : decode J_MScriptRows_set.2.1 29 = .ok (.iload_n 1, 1) := by decide +kernel
theorem J_MScriptRows_set_d30 : decode J_MScriptRows_set.2.1 30 = .ok (.bipush 67, 2) := by decide +kernel
theorem J_MScriptRows_set_d32 : decode J_MScriptRows_set.2.1 32 = .ok (.if_icmp .ne 16, 3) := by decide +kernel
theorem J_MScriptRows_set_d35 : decode J_MScriptRows_set.2.1 35 = .ok (.aload_n 0, 1) := by decide +kernel
theorem J_MScriptRows_set_d36 : decode J_MScriptRows_set.2.1 36 = .ok (.aload_n 0, 1) := by decide +kernel
theorem J_MScriptRows_set_d37 : decode J_MScriptRows_set.2.1 37 = .ok (.getfield 32, 3) := by decide +kernel
theorem J_MScriptRows_set_d40 : decode J_MScriptRows_set.2.1 40 = .ok (.iconst 0, 1) := by decide +kernel
theorem J_MScriptRows_set_d41 : decode J_MScriptRows_set.2.1 41 = .ok (.iaload, 1) := by decide +kernel
theorem J_MScriptRows_set_d42 : decode J_MScriptRows_set.2.1 42 = .ok (.putfield 207, 3) := by decide +kernel
theorem J_MScriptRows_set_d45 : decode J_MScriptRows_set.2.1 45 = .ok (.goto 160, 3) := by decide +kernel
theorem J_MScriptRows_set_d48 : decode J_MScriptRows_set.2.1 48 = .ok (.iload_n 1, 1) := by decide +kernel
theorem J_MScriptRows_set_d49 : decode J_MScriptRows_set.2.1 49 = .ok (.bipush 79, 2) := by decide +kernel
theorem J_MScriptRows_set_d51 : decode J_MScriptRows_set.2.1 51 = .ok (.if_icmp .ne 31, 3) := by decide +kernel
theorem J_MScriptRows_set_d54 : decode J_MScriptRows_set.2.1 54 = .ok (.aload_n 0, 1) := by decide +kernel
theorem J_MScriptRows_set_d55 : decode J_MScriptRows_set.2.1 55 = .ok (.getfield 41, 3) := by decide +kernel
theorem J_MScriptRows_set_d58 : decode J_MScriptRows_set.2.1 58 = .ok (.iconst 5, 1) := by decide +kernel
theorem J_MScriptRows_set_d59 : decode J_MScriptRows_set.2.1 59 = .ok (.aload_n 0, 1) := by decide +kernel
theorem J_MScriptRows_set_d60 : decode J_MScriptRows_set.2.1 60 = .ok (.getfield 32, 3) := by decide +kernel
theorem J_MScriptRows_set_d63 : decode J_MScriptRows_set.2.1 63 = .ok (.iconst 0, 1) := by decide +kernel
theorem J_MScriptRows_set_d64 : decode J_MScriptRows_set.2.1 64 = .ok (.iaload, 1) := by decide +kernel
theorem J_MScriptRows_set_d65 : decode J_MScriptRows_set.2.1 65 = .ok (.iastore, 1) := by decide +kernel
theorem J_MScriptRows_set_d66 : decode J_MScriptRows_set.2.1 66 = .ok (.aload_n 0, 1) := by decide +kernel
theorem J_MScriptRows_set_d67 : decode J_MScriptRows_set.2.1 67 = .ok (.getfield 41, 3) := by decide +kernel
theorem J_MScriptRows_set_d70 : decode J_MScriptRows_set.2.1 70 = .ok (.bipush 6, 2) := by decide +kernel
theorem J_MScriptRows_set_d72 : decode J_MScriptRows_set.2.1 72 = .ok (.aload_n 0, 1) := by decide +kernel
theorem J_MScriptRows_set_d73 : decode J_MScriptRows_set.2.1 73 = .ok (.getfield 32, 3) := by decide +kernel
theorem J_MScriptRows_set_d76 : decode J_MScriptRows_set.2.1 76 = .ok (.iconst 1, 1) := by decide +kernel
theorem J_MScriptRows_set_d77 : decode J_MScriptRows_set.2.1 77 = .ok (.iaload, 1) := by decide +kernel
theorem J_MScriptRows_set_d78 : decode J_MScriptRows_set.2.1 78 = .ok (.iastore, 1) := by decide +kernel
theorem J_MScriptRows_set_d79 : decode J_MScriptRows_set.2.1 79 = .ok (.goto 126, 3) := by decide +kernel
theorem J_MScriptRows_set_d82 : decode J_MScriptRows_set.2.1 82 = .ok (.iload_n 1, 1) := by decide +kernel
theorem J_MScriptRows_set_d83 : decode J_MScriptRows_set.2.1 83 = .ok (.bipush 82, 2) := by decide +kernel
theorem J_MScriptRows_set_d85 : decode J_MScriptRows_set.2.1 85 = .ok (.if_icmp .ne 14, 3) := by decide +kernel
theorem J_MScriptRows_set_d88 : decode J_MScriptRows_set.2.1 88 = .ok (.aload_n 0, 1) := by decide +kernel
theorem J_MScriptRows_set_d89 : decode J_MScriptRows_set.2.1 89 = .ok (.getfield 41, 3) := by decide +kernel
theorem J_MScriptRows_set_d92 : decode J_MScriptRows_set.2.1 92 = .ok (.bipush 7, 2) := by decide +kernel
theorem J_MScriptRows_set_d94 : decode J_MScriptRows_set.2.1 94 = .ok (.iconst 2, 1) := by decide +kernel
theorem J_MScriptRows_set_d95 : decode J_MScriptRows_set.2.1 95 = .ok (.iastore, 1) := by decide +kernel
theorem J_MScriptRows_set_d96 : decode J_MScriptRows_set.2.1 96 = .ok (.goto 109, 3) := by decide +kernel
theorem J_MScriptRows_set_d99 : decode J_MScriptRows_set.2.1 99 = .ok (.iload_n 1, 1) := by decide +kernel
theorem J_MScriptRows_set_d100 : decode J_MScriptRows_set.2.1 100 = .ok (.bipush 35, 2) := by decide +kernel
theorem J_MScriptRows_set_d102 : decode J_MScriptRows_set.2.1 102 = .ok (.if_icmp .ne 27, 3) := by decide +kernel
theorem J_MScriptRows_set_d105 : decode J_MScriptRows_set.2.1 105 = .ok (.aload_n 0, 1) := by decide +kernel
theorem J_MScriptRows_set_d106 : decode J_MScriptRows_set.2.1 106 = .ok (.getfield 41, 3) := by decide +kernel
theorem J_MScriptRows_set_d109 : decode J_MScriptRows_set.2.1 109 = .ok (.bipush 8, 2) := by decide +kernel
theorem J_MScriptRows_set_d111 : decode J_MScriptRows_set.2.1 111 = .ok (.iconst 1, 1) := by decide +kernel
theorem J_MScriptRows_set_d112 : decode J_MScriptRows_set.2.1 112 = .ok (.iastore, 1) := by decide +kernel
theorem J_MScriptRows_set_d113 : decode J_MScriptRows_set.2.1 113 = .ok (.aload_n 0, 1) := by decide +kernel
theorem J_MScriptRows_set_d114 : decode J_MScriptRows_set.2.1 114 = .ok (.getfield 41, 3) := by decide +kernel
theorem J_MScriptRows_set_d117 : decode J_MScriptRows_set.2.1 117 = .ok (.bipush 9, 2) := by decide +kernel
theorem J_MScriptRows_set_d119 : decode J_MScriptRows_set.2.1 119 = .ok (.aload_n 0, 1) := by decide +kernel
theorem J_MScriptRows_set_d120 : decode J_MScriptRows_set.2.1 120 = .ok (.getfield 32, 3) := by decide +kernel
theorem J_MScriptRows_set_d123 : decode J_MScriptRows_set.2.1 123 = .ok (.iconst 0, 1) := by decide +kernel
theorem J_MScriptRows_set_d124 : decode J_MScriptRows_set.2.1 124 = .ok (.iaload, 1) := by decide +kernel
theorem J_MScriptRows_set_d125 : decode J_MScriptRows_set.2.1 125 = .ok (.iastore, 1) := by decide +kernel
theorem J_MScriptRows_set_d126 : decode J_MScriptRows_set.2.1 126 = .ok (.goto 79, 3) := by decide +kernel
theorem J_MScriptRows_set_d129 : decode J_MScriptRows_set.2.1 129 = .ok (.iconst 0, 1) := by decide +kernel
theorem J_MScriptRows_set_d130 : decode J_MScriptRows_set.2.1 130 = .ok (.istore_n 2, 1) := by decide +kernel
theorem J_MScriptRows_set_d131 : decode J_MScriptRows_set.2.1 131 = .ok (.iload_n 2, 1) := by decide +kernel
theorem J_MScriptRows_set_d132 : decode J_MScriptRows_set.2.1 132 = .ok (.iload_n 1, 1) := by decide +kernel
theorem J_MScriptRows_set_d133 : decode J_MScriptRows_set.2.1 133 = .ok (.invokestatic 88, 3) := by decide +kernel
theorem J_MScriptRows_set_d136 : decode J_MScriptRows_set.2.1 136 = .ok (.if_icmp .ge 44, 3) := by decide +kernel
theorem J_MScriptRows_set_d139 : decode J_MScriptRows_set.2.1 139 = .ok (.iload_n 1, 1) := by decide +kernel
theorem J_MScriptRows_set_d140 : decode J_MScriptRows_set.2.1 140 = .ok (.bipush 68, 2) := by decide +kernel
theorem J_MScriptRows_set_d142 : decode J_MScriptRows_set.2.1 142 = .ok (.if_icmp .ne 18, 3) := by decide +kernel
theorem J_MScriptRows_set_d145 : decode J_MScriptRows_set.2.1 145 = .ok (.aload_n 0, 1) := by decide +kernel
theorem J_MScriptRows_set_d146 : decode J_MScriptRows_set.2.1 146 = .ok (.getfield 38, 3) := by decide +kernel
theorem J_MScriptRows_set_d149 : decode J_MScriptRows_set.2.1 149 = .ok (.iload_n 2, 1) := by decide +kernel
theorem J_MScriptRows_set_d150 : decode J_MScriptRows_set.2.1 150 = .ok (.aload_n 0, 1) := by decide +kernel
theorem J_MScriptRows_set_d151 : decode J_MScriptRows_set.2.1 151 = .ok (.getfield 32, 3) := by decide +kernel
theorem J_MScriptRows_set_d154 : decode J_MScriptRows_set.2.1 154 = .ok (.iload_n 2, 1) := by decide +kernel
theorem J_MScriptRows_set_d155 : decode J_MScriptRows_set.2.1 155 = .ok (.iaload, 1) := by decide +kernel
theorem J_MScriptRows_set_d156 : decode J_MScriptRows_set.2.1 156 = .ok (.iastore, 1) := by decide +kernel
theorem J_MScriptRows_set_d157 : decode J_MScriptRows_set.2.1 157 = .ok (.goto 17, 3) := by decide +kernel
theorem J_MScriptRows_set_d160 : decode J_MScriptRows_set.2.1 160 = .ok (.aload_n 0, 1) := by decide +kernel
theorem J_MScriptRows_set_d161 : decode J_MScriptRows_set.2.1 161 = .ok (.getfield 41, 3) := by decide +kernel
theorem J_MScriptRows_set_d164 : decode J_MScriptRows_set.2.1 164 = .ok (.iconst 1, 1) := by decide +kernel
theorem J_MScriptRows_set_d165 : decode J_MScriptRows_set.2.1 165 = .ok (.iload_n 2, 1) := by decide +kernel
theorem J_MScriptRows_set_d166 : decode J_MScriptRows_set.2.1 166 = .ok (.iadd, 1) := by decide +kernel
theorem J_MScriptRows_set_d167 : decode J_MScriptRows_set.2.1 167 = .ok (.aload_n 0, 1) := by decide +kernel
theorem J_MScriptRows_set_d168 : decode J_MScriptRows_set.2.1 168 = .ok (.getfield 32, 3) := by decide +kernel
theorem J_MScriptRows_set_d171 : decode J_MScriptRows_set.2.1 171 = .ok (.iload_n 2, 1) := by decide +kernel
theorem J_MScriptRows_set_d172 : decode J_MScriptRows_set.2.1 172 = .ok (.iaload, 1) := by decide +kernel
theorem J_MScriptRows_set_d173 : decode J_MScriptRows_set.2.1 173 = .ok (.iastore, 1) := by decide +kernel
theorem J_MScriptRows_set_d174 : decode J_MScriptRows_set.2.1 174 = .ok (.iinc 2 1, 3) := by decide +kernel
theorem J_MScriptRows_set_d177 : decode J_MScriptRows_set.2.1 177 = .ok (.goto (-46), 3) := by decide +kernel
theorem J_MScriptRows_set_d180 : decode J_MScriptRows_set.2.1 180 = .ok (.aload_n 0, 1) := by decide +kernel
theorem J_MScriptRows_set_d181 : decode J_MScriptRows_set.2.1 181 = .ok (.getfield 41, 3) := by decide +kernel
theorem J_MScriptRows_set_d184 : decode J_MScriptRows_set.2.1 184 = .ok (.iconst 0, 1) := by decide +kernel
theorem J_MScriptRows_set_d185 : decode J_MScriptRows_set.2.1 185 = .ok (.iload_n 1, 1) := by decide +kernel
theorem J_MScriptRows_set_d186 : decode J_MScriptRows_set.2.1 186 = .ok (.bipush 68, 2) := by decide +kernel
theorem J_MScriptRows_set_d188 : decode J_MScriptRows_set.2.1 188 = .ok (.if_icmp .ne 12, 3) := by decide +kernel
theorem J_MScriptRows_set_d191 : decode J_MScriptRows_set.2.1 191 = .ok (.aload_n 0, 1) := by decide +kernel
theorem J_MScriptRows_set_d192 : decode J_MScriptRows_set.2.1 192 = .ok (.getfield 41, 3) := by decide +kernel
theorem J_MScriptRows_set_d195 : decode J_MScriptRows_set.2.1 195 = .ok (.iconst 0, 1) := by decide +kernel
theorem J_MScriptRows_set_d196 : decode J_MScriptRows_set.2.1 196 = .ok (.iaload, 1) := by decide +kernel
theorem J_MScriptRows_set_d197 : decode J_MScriptRows_set.2.1 197 = .ok (.goto 7, 3) := by decide +kernel
theorem J_MScriptRows_set_d200 : decode J_MScriptRows_set.2.1 200 = .ok (.iload_n 1, 1) := by decide +kernel
theorem J_MScriptRows_set_d201 : decode J_MScriptRows_set.2.1 201 = .ok (.invokestatic 246, 3) := by decide +kernel
theorem J_MScriptRows_set_d204 : decode J_MScriptRows_set.2.1 204 = .ok (.iastore, 1) := by decide +kernel
theorem J_MScriptRows_set_d205 : decode J_MScriptRows_set.2.1 205 = .ok (.return_, 1) := by decide +kernel
theorem f_MScriptRows_set_ok {L : Nat} {xs : Nat → Int32} {dep : Nat} {w : Bool} {p0 : Int32} {M : im_M} {Q : im_M → Prop} (hM : lw_S w M) (h : ed (f_MScriptRows_set p0 M) Q) : ia (tb_G L xs) (dep + 1) J_MScriptRows_set (rwV w Q) (0, lv_args 0 [.ref 71, .int p0], [], M) := by
  have hS : im_St (tb_G L xs) (dep + 1) J_MScriptRows_set (ia (tb_G L xs) (dep + 1) J_MScriptRows_set (rwV w Q)) := ia_St
  unfold f_MScriptRows_set at h
  have l0 : im_lk (lv_args 0 [.ref 71, .int p0]) 0 = some (.ref 71) := rfl
  have l1 : im_lk (lv_args 0 [.ref 71, .int p0]) 1 = some (.int p0) := rfl
  refine iq_iload_n hS 1 J_MScriptRows_set_d0 l1 rfl ?_
  refine iq_bipush hS 3 J_MScriptRows_set_d1 (v := 72) (by decide +kernel) rfl ?_
  refine iq_icmp_ne hS 6 J_MScriptRows_set_d3 (t := 29) rfl (fun q3 => ?_) rfl (fun q3 => ?_)
  · replace h := ed_pos q3 h
    refine iq_iload_n hS 30 J_MScriptRows_set_d29 l1 rfl ?_
    refine iq_bipush hS 32 J_MScriptRows_set_d30 (v := 67) (by decide +kernel) rfl ?_
    refine iq_icmp_ne hS 35 J_MScriptRows_set_d32 (t := 48) rfl (fun q32 => ?_) rfl (fun q32 => ?_)
    · replace h := ed_pos q32 h
      refine iq_iload_n hS 49 J_MScriptRows_set_d48 l1 rfl ?_
      refine iq_bipush hS 51 J_MScriptRows_set_d49 (v := 79) (by decide +kernel) rfl ?_
      refine iq_icmp_ne hS 54 J_MScriptRows_set_d51 (t := 82) rfl (fun q51 => ?_) rfl (fun q51 => ?_)
      · replace h := ed_pos q51 h
        refine iq_iload_n hS 83 J_MScriptRows_set_d82 l1 rfl ?_
        refine iq_bipush hS 85 J_MScriptRows_set_d83 (v := 82) (by decide +kernel) rfl ?_
        refine iq_icmp_ne hS 88 J_MScriptRows_set_d85 (t := 99) rfl (fun q85 => ?_) rfl (fun q85 => ?_)
        · replace h := ed_pos q85 h
          refine iq_iload_n hS 100 J_MScriptRows_set_d99 l1 rfl ?_
          refine iq_bipush hS 102 J_MScriptRows_set_d100 (v := 35) (by decide +kernel) rfl ?_
          refine iq_icmp_ne hS 105 J_MScriptRows_set_d102 (t := 129) rfl (fun q102 => ?_) rfl (fun q102 => ?_)
          · replace h := ed_pos q102 h
            refine iq_iconst hS 130 J_MScriptRows_set_d129 (v := 0) (by decide +kernel) rfl ?_
            refine iq_istore_n hS 131 J_MScriptRows_set_d130 (by decide) rfl ?_
            obtain ⟨Q1, hQ1, h⟩ := bd1_ed h
            have K1 : ∀ (M2 : im_M) (L' : List (Nat × Value)), lw_S w M2 → im_lk L' 0 = some (.ref 71) → im_lk L' 1 = some (.int p0) → Q1 M2 → ia (tb_G L xs) (dep + 1) J_MScriptRows_set (rwV w Q) (180, L', [], M2) := by
              intro M2 L' hM2 l3 l4 h
              replace h := hQ1 _ h
              refine iq_aload_n hS 181 J_MScriptRows_set_d180 l3 rfl ?_
              refine iq_getR hS 184 J_MScriptRows_set_d181 lf_15_41 (Or.inr ⟨_, rfl⟩) (ka_71 hM2) (ra_71_27 hM2) rfl ?_
              refine iq_iconst hS 185 J_MScriptRows_set_d184 (v := 0) (by decide +kernel) rfl ?_
              refine iq_iload_n hS 186 J_MScriptRows_set_d185 l4 rfl ?_
              refine iq_bipush hS 188 J_MScriptRows_set_d186 (v := 68) (by decide +kernel) rfl ?_
              obtain ⟨Q5, hQ5, h⟩ := bd1_ed h
              have J5 : ∀ (y7 : Int32) (L' : List (Nat × Value)), Q5 y7 → ia (tb_G L xs) (dep + 1) J_MScriptRows_set (rwV w Q) (204, L', [.int y7, .int 0, .ref 81], M2) := by
                intro y7 L'  h
                replace h := hQ5 _ h
                obtain ⟨g204, h⟩ := ed_gd h
                refine iq_iastore hS 205 J_MScriptRows_set_d204 ⟨(ka_81 hM2).1, (ka_81 hM2).2, g204.1, ix_lt (kl_81 hM2) g204.2⟩ rfl ?_
                exact iq_ret J_MScriptRows_set_d205 rfl ⟨rfl, (lw_sI hM2), ed_some h⟩
              refine iq_icmp_ne hS 191 J_MScriptRows_set_d188 (t := 200) rfl (fun q188 => ?_) rfl (fun q188 => ?_)
              · replace h := ed_pos q188 h
                refine iq_iload_n hS 201 J_MScriptRows_set_d200 l4 rfl ?_
                obtain ⟨Q6, hQ6, h⟩ := bd1_ed h
                refine iq_cpI hS 204 J_MScriptRows_set_d201 rfl (pr_stat (vs := [_]) lc_15_246 lT_318 rfl rfl (by decide) rfl (Nat.le_of_ble_eq_true rfl) (Nat.le_of_ble_eq_true rfl)) (f_MScriptRows_kindOf_ok (dep := dep + 0) hM2 h) rfl ?_
                intro x6 h
                replace h := hQ6 _ h
                exact J5 _ _  (ed_some h)
              · replace h := ed_neg q188 h
                refine iq_aload_n hS 192 J_MScriptRows_set_d191 l3 rfl ?_
                refine iq_getR hS 195 J_MScriptRows_set_d192 lf_15_41 (Or.inr ⟨_, rfl⟩) (ka_71 hM2) (ra_71_27 hM2) rfl ?_
                refine iq_iconst hS 196 J_MScriptRows_set_d195 (v := 0) (by decide +kernel) rfl ?_
                obtain ⟨g196, h⟩ := ed_gd h
                refine iq_iaload hS 197 J_MScriptRows_set_d196 ⟨(ka_81 hM2).1, (ka_81 hM2).2, g196.1, ix_lt (kl_81 hM2) g196.2⟩ rfl ?_
                refine iq_goto hS J_MScriptRows_set_d197 (t := 204) rfl ?_
                exact J5 _ _  (ed_some h)
            obtain ⟨r1, hr1, hq1⟩ := h
            obtain ⟨n1, hn1⟩ := lp_n hr1
            have I1 : ∀ (n : Nat) (x8 : Int32) (M9 : im_M) (L' : List (Nat × Value)), lw_S w M9 → im_lk L' 0 = some (.ref 71) → im_lk L' 1 = some (.int p0) → im_lk L' 2 = some (.int x8) → lpn (uc2 (f_MScriptRows_set_L131 p0)) n (x8, M9) = some r1 → ia (tb_G L xs) (dep + 1) J_MScriptRows_set (rwV w Q) (131, L', [], M9) := by
              intro n
              induction n with
              | zero => intro x8 M9 L' hM9 l10 l11 l12 hn; exact (lpn_0 hn).elim
              | succ n ih =>
                intro x8 M9 L' hM9 l10 l11 l12 hn
                have h := lpn_ed2 hn
                unfold f_MScriptRows_set_L131 at h
                refine iq_iload_n hS 132 J_MScriptRows_set_d131 l12 rfl ?_
                refine iq_iload_n hS 133 J_MScriptRows_set_d132 l11 rfl ?_
                obtain ⟨Q13, hQ13, h⟩ := bd1_ed h
                refine iq_cpI hS 136 J_MScriptRows_set_d133 rfl (pr_stat (vs := [_]) lc_15_88 lT_285 rfl rfl (by decide) rfl (Nat.le_of_ble_eq_true rfl) (Nat.le_of_ble_eq_true rfl)) (f_MScriptRows_numbers_ok (dep := dep + 0) hM9 h) rfl ?_
                intro x13 h
                replace h := hQ13 _ h
                refine iq_icmp_ge hS 139 J_MScriptRows_set_d136 (t := 180) rfl (fun q136 => ?_) rfl (fun q136 => ?_)
                · replace h := ed_pos q136 h
                  exact K1 _ _ hM9 l10 l11 (lq_r h hq1)
                · replace h := ed_neg q136 h
                  refine iq_iload_n hS 140 J_MScriptRows_set_d139 l11 rfl ?_
                  refine iq_bipush hS 142 J_MScriptRows_set_d140 (v := 68) (by decide +kernel) rfl ?_
                  obtain ⟨Q14, hQ14, h⟩ := bd1_ed h
                  have J14 : ∀ (M15 : im_M) (L' : List (Nat × Value)), lw_S w M15 → im_lk L' 0 = some (.ref 71) → im_lk L' 1 = some (.int p0) → im_lk L' 2 = some (.int x8) → Q14 M15 → ia (tb_G L xs) (dep + 1) J_MScriptRows_set (rwV w Q) (174, L', [], M15) := by
                    intro M15 L' hM15 l16 l17 l18 h
                    replace h := hQ14 _ h
                    refine iq_iincv hS 177 J_MScriptRows_set_d174 (c := 1) (by decide +kernel) l18 (by decide) rfl ?_
                    refine iq_goto hS J_MScriptRows_set_d177 (t := 131) rfl ?_
                    exact ih _ _ _ hM15 (lk_1r l16 (by decide)) (lk_1i l17 (by decide)) lk_1s (lq_l h)
                  refine iq_icmp_ne hS 145 J_MScriptRows_set_d142 (t := 160) rfl (fun q142 => ?_) rfl (fun q142 => ?_)
                  · replace h := ed_pos q142 h
                    refine iq_aload_n hS 161 J_MScriptRows_set_d160 l10 rfl ?_
                    refine iq_getR hS 164 J_MScriptRows_set_d161 lf_15_41 (Or.inr ⟨_, rfl⟩) (ka_71 hM9) (ra_71_27 hM9) rfl ?_
                    refine iq_iconst hS 165 J_MScriptRows_set_d164 (v := 1) (by decide +kernel) rfl ?_
                    refine iq_iload_n hS 166 J_MScriptRows_set_d165 l12 rfl ?_
                    refine iq_iadd hS 167 J_MScriptRows_set_d166 rfl ?_
                    refine iq_aload_n hS 168 J_MScriptRows_set_d167 l10 rfl ?_
                    refine iq_getR hS 171 J_MScriptRows_set_d168 lf_15_32 (Or.inr ⟨_, rfl⟩) (ka_71 hM9) (ra_71_15 hM9) rfl ?_
                    refine iq_iload_n hS 172 J_MScriptRows_set_d171 l12 rfl ?_
                    obtain ⟨g172, h⟩ := ed_gd h
                    refine iq_iaload hS 173 J_MScriptRows_set_d172 ⟨(ka_78 hM9).1, (ka_78 hM9).2, g172.1, ix_lt (kl_78 hM9) g172.2⟩ rfl ?_
                    obtain ⟨g173, h⟩ := ed_gd h
                    refine iq_iastore hS 174 J_MScriptRows_set_d173 ⟨(ka_81 hM9).1, (ka_81 hM9).2, g173.1, ix_lt (kl_81 hM9) g173.2⟩ rfl ?_
                    exact J14 _ _ (lw_sI hM9) l10 l11 l12 (ed_some h)
                  · replace h := ed_neg q142 h
                    refine iq_aload_n hS 146 J_MScriptRows_set_d145 l10 rfl ?_
                    refine iq_getR hS 149 J_MScriptRows_set_d146 lf_15_38 (Or.inr ⟨_, rfl⟩) (ka_71 hM9) (ra_71_24 hM9) rfl ?_
                    refine iq_iload_n hS 150 J_MScriptRows_set_d149 l12 rfl ?_
                    refine iq_aload_n hS 151 J_MScriptRows_set_d150 l10 rfl ?_
                    refine iq_getR hS 154 J_MScriptRows_set_d151 lf_15_32 (Or.inr ⟨_, rfl⟩) (ka_71 hM9) (ra_71_15 hM9) rfl ?_
                    refine iq_iload_n hS 155 J_MScriptRows_set_d154 l12 rfl ?_
                    obtain ⟨g155, h⟩ := ed_gd h
                    refine iq_iaload hS 156 J_MScriptRows_set_d155 ⟨(ka_78 hM9).1, (ka_78 hM9).2, g155.1, ix_lt (kl_78 hM9) g155.2⟩ rfl ?_
                    obtain ⟨g156, h⟩ := ed_gd h
                    refine iq_iastore hS 157 J_MScriptRows_set_d156 ⟨(ka_80 hM9).1, (ka_80 hM9).2, g156.1, ix_lt (kl_80 hM9) g156.2⟩ rfl ?_
                    refine iq_goto hS J_MScriptRows_set_d157 (t := 174) rfl ?_
                    exact J14 _ _ (lw_sI hM9) l10 l11 l12 (ed_some h)
            exact I1 n1 _ _ _ hM (lk_1r l0 (by decide)) (lk_1i l1 (by decide)) lk_1s hn1
          · replace h := ed_neg q102 h
            refine iq_aload_n hS 106 J_MScriptRows_set_d105 l0 rfl ?_
            refine iq_getR hS 109 J_MScriptRows_set_d106 lf_15_41 (Or.inr ⟨_, rfl⟩) (ka_71 hM) (ra_71_27 hM) rfl ?_
            refine iq_bipush hS 111 J_MScriptRows_set_d109 (v := 8) (by decide +kernel) rfl ?_
            refine iq_iconst hS 112 J_MScriptRows_set_d111 (v := 1) (by decide +kernel) rfl ?_
            obtain ⟨g112, h⟩ := ed_gd h
            refine iq_iastore hS 113 J_MScriptRows_set_d112 ⟨(ka_81 hM).1, (ka_81 hM).2, g112.1, ix_lt (kl_81 hM) g112.2⟩ rfl ?_
            refine iq_aload_n hS 114 J_MScriptRows_set_d113 l0 rfl ?_
            refine iq_getR hS 117 J_MScriptRows_set_d114 lf_15_41 (Or.inr ⟨_, rfl⟩) (ka_71 (lw_sI hM)) (ra_71_27 (lw_sI hM)) rfl ?_
            refine iq_bipush hS 119 J_MScriptRows_set_d117 (v := 9) (by decide +kernel) rfl ?_
            refine iq_aload_n hS 120 J_MScriptRows_set_d119 l0 rfl ?_
            refine iq_getR hS 123 J_MScriptRows_set_d120 lf_15_32 (Or.inr ⟨_, rfl⟩) (ka_71 (lw_sI hM)) (ra_71_15 (lw_sI hM)) rfl ?_
            refine iq_iconst hS 124 J_MScriptRows_set_d123 (v := 0) (by decide +kernel) rfl ?_
            obtain ⟨g124, h⟩ := ed_gd h
            refine iq_iaload hS 125 J_MScriptRows_set_d124 ⟨(ka_78 (lw_sI hM)).1, (ka_78 (lw_sI hM)).2, g124.1, ix_lt (kl_78 (lw_sI hM)) g124.2⟩ rfl ?_
            obtain ⟨g125, h⟩ := ed_gd h
            refine iq_iastore hS 126 J_MScriptRows_set_d125 ⟨(ka_81 (lw_sI hM)).1, (ka_81 (lw_sI hM)).2, g125.1, ix_lt (kl_81 (lw_sI hM)) g125.2⟩ rfl ?_
            refine iq_goto hS J_MScriptRows_set_d126 (t := 205) rfl ?_
            exact iq_ret J_MScriptRows_set_d205 rfl ⟨rfl, (lw_sI (lw_sI hM)), ed_some h⟩
        · replace h := ed_neg q85 h
          refine iq_aload_n hS 89 J_MScriptRows_set_d88 l0 rfl ?_
          refine iq_getR hS 92 J_MScriptRows_set_d89 lf_15_41 (Or.inr ⟨_, rfl⟩) (ka_71 hM) (ra_71_27 hM) rfl ?_
          refine iq_bipush hS 94 J_MScriptRows_set_d92 (v := 7) (by decide +kernel) rfl ?_
          refine iq_iconst hS 95 J_MScriptRows_set_d94 (v := 2) (by decide +kernel) rfl ?_
          obtain ⟨g95, h⟩ := ed_gd h
          refine iq_iastore hS 96 J_MScriptRows_set_d95 ⟨(ka_81 hM).1, (ka_81 hM).2, g95.1, ix_lt (kl_81 hM) g95.2⟩ rfl ?_
          refine iq_goto hS J_MScriptRows_set_d96 (t := 205) rfl ?_
          exact iq_ret J_MScriptRows_set_d205 rfl ⟨rfl, (lw_sI hM), ed_some h⟩
      · replace h := ed_neg q51 h
        refine iq_aload_n hS 55 J_MScriptRows_set_d54 l0 rfl ?_
        refine iq_getR hS 58 J_MScriptRows_set_d55 lf_15_41 (Or.inr ⟨_, rfl⟩) (ka_71 hM) (ra_71_27 hM) rfl ?_
        refine iq_iconst hS 59 J_MScriptRows_set_d58 (v := 5) (by decide +kernel) rfl ?_
        refine iq_aload_n hS 60 J_MScriptRows_set_d59 l0 rfl ?_
        refine iq_getR hS 63 J_MScriptRows_set_d60 lf_15_32 (Or.inr ⟨_, rfl⟩) (ka_71 hM) (ra_71_15 hM) rfl ?_
        refine iq_iconst hS 64 J_MScriptRows_set_d63 (v := 0) (by decide +kernel) rfl ?_
        obtain ⟨g64, h⟩ := ed_gd h
        refine iq_iaload hS 65 J_MScriptRows_set_d64 ⟨(ka_78 hM).1, (ka_78 hM).2, g64.1, ix_lt (kl_78 hM) g64.2⟩ rfl ?_
        obtain ⟨g65, h⟩ := ed_gd h
        refine iq_iastore hS 66 J_MScriptRows_set_d65 ⟨(ka_81 hM).1, (ka_81 hM).2, g65.1, ix_lt (kl_81 hM) g65.2⟩ rfl ?_
        refine iq_aload_n hS 67 J_MScriptRows_set_d66 l0 rfl ?_
        refine iq_getR hS 70 J_MScriptRows_set_d67 lf_15_41 (Or.inr ⟨_, rfl⟩) (ka_71 (lw_sI hM)) (ra_71_27 (lw_sI hM)) rfl ?_
        refine iq_bipush hS 72 J_MScriptRows_set_d70 (v := 6) (by decide +kernel) rfl ?_
        refine iq_aload_n hS 73 J_MScriptRows_set_d72 l0 rfl ?_
        refine iq_getR hS 76 J_MScriptRows_set_d73 lf_15_32 (Or.inr ⟨_, rfl⟩) (ka_71 (lw_sI hM)) (ra_71_15 (lw_sI hM)) rfl ?_
        refine iq_iconst hS 77 J_MScriptRows_set_d76 (v := 1) (by decide +kernel) rfl ?_
        obtain ⟨g77, h⟩ := ed_gd h
        refine iq_iaload hS 78 J_MScriptRows_set_d77 ⟨(ka_78 (lw_sI hM)).1, (ka_78 (lw_sI hM)).2, g77.1, ix_lt (kl_78 (lw_sI hM)) g77.2⟩ rfl ?_
        obtain ⟨g78, h⟩ := ed_gd h
        refine iq_iastore hS 79 J_MScriptRows_set_d78 ⟨(ka_81 (lw_sI hM)).1, (ka_81 (lw_sI hM)).2, g78.1, ix_lt (kl_81 (lw_sI hM)) g78.2⟩ rfl ?_
        refine iq_goto hS J_MScriptRows_set_d79 (t := 205) rfl ?_
        exact iq_ret J_MScriptRows_set_d205 rfl ⟨rfl, (lw_sI (lw_sI hM)), ed_some h⟩
    · replace h := ed_neg q32 h
      refine iq_aload_n hS 36 J_MScriptRows_set_d35 l0 rfl ?_
      refine iq_aload_n hS 37 J_MScriptRows_set_d36 l0 rfl ?_
      refine iq_getR hS 40 J_MScriptRows_set_d37 lf_15_32 (Or.inr ⟨_, rfl⟩) (ka_71 hM) (ra_71_15 hM) rfl ?_
      refine iq_iconst hS 41 J_MScriptRows_set_d40 (v := 0) (by decide +kernel) rfl ?_
      obtain ⟨g41, h⟩ := ed_gd h
      refine iq_iaload hS 42 J_MScriptRows_set_d41 ⟨(ka_78 hM).1, (ka_78 hM).2, g41.1, ix_lt (kl_78 hM) g41.2⟩ rfl ?_
      refine iq_putI hS 45 J_MScriptRows_set_d42 lf_15_207 (Or.inl rfl) rfl (ka_71 hM) rfl ?_
      refine iq_goto hS J_MScriptRows_set_d45 (t := 205) rfl ?_
      exact iq_ret J_MScriptRows_set_d205 rfl ⟨rfl, (lw_sI hM), ed_some h⟩
  · replace h := ed_neg q3 h
    refine iq_aload_n hS 7 J_MScriptRows_set_d6 l0 rfl ?_
    refine iq_aload_n hS 8 J_MScriptRows_set_d7 l0 rfl ?_
    refine iq_getR hS 11 J_MScriptRows_set_d8 lf_15_32 (Or.inr ⟨_, rfl⟩) (ka_71 hM) (ra_71_15 hM) rfl ?_
    refine iq_iconst hS 12 J_MScriptRows_set_d11 (v := 0) (by decide +kernel) rfl ?_
    obtain ⟨g12, h⟩ := ed_gd h
    refine iq_iaload hS 13 J_MScriptRows_set_d12 ⟨(ka_78 hM).1, (ka_78 hM).2, g12.1, ix_lt (kl_78 hM) g12.2⟩ rfl ?_
    refine iq_putI hS 16 J_MScriptRows_set_d13 lf_15_107 (Or.inl rfl) rfl (ka_71 hM) rfl ?_
    refine iq_aload_n hS 17 J_MScriptRows_set_d16 l0 rfl ?_
    refine iq_aload_n hS 18 J_MScriptRows_set_d17 l0 rfl ?_
    refine iq_getR hS 21 J_MScriptRows_set_d18 lf_15_32 (Or.inr ⟨_, rfl⟩) (ka_71 (lw_sI hM)) (ra_71_15 (lw_sI hM)) rfl ?_
    refine iq_iconst hS 22 J_MScriptRows_set_d21 (v := 1) (by decide +kernel) rfl ?_
    obtain ⟨g22, h⟩ := ed_gd h
    refine iq_iaload hS 23 J_MScriptRows_set_d22 ⟨(ka_78 (lw_sI hM)).1, (ka_78 (lw_sI hM)).2, g22.1, ix_lt (kl_78 (lw_sI hM)) g22.2⟩ rfl ?_
    refine iq_putI hS 26 J_MScriptRows_set_d23 lf_15_110 (Or.inl rfl) rfl (ka_71 (lw_sI hM)) rfl ?_
    refine iq_goto hS J_MScriptRows_set_d26 (t := 205) rfl ?_
    exact iq_ret J_MScriptRows_set_d205 rfl ⟨rfl, (lw_sI (lw_sI hM)), ed_some h⟩
theorem f_MScriptRows_set_fr {p0 : Int32} {M : im_M} {r : im_M} (h : f_MScriptRows_set p0 M = some r) : fr 3626777458843887524118528 [(71, 21), (71, 22), (71, 23)] M r := by
  replace h : ed (f_MScriptRows_set p0 M) (fun x => x = r) := ⟨r, h, rfl⟩
  unfold f_MScriptRows_set at h
  by_cases q3 : ¬ p0 = 72
  · replace h := ed_pos q3 h
    by_cases q32 : ¬ p0 = 67
    · replace h := ed_pos q32 h
      by_cases q51 : ¬ p0 = 79
      · replace h := ed_pos q51 h
        by_cases q85 : ¬ p0 = 82
        · replace h := ed_pos q85 h
          by_cases q102 : ¬ p0 = 35
          · replace h := ed_pos q102 h
            obtain ⟨Q1, hQ1, h⟩ := bd1_ed h
            have K1 : ∀ (M2 : im_M), fr 3626777458843887524118528 [(71, 21), (71, 22), (71, 23)] M M2 → Q1 M2 → fr 3626777458843887524118528 [(71, 21), (71, 22), (71, 23)] M r := by
              intro M2 hM2 h
              replace h := hQ1 _ h
              obtain ⟨Q3, hQ3, h⟩ := bd1_ed h
              have J3 : ∀ (y5 : Int32), Q3 y5 → fr 3626777458843887524118528 [(71, 21), (71, 22), (71, 23)] M r := by
                intro y5 h
                replace h := hQ3 _ h
                obtain ⟨g204, h⟩ := ed_gd h
                exact fr_retV h (fr_I (by decide) hM2)
              by_cases q188 : ¬ p0 = 68
              · replace h := ed_pos q188 h
                obtain ⟨Q4, hQ4, h⟩ := bd1_ed h
                obtain ⟨x4, e4, h⟩ := h
                replace h := hQ4 _ h
                exact J3 _ (ed_some h)
              · replace h := ed_neg q188 h
                obtain ⟨g196, h⟩ := ed_gd h
                exact J3 _ (ed_some h)
            obtain ⟨r1, hr1, hq1⟩ := h
            obtain ⟨n1, hn1⟩ := lp_n hr1
            have I1 : ∀ (n : Nat) (x6 : Int32) (M7 : im_M), fr 3626777458843887524118528 [(71, 21), (71, 22), (71, 23)] M M7 → lpn (uc2 (f_MScriptRows_set_L131 p0)) n (x6, M7) = some r1 → fr 3626777458843887524118528 [(71, 21), (71, 22), (71, 23)] M r := by
              intro n
              induction n with
              | zero => intro x6 M7 hM7 hn; exact (lpn_0 hn).elim
              | succ n ih =>
                intro x6 M7 hM7 hn
                have h := lpn_ed2 hn
                unfold f_MScriptRows_set_L131 at h
                obtain ⟨Q8, hQ8, h⟩ := bd1_ed h
                obtain ⟨x8, e8, h⟩ := h
                replace h := hQ8 _ h
                by_cases q136 : x8 ≤ x6
                · replace h := ed_pos q136 h
                  exact K1 _ hM7 (lq_r h hq1)
                · replace h := ed_neg q136 h
                  obtain ⟨Q9, hQ9, h⟩ := bd1_ed h
                  have J9 : ∀ (M10 : im_M), fr 3626777458843887524118528 [(71, 21), (71, 22), (71, 23)] M M10 → Q9 M10 → fr 3626777458843887524118528 [(71, 21), (71, 22), (71, 23)] M r := by
                    intro M10 hM10 h
                    replace h := hQ9 _ h
                    exact ih _ _ hM10 (lq_l h)
                  by_cases q142 : ¬ p0 = 68
                  · replace h := ed_pos q142 h
                    obtain ⟨g172, h⟩ := ed_gd h
                    obtain ⟨g173, h⟩ := ed_gd h
                    exact J9 _ (fr_I (by decide) hM7) (ed_some h)
                  · replace h := ed_neg q142 h
                    obtain ⟨g155, h⟩ := ed_gd h
                    obtain ⟨g156, h⟩ := ed_gd h
                    exact J9 _ (fr_I (by decide) hM7) (ed_some h)
            exact I1 n1 _ _ fr_refl hn1
          · replace h := ed_neg q102 h
            obtain ⟨g112, h⟩ := ed_gd h
            obtain ⟨g124, h⟩ := ed_gd h
            obtain ⟨g125, h⟩ := ed_gd h
            exact fr_retV h (fr_I (by decide) (fr_I (by decide) fr_refl))
        · replace h := ed_neg q85 h
          obtain ⟨g95, h⟩ := ed_gd h
          exact fr_retV h (fr_I (by decide) fr_refl)
      · replace h := ed_neg q51 h
        obtain ⟨g64, h⟩ := ed_gd h
        obtain ⟨g65, h⟩ := ed_gd h
        obtain ⟨g77, h⟩ := ed_gd h
        obtain ⟨g78, h⟩ := ed_gd h
        exact fr_retV h (fr_I (by decide) (fr_I (by decide) fr_refl))
    · replace h := ed_neg q32 h
      obtain ⟨g41, h⟩ := ed_gd h
      exact fr_retV h (fr_F (by decide) fr_refl)
  · replace h := ed_neg q3 h
    obtain ⟨g12, h⟩ := ed_gd h
    obtain ⟨g22, h⟩ := ed_gd h
    exact fr_retV h (fr_F (by decide) (fr_F (by decide) fr_refl))
noncomputable def f_MScriptRows_obey (p0 : Int32) (M : im_M) : Option (im_M) := if p0 = 59 then bd1 (f_MScriptRows_newField (im_setI (im_setI M 71 25 ((im_i M 71 25) + 1)) 71 26 ((im_i (im_setI M 71 25 ((im_i M 71 25) + 1)) 71 26) + (im_i (im_setI M 71 25 ((im_i M 71 25) + 1)) 71 34)))) fun (M1 : im_M) => some M1 else if p0 = 69 then bd1 (f_MScriptRows_endLabel M) fun (M2 : im_M) => some M2 else if p0 = 75 ∨ p0 = 86 ∨ p0 = 88 then bd1 (f_MScriptRows_storeData p0 M) fun (M3 : im_M) => some M3 else if p0 = 76 then bd1 (f_MScriptRows_beginLabel M) fun (M4 : im_M) => some M4 else if p0 = 83 then bd1 (f_MScriptRows_storeForm M) fun (M5 : im_M) => some M5 else if p0 = 85 then bd1 (f_MScriptRows_layForm M) fun (M6 : im_M) => some M6 else bd1 (f_MScriptRows_set p0 M) fun (M7 : im_M) => some M7
theorem J_MScriptRows_obey_d0 : decode J_MScriptRows_obey.2.1 0 = .ok (.iload_n 1, 1) := by decide +kernel
theorem J_MScriptRows_obey_d1 : decode J_MScriptRows_obey.2.1 1 = .ok (.tableswitch 201 59 88 #[171, 201, 201, 201, 201, 201, 201, 201, 201, 201, 157, 201, 201, 201, 201, 201, 142, 150, 201, 201, 201, 201, 201, 201, 135, 201, 164, 142, 201, 142], 135) := by decide +kernel
theorem J_MScriptRows_obey_d136 : decode J_MScriptRows_obey.2.1 136 = .ok (.aload_n 0, 1) := by decide +kernel
theorem J_MScriptRows_obey_d137 : decode J_MScriptRows_obey.2.1 137 = .ok (.invokevirtual 228, 3) := by decide +kernel
theorem J_MScriptRows_obey_d140 : decode J_MScriptRows_obey.2.1 140 = .ok (.goto 67, 3) := by decide +kernel
theorem J_MScriptRows_obey_d143 : decode J_MScriptRows_obey.2.1 143 = .ok (.aload_n 0, 1) := by decide +kernel
theorem J_MScriptRows_obey_d144 : decode J_MScriptRows_obey.2.1 144 = .ok (.iload_n 1, 1) := by decide +kernel
theorem J_MScriptRows_obey_d145 : decode J_MScriptRows_obey.2.1 145 = .ok (.invokevirtual 231, 3) := by decide +kernel
theorem J_MScriptRows_obey_d148 : decode J_MScriptRows_obey.2.1 148 = .ok (.goto 59, 3) := by decide +kernel
theorem J_MScriptRows_obey_d151 : decode J_MScriptRows_obey.2.1 151 = .ok (.aload_n 0, 1) := by decide +kernel
theorem J_MScriptRows_obey_d152 : decode J_MScriptRows_obey.2.1 152 = .ok (.invokevirtual 234, 3) := by decide +kernel
theorem J_MScriptRows_obey_d155 : decode J_MScriptRows_obey.2.1 155 = .ok (.goto 52, 3) := by decide +kernel
theorem J_MScriptRows_obey_d158 : decode J_MScriptRows_obey.2.1 158 = .ok (.aload_n 0, 1) := by decide +kernel
theorem J_MScriptRows_obey_d159 : decode J_MScriptRows_obey.2.1 159 = .ok (.invokevirtual 237, 3) := by decide +kernel
theorem J_MScriptRows_obey_d162 : decode J_MScriptRows_obey.2.1 162 = .ok (.goto 45, 3) := by decide +kernel
theorem J_MScriptRows_obey_d165 : decode J_MScriptRows_obey.2.1 165 = .ok (.aload_n 0, 1) := by decide +kernel
theorem J_MScriptRows_obey_d166 : decode J_MScriptRows_obey.2.1 166 = .ok (.invokevirtual 240, 3) := by decide +kernel
theorem J_MScriptRows_obey_d169 : decode J_MScriptRows_obey.2.1 169 = .ok (.goto 38, 3) := by decide +kernel
theorem J_MScriptRows_obey_d172 : decode J_MScriptRows_obey.2.1 172 = .ok (.aload_n 0, 1) := by decide +kernel
theorem J_MScriptRows_obey_d173 : decode J_MScriptRows_obey.2.1 173 = .ok (.dup, 1) := by decide +kernel
theorem J_MScriptRows_obey_d174 : decode J_MScriptRows_obey.2.1 174 = .ok (.getfield 113, 3) := by decide +kernel
theorem J_MScriptRows_obey_d177 : decode J_MScriptRows_obey.2.1 177 = .ok (.iconst 1, 1) := by decide +kernel
theorem J_MScriptRows_obey_d178 : decode J_MScriptRows_obey.2.1 178 = .ok (.iadd, 1) := by decide +kernel
theorem J_MScriptRows_obey_d179 : decode J_MScriptRows_obey.2.1 179 = .ok (.putfield 113, 3) := by decide +kernel
theorem J_MScriptRows_obey_d182 : decode J_MScriptRows_obey.2.1 182 = .ok (.aload_n 0, 1) := by decide +kernel
theorem J_MScriptRows_obey_d183 : decode J_MScriptRows_obey.2.1 183 = .ok (.aload_n 0, 1) := by decide +kernel
theorem J_MScriptRows_obey_d184 : decode J_MScriptRows_obey.2.1 184 = .ok (.getfield 123, 3) := by decide +kernel
theorem J_MScriptRows_obey_d187 : decode J_MScriptRows_obey.2.1 187 = .ok (.aload_n 0, 1) := by decide +kernel
theorem J_MScriptRows_obey_d188 : decode J_MScriptRows_obey.2.1 188 = .ok (.getfield 126, 3) := by decide +kernel
theorem J_MScriptRows_obey_d191 : decode J_MScriptRows_obey.2.1 191 = .ok (.iadd, 1) := by decide +kernel
theorem J_MScriptRows_obey_d192 : decode J_MScriptRows_obey.2.1 192 = .ok (.putfield 123, 3) := by decide +kernel
theorem J_MScriptRows_obey_d195 : decode J_MScriptRows_obey.2.1 195 = .ok (.aload_n 0, 1) := by decide +kernel
theorem J_MScriptRows_obey_d196 : decode J_MScriptRows_obey.2.1 196 = .ok (.invokevirtual 225, 3) := by decide +kernel
theorem J_MScriptRows_obey_d199 : decode J_MScriptRows_obey.2.1 199 = .ok (.goto 8, 3) := by decide +kernel
theorem J_MScriptRows_obey_d202 : decode J_MScriptRows_obey.2.1 202 = .ok (.aload_n 0, 1) := by decide +kernel
theorem J_MScriptRows_obey_d203 : decode J_MScriptRows_obey.2.1 203 = .ok (.iload_n 1, 1) := by decide +kernel
theorem J_MScriptRows_obey_d204 : decode J_MScriptRows_obey.2.1 204 = .ok (.invokevirtual 243, 3) := by decide +kernel
theorem J_MScriptRows_obey_d207 : decode J_MScriptRows_obey.2.1 207 = .ok (.return_, 1) := by decide +kernel
theorem f_MScriptRows_obey_ok {L : Nat} {xs : Nat → Int32} {dep : Nat} {w : Bool} {p0 : Int32} {M : im_M} {Q : im_M → Prop} (hM : lw_S w M) (h : ed (f_MScriptRows_obey p0 M) Q) : ia (tb_G L xs) (dep + 7) J_MScriptRows_obey (rwV w Q) (0, lv_args 0 [.ref 71, .int p0], [], M) := by
  have hS : im_St (tb_G L xs) (dep + 7) J_MScriptRows_obey (ia (tb_G L xs) (dep + 7) J_MScriptRows_obey (rwV w Q)) := ia_St
  unfold f_MScriptRows_obey at h
  have l0 : im_lk (lv_args 0 [.ref 71, .int p0]) 0 = some (.ref 71) := rfl
  have l1 : im_lk (lv_args 0 [.ref 71, .int p0]) 1 = some (.int p0) := rfl
  refine iq_iload_n hS 1 J_MScriptRows_obey_d0 l1 rfl ?_
  by_cases q1_59 : p0 = 59
  · replace h := ed_pos q1_59 h
    refine iq_tsw hS J_MScriptRows_obey_d1 (t := 172) (sw_v q1_59 (by decide +kernel)) ?_
    refine iq_aload_n hS 173 J_MScriptRows_obey_d172 l0 rfl ?_
    refine iq_dup hS 174 J_MScriptRows_obey_d173 rfl rfl ?_
    refine iq_getI hS 177 J_MScriptRows_obey_d174 lf_15_113 (Or.inl rfl) (ka_71 hM) rfl ?_
    refine iq_iconst hS 178 J_MScriptRows_obey_d177 (v := 1) (by decide +kernel) rfl ?_
    refine iq_iadd hS 179 J_MScriptRows_obey_d178 rfl ?_
    refine iq_putI hS 182 J_MScriptRows_obey_d179 lf_15_113 (Or.inl rfl) rfl (ka_71 hM) rfl ?_
    refine iq_aload_n hS 183 J_MScriptRows_obey_d182 l0 rfl ?_
    refine iq_aload_n hS 184 J_MScriptRows_obey_d183 l0 rfl ?_
    refine iq_getI hS 187 J_MScriptRows_obey_d184 lf_15_123 (Or.inl rfl) (ka_71 (lw_sI hM)) rfl ?_
    refine iq_aload_n hS 188 J_MScriptRows_obey_d187 l0 rfl ?_
    refine iq_getI hS 191 J_MScriptRows_obey_d188 lf_15_126 (Or.inl rfl) (ka_71 (lw_sI hM)) rfl ?_
    refine iq_iadd hS 192 J_MScriptRows_obey_d191 rfl ?_
    refine iq_putI hS 195 J_MScriptRows_obey_d192 lf_15_123 (Or.inl rfl) rfl (ka_71 (lw_sI hM)) rfl ?_
    refine iq_aload_n hS 196 J_MScriptRows_obey_d195 l0 rfl ?_
    obtain ⟨Q1, hQ1, h⟩ := bd1_ed h
    refine iq_cwV hS 199 J_MScriptRows_obey_d196 rfl (pr_inst (vs := []) lc_15_225 lT_314 rfl rfl (by decide) (by decide) rfl (Nat.le_of_ble_eq_true rfl) (Nat.le_of_ble_eq_true rfl) (fun _ => Or.inl (pr_b (ka_71 (lw_sI (lw_sI hM))) (by decide) rfl))) (f_MScriptRows_newField_ok (dep := dep + 6) (lw_sI (lw_sI hM)) h) rfl ?_
    intro M1 hM1 h
    replace h := hQ1 _ h
    refine iq_goto hS J_MScriptRows_obey_d199 (t := 207) rfl ?_
    exact iq_ret J_MScriptRows_obey_d207 rfl ⟨rfl, hM1, ed_some h⟩
  replace h := ed_neg q1_59 h
  by_cases q1_69 : p0 = 69
  · replace h := ed_pos q1_69 h
    refine iq_tsw hS J_MScriptRows_obey_d1 (t := 158) (sw_v q1_69 (by decide +kernel)) ?_
    refine iq_aload_n hS 159 J_MScriptRows_obey_d158 l0 rfl ?_
    obtain ⟨Q2, hQ2, h⟩ := bd1_ed h
    refine iq_cwV hS 162 J_MScriptRows_obey_d159 rfl (pr_inst (vs := []) lc_15_237 lT_315 rfl rfl (by decide) (by decide) rfl (Nat.le_of_ble_eq_true rfl) (Nat.le_of_ble_eq_true rfl) (fun _ => Or.inl (pr_b (ka_71 hM) (by decide) rfl))) (f_MScriptRows_endLabel_ok (dep := dep + 0) hM h) rfl ?_
    intro M2 hM2 h
    replace h := hQ2 _ h
    refine iq_goto hS J_MScriptRows_obey_d162 (t := 207) rfl ?_
    exact iq_ret J_MScriptRows_obey_d207 rfl ⟨rfl, hM2, ed_some h⟩
  replace h := ed_neg q1_69 h
  by_cases q1_75 : p0 = 75 ∨ p0 = 86 ∨ p0 = 88
  · replace h := ed_pos q1_75 h
    refine iq_tsw hS J_MScriptRows_obey_d1 (t := 143) (by rcases q1_75 with z | z | z <;> exact sw_v z (by decide +kernel)) ?_
    refine iq_aload_n hS 144 J_MScriptRows_obey_d143 l0 rfl ?_
    refine iq_iload_n hS 145 J_MScriptRows_obey_d144 l1 rfl ?_
    obtain ⟨Q3, hQ3, h⟩ := bd1_ed h
    refine iq_cwV hS 148 J_MScriptRows_obey_d145 rfl (pr_inst (vs := [_]) lc_15_231 lT_312 rfl rfl (by decide) (by decide) rfl (Nat.le_of_ble_eq_true rfl) (Nat.le_of_ble_eq_true rfl) (fun _ => Or.inl (pr_b (ka_71 hM) (by decide) rfl))) (f_MScriptRows_storeData_ok (dep := dep + 6) hM h) rfl ?_
    intro M3 hM3 h
    replace h := hQ3 _ h
    refine iq_goto hS J_MScriptRows_obey_d148 (t := 207) rfl ?_
    exact iq_ret J_MScriptRows_obey_d207 rfl ⟨rfl, hM3, ed_some h⟩
  replace h := ed_neg q1_75 h
  by_cases q1_76 : p0 = 76
  · replace h := ed_pos q1_76 h
    refine iq_tsw hS J_MScriptRows_obey_d1 (t := 151) (sw_v q1_76 (by decide +kernel)) ?_
    refine iq_aload_n hS 152 J_MScriptRows_obey_d151 l0 rfl ?_
    obtain ⟨Q4, hQ4, h⟩ := bd1_ed h
    refine iq_cwV hS 155 J_MScriptRows_obey_d152 rfl (pr_inst (vs := []) lc_15_234 lT_313 rfl rfl (by decide) (by decide) rfl (Nat.le_of_ble_eq_true rfl) (Nat.le_of_ble_eq_true rfl) (fun _ => Or.inl (pr_b (ka_71 hM) (by decide) rfl))) (f_MScriptRows_beginLabel_ok (dep := dep + 5) hM h) rfl ?_
    intro M4 hM4 h
    replace h := hQ4 _ h
    refine iq_goto hS J_MScriptRows_obey_d155 (t := 207) rfl ?_
    exact iq_ret J_MScriptRows_obey_d207 rfl ⟨rfl, hM4, ed_some h⟩
  replace h := ed_neg q1_76 h
  by_cases q1_83 : p0 = 83
  · replace h := ed_pos q1_83 h
    refine iq_tsw hS J_MScriptRows_obey_d1 (t := 136) (sw_v q1_83 (by decide +kernel)) ?_
    refine iq_aload_n hS 137 J_MScriptRows_obey_d136 l0 rfl ?_
    obtain ⟨Q5, hQ5, h⟩ := bd1_ed h
    refine iq_cwV hS 140 J_MScriptRows_obey_d137 rfl (pr_inst (vs := []) lc_15_228 lT_311 rfl rfl (by decide) (by decide) rfl (Nat.le_of_ble_eq_true rfl) (Nat.le_of_ble_eq_true rfl) (fun _ => Or.inl (pr_b (ka_71 hM) (by decide) rfl))) (f_MScriptRows_storeForm_ok (dep := dep + 4) hM h) rfl ?_
    intro M5 hM5 h
    replace h := hQ5 _ h
    refine iq_goto hS J_MScriptRows_obey_d140 (t := 207) rfl ?_
    exact iq_ret J_MScriptRows_obey_d207 rfl ⟨rfl, hM5, ed_some h⟩
  replace h := ed_neg q1_83 h
  by_cases q1_85 : p0 = 85
  · replace h := ed_pos q1_85 h
    refine iq_tsw hS J_MScriptRows_obey_d1 (t := 165) (sw_v q1_85 (by decide +kernel)) ?_
    refine iq_aload_n hS 166 J_MScriptRows_obey_d165 l0 rfl ?_
    obtain ⟨Q6, hQ6, h⟩ := bd1_ed h
    refine iq_cwV hS 169 J_MScriptRows_obey_d166 rfl (pr_inst (vs := []) lc_15_240 lT_316 rfl rfl (by decide) (by decide) rfl (Nat.le_of_ble_eq_true rfl) (Nat.le_of_ble_eq_true rfl) (fun _ => Or.inl (pr_b (ka_71 hM) (by decide) rfl))) (f_MScriptRows_layForm_ok (dep := dep + 6) hM h) rfl ?_
    intro M6 hM6 h
    replace h := hQ6 _ h
    refine iq_goto hS J_MScriptRows_obey_d169 (t := 207) rfl ?_
    exact iq_ret J_MScriptRows_obey_d207 rfl ⟨rfl, hM6, ed_some h⟩
  replace h := ed_neg q1_85 h
  refine iq_tsw hS J_MScriptRows_obey_d1 (t := 202) (sw_d [59, 69, 75, 86, 88, 76, 83, 85] (by decide) (by decide) (by decide +kernel) (sw_nc q1_59 (sw_nc q1_69 (sw_nc (fun z => q1_75 (Or.inl z)) (sw_nc (fun z => q1_75 (Or.inr (Or.inl z))) (sw_nc (fun z => q1_75 (Or.inr (Or.inr z))) (sw_nc q1_76 (sw_nc q1_83 (sw_nc q1_85 sw_nn))))))))) ?_
  refine iq_aload_n hS 203 J_MScriptRows_obey_d202 l0 rfl ?_
  refine iq_iload_n hS 204 J_MScriptRows_obey_d203 l1 rfl ?_
  obtain ⟨Q7, hQ7, h⟩ := bd1_ed h
  refine iq_cwV hS 207 J_MScriptRows_obey_d204 rfl (pr_inst (vs := [_]) lc_15_243 lT_317 rfl rfl (by decide) (by decide) rfl (Nat.le_of_ble_eq_true rfl) (Nat.le_of_ble_eq_true rfl) (fun _ => Or.inl (pr_b (ka_71 hM) (by decide) rfl))) (f_MScriptRows_set_ok (dep := dep + 5) hM h) rfl ?_
  intro M7 hM7 h
  replace h := hQ7 _ h
  exact iq_ret J_MScriptRows_obey_d207 rfl ⟨rfl, hM7, ed_some h⟩
theorem f_MScriptRows_obey_fr {p0 : Int32} {M : im_M} {r : im_M} (h : f_MScriptRows_obey p0 M = some r) : fr 593875364152720842783981568 [(71, 8), (71, 9), (71, 10), (71, 18), (71, 19), (71, 20), (71, 21), (71, 22), (71, 23), (71, 25), (71, 26), (71, 32), (71, 33), (71, 35), (71, 37)] M r := by
  replace h : ed (f_MScriptRows_obey p0 M) (fun x => x = r) := ⟨r, h, rfl⟩
  unfold f_MScriptRows_obey at h
  by_cases q1_59 : p0 = 59
  · replace h := ed_pos q1_59 h
    obtain ⟨Q1, hQ1, h⟩ := bd1_ed h
    obtain ⟨M1, e1, h⟩ := h
    replace h := hQ1 _ h
    exact fr_retV h (fr_tr (fr_mono (by decide) (by decide +kernel) (f_MScriptRows_newField_fr e1)) (fr_F (by decide) (fr_F (by decide) fr_refl)))
  replace h := ed_neg q1_59 h
  by_cases q1_69 : p0 = 69
  · replace h := ed_pos q1_69 h
    obtain ⟨Q2, hQ2, h⟩ := bd1_ed h
    obtain ⟨M2, e2, h⟩ := h
    replace h := hQ2 _ h
    exact fr_retV h (fr_tr (fr_mono (by decide) (by decide +kernel) (f_MScriptRows_endLabel_fr e2)) fr_refl)
  replace h := ed_neg q1_69 h
  by_cases q1_75 : p0 = 75 ∨ p0 = 86 ∨ p0 = 88
  · replace h := ed_pos q1_75 h
    obtain ⟨Q3, hQ3, h⟩ := bd1_ed h
    obtain ⟨M3, e3, h⟩ := h
    replace h := hQ3 _ h
    exact fr_retV h (fr_tr (fr_mono (by decide) (by decide +kernel) (f_MScriptRows_storeData_fr e3)) fr_refl)
  replace h := ed_neg q1_75 h
  by_cases q1_76 : p0 = 76
  · replace h := ed_pos q1_76 h
    obtain ⟨Q4, hQ4, h⟩ := bd1_ed h
    obtain ⟨M4, e4, h⟩ := h
    replace h := hQ4 _ h
    exact fr_retV h (fr_tr (fr_mono (by decide) (by decide +kernel) (f_MScriptRows_beginLabel_fr e4)) fr_refl)
  replace h := ed_neg q1_76 h
  by_cases q1_83 : p0 = 83
  · replace h := ed_pos q1_83 h
    obtain ⟨Q5, hQ5, h⟩ := bd1_ed h
    obtain ⟨M5, e5, h⟩ := h
    replace h := hQ5 _ h
    exact fr_retV h (fr_tr (fr_mono (by decide) (by decide +kernel) (f_MScriptRows_storeForm_fr e5)) fr_refl)
  replace h := ed_neg q1_83 h
  by_cases q1_85 : p0 = 85
  · replace h := ed_pos q1_85 h
    obtain ⟨Q6, hQ6, h⟩ := bd1_ed h
    obtain ⟨M6, e6, h⟩ := h
    replace h := hQ6 _ h
    exact fr_retV h (fr_tr (fr_mono (by decide) (by decide +kernel) (f_MScriptRows_layForm_fr e6)) fr_refl)
  replace h := ed_neg q1_85 h
  obtain ⟨Q7, hQ7, h⟩ := bd1_ed h
  obtain ⟨M7, e7, h⟩ := h
  replace h := hQ7 _ h
  exact fr_retV h (fr_tr (fr_mono (by decide) (by decide +kernel) (f_MScriptRows_set_fr e7)) fr_refl)
noncomputable def f_MScriptRows_step_L0 (M2 : im_M) : Option ((im_M) ⊕ (im_M)) := if (im_i M2 71 8) ≤ 0 then some (.inr M2) else bd1 (f_MScriptRows_peek M2) fun (x3 : Int32) => if 32 < x3 then some (.inr M2) else bd1 (f_MScriptRows_peek M2) fun (x4 : Int32) => bd2 (f_MScriptRows_next (im_setI M2 71 9 ((if ¬ x4 = (-1) then (im_i M2 71 9) else ((im_i M2 71 9) - 1)) : Int32))) fun (x6 : Int32) (M6 : im_M) => some (.inl M6)
noncomputable def f_MScriptRows_step (M : im_M) : Option (Int32 × im_M) := bd1 (lp (uc1 (f_MScriptRows_step_L0)) M) fun (M7 : im_M) => if ¬ (im_i M7 71 8) = 0 then bd2 (f_MScriptRows_next (im_setI M7 71 12 ((if ¬ (im_i M7 71 9) = 0 then (im_i M7 71 10) else ((im_i M7 71 2) - (im_i M7 71 8))) : Int32))) fun (x9 : Int32) (M9 : im_M) => bd1 (if x9 = 94 then bd2 (f_MScriptRows_next (im_setI M9 71 11 ((im_i M9 71 11) + 1))) fun (x11 : Int32) (M11 : im_M) => bd2 (f_MScriptRows_test x11 M11) fun (x12 : Int32) (M12 : im_M) => if ¬ (im_i (im_setI M12 71 13 x12) 71 13) = 0 then some (im_setI M12 71 13 x12) else bd1 (f_MScriptRows_obey x11 (im_setI M12 71 13 x12)) fun (M13 : im_M) => some M13 else some (im_setI M9 71 13 1)) fun (M14 : im_M) => if ¬ (im_i (im_setI M14 71 14 ((if (im_i M14 71 13) ≤ 0 then (-1) else (im_i M14 71 12)) : Int32)) 71 13) = 0 then some (0, (im_setI M14 71 14 ((if (im_i M14 71 13) ≤ 0 then (-1) else (im_i M14 71 12)) : Int32))) else some (1, (im_setI M14 71 14 ((if (im_i M14 71 13) ≤ 0 then (-1) else (im_i M14 71 12)) : Int32))) else some (0, (im_setI (im_setI M7 71 13 ((if (im_i M7 71 18) = 0 then 0 else 11) : Int32)) 71 14 ((if (im_i (im_setI M7 71 13 ((if (im_i M7 71 18) = 0 then 0 else 11) : Int32)) 71 18) = 0 then (-1) else (im_i (im_setI M7 71 13 ((if (im_i M7 71 18) = 0 then 0 else 11) : Int32)) 71 2)) : Int32)))
theorem J_MScriptRows_step_d0 : decode J_MScriptRows_step.2.1 0 = .ok (.aload_n 0, 1) := by decide +kernel
theorem J_MScriptRows_step_d1 : decode J_MScriptRows_step.2.1 1 = .ok (.getfield 73, 3) := by decide +kernel
theorem J_MScriptRows_step_d4 : decode J_MScriptRows_step.2.1 4 = .ok (.ifCond .le 45, 3) := by decide +kernel
theorem J_MScriptRows_step_d7 : decode J_MScriptRows_step.2.1 7 = .ok (.aload_n 0, 1) := by decide +kernel
theorem J_MScriptRows_step_d8 : decode J_MScriptRows_step.2.1 8 = .ok (.invokevirtual 76, 3) := by decide +kernel
theorem J_MScriptRows_step_d11 : decode J_MScriptRows_step.2.1 11 = .ok (.bipush 32, 2) := by decide +kernel
theorem J_MScriptRows_step_d13 : decode J_MScriptRows_step.2.1 13 = .ok (.if_icmp .gt 36, 3) := by decide +kernel
theorem J_MScriptRows_step_d16 : decode J_MScriptRows_step.2.1 16 = .ok (.aload_n 0, 1) := by decide +kernel
theorem J_MScriptRows_step_d17 : decode J_MScriptRows_step.2.1 17 = .ok (.aload_n 0, 1) := by decide +kernel
theorem J_MScriptRows_step_d18 : decode J_MScriptRows_step.2.1 18 = .ok (.invokevirtual 76, 3) := by decide +kernel
theorem J_MScriptRows_step_d21 : decode J_MScriptRows_step.2.1 21 = .ok (.iconst (-1), 1) := by decide +kernel
theorem J_MScriptRows_step_d22 : decode J_MScriptRows_step.2.1 22 = .ok (.if_icmp .ne 12, 3) := by decide +kernel
theorem J_MScriptRows_step_d25 : decode J_MScriptRows_step.2.1 25 = .ok (.aload_n 0, 1) := by decide +kernel
theorem J_MScriptRows_step_d26 : decode J_MScriptRows_step.2.1 26 = .ok (.getfield 183, 3) := by decide +kernel
theorem J_MScriptRows_step_d29 : decode J_MScriptRows_step.2.1 29 = .ok (.iconst 1, 1) := by decide +kernel
theorem J_MScriptRows_step_d30 : decode J_MScriptRows_step.2.1 30 = .ok (.isub, 1) := by decide +kernel
theorem J_MScriptRows_step_d31 : decode J_MScriptRows_step.2.1 31 = .ok (.goto 7, 3) := by decide +kernel
theorem J_MScriptRows_step_d34 : decode J_MScriptRows_step.2.1 34 = .ok (.aload_n 0, 1) := by decide +kernel
theorem J_MScriptRows_step_d35 : decode J_MScriptRows_step.2.1 35 = .ok (.getfield 183, 3) := by decide +kernel
theorem J_MScriptRows_step_d38 : decode J_MScriptRows_step.2.1 38 = .ok (.putfield 183, 3) := by decide +kernel
theorem J_MScriptRows_step_d41 : decode J_MScriptRows_step.2.1 41 = .ok (.aload_n 0, 1) := by decide +kernel
theorem J_MScriptRows_step_d42 : decode J_MScriptRows_step.2.1 42 = .ok (.invokevirtual 95, 3) := by decide +kernel
theorem J_MScriptRows_step_d45 : decode J_MScriptRows_step.2.1 45 = .ok (.pop, 1) := by decide +kernel
theorem J_MScriptRows_step_d46 : decode J_MScriptRows_step.2.1 46 = .ok (.goto (-46), 3) := by decide +kernel
theorem J_MScriptRows_step_d49 : decode J_MScriptRows_step.2.1 49 = .ok (.aload_n 0, 1) := by decide +kernel
theorem J_MScriptRows_step_d50 : decode J_MScriptRows_step.2.1 50 = .ok (.getfield 73, 3) := by decide +kernel
theorem J_MScriptRows_step_d53 : decode J_MScriptRows_step.2.1 53 = .ok (.ifCond .ne 41, 3) := by decide +kernel
theorem J_MScriptRows_step_d56 : decode J_MScriptRows_step.2.1 56 = .ok (.aload_n 0, 1) := by decide +kernel
theorem J_MScriptRows_step_d57 : decode J_MScriptRows_step.2.1 57 = .ok (.aload_n 0, 1) := by decide +kernel
theorem J_MScriptRows_step_d58 : decode J_MScriptRows_step.2.1 58 = .ok (.getfield 180, 3) := by decide +kernel
theorem J_MScriptRows_step_d61 : decode J_MScriptRows_step.2.1 61 = .ok (.ifCond .eq 8, 3) := by decide +kernel
theorem J_MScriptRows_step_d64 : decode J_MScriptRows_step.2.1 64 = .ok (.bipush 11, 2) := by decide +kernel
theorem J_MScriptRows_step_d66 : decode J_MScriptRows_step.2.1 66 = .ok (.goto 4, 3) := by decide +kernel
theorem J_MScriptRows_step_d69 : decode J_MScriptRows_step.2.1 69 = .ok (.iconst 0, 1) := by decide +kernel
theorem J_MScriptRows_step_d70 : decode J_MScriptRows_step.2.1 70 = .ok (.putfield 249, 3) := by decide +kernel
theorem J_MScriptRows_step_d73 : decode J_MScriptRows_step.2.1 73 = .ok (.aload_n 0, 1) := by decide +kernel
theorem J_MScriptRows_step_d74 : decode J_MScriptRows_step.2.1 74 = .ok (.aload_n 0, 1) := by decide +kernel
theorem J_MScriptRows_step_d75 : decode J_MScriptRows_step.2.1 75 = .ok (.getfield 180, 3) := by decide +kernel
theorem J_MScriptRows_step_d78 : decode J_MScriptRows_step.2.1 78 = .ok (.ifCond .eq 10, 3) := by decide +kernel
theorem J_MScriptRows_step_d81 : decode J_MScriptRows_step.2.1 81 = .ok (.aload_n 0, 1) := by decide +kernel
theorem J_MScriptRows_step_d82 : decode J_MScriptRows_step.2.1 82 = .ok (.getfield 68, 3) := by decide +kernel
theorem J_MScriptRows_step_d85 : decode J_MScriptRows_step.2.1 85 = .ok (.goto 4, 3) := by decide +kernel
theorem J_MScriptRows_step_d88 : decode J_MScriptRows_step.2.1 88 = .ok (.iconst (-1), 1) := by decide +kernel
theorem J_MScriptRows_step_d89 : decode J_MScriptRows_step.2.1 89 = .ok (.putfield 28, 3) := by decide +kernel
theorem J_MScriptRows_step_d92 : decode J_MScriptRows_step.2.1 92 = .ok (.iconst 0, 1) := by decide +kernel
theorem J_MScriptRows_step_d93 : decode J_MScriptRows_step.2.1 93 = .ok (.ireturn, 1) := by decide +kernel
theorem J_MScriptRows_step_d94 : decode J_MScriptRows_step.2.1 94 = .ok (.aload_n 0, 1) := by decide +kernel
theorem J_MScriptRows_step_d95 : decode J_MScriptRows_step.2.1 95 = .ok (.aload_n 0, 1) := by decide +kernel
theorem J_MScriptRows_step_d96 : decode J_MScriptRows_step.2.1 96 = .ok (.getfield 183, 3) := by decide +kernel
theorem J_MScriptRows_step_d99 : decode J_MScriptRows_step.2.1 99 = .ok (.ifCond .ne 15, 3) := by decide +kernel
theorem J_MScriptRows_step_d102 : decode J_MScriptRows_step.2.1 102 = .ok (.aload_n 0, 1) := by decide +kernel
theorem J_MScriptRows_step_d103 : decode J_MScriptRows_step.2.1 103 = .ok (.getfield 68, 3) := by decide +kernel
theorem J_MScriptRows_step_d106 : decode J_MScriptRows_step.2.1 106 = .ok (.aload_n 0, 1) := by decide +kernel
theorem J_MScriptRows_step_d107 : decode J_MScriptRows_step.2.1 107 = .ok (.getfield 73, 3) := by decide +kernel
theorem J_MScriptRows_step_d110 : decode J_MScriptRows_step.2.1 110 = .ok (.isub, 1) := by decide +kernel
theorem J_MScriptRows_step_d111 : decode J_MScriptRows_step.2.1 111 = .ok (.goto 7, 3) := by decide +kernel
theorem J_MScriptRows_step_d114 : decode J_MScriptRows_step.2.1 114 = .ok (.aload_n 0, 1) := by decide +kernel
theorem J_MScriptRows_step_d115 : decode J_MScriptRows_step.2.1 115 = .ok (.getfield 216, 3) := by decide +kernel
theorem J_MScriptRows_step_d118 : decode J_MScriptRows_step.2.1 118 = .ok (.putfield 213, 3) := by decide +kernel
theorem J_MScriptRows_step_d121 : decode J_MScriptRows_step.2.1 121 = .ok (.aload_n 0, 1) := by decide +kernel
theorem J_MScriptRows_step_d122 : decode J_MScriptRows_step.2.1 122 = .ok (.invokevirtual 95, 3) := by decide +kernel
theorem J_MScriptRows_step_d125 : decode J_MScriptRows_step.2.1 125 = .ok (.bipush 94, 2) := by decide +kernel
theorem J_MScriptRows_step_d127 : decode J_MScriptRows_step.2.1 127 = .ok (.if_icmp .eq 11, 3) := by decide +kernel
theorem J_MScriptRows_step_d130 : decode J_MScriptRows_step.2.1 130 = .ok (.aload_n 0, 1) := by decide +kernel
theorem J_MScriptRows_step_d131 : decode J_MScriptRows_step.2.1 131 = .ok (.iconst 1, 1) := by decide +kernel
theorem J_MScriptRows_step_d132 : decode J_MScriptRows_step.2.1 132 = .ok (.putfield 249, 3) := by decide +kernel
theorem J_MScriptRows_step_d135 : decode J_MScriptRows_step.2.1 135 = .ok (.goto 39, 3) := by decide +kernel
theorem J_MScriptRows_step_d138 : decode J_MScriptRows_step.2.1 138 = .ok (.aload_n 0, 1) := by decide +kernel
theorem J_MScriptRows_step_d139 : decode J_MScriptRows_step.2.1 139 = .ok (.dup, 1) := by decide +kernel
theorem J_MScriptRows_step_d140 : decode J_MScriptRows_step.2.1 140 = .ok (.getfield 210, 3) := by decide +kernel
theorem J_MScriptRows_step_d143 : decode J_MScriptRows_step.2.1 143 = .ok (.iconst 1, 1) := by decide +kernel
theorem J_MScriptRows_step_d144 : decode J_MScriptRows_step.2.1 144 = .ok (.iadd, 1) := by decide +kernel
theorem J_MScriptRows_step_d145 : decode J_MScriptRows_step.2.1 145 = .ok (.putfield 210, 3) := by decide +kernel
theorem J_MScriptRows_step_d148 : decode J_MScriptRows_step.2.1 148 = .ok (.aload_n 0, 1) := by decide +kernel
theorem J_MScriptRows_step_d149 : decode J_MScriptRows_step.2.1 149 = .ok (.invokevirtual 95, 3) := by decide +kernel
theorem J_MScriptRows_step_d152 : decode J_MScriptRows_step.2.1 152 = .ok (.istore_n 1, 1) := by decide +kernel
theorem J_MScriptRows_step_d153 : decode J_MScriptRows_step.2.1 153 = .ok (.aload_n 0, 1) := by decide +kernel
theorem J_MScriptRows_step_d154 : decode J_MScriptRows_step.2.1 154 = .ok (.aload_n 0, 1) := by decide +kernel
theorem J_MScriptRows_step_d155 : decode J_MScriptRows_step.2.1 155 = .ok (.iload_n 1, 1) := by decide +kernel
theorem J_MScriptRows_step_d156 : decode J_MScriptRows_step.2.1 156 = .ok (.invokevirtual 252, 3) := by decide +kernel
theorem J_MScriptRows_step_d159 : decode J_MScriptRows_step.2.1 159 = .ok (.putfield 249, 3) := by decide +kernel
theorem J_MScriptRows_step_d162 : decode J_MScriptRows_step.2.1 162 = .ok (.aload_n 0, 1) := by decide +kernel
theorem J_MScriptRows_step_d163 : decode J_MScriptRows_step.2.1 163 = .ok (.getfield 249, 3) := by decide +kernel
theorem J_MScriptRows_step_d166 : decode J_MScriptRows_step.2.1 166 = .ok (.ifCond .ne 8, 3) := by decide +kernel
theorem J_MScriptRows_step_d169 : decode J_MScriptRows_step.2.1 169 = .ok (.aload_n 0, 1) := by decide +kernel
theorem J_MScriptRows_step_d170 : decode J_MScriptRows_step.2.1 170 = .ok (.iload_n 1, 1) := by decide +kernel
theorem J_MScriptRows_step_d171 : decode J_MScriptRows_step.2.1 171 = .ok (.invokevirtual 255, 3) := by decide +kernel
theorem J_MScriptRows_step_d174 : decode J_MScriptRows_step.2.1 174 = .ok (.aload_n 0, 1) := by decide +kernel
theorem J_MScriptRows_step_d175 : decode J_MScriptRows_step.2.1 175 = .ok (.aload_n 0, 1) := by decide +kernel
theorem J_MScriptRows_step_d176 : decode J_MScriptRows_step.2.1 176 = .ok (.getfield 249, 3) := by decide +kernel
theorem J_MScriptRows_step_d179 : decode J_MScriptRows_step.2.1 179 = .ok (.ifCond .le 10, 3) := by decide +kernel
theorem J_MScriptRows_step_d182 : decode J_MScriptRows_step.2.1 182 = .ok (.aload_n 0, 1) := by decide +kernel
theorem J_MScriptRows_step_d183 : decode J_MScriptRows_step.2.1 183 = .ok (.getfield 213, 3) := by decide +kernel
theorem J_MScriptRows_step_d186 : decode J_MScriptRows_step.2.1 186 = .ok (.goto 4, 3) := by decide +kernel
theorem J_MScriptRows_step_d189 : decode J_MScriptRows_step.2.1 189 = .ok (.iconst (-1), 1) := by decide +kernel
theorem J_MScriptRows_step_d190 : decode J_MScriptRows_step.2.1 190 = .ok (.putfield 28, 3) := by decide +kernel
theorem J_MScriptRows_step_d193 : decode J_MScriptRows_step.2.1 193 = .ok (.aload_n 0, 1) := by decide +kernel
theorem J_MScriptRows_step_d194 : decode J_MScriptRows_step.2.1 194 = .ok (.getfield 249, 3) := by decide +kernel
theorem J_MScriptRows_step_d197 : decode J_MScriptRows_step.2.1 197 = .ok (.ifCond .ne 7, 3) := by decide +kernel
theorem J_MScriptRows_step_d200 : decode J_MScriptRows_step.2.1 200 = .ok (.iconst 1, 1) := by decide +kernel
theorem J_MScriptRows_step_d201 : decode J_MScriptRows_step.2.1 201 = .ok (.goto 4, 3) := by decide +kernel
theorem J_MScriptRows_step_d204 : decode J_MScriptRows_step.2.1 204 = .ok (.iconst 0, 1) := by decide +kernel
theorem J_MScriptRows_step_d205 : decode J_MScriptRows_step.2.1 205 = .ok (.ireturn, 1) := by decide +kernel
theorem f_MScriptRows_step_ok {L : Nat} {xs : Nat → Int32} {dep : Nat} {w : Bool} {M : im_M} {Q : Int32 × im_M → Prop} (hM : lw_S w M) (h : ed (f_MScriptRows_step M) Q) : ia (tb_G L xs) (dep + 9) J_MScriptRows_step (rwI w Q) (0, lv_args 0 [.ref 71], [], M) := by
  have hS : im_St (tb_G L xs) (dep + 9) J_MScriptRows_step (ia (tb_G L xs) (dep + 9) J_MScriptRows_step (rwI w Q)) := ia_St
  unfold f_MScriptRows_step at h
  have l0 : im_lk (lv_args 0 [.ref 71]) 0 = some (.ref 71) := rfl
  obtain ⟨Q1, hQ1, h⟩ := bd1_ed h
  have K1 : ∀ (M2 : im_M) (L' : List (Nat × Value)), lw_S w M2 → im_lk L' 0 = some (.ref 71) → Q1 M2 → ia (tb_G L xs) (dep + 9) J_MScriptRows_step (rwI w Q) (49, L', [], M2) := by
    intro M2 L' hM2 l3 h
    replace h := hQ1 _ h
    refine iq_aload_n hS 50 J_MScriptRows_step_d49 l3 rfl ?_
    refine iq_getI hS 53 J_MScriptRows_step_d50 lf_15_73 (Or.inl rfl) (ka_71 hM2) rfl ?_
    refine iq_if_ne hS 56 J_MScriptRows_step_d53 (t := 94) rfl (fun q53 => ?_) rfl (fun q53 => ?_)
    · replace h := ed_pos q53 h
      refine iq_aload_n hS 95 J_MScriptRows_step_d94 l3 rfl ?_
      refine iq_aload_n hS 96 J_MScriptRows_step_d95 l3 rfl ?_
      refine iq_getI hS 99 J_MScriptRows_step_d96 lf_15_183 (Or.inl rfl) (ka_71 hM2) rfl ?_
      have J4 : ∀ (z5 : Int32) (L' : List (Nat × Value)), z5 = ((if ¬ (im_i M2 71 9) = 0 then (im_i M2 71 10) else ((im_i M2 71 2) - (im_i M2 71 8))) : Int32) → im_lk L' 0 = some (.ref 71) → ia (tb_G L xs) (dep + 9) J_MScriptRows_step (rwI w Q) (118, L', [.int z5, .ref 71], M2) := by
        intro z5 L' e6 l7
        subst e6
        refine iq_putI hS 121 J_MScriptRows_step_d118 lf_15_213 (Or.inl rfl) rfl (ka_71 hM2) rfl ?_
        refine iq_aload_n hS 122 J_MScriptRows_step_d121 l7 rfl ?_
        obtain ⟨Q8, hQ8, h⟩ := bd2_ed h
        refine iq_cwI hS 125 J_MScriptRows_step_d122 rfl (pr_inst (vs := []) lc_15_95 lT_283 rfl rfl (by decide) (by decide) rfl (Nat.le_of_ble_eq_true rfl) (Nat.le_of_ble_eq_true rfl) (fun _ => Or.inl (pr_b (ka_71 (lw_sI hM2)) (by decide) rfl))) (f_MScriptRows_next_ok (dep := dep + 7) (lw_sI hM2) h) rfl ?_
        intro x8 M8 hM8 h
        replace h := hQ8 _ _ h
        refine iq_bipush hS 127 J_MScriptRows_step_d125 (v := 94) (by decide +kernel) rfl ?_
        obtain ⟨Q9, hQ9, h⟩ := bd1_ed h
        have J9 : ∀ (M13 : im_M) (L' : List (Nat × Value)), lw_S w M13 → im_lk L' 0 = some (.ref 71) → Q9 M13 → ia (tb_G L xs) (dep + 9) J_MScriptRows_step (rwI w Q) (174, L', [], M13) := by
          intro M13 L' hM13 l14 h
          replace h := hQ9 _ h
          refine iq_aload_n hS 175 J_MScriptRows_step_d174 l14 rfl ?_
          refine iq_aload_n hS 176 J_MScriptRows_step_d175 l14 rfl ?_
          refine iq_getI hS 179 J_MScriptRows_step_d176 lf_15_249 (Or.inl rfl) (ka_71 hM13) rfl ?_
          have J15 : ∀ (z16 : Int32) (L' : List (Nat × Value)), z16 = ((if (im_i M13 71 13) ≤ 0 then (-1) else (im_i M13 71 12)) : Int32) → im_lk L' 0 = some (.ref 71) → ia (tb_G L xs) (dep + 9) J_MScriptRows_step (rwI w Q) (190, L', [.int z16, .ref 71], M13) := by
            intro z16 L' e17 l18
            subst e17
            refine iq_putI hS 193 J_MScriptRows_step_d190 lf_15_28 (Or.inl rfl) rfl (ka_71 hM13) rfl ?_
            refine iq_aload_n hS 194 J_MScriptRows_step_d193 l18 rfl ?_
            refine iq_getI hS 197 J_MScriptRows_step_d194 lf_15_249 (Or.inl rfl) (ka_71 (lw_sI hM13)) rfl ?_
            refine iq_if_ne hS 200 J_MScriptRows_step_d197 (t := 204) rfl (fun q197 => ?_) rfl (fun q197 => ?_)
            · replace h := ed_pos q197 h
              refine iq_iconst hS 205 J_MScriptRows_step_d204 (v := 0) (by decide +kernel) rfl ?_
              exact iq_iret J_MScriptRows_step_d205 rfl rfl ⟨_, rfl, (lw_sI hM13), ed_some h⟩
            · replace h := ed_neg q197 h
              refine iq_iconst hS 201 J_MScriptRows_step_d200 (v := 1) (by decide +kernel) rfl ?_
              refine iq_goto hS J_MScriptRows_step_d201 (t := 205) rfl ?_
              exact iq_iret J_MScriptRows_step_d205 rfl rfl ⟨_, rfl, (lw_sI hM13), ed_some h⟩
          refine iq_if_le hS 182 J_MScriptRows_step_d179 (t := 189) rfl (fun q179 => ?_) rfl (fun q179 => ?_)
          · refine iq_iconst hS 190 J_MScriptRows_step_d189 (v := (-1)) (by decide +kernel) rfl ?_
            exact J15 _ _ (by simp only [if_pos q179]) l14
          · refine iq_aload_n hS 183 J_MScriptRows_step_d182 l14 rfl ?_
            refine iq_getI hS 186 J_MScriptRows_step_d183 lf_15_213 (Or.inl rfl) (ka_71 hM13) rfl ?_
            refine iq_goto hS J_MScriptRows_step_d186 (t := 190) rfl ?_
            exact J15 _ _ (by simp only [if_neg q179]) l14
        refine iq_icmp_eq hS 130 J_MScriptRows_step_d127 (t := 138) rfl (fun q127 => ?_) rfl (fun q127 => ?_)
        · replace h := ed_pos q127 h
          refine iq_aload_n hS 139 J_MScriptRows_step_d138 l7 rfl ?_
          refine iq_dup hS 140 J_MScriptRows_step_d139 rfl rfl ?_
          refine iq_getI hS 143 J_MScriptRows_step_d140 lf_15_210 (Or.inl rfl) (ka_71 hM8) rfl ?_
          refine iq_iconst hS 144 J_MScriptRows_step_d143 (v := 1) (by decide +kernel) rfl ?_
          refine iq_iadd hS 145 J_MScriptRows_step_d144 rfl ?_
          refine iq_putI hS 148 J_MScriptRows_step_d145 lf_15_210 (Or.inl rfl) rfl (ka_71 hM8) rfl ?_
          refine iq_aload_n hS 149 J_MScriptRows_step_d148 l7 rfl ?_
          obtain ⟨Q10, hQ10, h⟩ := bd2_ed h
          refine iq_cwI hS 152 J_MScriptRows_step_d149 rfl (pr_inst (vs := []) lc_15_95 lT_283 rfl rfl (by decide) (by decide) rfl (Nat.le_of_ble_eq_true rfl) (Nat.le_of_ble_eq_true rfl) (fun _ => Or.inl (pr_b (ka_71 (lw_sI hM8)) (by decide) rfl))) (f_MScriptRows_next_ok (dep := dep + 7) (lw_sI hM8) h) rfl ?_
          intro x10 M10 hM10 h
          replace h := hQ10 _ _ h
          refine iq_istore_n hS 153 J_MScriptRows_step_d152 (by decide) rfl ?_
          refine iq_aload_n hS 154 J_MScriptRows_step_d153 (lk_1r l7 (by decide)) rfl ?_
          refine iq_aload_n hS 155 J_MScriptRows_step_d154 (lk_1r l7 (by decide)) rfl ?_
          refine iq_iload_n hS 156 J_MScriptRows_step_d155 lk_1s rfl ?_
          obtain ⟨Q11, hQ11, h⟩ := bd2_ed h
          refine iq_cwI hS 159 J_MScriptRows_step_d156 rfl (pr_inst (vs := [_]) lc_15_252 lT_284 rfl rfl (by decide) (by decide) rfl (Nat.le_of_ble_eq_true rfl) (Nat.le_of_ble_eq_true rfl) (fun _ => Or.inl (pr_b (ka_71 hM10) (by decide) rfl))) (f_MScriptRows_test_ok (dep := dep + 0) hM10 h) rfl ?_
          intro x11 M11 hM11 h
          replace h := hQ11 _ _ h
          refine iq_putI hS 162 J_MScriptRows_step_d159 lf_15_249 (Or.inl rfl) rfl (ka_71 hM11) rfl ?_
          refine iq_aload_n hS 163 J_MScriptRows_step_d162 (lk_1r l7 (by decide)) rfl ?_
          refine iq_getI hS 166 J_MScriptRows_step_d163 lf_15_249 (Or.inl rfl) (ka_71 (lw_sI hM11)) rfl ?_
          refine iq_if_ne hS 169 J_MScriptRows_step_d166 (t := 174) rfl (fun q166 => ?_) rfl (fun q166 => ?_)
          · replace h := ed_pos q166 h
            exact J9 _ _ (lw_sI hM11) (lk_1r l7 (by decide)) (ed_some h)
          · replace h := ed_neg q166 h
            refine iq_aload_n hS 170 J_MScriptRows_step_d169 (lk_1r l7 (by decide)) rfl ?_
            refine iq_iload_n hS 171 J_MScriptRows_step_d170 lk_1s rfl ?_
            obtain ⟨Q12, hQ12, h⟩ := bd1_ed h
            refine iq_cwV hS 174 J_MScriptRows_step_d171 rfl (pr_inst (vs := [_]) lc_15_255 lT_310 rfl rfl (by decide) (by decide) rfl (Nat.le_of_ble_eq_true rfl) (Nat.le_of_ble_eq_true rfl) (fun _ => Or.inl (pr_b (ka_71 (lw_sI hM11)) (by decide) rfl))) (f_MScriptRows_obey_ok (dep := dep + 1) (lw_sI hM11) h) rfl ?_
            intro M12 hM12 h
            replace h := hQ12 _ h
            exact J9 _ _ hM12 (lk_1r l7 (by decide)) (ed_some h)
        · replace h := ed_neg q127 h
          refine iq_aload_n hS 131 J_MScriptRows_step_d130 l7 rfl ?_
          refine iq_iconst hS 132 J_MScriptRows_step_d131 (v := 1) (by decide +kernel) rfl ?_
          refine iq_putI hS 135 J_MScriptRows_step_d132 lf_15_249 (Or.inl rfl) rfl (ka_71 hM8) rfl ?_
          refine iq_goto hS J_MScriptRows_step_d135 (t := 174) rfl ?_
          exact J9 _ _ (lw_sI hM8) l7 (ed_some h)
      refine iq_if_ne hS 102 J_MScriptRows_step_d99 (t := 114) rfl (fun q99 => ?_) rfl (fun q99 => ?_)
      · refine iq_aload_n hS 115 J_MScriptRows_step_d114 l3 rfl ?_
        refine iq_getI hS 118 J_MScriptRows_step_d115 lf_15_216 (Or.inl rfl) (ka_71 hM2) rfl ?_
        exact J4 _ _ (by simp only [if_pos q99]) l3
      · refine iq_aload_n hS 103 J_MScriptRows_step_d102 l3 rfl ?_
        refine iq_getI hS 106 J_MScriptRows_step_d103 lf_15_68 (Or.inl rfl) (ka_71 hM2) rfl ?_
        refine iq_aload_n hS 107 J_MScriptRows_step_d106 l3 rfl ?_
        refine iq_getI hS 110 J_MScriptRows_step_d107 lf_15_73 (Or.inl rfl) (ka_71 hM2) rfl ?_
        refine iq_isub hS 111 J_MScriptRows_step_d110 rfl ?_
        refine iq_goto hS J_MScriptRows_step_d111 (t := 118) rfl ?_
        exact J4 _ _ (by simp only [if_neg q99]) l3
    · replace h := ed_neg q53 h
      refine iq_aload_n hS 57 J_MScriptRows_step_d56 l3 rfl ?_
      refine iq_aload_n hS 58 J_MScriptRows_step_d57 l3 rfl ?_
      refine iq_getI hS 61 J_MScriptRows_step_d58 lf_15_180 (Or.inr rfl) (ka_71 hM2) rfl ?_
      have J19 : ∀ (z20 : Int32) (L' : List (Nat × Value)), z20 = ((if (im_i M2 71 18) = 0 then 0 else 11) : Int32) → im_lk L' 0 = some (.ref 71) → ia (tb_G L xs) (dep + 9) J_MScriptRows_step (rwI w Q) (70, L', [.int z20, .ref 71], M2) := by
        intro z20 L' e21 l22
        subst e21
        refine iq_putI hS 73 J_MScriptRows_step_d70 lf_15_249 (Or.inl rfl) rfl (ka_71 hM2) rfl ?_
        refine iq_aload_n hS 74 J_MScriptRows_step_d73 l22 rfl ?_
        refine iq_aload_n hS 75 J_MScriptRows_step_d74 l22 rfl ?_
        refine iq_getI hS 78 J_MScriptRows_step_d75 lf_15_180 (Or.inr rfl) (ka_71 (lw_sI hM2)) rfl ?_
        have J23 : ∀ (z24 : Int32) (L' : List (Nat × Value)), z24 = ((if (im_i (im_setI M2 71 13 ((if (im_i M2 71 18) = 0 then 0 else 11) : Int32)) 71 18) = 0 then (-1) else (im_i (im_setI M2 71 13 ((if (im_i M2 71 18) = 0 then 0 else 11) : Int32)) 71 2)) : Int32) → ia (tb_G L xs) (dep + 9) J_MScriptRows_step (rwI w Q) (89, L', [.int z24, .ref 71], (im_setI M2 71 13 ((if (im_i M2 71 18) = 0 then 0 else 11) : Int32))) := by
          intro z24 L' e25 
          subst e25
          refine iq_putI hS 92 J_MScriptRows_step_d89 lf_15_28 (Or.inl rfl) rfl (ka_71 (lw_sI hM2)) rfl ?_
          refine iq_iconst hS 93 J_MScriptRows_step_d92 (v := 0) (by decide +kernel) rfl ?_
          exact iq_iret J_MScriptRows_step_d93 rfl rfl ⟨_, rfl, (lw_sI (lw_sI hM2)), ed_some h⟩
        refine iq_if_eq hS 81 J_MScriptRows_step_d78 (t := 88) rfl (fun q78 => ?_) rfl (fun q78 => ?_)
        · refine iq_iconst hS 89 J_MScriptRows_step_d88 (v := (-1)) (by decide +kernel) rfl ?_
          exact J23 _ _ (by simp only [if_pos q78]) 
        · refine iq_aload_n hS 82 J_MScriptRows_step_d81 l22 rfl ?_
          refine iq_getI hS 85 J_MScriptRows_step_d82 lf_15_68 (Or.inl rfl) (ka_71 (lw_sI hM2)) rfl ?_
          refine iq_goto hS J_MScriptRows_step_d85 (t := 89) rfl ?_
          exact J23 _ _ (by simp only [if_neg q78]) 
      refine iq_if_eq hS 64 J_MScriptRows_step_d61 (t := 69) rfl (fun q61 => ?_) rfl (fun q61 => ?_)
      · refine iq_iconst hS 70 J_MScriptRows_step_d69 (v := 0) (by decide +kernel) rfl ?_
        exact J19 _ _ (by simp only [if_pos q61]) l3
      · refine iq_bipush hS 66 J_MScriptRows_step_d64 (v := 11) (by decide +kernel) rfl ?_
        refine iq_goto hS J_MScriptRows_step_d66 (t := 70) rfl ?_
        exact J19 _ _ (by simp only [if_neg q61]) l3
  obtain ⟨r1, hr1, hq1⟩ := h
  obtain ⟨n1, hn1⟩ := lp_n hr1
  have I1 : ∀ (n : Nat)  (M26 : im_M) (L' : List (Nat × Value)), lw_S w M26 → im_lk L' 0 = some (.ref 71) → lpn (uc1 (f_MScriptRows_step_L0)) n M26 = some r1 → ia (tb_G L xs) (dep + 9) J_MScriptRows_step (rwI w Q) (0, L', [], M26) := by
    intro n
    induction n with
    | zero => intro  M26 L' hM26 l27 hn; exact (lpn_0 hn).elim
    | succ n ih =>
      intro  M26 L' hM26 l27 hn
      have h := lpn_ed1 hn
      unfold f_MScriptRows_step_L0 at h
      refine iq_aload_n hS 1 J_MScriptRows_step_d0 l27 rfl ?_
      refine iq_getI hS 4 J_MScriptRows_step_d1 lf_15_73 (Or.inl rfl) (ka_71 hM26) rfl ?_
      refine iq_if_le hS 7 J_MScriptRows_step_d4 (t := 49) rfl (fun q4 => ?_) rfl (fun q4 => ?_)
      · replace h := ed_pos q4 h
        exact K1 _ _ hM26 l27 (lq_r h hq1)
      · replace h := ed_neg q4 h
        refine iq_aload_n hS 8 J_MScriptRows_step_d7 l27 rfl ?_
        obtain ⟨Q28, hQ28, h⟩ := bd1_ed h
        refine iq_cpI hS 11 J_MScriptRows_step_d8 rfl (pr_inst (vs := []) lc_15_76 lT_282 rfl rfl (by decide) (by decide) rfl (Nat.le_of_ble_eq_true rfl) (Nat.le_of_ble_eq_true rfl) (fun _ => Or.inl (pr_b (ka_71 hM26) (by decide) rfl))) (f_MScriptRows_peek_ok (dep := dep + 8) hM26 h) rfl ?_
        intro x28 h
        replace h := hQ28 _ h
        refine iq_bipush hS 13 J_MScriptRows_step_d11 (v := 32) (by decide +kernel) rfl ?_
        refine iq_icmp_gt hS 16 J_MScriptRows_step_d13 (t := 49) rfl (fun q13 => ?_) rfl (fun q13 => ?_)
        · replace h := ed_pos q13 h
          exact K1 _ _ hM26 l27 (lq_r h hq1)
        · replace h := ed_neg q13 h
          refine iq_aload_n hS 17 J_MScriptRows_step_d16 l27 rfl ?_
          refine iq_aload_n hS 18 J_MScriptRows_step_d17 l27 rfl ?_
          obtain ⟨Q29, hQ29, h⟩ := bd1_ed h
          refine iq_cpI hS 21 J_MScriptRows_step_d18 rfl (pr_inst (vs := []) lc_15_76 lT_282 rfl rfl (by decide) (by decide) rfl (Nat.le_of_ble_eq_true rfl) (Nat.le_of_ble_eq_true rfl) (fun _ => Or.inl (pr_b (ka_71 hM26) (by decide) rfl))) (f_MScriptRows_peek_ok (dep := dep + 8) hM26 h) rfl ?_
          intro x29 h
          replace h := hQ29 _ h
          refine iq_iconst hS 22 J_MScriptRows_step_d21 (v := (-1)) (by decide +kernel) rfl ?_
          have J30 : ∀ (z31 : Int32) (L' : List (Nat × Value)), z31 = ((if ¬ x29 = (-1) then (im_i M26 71 9) else ((im_i M26 71 9) - 1)) : Int32) → im_lk L' 0 = some (.ref 71) → ia (tb_G L xs) (dep + 9) J_MScriptRows_step (rwI w Q) (38, L', [.int z31, .ref 71], M26) := by
            intro z31 L' e32 l33
            subst e32
            refine iq_putI hS 41 J_MScriptRows_step_d38 lf_15_183 (Or.inl rfl) rfl (ka_71 hM26) rfl ?_
            refine iq_aload_n hS 42 J_MScriptRows_step_d41 l33 rfl ?_
            obtain ⟨Q34, hQ34, h⟩ := bd2_ed h
            refine iq_cwI hS 45 J_MScriptRows_step_d42 rfl (pr_inst (vs := []) lc_15_95 lT_283 rfl rfl (by decide) (by decide) rfl (Nat.le_of_ble_eq_true rfl) (Nat.le_of_ble_eq_true rfl) (fun _ => Or.inl (pr_b (ka_71 (lw_sI hM26)) (by decide) rfl))) (f_MScriptRows_next_ok (dep := dep + 7) (lw_sI hM26) h) rfl ?_
            intro x34 M34 hM34 h
            replace h := hQ34 _ _ h
            refine iq_pop hS 46 J_MScriptRows_step_d45 rfl rfl ?_
            refine iq_goto hS J_MScriptRows_step_d46 (t := 0) rfl ?_
            exact ih  _ _ hM34 l33 (lq_l h)
          refine iq_icmp_ne hS 25 J_MScriptRows_step_d22 (t := 34) rfl (fun q22 => ?_) rfl (fun q22 => ?_)
          · refine iq_aload_n hS 35 J_MScriptRows_step_d34 l27 rfl ?_
            refine iq_getI hS 38 J_MScriptRows_step_d35 lf_15_183 (Or.inl rfl) (ka_71 hM26) rfl ?_
            exact J30 _ _ (by simp only [if_pos q22]) l27
          · refine iq_aload_n hS 26 J_MScriptRows_step_d25 l27 rfl ?_
            refine iq_getI hS 29 J_MScriptRows_step_d26 lf_15_183 (Or.inl rfl) (ka_71 hM26) rfl ?_
            refine iq_iconst hS 30 J_MScriptRows_step_d29 (v := 1) (by decide +kernel) rfl ?_
            refine iq_isub hS 31 J_MScriptRows_step_d30 rfl ?_
            refine iq_goto hS J_MScriptRows_step_d31 (t := 38) rfl ?_
            exact J30 _ _ (by simp only [if_neg q22]) l27
  exact I1 n1  _ _ hM l0 hn1
theorem f_MScriptRows_step_fr {M : im_M} {r : Int32 × im_M} (h : f_MScriptRows_step M = some r) : fr 618960574909724398159134720 [(71, 8), (71, 9), (71, 10), (71, 11), (71, 12), (71, 13), (71, 14), (71, 17), (71, 18), (71, 19), (71, 20), (71, 21), (71, 22), (71, 23), (71, 25), (71, 26), (71, 32), (71, 33), (71, 34), (71, 35), (71, 37)] M r.2 := by
  replace h : ed (f_MScriptRows_step M) (fun x => x = r) := ⟨r, h, rfl⟩
  unfold f_MScriptRows_step at h
  obtain ⟨Q1, hQ1, h⟩ := bd1_ed h
  have K1 : ∀ (M2 : im_M), fr 618960574909724398159134720 [(71, 8), (71, 9), (71, 10), (71, 11), (71, 12), (71, 13), (71, 14), (71, 17), (71, 18), (71, 19), (71, 20), (71, 21), (71, 22), (71, 23), (71, 25), (71, 26), (71, 32), (71, 33), (71, 34), (71, 35), (71, 37)] M M2 → Q1 M2 → fr 618960574909724398159134720 [(71, 8), (71, 9), (71, 10), (71, 11), (71, 12), (71, 13), (71, 14), (71, 17), (71, 18), (71, 19), (71, 20), (71, 21), (71, 22), (71, 23), (71, 25), (71, 26), (71, 32), (71, 33), (71, 34), (71, 35), (71, 37)] M r.2 := by
    intro M2 hM2 h
    replace h := hQ1 _ h
    by_cases q53 : ¬ (im_i M2 71 8) = 0
    · replace h := ed_pos q53 h
      obtain ⟨Q4, hQ4, h⟩ := bd2_ed h
      obtain ⟨⟨x4, M4⟩, e4, h⟩ := h
      replace h := hQ4 _ _ h
      obtain ⟨Q5, hQ5, h⟩ := bd1_ed h
      have J5 : ∀ (M9 : im_M), fr 618960574909724398159134720 [(71, 8), (71, 9), (71, 10), (71, 11), (71, 12), (71, 13), (71, 14), (71, 17), (71, 18), (71, 19), (71, 20), (71, 21), (71, 22), (71, 23), (71, 25), (71, 26), (71, 32), (71, 33), (71, 34), (71, 35), (71, 37)] M M9 → Q5 M9 → fr 618960574909724398159134720 [(71, 8), (71, 9), (71, 10), (71, 11), (71, 12), (71, 13), (71, 14), (71, 17), (71, 18), (71, 19), (71, 20), (71, 21), (71, 22), (71, 23), (71, 25), (71, 26), (71, 32), (71, 33), (71, 34), (71, 35), (71, 37)] M r.2 := by
        intro M9 hM9 h
        replace h := hQ5 _ h
        by_cases q197 : ¬ (im_i (im_setI M9 71 14 ((if (im_i M9 71 13) ≤ 0 then (-1) else (im_i M9 71 12)) : Int32)) 71 13) = 0
        · replace h := ed_pos q197 h
          exact fr_ret h (fr_F (by decide) hM9)
        · replace h := ed_neg q197 h
          exact fr_ret h (fr_F (by decide) hM9)
      by_cases q127 : x4 = 94
      · replace h := ed_pos q127 h
        obtain ⟨Q6, hQ6, h⟩ := bd2_ed h
        obtain ⟨⟨x6, M6⟩, e6, h⟩ := h
        replace h := hQ6 _ _ h
        obtain ⟨Q7, hQ7, h⟩ := bd2_ed h
        obtain ⟨⟨x7, M7⟩, e7, h⟩ := h
        replace h := hQ7 _ _ h
        by_cases q166 : ¬ (im_i (im_setI M7 71 13 x7) 71 13) = 0
        · replace h := ed_pos q166 h
          exact J5 _ (fr_F (by decide) (fr_tr (fr_mono (by decide) (by decide +kernel) (f_MScriptRows_test_fr e7)) (fr_tr (fr_mono (by decide) (by decide +kernel) (f_MScriptRows_next_fr e6)) (fr_F (by decide) (fr_tr (fr_mono (by decide) (by decide +kernel) (f_MScriptRows_next_fr e4)) (fr_F (by decide) hM2)))))) (ed_some h)
        · replace h := ed_neg q166 h
          obtain ⟨Q8, hQ8, h⟩ := bd1_ed h
          obtain ⟨M8, e8, h⟩ := h
          replace h := hQ8 _ h
          exact J5 _ (fr_tr (fr_mono (by decide) (by decide +kernel) (f_MScriptRows_obey_fr e8)) (fr_F (by decide) (fr_tr (fr_mono (by decide) (by decide +kernel) (f_MScriptRows_test_fr e7)) (fr_tr (fr_mono (by decide) (by decide +kernel) (f_MScriptRows_next_fr e6)) (fr_F (by decide) (fr_tr (fr_mono (by decide) (by decide +kernel) (f_MScriptRows_next_fr e4)) (fr_F (by decide) hM2))))))) (ed_some h)
      · replace h := ed_neg q127 h
        exact J5 _ (fr_F (by decide) (fr_tr (fr_mono (by decide) (by decide +kernel) (f_MScriptRows_next_fr e4)) (fr_F (by decide) hM2))) (ed_some h)
    · replace h := ed_neg q53 h
      exact fr_ret h (fr_F (by decide) (fr_F (by decide) hM2))
  obtain ⟨r1, hr1, hq1⟩ := h
  obtain ⟨n1, hn1⟩ := lp_n hr1
  have I1 : ∀ (n : Nat)  (M14 : im_M), fr 618960574909724398159134720 [(71, 8), (71, 9), (71, 10), (71, 11), (71, 12), (71, 13), (71, 14), (71, 17), (71, 18), (71, 19), (71, 20), (71, 21), (71, 22), (71, 23), (71, 25), (71, 26), (71, 32), (71, 33), (71, 34), (71, 35), (71, 37)] M M14 → lpn (uc1 (f_MScriptRows_step_L0)) n M14 = some r1 → fr 618960574909724398159134720 [(71, 8), (71, 9), (71, 10), (71, 11), (71, 12), (71, 13), (71, 14), (71, 17), (71, 18), (71, 19), (71, 20), (71, 21), (71, 22), (71, 23), (71, 25), (71, 26), (71, 32), (71, 33), (71, 34), (71, 35), (71, 37)] M r.2 := by
    intro n
    induction n with
    | zero => intro  M14 hM14 hn; exact (lpn_0 hn).elim
    | succ n ih =>
      intro  M14 hM14 hn
      have h := lpn_ed1 hn
      unfold f_MScriptRows_step_L0 at h
      by_cases q4 : (im_i M14 71 8) ≤ 0
      · replace h := ed_pos q4 h
        exact K1 _ hM14 (lq_r h hq1)
      · replace h := ed_neg q4 h
        obtain ⟨Q15, hQ15, h⟩ := bd1_ed h
        obtain ⟨x15, e15, h⟩ := h
        replace h := hQ15 _ h
        by_cases q13 : 32 < x15
        · replace h := ed_pos q13 h
          exact K1 _ hM14 (lq_r h hq1)
        · replace h := ed_neg q13 h
          obtain ⟨Q16, hQ16, h⟩ := bd1_ed h
          obtain ⟨x16, e16, h⟩ := h
          replace h := hQ16 _ h
          obtain ⟨Q18, hQ18, h⟩ := bd2_ed h
          obtain ⟨⟨x18, M18⟩, e18, h⟩ := h
          replace h := hQ18 _ _ h
          exact ih  _ (fr_tr (fr_mono (by decide) (by decide +kernel) (f_MScriptRows_next_fr e18)) (fr_F (by decide) hM14)) (lq_l h)
  exact I1 n1  _ fr_refl hn1
noncomputable def f_MScriptRows_read_L17 (x2 : Int32) (M3 : im_M) : Option ((Int32 × im_M) ⊕ (im_M)) := if x2 < 0 then some (.inr M3) else gd (inb x2 4096) <| gd (inb (im_i M3 71 8) 5800) <| some (.inl ((x2 + (-1)), (im_setI (im_setI M3 77 (Int32.toNatClampNeg (im_i M3 71 8)) (im_i M3 72 (Int32.toNatClampNeg x2))) 71 8 ((im_i (im_setI M3 77 (Int32.toNatClampNeg (im_i M3 71 8)) (im_i M3 72 (Int32.toNatClampNeg x2))) 71 8) + 1))))
noncomputable def f_MScriptRows_read_L79 (x6 : Int32) (M7 : im_M) : Option ((Int32 × im_M) ⊕ (im_M)) := if x6 = 0 then some (.inr M7) else bd2 (f_MScriptRows_step M7) fun (x8 : Int32) (M8 : im_M) => some (.inl (x8, M8))
noncomputable def f_MScriptRows_read (M : im_M) : Option (Int32 × im_M) := bd1 (lp (uc2 (f_MScriptRows_read_L17)) (((im_i (im_setI (im_setI M 71 0 0) 71 8 0) 71 2) - 1), (im_setI (im_setI M 71 0 0) 71 8 0))) fun (M4 : im_M) => bd1 (lp (uc2 (f_MScriptRows_read_L79)) (1, (im_setI (im_setI (im_setI (im_setI (im_setI M4 71 9 0) 71 11 0) 71 18 0) 71 35 0) 71 37 0))) fun (M9 : im_M) => if (im_i M9 71 13) ≤ 0 then some ((im_i M9 71 35), M9) else some ((-1), (im_setI (im_setI M9 71 35 0) 71 37 0))
theorem J_MScriptRows_read_d0 : decode J_MScriptRows_read.2.1 0 = .ok (.aload_n 0, 1) := by decide +kernel
theorem J_MScriptRows_read_d1 : decode J_MScriptRows_read.2.1 1 = .ok (.iconst 0, 1) := by decide +kernel
theorem J_MScriptRows_read_d2 : decode J_MScriptRows_read.2.1 2 = .ok (.putfield 65, 3) := by decide +kernel
theorem J_MScriptRows_read_d5 : decode J_MScriptRows_read.2.1 5 = .ok (.aload_n 0, 1) := by decide +kernel
theorem J_MScriptRows_read_d6 : decode J_MScriptRows_read.2.1 6 = .ok (.iconst 0, 1) := by decide +kernel
theorem J_MScriptRows_read_d7 : decode J_MScriptRows_read.2.1 7 = .ok (.putfield 73, 3) := by decide +kernel
theorem J_MScriptRows_read_d10 : decode J_MScriptRows_read.2.1 10 = .ok (.aload_n 0, 1) := by decide +kernel
theorem J_MScriptRows_read_d11 : decode J_MScriptRows_read.2.1 11 = .ok (.getfield 68, 3) := by decide +kernel
theorem J_MScriptRows_read_d14 : decode J_MScriptRows_read.2.1 14 = .ok (.iconst 1, 1) := by decide +kernel
theorem J_MScriptRows_read_d15 : decode J_MScriptRows_read.2.1 15 = .ok (.isub, 1) := by decide +kernel
theorem J_MScriptRows_read_d16 : decode J_MScriptRows_read.2.1 16 = .ok (.istore_n 1, 1) := by decide +kernel
theorem J_MScriptRows_read_d17 : decode J_MScriptRows_read.2.1 17 = .ok (.iload_n 1, 1) := by decide +kernel
theorem J_MScriptRows_read_d18 : decode J_MScriptRows_read.2.1 18 = .ok (.ifCond .lt 34, 3) := by decide +kernel
theorem J_MScriptRows_read_d21 : decode J_MScriptRows_read.2.1 21 = .ok (.aload_n 0, 1) := by decide +kernel
theorem J_MScriptRows_read_d22 : decode J_MScriptRows_read.2.1 22 = .ok (.getfield 25, 3) := by decide +kernel
theorem J_MScriptRows_read_d25 : decode J_MScriptRows_read.2.1 25 = .ok (.aload_n 0, 1) := by decide +kernel
theorem J_MScriptRows_read_d26 : decode J_MScriptRows_read.2.1 26 = .ok (.getfield 73, 3) := by decide +kernel
theorem J_MScriptRows_read_d29 : decode J_MScriptRows_read.2.1 29 = .ok (.aload_n 0, 1) := by decide +kernel
theorem J_MScriptRows_read_d30 : decode J_MScriptRows_read.2.1 30 = .ok (.getfield 7, 3) := by decide +kernel
theorem J_MScriptRows_read_d33 : decode J_MScriptRows_read.2.1 33 = .ok (.iload_n 1, 1) := by decide +kernel
theorem J_MScriptRows_read_d34 : decode J_MScriptRows_read.2.1 34 = .ok (.iaload, 1) := by decide +kernel
theorem J_MScriptRows_read_d35 : decode J_MScriptRows_read.2.1 35 = .ok (.iastore, 1) := by decide +kernel
theorem J_MScriptRows_read_d36 : decode J_MScriptRows_read.2.1 36 = .ok (.aload_n 0, 1) := by decide +kernel
theorem J_MScriptRows_read_d37 : decode J_MScriptRows_read.2.1 37 = .ok (.dup, 1) := by decide +kernel
theorem J_MScriptRows_read_d38 : decode J_MScriptRows_read.2.1 38 = .ok (.getfield 73, 3) := by decide +kernel
theorem J_MScriptRows_read_d41 : decode J_MScriptRows_read.2.1 41 = .ok (.iconst 1, 1) := by decide +kernel
theorem J_MScriptRows_read_d42 : decode J_MScriptRows_read.2.1 42 = .ok (.iadd, 1) := by decide +kernel
theorem J_MScriptRows_read_d43 : decode J_MScriptRows_read.2.1 43 = .ok (.putfield 73, 3) := by decide +kernel
theorem J_MScriptRows_read_d46 : decode J_MScriptRows_read.2.1 46 = .ok (.iinc 1 (-1), 3) := by decide +kernel
theorem J_MScriptRows_read_d49 : decode J_MScriptRows_read.2.1 49 = .ok (.goto (-32), 3) := by decide +kernel
theorem J_MScriptRows_read_d52 : decode J_MScriptRows_read.2.1 52 = .ok (.aload_n 0, 1) := by decide +kernel
theorem J_MScriptRows_read_d53 : decode J_MScriptRows_read.2.1 53 = .ok (.iconst 0, 1) := by decide +kernel
theorem J_MScriptRows_read_d54 : decode J_MScriptRows_read.2.1 54 = .ok (.putfield 183, 3) := by decide +kernel
theorem J_MScriptRows_read_d57 : decode J_MScriptRows_read.2.1 57 = .ok (.aload_n 0, 1) := by decide +kernel
theorem J_MScriptRows_read_d58 : decode J_MScriptRows_read.2.1 58 = .ok (.iconst 0, 1) := by decide +kernel
theorem J_MScriptRows_read_d59 : decode J_MScriptRows_read.2.1 59 = .ok (.putfield 210, 3) := by decide +kernel
theorem J_MScriptRows_read_d62 : decode J_MScriptRows_read.2.1 62 = .ok (.aload_n 0, 1) := by decide +kernel
theorem J_MScriptRows_read_d63 : decode J_MScriptRows_read.2.1 63 = .ok (.iconst 0, 1) := by decide +kernel
theorem J_MScriptRows_read_d64 : decode J_MScriptRows_read.2.1 64 = .ok (.putfield 180, 3) := by decide +kernel
theorem J_MScriptRows_read_d67 : decode J_MScriptRows_read.2.1 67 = .ok (.aload_n 0, 1) := by decide +kernel
theorem J_MScriptRows_read_d68 : decode J_MScriptRows_read.2.1 68 = .ok (.iconst 0, 1) := by decide +kernel
theorem J_MScriptRows_read_d69 : decode J_MScriptRows_read.2.1 69 = .ok (.putfield 204, 3) := by decide +kernel
theorem J_MScriptRows_read_d72 : decode J_MScriptRows_read.2.1 72 = .ok (.aload_n 0, 1) := by decide +kernel
theorem J_MScriptRows_read_d73 : decode J_MScriptRows_read.2.1 73 = .ok (.iconst 0, 1) := by decide +kernel
theorem J_MScriptRows_read_d74 : decode J_MScriptRows_read.2.1 74 = .ok (.putfield 155, 3) := by decide +kernel
theorem J_MScriptRows_read_d77 : decode J_MScriptRows_read.2.1 77 = .ok (.iconst 1, 1) := by decide +kernel
theorem J_MScriptRows_read_d78 : decode J_MScriptRows_read.2.1 78 = .ok (.istore_n 1, 1) := by decide +kernel
theorem J_MScriptRows_read_d79 : decode J_MScriptRows_read.2.1 79 = .ok (.iload_n 1, 1) := by decide +kernel
theorem J_MScriptRows_read_d80 : decode J_MScriptRows_read.2.1 80 = .ok (.ifCond .eq 11, 3) := by decide +kernel
theorem J_MScriptRows_read_d83 : decode J_MScriptRows_read.2.1 83 = .ok (.aload_n 0, 1) := by decide +kernel
theorem J_MScriptRows_read_d84 : decode J_MScriptRows_read.2.1 84 = .ok (.invokevirtual 258, 3) := by decide +kernel
theorem J_MScriptRows_read_d87 : decode J_MScriptRows_read.2.1 87 = .ok (.istore_n 1, 1) := by decide +kernel
theorem J_MScriptRows_read_d88 : decode J_MScriptRows_read.2.1 88 = .ok (.goto (-9), 3) := by decide +kernel
theorem J_MScriptRows_read_d91 : decode J_MScriptRows_read.2.1 91 = .ok (.aload_n 0, 1) := by decide +kernel
theorem J_MScriptRows_read_d92 : decode J_MScriptRows_read.2.1 92 = .ok (.getfield 249, 3) := by decide +kernel
theorem J_MScriptRows_read_d95 : decode J_MScriptRows_read.2.1 95 = .ok (.ifCond .le 15, 3) := by decide +kernel
theorem J_MScriptRows_read_d98 : decode J_MScriptRows_read.2.1 98 = .ok (.aload_n 0, 1) := by decide +kernel
theorem J_MScriptRows_read_d99 : decode J_MScriptRows_read.2.1 99 = .ok (.iconst 0, 1) := by decide +kernel
theorem J_MScriptRows_read_d100 : decode J_MScriptRows_read.2.1 100 = .ok (.putfield 204, 3) := by decide +kernel
theorem J_MScriptRows_read_d103 : decode J_MScriptRows_read.2.1 103 = .ok (.aload_n 0, 1) := by decide +kernel
theorem J_MScriptRows_read_d104 : decode J_MScriptRows_read.2.1 104 = .ok (.iconst 0, 1) := by decide +kernel
theorem J_MScriptRows_read_d105 : decode J_MScriptRows_read.2.1 105 = .ok (.putfield 155, 3) := by decide +kernel
theorem J_MScriptRows_read_d108 : decode J_MScriptRows_read.2.1 108 = .ok (.iconst (-1), 1) := by decide +kernel
theorem J_MScriptRows_read_d109 : decode J_MScriptRows_read.2.1 109 = .ok (.ireturn, 1) := by decide +kernel
theorem J_MScriptRows_read_d110 : decode J_MScriptRows_read.2.1 110 = .ok (.aload_n 0, 1) := by decide +kernel
theorem J_MScriptRows_read_d111 : decode J_MScriptRows_read.2.1 111 = .ok (.getfield 204, 3) := by decide +kernel
theorem J_MScriptRows_read_d114 : decode J_MScriptRows_read.2.1 114 = .ok (.ireturn, 1) := by decide +kernel
theorem f_MScriptRows_read_ok {L : Nat} {xs : Nat → Int32} {dep : Nat} {w : Bool} {M : im_M} {Q : Int32 × im_M → Prop} (hM : lw_S w M) (h : ed (f_MScriptRows_read M) Q) : ia (tb_G L xs) (dep + 10) J_MScriptRows_read (rwI w Q) (0, lv_args 0 [.ref 71], [], M) := by
  have hS : im_St (tb_G L xs) (dep + 10) J_MScriptRows_read (ia (tb_G L xs) (dep + 10) J_MScriptRows_read (rwI w Q)) := ia_St
  unfold f_MScriptRows_read at h
  have l0 : im_lk (lv_args 0 [.ref 71]) 0 = some (.ref 71) := rfl
  refine iq_aload_n hS 1 J_MScriptRows_read_d0 l0 rfl ?_
  refine iq_iconst hS 2 J_MScriptRows_read_d1 (v := 0) (by decide +kernel) rfl ?_
  refine iq_putI hS 5 J_MScriptRows_read_d2 lf_15_65 (Or.inl rfl) rfl (ka_71 hM) rfl ?_
  refine iq_aload_n hS 6 J_MScriptRows_read_d5 l0 rfl ?_
  refine iq_iconst hS 7 J_MScriptRows_read_d6 (v := 0) (by decide +kernel) rfl ?_
  refine iq_putI hS 10 J_MScriptRows_read_d7 lf_15_73 (Or.inl rfl) rfl (ka_71 (lw_sI hM)) rfl ?_
  refine iq_aload_n hS 11 J_MScriptRows_read_d10 l0 rfl ?_
  refine iq_getI hS 14 J_MScriptRows_read_d11 lf_15_68 (Or.inl rfl) (ka_71 (lw_sI (lw_sI hM))) rfl ?_
  refine iq_iconst hS 15 J_MScriptRows_read_d14 (v := 1) (by decide +kernel) rfl ?_
  refine iq_isub hS 16 J_MScriptRows_read_d15 rfl ?_
  refine iq_istore_n hS 17 J_MScriptRows_read_d16 (by decide) rfl ?_
  obtain ⟨Q1, hQ1, h⟩ := bd1_ed h
  have K1 : ∀ (M2 : im_M) (L' : List (Nat × Value)), lw_S w M2 → im_lk L' 0 = some (.ref 71) → Q1 M2 → ia (tb_G L xs) (dep + 10) J_MScriptRows_read (rwI w Q) (52, L', [], M2) := by
    intro M2 L' hM2 l3 h
    replace h := hQ1 _ h
    refine iq_aload_n hS 53 J_MScriptRows_read_d52 l3 rfl ?_
    refine iq_iconst hS 54 J_MScriptRows_read_d53 (v := 0) (by decide +kernel) rfl ?_
    refine iq_putI hS 57 J_MScriptRows_read_d54 lf_15_183 (Or.inl rfl) rfl (ka_71 hM2) rfl ?_
    refine iq_aload_n hS 58 J_MScriptRows_read_d57 l3 rfl ?_
    refine iq_iconst hS 59 J_MScriptRows_read_d58 (v := 0) (by decide +kernel) rfl ?_
    refine iq_putI hS 62 J_MScriptRows_read_d59 lf_15_210 (Or.inl rfl) rfl (ka_71 (lw_sI hM2)) rfl ?_
    refine iq_aload_n hS 63 J_MScriptRows_read_d62 l3 rfl ?_
    refine iq_iconst hS 64 J_MScriptRows_read_d63 (v := 0) (by decide +kernel) rfl ?_
    refine iq_putZ hS 67 J_MScriptRows_read_d64 lf_15_180 (Or.inl rfl) rfl (ka_71 (lw_sI (lw_sI hM2))) (Or.inl rfl) rfl ?_
    refine iq_aload_n hS 68 J_MScriptRows_read_d67 l3 rfl ?_
    refine iq_iconst hS 69 J_MScriptRows_read_d68 (v := 0) (by decide +kernel) rfl ?_
    refine iq_putI hS 72 J_MScriptRows_read_d69 lf_15_204 (Or.inl rfl) rfl (ka_71 (lw_sI (lw_sI (lw_sI hM2)))) rfl ?_
    refine iq_aload_n hS 73 J_MScriptRows_read_d72 l3 rfl ?_
    refine iq_iconst hS 74 J_MScriptRows_read_d73 (v := 0) (by decide +kernel) rfl ?_
    refine iq_putI hS 77 J_MScriptRows_read_d74 lf_15_155 (Or.inl rfl) rfl (ka_71 (lw_sI (lw_sI (lw_sI (lw_sI hM2))))) rfl ?_
    refine iq_iconst hS 78 J_MScriptRows_read_d77 (v := 1) (by decide +kernel) rfl ?_
    refine iq_istore_n hS 79 J_MScriptRows_read_d78 (by decide) rfl ?_
    obtain ⟨Q4, hQ4, h⟩ := bd1_ed h
    have K4 : ∀ (M5 : im_M) (L' : List (Nat × Value)), lw_S w M5 → im_lk L' 0 = some (.ref 71) → Q4 M5 → ia (tb_G L xs) (dep + 10) J_MScriptRows_read (rwI w Q) (91, L', [], M5) := by
      intro M5 L' hM5 l6 h
      replace h := hQ4 _ h
      refine iq_aload_n hS 92 J_MScriptRows_read_d91 l6 rfl ?_
      refine iq_getI hS 95 J_MScriptRows_read_d92 lf_15_249 (Or.inl rfl) (ka_71 hM5) rfl ?_
      refine iq_if_le hS 98 J_MScriptRows_read_d95 (t := 110) rfl (fun q95 => ?_) rfl (fun q95 => ?_)
      · replace h := ed_pos q95 h
        refine iq_aload_n hS 111 J_MScriptRows_read_d110 l6 rfl ?_
        refine iq_getI hS 114 J_MScriptRows_read_d111 lf_15_204 (Or.inl rfl) (ka_71 hM5) rfl ?_
        exact iq_iret J_MScriptRows_read_d114 rfl rfl ⟨_, rfl, hM5, ed_some h⟩
      · replace h := ed_neg q95 h
        refine iq_aload_n hS 99 J_MScriptRows_read_d98 l6 rfl ?_
        refine iq_iconst hS 100 J_MScriptRows_read_d99 (v := 0) (by decide +kernel) rfl ?_
        refine iq_putI hS 103 J_MScriptRows_read_d100 lf_15_204 (Or.inl rfl) rfl (ka_71 hM5) rfl ?_
        refine iq_aload_n hS 104 J_MScriptRows_read_d103 l6 rfl ?_
        refine iq_iconst hS 105 J_MScriptRows_read_d104 (v := 0) (by decide +kernel) rfl ?_
        refine iq_putI hS 108 J_MScriptRows_read_d105 lf_15_155 (Or.inl rfl) rfl (ka_71 (lw_sI hM5)) rfl ?_
        refine iq_iconst hS 109 J_MScriptRows_read_d108 (v := (-1)) (by decide +kernel) rfl ?_
        exact iq_iret J_MScriptRows_read_d109 rfl rfl ⟨_, rfl, (lw_sI (lw_sI hM5)), ed_some h⟩
    obtain ⟨r4, hr4, hq4⟩ := h
    obtain ⟨n4, hn4⟩ := lp_n hr4
    have I4 : ∀ (n : Nat) (x7 : Int32) (M8 : im_M) (L' : List (Nat × Value)), lw_S w M8 → im_lk L' 0 = some (.ref 71) → im_lk L' 1 = some (.int x7) → lpn (uc2 (f_MScriptRows_read_L79)) n (x7, M8) = some r4 → ia (tb_G L xs) (dep + 10) J_MScriptRows_read (rwI w Q) (79, L', [], M8) := by
      intro n
      induction n with
      | zero => intro x7 M8 L' hM8 l9 l10 hn; exact (lpn_0 hn).elim
      | succ n ih =>
        intro x7 M8 L' hM8 l9 l10 hn
        have h := lpn_ed2 hn
        unfold f_MScriptRows_read_L79 at h
        refine iq_iload_n hS 80 J_MScriptRows_read_d79 l10 rfl ?_
        refine iq_if_eq hS 83 J_MScriptRows_read_d80 (t := 91) rfl (fun q80 => ?_) rfl (fun q80 => ?_)
        · replace h := ed_pos q80 h
          exact K4 _ _ hM8 l9 (lq_r h hq4)
        · replace h := ed_neg q80 h
          refine iq_aload_n hS 84 J_MScriptRows_read_d83 l9 rfl ?_
          obtain ⟨Q11, hQ11, h⟩ := bd2_ed h
          refine iq_cwI hS 87 J_MScriptRows_read_d84 rfl (pr_inst (vs := []) lc_15_258 lT_281 rfl rfl (by decide) (by decide) rfl (Nat.le_of_ble_eq_true rfl) (Nat.le_of_ble_eq_true rfl) (fun _ => Or.inl (pr_b (ka_71 hM8) (by decide) rfl))) (f_MScriptRows_step_ok (dep := dep + 0) hM8 h) rfl ?_
          intro x11 M11 hM11 h
          replace h := hQ11 _ _ h
          refine iq_istore_n hS 88 J_MScriptRows_read_d87 (by decide) rfl ?_
          refine iq_goto hS J_MScriptRows_read_d88 (t := 79) rfl ?_
          exact ih _ _ _ hM11 (lk_1r l9 (by decide)) lk_1s (lq_l h)
    exact I4 n4 _ _ _ (lw_sI (lw_sI (lw_sI (lw_sI (lw_sI hM2))))) (lk_1r l3 (by decide)) lk_1s hn4
  obtain ⟨r1, hr1, hq1⟩ := h
  obtain ⟨n1, hn1⟩ := lp_n hr1
  have I1 : ∀ (n : Nat) (x12 : Int32) (M13 : im_M) (L' : List (Nat × Value)), lw_S w M13 → im_lk L' 0 = some (.ref 71) → im_lk L' 1 = some (.int x12) → lpn (uc2 (f_MScriptRows_read_L17)) n (x12, M13) = some r1 → ia (tb_G L xs) (dep + 10) J_MScriptRows_read (rwI w Q) (17, L', [], M13) := by
    intro n
    induction n with
    | zero => intro x12 M13 L' hM13 l14 l15 hn; exact (lpn_0 hn).elim
    | succ n ih =>
      intro x12 M13 L' hM13 l14 l15 hn
      have h := lpn_ed2 hn
      unfold f_MScriptRows_read_L17 at h
      refine iq_iload_n hS 18 J_MScriptRows_read_d17 l15 rfl ?_
      refine iq_if_lt hS 21 J_MScriptRows_read_d18 (t := 52) rfl (fun q18 => ?_) rfl (fun q18 => ?_)
      · replace h := ed_pos q18 h
        exact K1 _ _ hM13 l14 (lq_r h hq1)
      · replace h := ed_neg q18 h
        refine iq_aload_n hS 22 J_MScriptRows_read_d21 l14 rfl ?_
        refine iq_getR hS 25 J_MScriptRows_read_d22 lf_15_25 (Or.inr ⟨_, rfl⟩) (ka_71 hM13) (ra_71_7 hM13) rfl ?_
        refine iq_aload_n hS 26 J_MScriptRows_read_d25 l14 rfl ?_
        refine iq_getI hS 29 J_MScriptRows_read_d26 lf_15_73 (Or.inl rfl) (ka_71 hM13) rfl ?_
        refine iq_aload_n hS 30 J_MScriptRows_read_d29 l14 rfl ?_
        refine iq_getR hS 33 J_MScriptRows_read_d30 lf_15_7 (Or.inr ⟨_, rfl⟩) (ka_71 hM13) (ra_71_1 hM13) rfl ?_
        refine iq_iload_n hS 34 J_MScriptRows_read_d33 l15 rfl ?_
        obtain ⟨g34, h⟩ := ed_gd h
        refine iq_iaload hS 35 J_MScriptRows_read_d34 ⟨(ka_72 hM13).1, (ka_72 hM13).2, g34.1, ix_lt (kl_72 hM13) g34.2⟩ rfl ?_
        obtain ⟨g35, h⟩ := ed_gd h
        refine iq_iastore hS 36 J_MScriptRows_read_d35 ⟨(ka_77 hM13).1, (ka_77 hM13).2, g35.1, ix_lt (kl_77 hM13) g35.2⟩ rfl ?_
        refine iq_aload_n hS 37 J_MScriptRows_read_d36 l14 rfl ?_
        refine iq_dup hS 38 J_MScriptRows_read_d37 rfl rfl ?_
        refine iq_getI hS 41 J_MScriptRows_read_d38 lf_15_73 (Or.inl rfl) (ka_71 (lw_sI hM13)) rfl ?_
        refine iq_iconst hS 42 J_MScriptRows_read_d41 (v := 1) (by decide +kernel) rfl ?_
        refine iq_iadd hS 43 J_MScriptRows_read_d42 rfl ?_
        refine iq_putI hS 46 J_MScriptRows_read_d43 lf_15_73 (Or.inl rfl) rfl (ka_71 (lw_sI hM13)) rfl ?_
        refine iq_iincv hS 49 J_MScriptRows_read_d46 (c := (-1)) (by decide +kernel) l15 (by decide) rfl ?_
        refine iq_goto hS J_MScriptRows_read_d49 (t := 17) rfl ?_
        exact ih _ _ _ (lw_sI (lw_sI hM13)) (lk_1r l14 (by decide)) lk_1s (lq_l h)
  exact I1 n1 _ _ _ (lw_sI (lw_sI hM)) (lk_1r l0 (by decide)) lk_1s hn1
theorem f_MScriptRows_read_fr {M : im_M} {r : Int32 × im_M} (h : f_MScriptRows_read M = some r) : fr 618960574909724398159134720 [(71, 0), (71, 8), (71, 9), (71, 10), (71, 11), (71, 12), (71, 13), (71, 14), (71, 17), (71, 18), (71, 19), (71, 20), (71, 21), (71, 22), (71, 23), (71, 25), (71, 26), (71, 32), (71, 33), (71, 34), (71, 35), (71, 37)] M r.2 := by
  replace h : ed (f_MScriptRows_read M) (fun x => x = r) := ⟨r, h, rfl⟩
  unfold f_MScriptRows_read at h
  obtain ⟨Q1, hQ1, h⟩ := bd1_ed h
  have K1 : ∀ (M2 : im_M), fr 618960574909724398159134720 [(71, 0), (71, 8), (71, 9), (71, 10), (71, 11), (71, 12), (71, 13), (71, 14), (71, 17), (71, 18), (71, 19), (71, 20), (71, 21), (71, 22), (71, 23), (71, 25), (71, 26), (71, 32), (71, 33), (71, 34), (71, 35), (71, 37)] M M2 → Q1 M2 → fr 618960574909724398159134720 [(71, 0), (71, 8), (71, 9), (71, 10), (71, 11), (71, 12), (71, 13), (71, 14), (71, 17), (71, 18), (71, 19), (71, 20), (71, 21), (71, 22), (71, 23), (71, 25), (71, 26), (71, 32), (71, 33), (71, 34), (71, 35), (71, 37)] M r.2 := by
    intro M2 hM2 h
    replace h := hQ1 _ h
    obtain ⟨Q3, hQ3, h⟩ := bd1_ed h
    have K3 : ∀ (M4 : im_M), fr 618960574909724398159134720 [(71, 0), (71, 8), (71, 9), (71, 10), (71, 11), (71, 12), (71, 13), (71, 14), (71, 17), (71, 18), (71, 19), (71, 20), (71, 21), (71, 22), (71, 23), (71, 25), (71, 26), (71, 32), (71, 33), (71, 34), (71, 35), (71, 37)] M M4 → Q3 M4 → fr 618960574909724398159134720 [(71, 0), (71, 8), (71, 9), (71, 10), (71, 11), (71, 12), (71, 13), (71, 14), (71, 17), (71, 18), (71, 19), (71, 20), (71, 21), (71, 22), (71, 23), (71, 25), (71, 26), (71, 32), (71, 33), (71, 34), (71, 35), (71, 37)] M r.2 := by
      intro M4 hM4 h
      replace h := hQ3 _ h
      by_cases q95 : (im_i M4 71 13) ≤ 0
      · replace h := ed_pos q95 h
        exact fr_ret h hM4
      · replace h := ed_neg q95 h
        exact fr_ret h (fr_F (by decide) (fr_F (by decide) hM4))
    obtain ⟨r3, hr3, hq3⟩ := h
    obtain ⟨n3, hn3⟩ := lp_n hr3
    have I3 : ∀ (n : Nat) (x5 : Int32) (M6 : im_M), fr 618960574909724398159134720 [(71, 0), (71, 8), (71, 9), (71, 10), (71, 11), (71, 12), (71, 13), (71, 14), (71, 17), (71, 18), (71, 19), (71, 20), (71, 21), (71, 22), (71, 23), (71, 25), (71, 26), (71, 32), (71, 33), (71, 34), (71, 35), (71, 37)] M M6 → lpn (uc2 (f_MScriptRows_read_L79)) n (x5, M6) = some r3 → fr 618960574909724398159134720 [(71, 0), (71, 8), (71, 9), (71, 10), (71, 11), (71, 12), (71, 13), (71, 14), (71, 17), (71, 18), (71, 19), (71, 20), (71, 21), (71, 22), (71, 23), (71, 25), (71, 26), (71, 32), (71, 33), (71, 34), (71, 35), (71, 37)] M r.2 := by
      intro n
      induction n with
      | zero => intro x5 M6 hM6 hn; exact (lpn_0 hn).elim
      | succ n ih =>
        intro x5 M6 hM6 hn
        have h := lpn_ed2 hn
        unfold f_MScriptRows_read_L79 at h
        by_cases q80 : x5 = 0
        · replace h := ed_pos q80 h
          exact K3 _ hM6 (lq_r h hq3)
        · replace h := ed_neg q80 h
          obtain ⟨Q7, hQ7, h⟩ := bd2_ed h
          obtain ⟨⟨x7, M7⟩, e7, h⟩ := h
          replace h := hQ7 _ _ h
          exact ih _ _ (fr_tr (fr_mono (by decide) (by decide +kernel) (f_MScriptRows_step_fr e7)) hM6) (lq_l h)
    exact I3 n3 _ _ (fr_F (by decide) (fr_F (by decide) (fr_F (by decide) (fr_F (by decide) (fr_F (by decide) hM2))))) hn3
  obtain ⟨r1, hr1, hq1⟩ := h
  obtain ⟨n1, hn1⟩ := lp_n hr1
  have I1 : ∀ (n : Nat) (x8 : Int32) (M9 : im_M), fr 618960574909724398159134720 [(71, 0), (71, 8), (71, 9), (71, 10), (71, 11), (71, 12), (71, 13), (71, 14), (71, 17), (71, 18), (71, 19), (71, 20), (71, 21), (71, 22), (71, 23), (71, 25), (71, 26), (71, 32), (71, 33), (71, 34), (71, 35), (71, 37)] M M9 → lpn (uc2 (f_MScriptRows_read_L17)) n (x8, M9) = some r1 → fr 618960574909724398159134720 [(71, 0), (71, 8), (71, 9), (71, 10), (71, 11), (71, 12), (71, 13), (71, 14), (71, 17), (71, 18), (71, 19), (71, 20), (71, 21), (71, 22), (71, 23), (71, 25), (71, 26), (71, 32), (71, 33), (71, 34), (71, 35), (71, 37)] M r.2 := by
    intro n
    induction n with
    | zero => intro x8 M9 hM9 hn; exact (lpn_0 hn).elim
    | succ n ih =>
      intro x8 M9 hM9 hn
      have h := lpn_ed2 hn
      unfold f_MScriptRows_read_L17 at h
      by_cases q18 : x8 < 0
      · replace h := ed_pos q18 h
        exact K1 _ hM9 (lq_r h hq1)
      · replace h := ed_neg q18 h
        obtain ⟨g34, h⟩ := ed_gd h
        obtain ⟨g35, h⟩ := ed_gd h
        exact ih _ _ (fr_F (by decide) (fr_I (by decide) hM9)) (lq_l h)
  exact I1 n1 _ _ (fr_F (by decide) (fr_F (by decide) fr_refl)) hn1
noncomputable def f_M_read_L10 (x3 : Int32) (M4 : im_M) : Option ((Int32 × im_M) ⊕ (im_M)) := if (im_i M4 69 2) ≤ x3 then some (.inr M4) else gd (inb x3 4096) <| bd2 (f_MScriptRows_write 1 (Int32.toInt64 (im_i M4 70 (Int32.toNatClampNeg x3))) M4) fun (x5 : Int32) (M5 : im_M) => some (.inl ((x3 + 1), M5))
noncomputable def f_M_read (M : im_M) : Option (Int32 × im_M) := bd2 (f_MScriptRows_wipe M) fun (x1 : Int32) (M1 : im_M) => bd1 (lp (uc2 (f_M_read_L10)) (0, M1)) fun (M6 : im_M) => bd2 (f_MScriptRows_read M6) fun (x7 : Int32) (M7 : im_M) => some (x7, (im_setI (im_setI M7 69 2 ((if 0 ≤ x7 then 0 else (im_i M7 69 2)) : Int32)) 69 0 0))
theorem J_M_read_d0 : decode J_M_read.2.1 0 = .ok (.aload_n 0, 1) := by decide +kernel
theorem J_M_read_d1 : decode J_M_read.2.1 1 = .ok (.getfield 16, 3) := by decide +kernel
theorem J_M_read_d4 : decode J_M_read.2.1 4 = .ok (.invokevirtual 76, 3) := by decide +kernel
theorem J_M_read_d7 : decode J_M_read.2.1 7 = .ok (.istore_n 1, 1) := by decide +kernel
theorem J_M_read_d8 : decode J_M_read.2.1 8 = .ok (.iconst 0, 1) := by decide +kernel
theorem J_M_read_d9 : decode J_M_read.2.1 9 = .ok (.istore_n 2, 1) := by decide +kernel
theorem J_M_read_d10 : decode J_M_read.2.1 10 = .ok (.iload_n 2, 1) := by decide +kernel
theorem J_M_read_d11 : decode J_M_read.2.1 11 = .ok (.aload_n 0, 1) := by decide +kernel
theorem J_M_read_d12 : decode J_M_read.2.1 12 = .ok (.getfield 61, 3) := by decide +kernel
theorem J_M_read_d15 : decode J_M_read.2.1 15 = .ok (.if_icmp .ge 25, 3) := by decide +kernel
theorem J_M_read_d18 : decode J_M_read.2.1 18 = .ok (.aload_n 0, 1) := by decide +kernel
theorem J_M_read_d19 : decode J_M_read.2.1 19 = .ok (.getfield 16, 3) := by decide +kernel
theorem J_M_read_d22 : decode J_M_read.2.1 22 = .ok (.iconst 1, 1) := by decide +kernel
theorem J_M_read_d23 : decode J_M_read.2.1 23 = .ok (.aload_n 0, 1) := by decide +kernel
theorem J_M_read_d24 : decode J_M_read.2.1 24 = .ok (.getfield 7, 3) := by decide +kernel
theorem J_M_read_d27 : decode J_M_read.2.1 27 = .ok (.iload_n 2, 1) := by decide +kernel
theorem J_M_read_d28 : decode J_M_read.2.1 28 = .ok (.iaload, 1) := by decide +kernel
theorem J_M_read_d29 : decode J_M_read.2.1 29 = .ok (.i2l, 1) := by decide +kernel
theorem J_M_read_d30 : decode J_M_read.2.1 30 = .ok (.invokevirtual 79, 3) := by decide +kernel
theorem J_M_read_d33 : decode J_M_read.2.1 33 = .ok (.istore_n 1, 1) := by decide +kernel
theorem J_M_read_d34 : decode J_M_read.2.1 34 = .ok (.iinc 2 1, 3) := by decide +kernel
theorem J_M_read_d37 : decode J_M_read.2.1 37 = .ok (.goto (-27), 3) := by decide +kernel
theorem J_M_read_d40 : decode J_M_read.2.1 40 = .ok (.aload_n 0, 1) := by decide +kernel
theorem J_M_read_d41 : decode J_M_read.2.1 41 = .ok (.getfield 16, 3) := by decide +kernel
theorem J_M_read_d44 : decode J_M_read.2.1 44 = .ok (.invokevirtual 83, 3) := by decide +kernel
theorem J_M_read_d47 : decode J_M_read.2.1 47 = .ok (.istore_n 2, 1) := by decide +kernel
theorem J_M_read_d48 : decode J_M_read.2.1 48 = .ok (.aload_n 0, 1) := by decide +kernel
theorem J_M_read_d49 : decode J_M_read.2.1 49 = .ok (.iload_n 2, 1) := by decide +kernel
theorem J_M_read_d50 : decode J_M_read.2.1 50 = .ok (.ifCond .ge 10, 3) := by decide +kernel
theorem J_M_read_d53 : decode J_M_read.2.1 53 = .ok (.aload_n 0, 1) := by decide +kernel
theorem J_M_read_d54 : decode J_M_read.2.1 54 = .ok (.getfield 61, 3) := by decide +kernel
theorem J_M_read_d57 : decode J_M_read.2.1 57 = .ok (.goto 4, 3) := by decide +kernel
theorem J_M_read_d60 : decode J_M_read.2.1 60 = .ok (.iconst 0, 1) := by decide +kernel
theorem J_M_read_d61 : decode J_M_read.2.1 61 = .ok (.putfield 61, 3) := by decide +kernel
theorem J_M_read_d64 : decode J_M_read.2.1 64 = .ok (.aload_n 0, 1) := by decide +kernel
theorem J_M_read_d65 : decode J_M_read.2.1 65 = .ok (.iconst 0, 1) := by decide +kernel
theorem J_M_read_d66 : decode J_M_read.2.1 66 = .ok (.putfield 58, 3) := by decide +kernel
theorem J_M_read_d69 : decode J_M_read.2.1 69 = .ok (.iload_n 2, 1) := by decide +kernel
theorem J_M_read_d70 : decode J_M_read.2.1 70 = .ok (.ireturn, 1) := by decide +kernel
theorem f_M_read_ok {L : Nat} {xs : Nat → Int32} {dep : Nat} {w : Bool} {M : im_M} {Q : Int32 × im_M → Prop} (hM : lw_S w M) (h : ed (f_M_read M) Q) : ia (tb_G L xs) (dep + 11) J_M_read (rwI w Q) (0, lv_args 0 [.ref 69], [], M) := by
  have hS : im_St (tb_G L xs) (dep + 11) J_M_read (ia (tb_G L xs) (dep + 11) J_M_read (rwI w Q)) := ia_St
  unfold f_M_read at h
  have l0 : im_lk (lv_args 0 [.ref 69]) 0 = some (.ref 69) := rfl
  refine iq_aload_n hS 1 J_M_read_d0 l0 rfl ?_
  refine iq_getR hS 4 J_M_read_d1 lf_17_16 (Or.inl ⟨_, rfl⟩) (ka_69 hM) (ra_69_3 hM) rfl ?_
  obtain ⟨Q1, hQ1, h⟩ := bd2_ed h
  refine iq_cwI hS 7 J_M_read_d4 rfl (pr_inst (vs := []) lc_17_76 lT_278 rfl rfl (by decide) (by decide) rfl (Nat.le_of_ble_eq_true rfl) (Nat.le_of_ble_eq_true rfl) (fun _ => Or.inl (pr_b (ka_71 hM) (by decide) rfl))) (f_MScriptRows_wipe_ok (dep := dep + 10) hM h) rfl ?_
  intro x1 M1 hM1 h
  replace h := hQ1 _ _ h
  refine iq_istore_n hS 8 J_M_read_d7 (by decide) rfl ?_
  refine iq_iconst hS 9 J_M_read_d8 (v := 0) (by decide +kernel) rfl ?_
  refine iq_istore_n hS 10 J_M_read_d9 (by decide) rfl ?_
  obtain ⟨Q2, hQ2, h⟩ := bd1_ed h
  have K2 : ∀ (M3 : im_M) (L' : List (Nat × Value)), lw_S w M3 → im_lk L' 0 = some (.ref 69) → Q2 M3 → ia (tb_G L xs) (dep + 11) J_M_read (rwI w Q) (40, L', [], M3) := by
    intro M3 L' hM3 l4 h
    replace h := hQ2 _ h
    refine iq_aload_n hS 41 J_M_read_d40 l4 rfl ?_
    refine iq_getR hS 44 J_M_read_d41 lf_17_16 (Or.inl ⟨_, rfl⟩) (ka_69 hM3) (ra_69_3 hM3) rfl ?_
    obtain ⟨Q5, hQ5, h⟩ := bd2_ed h
    refine iq_cwI hS 47 J_M_read_d44 rfl (pr_inst (vs := []) lc_17_83 lT_280 rfl rfl (by decide) (by decide) rfl (Nat.le_of_ble_eq_true rfl) (Nat.le_of_ble_eq_true rfl) (fun _ => Or.inl (pr_b (ka_71 hM3) (by decide) rfl))) (f_MScriptRows_read_ok (dep := dep + 0) hM3 h) rfl ?_
    intro x5 M5 hM5 h
    replace h := hQ5 _ _ h
    refine iq_istore_n hS 48 J_M_read_d47 (by decide) rfl ?_
    refine iq_aload_n hS 49 J_M_read_d48 (lk_1r l4 (by decide)) rfl ?_
    refine iq_iload_n hS 50 J_M_read_d49 lk_1s rfl ?_
    have J6 : ∀ (z7 : Int32) (L' : List (Nat × Value)), z7 = ((if 0 ≤ x5 then 0 else (im_i M5 69 2)) : Int32) → im_lk L' 0 = some (.ref 69) → im_lk L' 2 = some (.int x5) → ia (tb_G L xs) (dep + 11) J_M_read (rwI w Q) (61, L', [.int z7, .ref 69], M5) := by
      intro z7 L' e8 l9 l10
      subst e8
      refine iq_putI hS 64 J_M_read_d61 lf_17_61 (Or.inl rfl) rfl (ka_69 hM5) rfl ?_
      refine iq_aload_n hS 65 J_M_read_d64 l9 rfl ?_
      refine iq_iconst hS 66 J_M_read_d65 (v := 0) (by decide +kernel) rfl ?_
      refine iq_putI hS 69 J_M_read_d66 lf_17_58 (Or.inl rfl) rfl (ka_69 (lw_sI hM5)) rfl ?_
      refine iq_iload_n hS 70 J_M_read_d69 l10 rfl ?_
      exact iq_iret J_M_read_d70 rfl rfl ⟨_, rfl, (lw_sI (lw_sI hM5)), ed_some h⟩
    refine iq_if_ge hS 53 J_M_read_d50 (t := 60) rfl (fun q50 => ?_) rfl (fun q50 => ?_)
    · refine iq_iconst hS 61 J_M_read_d60 (v := 0) (by decide +kernel) rfl ?_
      exact J6 _ _ (by simp only [if_pos q50]) (lk_1r l4 (by decide)) lk_1s
    · refine iq_aload_n hS 54 J_M_read_d53 (lk_1r l4 (by decide)) rfl ?_
      refine iq_getI hS 57 J_M_read_d54 lf_17_61 (Or.inl rfl) (ka_69 hM5) rfl ?_
      refine iq_goto hS J_M_read_d57 (t := 61) rfl ?_
      exact J6 _ _ (by simp only [if_neg q50]) (lk_1r l4 (by decide)) lk_1s
  obtain ⟨r2, hr2, hq2⟩ := h
  obtain ⟨n2, hn2⟩ := lp_n hr2
  have I2 : ∀ (n : Nat) (x11 : Int32) (M12 : im_M) (L' : List (Nat × Value)), lw_S w M12 → im_lk L' 0 = some (.ref 69) → im_lk L' 2 = some (.int x11) → lpn (uc2 (f_M_read_L10)) n (x11, M12) = some r2 → ia (tb_G L xs) (dep + 11) J_M_read (rwI w Q) (10, L', [], M12) := by
    intro n
    induction n with
    | zero => intro x11 M12 L' hM12 l13 l14 hn; exact (lpn_0 hn).elim
    | succ n ih =>
      intro x11 M12 L' hM12 l13 l14 hn
      have h := lpn_ed2 hn
      unfold f_M_read_L10 at h
      refine iq_iload_n hS 11 J_M_read_d10 l14 rfl ?_
      refine iq_aload_n hS 12 J_M_read_d11 l13 rfl ?_
      refine iq_getI hS 15 J_M_read_d12 lf_17_61 (Or.inl rfl) (ka_69 hM12) rfl ?_
      refine iq_icmp_ge hS 18 J_M_read_d15 (t := 40) rfl (fun q15 => ?_) rfl (fun q15 => ?_)
      · replace h := ed_pos q15 h
        exact K2 _ _ hM12 l13 (lq_r h hq2)
      · replace h := ed_neg q15 h
        refine iq_aload_n hS 19 J_M_read_d18 l13 rfl ?_
        refine iq_getR hS 22 J_M_read_d19 lf_17_16 (Or.inl ⟨_, rfl⟩) (ka_69 hM12) (ra_69_3 hM12) rfl ?_
        refine iq_iconst hS 23 J_M_read_d22 (v := 1) (by decide +kernel) rfl ?_
        refine iq_aload_n hS 24 J_M_read_d23 l13 rfl ?_
        refine iq_getR hS 27 J_M_read_d24 lf_17_7 (Or.inr ⟨_, rfl⟩) (ka_69 hM12) (ra_69_1 hM12) rfl ?_
        refine iq_iload_n hS 28 J_M_read_d27 l14 rfl ?_
        obtain ⟨g28, h⟩ := ed_gd h
        refine iq_iaload hS 29 J_M_read_d28 ⟨(ka_70 hM12).1, (ka_70 hM12).2, g28.1, ix_lt (kl_70 hM12) g28.2⟩ rfl ?_
        refine iq_i2l hS 30 J_M_read_d29 rfl ?_
        obtain ⟨Q15, hQ15, h⟩ := bd2_ed h
        refine iq_cwI hS 33 J_M_read_d30 rfl (pr_inst (vs := [_, _]) lc_17_79 lT_279 rfl rfl (by decide) (by decide) rfl (Nat.le_of_ble_eq_true rfl) (Nat.le_of_ble_eq_true rfl) (fun _ => Or.inl (pr_b (ka_71 hM12) (by decide) rfl))) (f_MScriptRows_write_ok (dep := dep + 10) hM12 h) rfl ?_
        intro x15 M15 hM15 h
        replace h := hQ15 _ _ h
        refine iq_istore_n hS 34 J_M_read_d33 (by decide) rfl ?_
        refine iq_iincv hS 37 J_M_read_d34 (c := 1) (by decide +kernel) (lk_1i l14 (by decide)) (by decide) rfl ?_
        refine iq_goto hS J_M_read_d37 (t := 10) rfl ?_
        exact ih _ _ _ hM15 (lk_1r (lk_1r l13 (by decide)) (by decide)) lk_1s (lq_l h)
  exact I2 n2 _ _ _ hM1 (lk_1r (lk_1r l0 (by decide)) (by decide)) lk_1s hn2
theorem f_M_read_fr {M : im_M} {r : Int32 × im_M} (h : f_M_read M = some r) : fr 618965297276207267804348416 [(69, 0), (69, 2), (71, 0), (71, 2), (71, 8), (71, 9), (71, 10), (71, 11), (71, 12), (71, 13), (71, 14), (71, 17), (71, 18), (71, 19), (71, 20), (71, 21), (71, 22), (71, 23), (71, 25), (71, 26), (71, 32), (71, 33), (71, 34), (71, 35), (71, 37)] M r.2 := by
  replace h : ed (f_M_read M) (fun x => x = r) := ⟨r, h, rfl⟩
  unfold f_M_read at h
  obtain ⟨Q1, hQ1, h⟩ := bd2_ed h
  obtain ⟨⟨x1, M1⟩, e1, h⟩ := h
  replace h := hQ1 _ _ h
  obtain ⟨Q2, hQ2, h⟩ := bd1_ed h
  have K2 : ∀ (M3 : im_M), fr 618965297276207267804348416 [(69, 0), (69, 2), (71, 0), (71, 2), (71, 8), (71, 9), (71, 10), (71, 11), (71, 12), (71, 13), (71, 14), (71, 17), (71, 18), (71, 19), (71, 20), (71, 21), (71, 22), (71, 23), (71, 25), (71, 26), (71, 32), (71, 33), (71, 34), (71, 35), (71, 37)] M M3 → Q2 M3 → fr 618965297276207267804348416 [(69, 0), (69, 2), (71, 0), (71, 2), (71, 8), (71, 9), (71, 10), (71, 11), (71, 12), (71, 13), (71, 14), (71, 17), (71, 18), (71, 19), (71, 20), (71, 21), (71, 22), (71, 23), (71, 25), (71, 26), (71, 32), (71, 33), (71, 34), (71, 35), (71, 37)] M r.2 := by
    intro M3 hM3 h
    replace h := hQ2 _ h
    obtain ⟨Q4, hQ4, h⟩ := bd2_ed h
    obtain ⟨⟨x4, M4⟩, e4, h⟩ := h
    replace h := hQ4 _ _ h
    exact fr_ret h (fr_F (by decide) (fr_F (by decide) (fr_tr (fr_mono (by decide) (by decide +kernel) (f_MScriptRows_read_fr e4)) hM3)))
  obtain ⟨r2, hr2, hq2⟩ := h
  obtain ⟨n2, hn2⟩ := lp_n hr2
  have I2 : ∀ (n : Nat) (x6 : Int32) (M7 : im_M), fr 618965297276207267804348416 [(69, 0), (69, 2), (71, 0), (71, 2), (71, 8), (71, 9), (71, 10), (71, 11), (71, 12), (71, 13), (71, 14), (71, 17), (71, 18), (71, 19), (71, 20), (71, 21), (71, 22), (71, 23), (71, 25), (71, 26), (71, 32), (71, 33), (71, 34), (71, 35), (71, 37)] M M7 → lpn (uc2 (f_M_read_L10)) n (x6, M7) = some r2 → fr 618965297276207267804348416 [(69, 0), (69, 2), (71, 0), (71, 2), (71, 8), (71, 9), (71, 10), (71, 11), (71, 12), (71, 13), (71, 14), (71, 17), (71, 18), (71, 19), (71, 20), (71, 21), (71, 22), (71, 23), (71, 25), (71, 26), (71, 32), (71, 33), (71, 34), (71, 35), (71, 37)] M r.2 := by
    intro n
    induction n with
    | zero => intro x6 M7 hM7 hn; exact (lpn_0 hn).elim
    | succ n ih =>
      intro x6 M7 hM7 hn
      have h := lpn_ed2 hn
      unfold f_M_read_L10 at h
      by_cases q15 : (im_i M7 69 2) ≤ x6
      · replace h := ed_pos q15 h
        exact K2 _ hM7 (lq_r h hq2)
      · replace h := ed_neg q15 h
        obtain ⟨g28, h⟩ := ed_gd h
        obtain ⟨Q8, hQ8, h⟩ := bd2_ed h
        obtain ⟨⟨x8, M8⟩, e8, h⟩ := h
        replace h := hQ8 _ _ h
        exact ih _ _ (fr_tr (fr_mono (by decide) (by decide +kernel) (f_MScriptRows_write_fr e8)) hM7) (lq_l h)
  exact I2 n2 _ _ (fr_tr (fr_mono (by decide) (by decide +kernel) (f_MScriptRows_wipe_fr e1)) fr_refl) hn2
noncomputable def f_MScriptRows_fault (M : im_M) : Option (Int32 × im_M) := some ((im_i (im_setI M 71 0 0) 71 13), (im_setI M 71 0 0))
theorem f_MScriptRows_fault_ok {L : Nat} {xs : Nat → Int32} {dep : Nat} {w : Bool} {M : im_M} {Q : Int32 × im_M → Prop} (hM : lw_S w M) (h : ed (f_MScriptRows_fault M) Q) : ia (tb_G L xs) dep J_MScriptRows_fault (rwI w Q) (0, lv_args 0 [.ref 71], [], M) := by
  have hS : im_St (tb_G L xs) dep J_MScriptRows_fault (ia (tb_G L xs) dep J_MScriptRows_fault (rwI w Q)) := ia_St
  unfold f_MScriptRows_fault at h
  have l0 : im_lk (lv_args 0 [.ref 71]) 0 = some (.ref 71) := rfl
  refine iq_aload_n hS 1 J_MScriptRows_fault_d0 l0 rfl ?_
  refine iq_iconst hS 2 J_MScriptRows_fault_d1 (v := 0) (by decide +kernel) rfl ?_
  refine iq_putI hS 5 J_MScriptRows_fault_d2 lf_15_65 (Or.inl rfl) rfl (ka_71 hM) rfl ?_
  refine iq_aload_n hS 6 J_MScriptRows_fault_d5 l0 rfl ?_
  refine iq_getI hS 9 J_MScriptRows_fault_d6 lf_15_249 (Or.inl rfl) (ka_71 (lw_sI hM)) rfl ?_
  exact iq_iret J_MScriptRows_fault_d9 rfl rfl ⟨_, rfl, (lw_sI hM), ed_some h⟩
theorem f_MScriptRows_fault_fr {M : im_M} {r : Int32 × im_M} (h : f_MScriptRows_fault M = some r) : fr 0 [(71, 0)] M r.2 := by
  replace h : ed (f_MScriptRows_fault M) (fun x => x = r) := ⟨r, h, rfl⟩
  unfold f_MScriptRows_fault at h
  exact fr_ret h (fr_F (by decide) fr_refl)
noncomputable def f_M_fault (M : im_M) : Option (Int32 × im_M) := bd2 (f_MScriptRows_fault (im_setI M 69 0 0)) fun (x1 : Int32) (M1 : im_M) => some (x1, M1)
theorem f_M_fault_ok {L : Nat} {xs : Nat → Int32} {dep : Nat} {w : Bool} {M : im_M} {Q : Int32 × im_M → Prop} (hM : lw_S w M) (h : ed (f_M_fault M) Q) : ia (tb_G L xs) (dep + 1) J_M_fault (rwI w Q) (0, lv_args 0 [.ref 69], [], M) := by
  have hS : im_St (tb_G L xs) (dep + 1) J_M_fault (ia (tb_G L xs) (dep + 1) J_M_fault (rwI w Q)) := ia_St
  unfold f_M_fault at h
  have l0 : im_lk (lv_args 0 [.ref 69]) 0 = some (.ref 69) := rfl
  refine iq_aload_n hS 1 J_M_fault_d0 l0 rfl ?_
  refine iq_iconst hS 2 J_M_fault_d1 (v := 0) (by decide +kernel) rfl ?_
  refine iq_putI hS 5 J_M_fault_d2 lf_17_58 (Or.inl rfl) rfl (ka_69 hM) rfl ?_
  refine iq_aload_n hS 6 J_M_fault_d5 l0 rfl ?_
  refine iq_getR hS 9 J_M_fault_d6 lf_17_16 (Or.inl ⟨_, rfl⟩) (ka_69 (lw_sI hM)) (ra_69_3 (lw_sI hM)) rfl ?_
  obtain ⟨Q1, hQ1, h⟩ := bd2_ed h
  refine iq_cwI hS 12 J_M_fault_d9 rfl (pr_inst (vs := []) lc_17_86 lT_320 rfl rfl (by decide) (by decide) rfl (Nat.le_of_ble_eq_true rfl) (Nat.le_of_ble_eq_true rfl) (fun _ => Or.inl (pr_b (ka_71 (lw_sI hM)) (by decide) rfl))) (f_MScriptRows_fault_ok (dep := dep + 0) (lw_sI hM) h) rfl ?_
  intro x1 M1 hM1 h
  replace h := hQ1 _ _ h
  exact iq_iret J_M_fault_d12 rfl rfl ⟨_, rfl, hM1, ed_some h⟩
theorem f_M_fault_fr {M : im_M} {r : Int32 × im_M} (h : f_M_fault M = some r) : fr 0 [(69, 0), (71, 0)] M r.2 := by
  replace h : ed (f_M_fault M) (fun x => x = r) := ⟨r, h, rfl⟩
  unfold f_M_fault at h
  obtain ⟨Q1, hQ1, h⟩ := bd2_ed h
  obtain ⟨⟨x1, M1⟩, e1, h⟩ := h
  replace h := hQ1 _ _ h
  exact fr_ret h (fr_tr (fr_mono (by decide) (by decide +kernel) (f_MScriptRows_fault_fr e1)) (fr_F (by decide) fr_refl))
noncomputable def f_MScriptRows_place (M : im_M) : Option (Int32 × im_M) := some ((im_i (im_setI M 71 0 0) 71 14), (im_setI M 71 0 0))
theorem f_MScriptRows_place_ok {L : Nat} {xs : Nat → Int32} {dep : Nat} {w : Bool} {M : im_M} {Q : Int32 × im_M → Prop} (hM : lw_S w M) (h : ed (f_MScriptRows_place M) Q) : ia (tb_G L xs) dep J_MScriptRows_place (rwI w Q) (0, lv_args 0 [.ref 71], [], M) := by
  have hS : im_St (tb_G L xs) dep J_MScriptRows_place (ia (tb_G L xs) dep J_MScriptRows_place (rwI w Q)) := ia_St
  unfold f_MScriptRows_place at h
  have l0 : im_lk (lv_args 0 [.ref 71]) 0 = some (.ref 71) := rfl
  refine iq_aload_n hS 1 J_MScriptRows_place_d0 l0 rfl ?_
  refine iq_iconst hS 2 J_MScriptRows_place_d1 (v := 0) (by decide +kernel) rfl ?_
  refine iq_putI hS 5 J_MScriptRows_place_d2 lf_15_65 (Or.inl rfl) rfl (ka_71 hM) rfl ?_
  refine iq_aload_n hS 6 J_MScriptRows_place_d5 l0 rfl ?_
  refine iq_getI hS 9 J_MScriptRows_place_d6 lf_15_28 (Or.inl rfl) (ka_71 (lw_sI hM)) rfl ?_
  exact iq_iret J_MScriptRows_place_d9 rfl rfl ⟨_, rfl, (lw_sI hM), ed_some h⟩
theorem f_MScriptRows_place_fr {M : im_M} {r : Int32 × im_M} (h : f_MScriptRows_place M = some r) : fr 0 [(71, 0)] M r.2 := by
  replace h : ed (f_MScriptRows_place M) (fun x => x = r) := ⟨r, h, rfl⟩
  unfold f_MScriptRows_place at h
  exact fr_ret h (fr_F (by decide) fr_refl)
noncomputable def f_M_place (M : im_M) : Option (Int32 × im_M) := bd2 (f_MScriptRows_place (im_setI M 69 0 0)) fun (x1 : Int32) (M1 : im_M) => some (x1, M1)
theorem f_M_place_ok {L : Nat} {xs : Nat → Int32} {dep : Nat} {w : Bool} {M : im_M} {Q : Int32 × im_M → Prop} (hM : lw_S w M) (h : ed (f_M_place M) Q) : ia (tb_G L xs) (dep + 1) J_M_place (rwI w Q) (0, lv_args 0 [.ref 69], [], M) := by
  have hS : im_St (tb_G L xs) (dep + 1) J_M_place (ia (tb_G L xs) (dep + 1) J_M_place (rwI w Q)) := ia_St
  unfold f_M_place at h
  have l0 : im_lk (lv_args 0 [.ref 69]) 0 = some (.ref 69) := rfl
  refine iq_aload_n hS 1 J_M_place_d0 l0 rfl ?_
  refine iq_iconst hS 2 J_M_place_d1 (v := 0) (by decide +kernel) rfl ?_
  refine iq_putI hS 5 J_M_place_d2 lf_17_58 (Or.inl rfl) rfl (ka_69 hM) rfl ?_
  refine iq_aload_n hS 6 J_M_place_d5 l0 rfl ?_
  refine iq_getR hS 9 J_M_place_d6 lf_17_16 (Or.inl ⟨_, rfl⟩) (ka_69 (lw_sI hM)) (ra_69_3 (lw_sI hM)) rfl ?_
  obtain ⟨Q1, hQ1, h⟩ := bd2_ed h
  refine iq_cwI hS 12 J_M_place_d9 rfl (pr_inst (vs := []) lc_17_89 lT_322 rfl rfl (by decide) (by decide) rfl (Nat.le_of_ble_eq_true rfl) (Nat.le_of_ble_eq_true rfl) (fun _ => Or.inl (pr_b (ka_71 (lw_sI hM)) (by decide) rfl))) (f_MScriptRows_place_ok (dep := dep + 0) (lw_sI hM) h) rfl ?_
  intro x1 M1 hM1 h
  replace h := hQ1 _ _ h
  exact iq_iret J_M_place_d12 rfl rfl ⟨_, rfl, hM1, ed_some h⟩
theorem f_M_place_fr {M : im_M} {r : Int32 × im_M} (h : f_M_place M = some r) : fr 0 [(69, 0), (71, 0)] M r.2 := by
  replace h : ed (f_M_place M) (fun x => x = r) := ⟨r, h, rfl⟩
  unfold f_M_place at h
  obtain ⟨Q1, hQ1, h⟩ := bd2_ed h
  obtain ⟨⟨x1, M1⟩, e1, h⟩ := h
  replace h := hQ1 _ _ h
  exact fr_ret h (fr_tr (fr_mono (by decide) (by decide +kernel) (f_MScriptRows_place_fr e1)) (fr_F (by decide) fr_refl))
noncomputable def f_MScriptRows_label (p0 : Int32) (p1 : Int32) (M : im_M) : Option (Int32 × im_M) := if (im_i (im_setI M 71 0 ((if p1 < 0 then 1 else (if p1 ≤ 3 then 0 else 1)) : Int32)) 71 0) ≤ 0 then jn0 (fun (_ : Unit) => some ((-1), (im_setI M 71 0 ((if p1 < 0 then 1 else (if p1 ≤ 3 then 0 else 1)) : Int32)))) fun k2 => if p0 < 0 then k2 () else if p0 < (im_i (im_setI M 71 0 ((if p1 < 0 then 1 else (if p1 ≤ 3 then 0 else 1)) : Int32)) 71 35) then gd (inb (((4 : Int32) * p0) + p1) 48) <| some ((im_i (im_setI M 71 0 ((if p1 < 0 then 1 else (if p1 ≤ 3 then 0 else 1)) : Int32)) 86 (Int32.toNatClampNeg (((4 : Int32) * p0) + p1))), (im_setI M 71 0 ((if p1 < 0 then 1 else (if p1 ≤ 3 then 0 else 1)) : Int32))) else k2 () else some (0, (im_setI M 71 0 ((if p1 < 0 then 1 else (if p1 ≤ 3 then 0 else 1)) : Int32)))
theorem J_MScriptRows_label_d0 : decode J_MScriptRows_label.2.1 0 = .ok (.aload_n 0, 1) := by decide +kernel
theorem J_MScriptRows_label_d1 : decode J_MScriptRows_label.2.1 1 = .ok (.iload_n 2, 1) := by decide +kernel
theorem J_MScriptRows_label_d2 : decode J_MScriptRows_label.2.1 2 = .ok (.ifCond .lt 8, 3) := by decide +kernel
theorem J_MScriptRows_label_d5 : decode J_MScriptRows_label.2.1 5 = .ok (.iload_n 2, 1) := by decide +kernel
theorem J_MScriptRows_label_d6 : decode J_MScriptRows_label.2.1 6 = .ok (.iconst 3, 1) := by decide +kernel
theorem J_MScriptRows_label_d7 : decode J_MScriptRows_label.2.1 7 = .ok (.if_icmp .le 7, 3) := by decide +kernel
theorem J_MScriptRows_label_d10 : decode J_MScriptRows_label.2.1 10 = .ok (.iconst 1, 1) := by decide +kernel
theorem J_MScriptRows_label_d11 : decode J_MScriptRows_label.2.1 11 = .ok (.goto 4, 3) := by decide +kernel
theorem J_MScriptRows_label_d14 : decode J_MScriptRows_label.2.1 14 = .ok (.iconst 0, 1) := by decide +kernel
theorem J_MScriptRows_label_d15 : decode J_MScriptRows_label.2.1 15 = .ok (.putfield 65, 3) := by decide +kernel
theorem J_MScriptRows_label_d18 : decode J_MScriptRows_label.2.1 18 = .ok (.aload_n 0, 1) := by decide +kernel
theorem J_MScriptRows_label_d19 : decode J_MScriptRows_label.2.1 19 = .ok (.getfield 65, 3) := by decide +kernel
theorem J_MScriptRows_label_d22 : decode J_MScriptRows_label.2.1 22 = .ok (.ifCond .le 5, 3) := by decide +kernel
theorem J_MScriptRows_label_d25 : decode J_MScriptRows_label.2.1 25 = .ok (.iconst 0, 1) := by decide +kernel
theorem J_MScriptRows_label_d26 : decode J_MScriptRows_label.2.1 26 = .ok (.ireturn, 1) := by decide +kernel
theorem J_MScriptRows_label_d27 : decode J_MScriptRows_label.2.1 27 = .ok (.iload_n 1, 1) := by decide +kernel
theorem J_MScriptRows_label_d28 : decode J_MScriptRows_label.2.1 28 = .ok (.ifCond .lt 11, 3) := by decide +kernel
theorem J_MScriptRows_label_d31 : decode J_MScriptRows_label.2.1 31 = .ok (.iload_n 1, 1) := by decide +kernel
theorem J_MScriptRows_label_d32 : decode J_MScriptRows_label.2.1 32 = .ok (.aload_n 0, 1) := by decide +kernel
theorem J_MScriptRows_label_d33 : decode J_MScriptRows_label.2.1 33 = .ok (.getfield 204, 3) := by decide +kernel
theorem J_MScriptRows_label_d36 : decode J_MScriptRows_label.2.1 36 = .ok (.if_icmp .lt 7, 3) := by decide +kernel
theorem J_MScriptRows_label_d39 : decode J_MScriptRows_label.2.1 39 = .ok (.iconst (-1), 1) := by decide +kernel
theorem J_MScriptRows_label_d40 : decode J_MScriptRows_label.2.1 40 = .ok (.goto 13, 3) := by decide +kernel
theorem J_MScriptRows_label_d43 : decode J_MScriptRows_label.2.1 43 = .ok (.aload_n 0, 1) := by decide +kernel
theorem J_MScriptRows_label_d44 : decode J_MScriptRows_label.2.1 44 = .ok (.getfield 56, 3) := by decide +kernel
theorem J_MScriptRows_label_d47 : decode J_MScriptRows_label.2.1 47 = .ok (.iconst 4, 1) := by decide +kernel
theorem J_MScriptRows_label_d48 : decode J_MScriptRows_label.2.1 48 = .ok (.iload_n 1, 1) := by decide +kernel
theorem J_MScriptRows_label_d49 : decode J_MScriptRows_label.2.1 49 = .ok (.imul, 1) := by decide +kernel
theorem J_MScriptRows_label_d50 : decode J_MScriptRows_label.2.1 50 = .ok (.iload_n 2, 1) := by decide +kernel
theorem J_MScriptRows_label_d51 : decode J_MScriptRows_label.2.1 51 = .ok (.iadd, 1) := by decide +kernel
theorem J_MScriptRows_label_d52 : decode J_MScriptRows_label.2.1 52 = .ok (.iaload, 1) := by decide +kernel
theorem J_MScriptRows_label_d53 : decode J_MScriptRows_label.2.1 53 = .ok (.ireturn, 1) := by decide +kernel
theorem f_MScriptRows_label_ok {L : Nat} {xs : Nat → Int32} {dep : Nat} {w : Bool} {p0 : Int32} {p1 : Int32} {M : im_M} {Q : Int32 × im_M → Prop} (hM : lw_S w M) (h : ed (f_MScriptRows_label p0 p1 M) Q) : ia (tb_G L xs) dep J_MScriptRows_label (rwI w Q) (0, lv_args 0 [.ref 71, .int p0, .int p1], [], M) := by
  have hS : im_St (tb_G L xs) dep J_MScriptRows_label (ia (tb_G L xs) dep J_MScriptRows_label (rwI w Q)) := ia_St
  unfold f_MScriptRows_label at h
  have l0 : im_lk (lv_args 0 [.ref 71, .int p0, .int p1]) 0 = some (.ref 71) := rfl
  have l1 : im_lk (lv_args 0 [.ref 71, .int p0, .int p1]) 1 = some (.int p0) := rfl
  have l2 : im_lk (lv_args 0 [.ref 71, .int p0, .int p1]) 2 = some (.int p1) := rfl
  refine iq_aload_n hS 1 J_MScriptRows_label_d0 l0 rfl ?_
  refine iq_iload_n hS 2 J_MScriptRows_label_d1 l2 rfl ?_
  have J1 : ∀ (z2 : Int32) (L' : List (Nat × Value)), z2 = ((if p1 < 0 then 1 else (if p1 ≤ 3 then 0 else 1)) : Int32) → im_lk L' 0 = some (.ref 71) → im_lk L' 1 = some (.int p0) → im_lk L' 2 = some (.int p1) → ia (tb_G L xs) dep J_MScriptRows_label (rwI w Q) (15, L', [.int z2, .ref 71], M) := by
    intro z2 L' e3 l4 l5 l6
    subst e3
    refine iq_putI hS 18 J_MScriptRows_label_d15 lf_15_65 (Or.inl rfl) rfl (ka_71 hM) rfl ?_
    refine iq_aload_n hS 19 J_MScriptRows_label_d18 l4 rfl ?_
    refine iq_getI hS 22 J_MScriptRows_label_d19 lf_15_65 (Or.inl rfl) (ka_71 (lw_sI hM)) rfl ?_
    refine iq_if_le hS 25 J_MScriptRows_label_d22 (t := 27) rfl (fun q22 => ?_) rfl (fun q22 => ?_)
    · replace h := ed_pos q22 h
      refine iq_iload_n hS 28 J_MScriptRows_label_d27 l5 rfl ?_
      obtain ⟨k7, Q7, hQ7, hk7, h⟩ := jn0_ed h
      have J7 : ∀  (L' : List (Nat × Value)), Q7 () → ia (tb_G L xs) dep J_MScriptRows_label (rwI w Q) (39, L', [], (im_setI M 71 0 ((if p1 < 0 then 1 else (if p1 ≤ 3 then 0 else 1)) : Int32))) := by
        intro  L'  h
        replace h := hQ7  h
        refine iq_iconst hS 40 J_MScriptRows_label_d39 (v := (-1)) (by decide +kernel) rfl ?_
        refine iq_goto hS J_MScriptRows_label_d40 (t := 53) rfl ?_
        exact iq_iret J_MScriptRows_label_d53 rfl rfl ⟨_, rfl, (lw_sI hM), ed_some h⟩
      refine iq_if_lt hS 31 J_MScriptRows_label_d28 (t := 39) rfl (fun q28 => ?_) rfl (fun q28 => ?_)
      · replace h := ed_pos q28 h
        exact J7  _  (hk7  h)
      · replace h := ed_neg q28 h
        refine iq_iload_n hS 32 J_MScriptRows_label_d31 l5 rfl ?_
        refine iq_aload_n hS 33 J_MScriptRows_label_d32 l4 rfl ?_
        refine iq_getI hS 36 J_MScriptRows_label_d33 lf_15_204 (Or.inl rfl) (ka_71 (lw_sI hM)) rfl ?_
        refine iq_icmp_lt hS 39 J_MScriptRows_label_d36 (t := 43) rfl (fun q36 => ?_) rfl (fun q36 => ?_)
        · replace h := ed_pos q36 h
          refine iq_aload_n hS 44 J_MScriptRows_label_d43 l4 rfl ?_
          refine iq_getR hS 47 J_MScriptRows_label_d44 lf_15_56 (Or.inr ⟨_, rfl⟩) (ka_71 (lw_sI hM)) (ra_71_36 (lw_sI hM)) rfl ?_
          refine iq_iconst hS 48 J_MScriptRows_label_d47 (v := 4) (by decide +kernel) rfl ?_
          refine iq_iload_n hS 49 J_MScriptRows_label_d48 l5 rfl ?_
          refine iq_imul hS 50 J_MScriptRows_label_d49 rfl ?_
          refine iq_iload_n hS 51 J_MScriptRows_label_d50 l6 rfl ?_
          refine iq_iadd hS 52 J_MScriptRows_label_d51 rfl ?_
          obtain ⟨g52, h⟩ := ed_gd h
          refine iq_iaload hS 53 J_MScriptRows_label_d52 ⟨(ka_86 (lw_sI hM)).1, (ka_86 (lw_sI hM)).2, g52.1, ix_lt (kl_86 (lw_sI hM)) g52.2⟩ rfl ?_
          exact iq_iret J_MScriptRows_label_d53 rfl rfl ⟨_, rfl, (lw_sI hM), ed_some h⟩
        · replace h := ed_neg q36 h
          exact J7  _  (hk7  h)
    · replace h := ed_neg q22 h
      refine iq_iconst hS 26 J_MScriptRows_label_d25 (v := 0) (by decide +kernel) rfl ?_
      exact iq_iret J_MScriptRows_label_d26 rfl rfl ⟨_, rfl, (lw_sI hM), ed_some h⟩
  refine iq_if_lt hS 5 J_MScriptRows_label_d2 (t := 10) rfl (fun q2 => ?_) rfl (fun q2 => ?_)
  · refine iq_iconst hS 11 J_MScriptRows_label_d10 (v := 1) (by decide +kernel) rfl ?_
    refine iq_goto hS J_MScriptRows_label_d11 (t := 15) rfl ?_
    exact J1 _ _ (by simp only [if_pos q2]) l0 l1 l2
  · refine iq_iload_n hS 6 J_MScriptRows_label_d5 l2 rfl ?_
    refine iq_iconst hS 7 J_MScriptRows_label_d6 (v := 3) (by decide +kernel) rfl ?_
    refine iq_icmp_le hS 10 J_MScriptRows_label_d7 (t := 14) rfl (fun q7 => ?_) rfl (fun q7 => ?_)
    · refine iq_iconst hS 15 J_MScriptRows_label_d14 (v := 0) (by decide +kernel) rfl ?_
      exact J1 _ _ (by simp only [if_neg q2, if_pos q7]) l0 l1 l2
    · refine iq_iconst hS 11 J_MScriptRows_label_d10 (v := 1) (by decide +kernel) rfl ?_
      refine iq_goto hS J_MScriptRows_label_d11 (t := 15) rfl ?_
      exact J1 _ _ (by simp only [if_neg q2, if_neg q7]) l0 l1 l2
theorem f_MScriptRows_label_fr {p0 : Int32} {p1 : Int32} {M : im_M} {r : Int32 × im_M} (h : f_MScriptRows_label p0 p1 M = some r) : fr 0 [(71, 0)] M r.2 := by
  replace h : ed (f_MScriptRows_label p0 p1 M) (fun x => x = r) := ⟨r, h, rfl⟩
  unfold f_MScriptRows_label at h
  by_cases q22 : (im_i (im_setI M 71 0 ((if p1 < 0 then 1 else (if p1 ≤ 3 then 0 else 1)) : Int32)) 71 0) ≤ 0
  · replace h := ed_pos q22 h
    obtain ⟨k2, Q2, hQ2, hk2, h⟩ := jn0_ed h
    have J2 : Q2 () → fr 0 [(71, 0)] M r.2 := by
      intro  h
      replace h := hQ2  h
      exact fr_ret h (fr_F (by decide) fr_refl)
    by_cases q28 : p0 < 0
    · replace h := ed_pos q28 h
      exact J2  (hk2  h)
    · replace h := ed_neg q28 h
      by_cases q36 : p0 < (im_i (im_setI M 71 0 ((if p1 < 0 then 1 else (if p1 ≤ 3 then 0 else 1)) : Int32)) 71 35)
      · replace h := ed_pos q36 h
        obtain ⟨g52, h⟩ := ed_gd h
        exact fr_ret h (fr_F (by decide) fr_refl)
      · replace h := ed_neg q36 h
        exact J2  (hk2  h)
  · replace h := ed_neg q22 h
    exact fr_ret h (fr_F (by decide) fr_refl)
noncomputable def f_MScriptRows_thrown (M : im_M) : Option (Int32) := some (im_i M 71 0)
theorem f_MScriptRows_thrown_ok {L : Nat} {xs : Nat → Int32} {dep : Nat} {w : Bool} {M : im_M} {Q : Int32 → Prop} (hM : lw_S w M) (h : ed (f_MScriptRows_thrown M) Q) : ia (tb_G L xs) dep J_MScriptRows_thrown (rpI M Q) (0, lv_args 0 [.ref 71], [], M) := by
  have hS : im_St (tb_G L xs) dep J_MScriptRows_thrown (ia (tb_G L xs) dep J_MScriptRows_thrown (rpI M Q)) := ia_St
  unfold f_MScriptRows_thrown at h
  have l0 : im_lk (lv_args 0 [.ref 71]) 0 = some (.ref 71) := rfl
  refine iq_aload_n hS 1 J_MScriptRows_thrown_d0 l0 rfl ?_
  refine iq_getI hS 4 J_MScriptRows_thrown_d1 lf_15_65 (Or.inl rfl) (ka_71 hM) rfl ?_
  exact iq_iret J_MScriptRows_thrown_d4 rfl rfl ⟨_, rfl, rfl, ed_some h⟩
noncomputable def f_M_label (p0 : Int32) (p1 : Int32) (M : im_M) : Option (Int32 × im_M) := bd2 (f_MScriptRows_label p0 p1 M) fun (x1 : Int32) (M1 : im_M) => bd1 (f_MScriptRows_thrown M1) fun (x2 : Int32) => some (x1, (im_setI M1 69 0 x2))
theorem J_M_label_d0 : decode J_M_label.2.1 0 = .ok (.aload_n 0, 1) := by decide +kernel
theorem J_M_label_d1 : decode J_M_label.2.1 1 = .ok (.getfield 16, 3) := by decide +kernel
theorem J_M_label_d4 : decode J_M_label.2.1 4 = .ok (.iload_n 1, 1) := by decide +kernel
theorem J_M_label_d5 : decode J_M_label.2.1 5 = .ok (.iload_n 2, 1) := by decide +kernel
theorem J_M_label_d6 : decode J_M_label.2.1 6 = .ok (.invokevirtual 92, 3) := by decide +kernel
theorem J_M_label_d9 : decode J_M_label.2.1 9 = .ok (.istore_n 3, 1) := by decide +kernel
theorem J_M_label_d10 : decode J_M_label.2.1 10 = .ok (.aload_n 0, 1) := by decide +kernel
theorem J_M_label_d11 : decode J_M_label.2.1 11 = .ok (.aload_n 0, 1) := by decide +kernel
theorem J_M_label_d12 : decode J_M_label.2.1 12 = .ok (.getfield 16, 3) := by decide +kernel
theorem J_M_label_d15 : decode J_M_label.2.1 15 = .ok (.invokevirtual 96, 3) := by decide +kernel
theorem J_M_label_d18 : decode J_M_label.2.1 18 = .ok (.putfield 58, 3) := by decide +kernel
theorem J_M_label_d21 : decode J_M_label.2.1 21 = .ok (.iload_n 3, 1) := by decide +kernel
theorem J_M_label_d22 : decode J_M_label.2.1 22 = .ok (.ireturn, 1) := by decide +kernel
theorem f_M_label_ok {L : Nat} {xs : Nat → Int32} {dep : Nat} {w : Bool} {p0 : Int32} {p1 : Int32} {M : im_M} {Q : Int32 × im_M → Prop} (hM : lw_S w M) (h : ed (f_M_label p0 p1 M) Q) : ia (tb_G L xs) (dep + 1) J_M_label (rwI w Q) (0, lv_args 0 [.ref 69, .int p0, .int p1], [], M) := by
  have hS : im_St (tb_G L xs) (dep + 1) J_M_label (ia (tb_G L xs) (dep + 1) J_M_label (rwI w Q)) := ia_St
  unfold f_M_label at h
  have l0 : im_lk (lv_args 0 [.ref 69, .int p0, .int p1]) 0 = some (.ref 69) := rfl
  have l1 : im_lk (lv_args 0 [.ref 69, .int p0, .int p1]) 1 = some (.int p0) := rfl
  have l2 : im_lk (lv_args 0 [.ref 69, .int p0, .int p1]) 2 = some (.int p1) := rfl
  refine iq_aload_n hS 1 J_M_label_d0 l0 rfl ?_
  refine iq_getR hS 4 J_M_label_d1 lf_17_16 (Or.inl ⟨_, rfl⟩) (ka_69 hM) (ra_69_3 hM) rfl ?_
  refine iq_iload_n hS 5 J_M_label_d4 l1 rfl ?_
  refine iq_iload_n hS 6 J_M_label_d5 l2 rfl ?_
  obtain ⟨Q1, hQ1, h⟩ := bd2_ed h
  refine iq_cwI hS 9 J_M_label_d6 rfl (pr_inst (vs := [_, _]) lc_17_92 lT_324 rfl rfl (by decide) (by decide) rfl (Nat.le_of_ble_eq_true rfl) (Nat.le_of_ble_eq_true rfl) (fun _ => Or.inl (pr_b (ka_71 hM) (by decide) rfl))) (f_MScriptRows_label_ok (dep := dep + 0) hM h) rfl ?_
  intro x1 M1 hM1 h
  replace h := hQ1 _ _ h
  refine iq_istore_n hS 10 J_M_label_d9 (by decide) rfl ?_
  refine iq_aload_n hS 11 J_M_label_d10 (lk_1r l0 (by decide)) rfl ?_
  refine iq_aload_n hS 12 J_M_label_d11 (lk_1r l0 (by decide)) rfl ?_
  refine iq_getR hS 15 J_M_label_d12 lf_17_16 (Or.inl ⟨_, rfl⟩) (ka_69 hM1) (ra_69_3 hM1) rfl ?_
  obtain ⟨Q2, hQ2, h⟩ := bd1_ed h
  refine iq_cpI hS 18 J_M_label_d15 rfl (pr_inst (vs := []) lc_17_96 lT_325 rfl rfl (by decide) (by decide) rfl (Nat.le_of_ble_eq_true rfl) (Nat.le_of_ble_eq_true rfl) (fun _ => Or.inl (pr_b (ka_71 hM1) (by decide) rfl))) (f_MScriptRows_thrown_ok (dep := dep + 0) hM1 h) rfl ?_
  intro x2 h
  replace h := hQ2 _ h
  refine iq_putI hS 21 J_M_label_d18 lf_17_58 (Or.inl rfl) rfl (ka_69 hM1) rfl ?_
  refine iq_iload_n hS 22 J_M_label_d21 lk_1s rfl ?_
  exact iq_iret J_M_label_d22 rfl rfl ⟨_, rfl, (lw_sI hM1), ed_some h⟩
theorem f_M_label_fr {p0 : Int32} {p1 : Int32} {M : im_M} {r : Int32 × im_M} (h : f_M_label p0 p1 M = some r) : fr 0 [(69, 0), (71, 0)] M r.2 := by
  replace h : ed (f_M_label p0 p1 M) (fun x => x = r) := ⟨r, h, rfl⟩
  unfold f_M_label at h
  obtain ⟨Q1, hQ1, h⟩ := bd2_ed h
  obtain ⟨⟨x1, M1⟩, e1, h⟩ := h
  replace h := hQ1 _ _ h
  obtain ⟨Q2, hQ2, h⟩ := bd1_ed h
  obtain ⟨x2, e2, h⟩ := h
  replace h := hQ2 _ h
  exact fr_ret h (fr_F (by decide) (fr_tr (fr_mono (by decide) (by decide +kernel) (f_MScriptRows_label_fr e1)) fr_refl))
noncomputable def f_MScriptRows_order (p0 : Int32) (p1 : Int32) (M : im_M) : Option (Int32 × im_M) := if (im_i (im_setI M 71 0 ((if p1 < 0 then 1 else (if p1 ≤ 8 then (if p0 < 0 then 2 else (if p0 < (im_i M 71 37) then 0 else 2)) else 1)) : Int32)) 71 0) ≤ 0 then gd (inb (((9 : Int32) * p0) + p1) 1080) <| some ((im_i (im_setI M 71 0 ((if p1 < 0 then 1 else (if p1 ≤ 8 then (if p0 < 0 then 2 else (if p0 < (im_i M 71 37) then 0 else 2)) else 1)) : Int32)) 87 (Int32.toNatClampNeg (((9 : Int32) * p0) + p1))), (im_setI M 71 0 ((if p1 < 0 then 1 else (if p1 ≤ 8 then (if p0 < 0 then 2 else (if p0 < (im_i M 71 37) then 0 else 2)) else 1)) : Int32))) else some (0, (im_setI M 71 0 ((if p1 < 0 then 1 else (if p1 ≤ 8 then (if p0 < 0 then 2 else (if p0 < (im_i M 71 37) then 0 else 2)) else 1)) : Int32)))
theorem J_MScriptRows_order_d0 : decode J_MScriptRows_order.2.1 0 = .ok (.aload_n 0, 1) := by decide +kernel
theorem J_MScriptRows_order_d1 : decode J_MScriptRows_order.2.1 1 = .ok (.iload_n 2, 1) := by decide +kernel
theorem J_MScriptRows_order_d2 : decode J_MScriptRows_order.2.1 2 = .ok (.ifCond .lt 9, 3) := by decide +kernel
theorem J_MScriptRows_order_d5 : decode J_MScriptRows_order.2.1 5 = .ok (.iload_n 2, 1) := by decide +kernel
theorem J_MScriptRows_order_d6 : decode J_MScriptRows_order.2.1 6 = .ok (.bipush 8, 2) := by decide +kernel
theorem J_MScriptRows_order_d8 : decode J_MScriptRows_order.2.1 8 = .ok (.if_icmp .le 7, 3) := by decide +kernel
theorem J_MScriptRows_order_d11 : decode J_MScriptRows_order.2.1 11 = .ok (.iconst 1, 1) := by decide +kernel
theorem J_MScriptRows_order_d12 : decode J_MScriptRows_order.2.1 12 = .ok (.goto 20, 3) := by decide +kernel
theorem J_MScriptRows_order_d15 : decode J_MScriptRows_order.2.1 15 = .ok (.iload_n 1, 1) := by decide +kernel
theorem J_MScriptRows_order_d16 : decode J_MScriptRows_order.2.1 16 = .ok (.ifCond .lt 11, 3) := by decide +kernel
theorem J_MScriptRows_order_d19 : decode J_MScriptRows_order.2.1 19 = .ok (.iload_n 1, 1) := by decide +kernel
theorem J_MScriptRows_order_d20 : decode J_MScriptRows_order.2.1 20 = .ok (.aload_n 0, 1) := by decide +kernel
theorem J_MScriptRows_order_d21 : decode J_MScriptRows_order.2.1 21 = .ok (.getfield 155, 3) := by decide +kernel
theorem J_MScriptRows_order_d24 : decode J_MScriptRows_order.2.1 24 = .ok (.if_icmp .lt 7, 3) := by decide +kernel
theorem J_MScriptRows_order_d27 : decode J_MScriptRows_order.2.1 27 = .ok (.iconst 2, 1) := by decide +kernel
theorem J_MScriptRows_order_d28 : decode J_MScriptRows_order.2.1 28 = .ok (.goto 4, 3) := by decide +kernel
theorem J_MScriptRows_order_d31 : decode J_MScriptRows_order.2.1 31 = .ok (.iconst 0, 1) := by decide +kernel
theorem J_MScriptRows_order_d32 : decode J_MScriptRows_order.2.1 32 = .ok (.putfield 65, 3) := by decide +kernel
theorem J_MScriptRows_order_d35 : decode J_MScriptRows_order.2.1 35 = .ok (.aload_n 0, 1) := by decide +kernel
theorem J_MScriptRows_order_d36 : decode J_MScriptRows_order.2.1 36 = .ok (.getfield 65, 3) := by decide +kernel
theorem J_MScriptRows_order_d39 : decode J_MScriptRows_order.2.1 39 = .ok (.ifCond .le 7, 3) := by decide +kernel
theorem J_MScriptRows_order_d42 : decode J_MScriptRows_order.2.1 42 = .ok (.iconst 0, 1) := by decide +kernel
theorem J_MScriptRows_order_d43 : decode J_MScriptRows_order.2.1 43 = .ok (.goto 14, 3) := by decide +kernel
theorem J_MScriptRows_order_d46 : decode J_MScriptRows_order.2.1 46 = .ok (.aload_n 0, 1) := by decide +kernel
theorem J_MScriptRows_order_d47 : decode J_MScriptRows_order.2.1 47 = .ok (.getfield 59, 3) := by decide +kernel
theorem J_MScriptRows_order_d50 : decode J_MScriptRows_order.2.1 50 = .ok (.bipush 9, 2) := by decide +kernel
theorem J_MScriptRows_order_d52 : decode J_MScriptRows_order.2.1 52 = .ok (.iload_n 1, 1) := by decide +kernel
theorem J_MScriptRows_order_d53 : decode J_MScriptRows_order.2.1 53 = .ok (.imul, 1) := by decide +kernel
theorem J_MScriptRows_order_d54 : decode J_MScriptRows_order.2.1 54 = .ok (.iload_n 2, 1) := by decide +kernel
theorem J_MScriptRows_order_d55 : decode J_MScriptRows_order.2.1 55 = .ok (.iadd, 1) := by decide +kernel
theorem J_MScriptRows_order_d56 : decode J_MScriptRows_order.2.1 56 = .ok (.iaload, 1) := by decide +kernel
theorem J_MScriptRows_order_d57 : decode J_MScriptRows_order.2.1 57 = .ok (.ireturn, 1) := by decide +kernel
theorem f_MScriptRows_order_ok {L : Nat} {xs : Nat → Int32} {dep : Nat} {w : Bool} {p0 : Int32} {p1 : Int32} {M : im_M} {Q : Int32 × im_M → Prop} (hM : lw_S w M) (h : ed (f_MScriptRows_order p0 p1 M) Q) : ia (tb_G L xs) dep J_MScriptRows_order (rwI w Q) (0, lv_args 0 [.ref 71, .int p0, .int p1], [], M) := by
  have hS : im_St (tb_G L xs) dep J_MScriptRows_order (ia (tb_G L xs) dep J_MScriptRows_order (rwI w Q)) := ia_St
  unfold f_MScriptRows_order at h
  have l0 : im_lk (lv_args 0 [.ref 71, .int p0, .int p1]) 0 = some (.ref 71) := rfl
  have l1 : im_lk (lv_args 0 [.ref 71, .int p0, .int p1]) 1 = some (.int p0) := rfl
  have l2 : im_lk (lv_args 0 [.ref 71, .int p0, .int p1]) 2 = some (.int p1) := rfl
  refine iq_aload_n hS 1 J_MScriptRows_order_d0 l0 rfl ?_
  refine iq_iload_n hS 2 J_MScriptRows_order_d1 l2 rfl ?_
  have J1 : ∀ (z2 : Int32) (L' : List (Nat × Value)), z2 = ((if p1 < 0 then 1 else (if p1 ≤ 8 then (if p0 < 0 then 2 else (if p0 < (im_i M 71 37) then 0 else 2)) else 1)) : Int32) → im_lk L' 0 = some (.ref 71) → im_lk L' 1 = some (.int p0) → im_lk L' 2 = some (.int p1) → ia (tb_G L xs) dep J_MScriptRows_order (rwI w Q) (32, L', [.int z2, .ref 71], M) := by
    intro z2 L' e3 l4 l5 l6
    subst e3
    refine iq_putI hS 35 J_MScriptRows_order_d32 lf_15_65 (Or.inl rfl) rfl (ka_71 hM) rfl ?_
    refine iq_aload_n hS 36 J_MScriptRows_order_d35 l4 rfl ?_
    refine iq_getI hS 39 J_MScriptRows_order_d36 lf_15_65 (Or.inl rfl) (ka_71 (lw_sI hM)) rfl ?_
    refine iq_if_le hS 42 J_MScriptRows_order_d39 (t := 46) rfl (fun q39 => ?_) rfl (fun q39 => ?_)
    · replace h := ed_pos q39 h
      refine iq_aload_n hS 47 J_MScriptRows_order_d46 l4 rfl ?_
      refine iq_getR hS 50 J_MScriptRows_order_d47 lf_15_59 (Or.inr ⟨_, rfl⟩) (ka_71 (lw_sI hM)) (ra_71_38 (lw_sI hM)) rfl ?_
      refine iq_bipush hS 52 J_MScriptRows_order_d50 (v := 9) (by decide +kernel) rfl ?_
      refine iq_iload_n hS 53 J_MScriptRows_order_d52 l5 rfl ?_
      refine iq_imul hS 54 J_MScriptRows_order_d53 rfl ?_
      refine iq_iload_n hS 55 J_MScriptRows_order_d54 l6 rfl ?_
      refine iq_iadd hS 56 J_MScriptRows_order_d55 rfl ?_
      obtain ⟨g56, h⟩ := ed_gd h
      refine iq_iaload hS 57 J_MScriptRows_order_d56 ⟨(ka_87 (lw_sI hM)).1, (ka_87 (lw_sI hM)).2, g56.1, ix_lt (kl_87 (lw_sI hM)) g56.2⟩ rfl ?_
      exact iq_iret J_MScriptRows_order_d57 rfl rfl ⟨_, rfl, (lw_sI hM), ed_some h⟩
    · replace h := ed_neg q39 h
      refine iq_iconst hS 43 J_MScriptRows_order_d42 (v := 0) (by decide +kernel) rfl ?_
      refine iq_goto hS J_MScriptRows_order_d43 (t := 57) rfl ?_
      exact iq_iret J_MScriptRows_order_d57 rfl rfl ⟨_, rfl, (lw_sI hM), ed_some h⟩
  refine iq_if_lt hS 5 J_MScriptRows_order_d2 (t := 11) rfl (fun q2 => ?_) rfl (fun q2 => ?_)
  · refine iq_iconst hS 12 J_MScriptRows_order_d11 (v := 1) (by decide +kernel) rfl ?_
    refine iq_goto hS J_MScriptRows_order_d12 (t := 32) rfl ?_
    exact J1 _ _ (by simp only [if_pos q2]) l0 l1 l2
  · refine iq_iload_n hS 6 J_MScriptRows_order_d5 l2 rfl ?_
    refine iq_bipush hS 8 J_MScriptRows_order_d6 (v := 8) (by decide +kernel) rfl ?_
    refine iq_icmp_le hS 11 J_MScriptRows_order_d8 (t := 15) rfl (fun q8 => ?_) rfl (fun q8 => ?_)
    · refine iq_iload_n hS 16 J_MScriptRows_order_d15 l1 rfl ?_
      refine iq_if_lt hS 19 J_MScriptRows_order_d16 (t := 27) rfl (fun q16 => ?_) rfl (fun q16 => ?_)
      · refine iq_iconst hS 28 J_MScriptRows_order_d27 (v := 2) (by decide +kernel) rfl ?_
        refine iq_goto hS J_MScriptRows_order_d28 (t := 32) rfl ?_
        exact J1 _ _ (by simp only [if_neg q2, if_pos q8, if_pos q16]) l0 l1 l2
      · refine iq_iload_n hS 20 J_MScriptRows_order_d19 l1 rfl ?_
        refine iq_aload_n hS 21 J_MScriptRows_order_d20 l0 rfl ?_
        refine iq_getI hS 24 J_MScriptRows_order_d21 lf_15_155 (Or.inl rfl) (ka_71 hM) rfl ?_
        refine iq_icmp_lt hS 27 J_MScriptRows_order_d24 (t := 31) rfl (fun q24 => ?_) rfl (fun q24 => ?_)
        · refine iq_iconst hS 32 J_MScriptRows_order_d31 (v := 0) (by decide +kernel) rfl ?_
          exact J1 _ _ (by simp only [if_neg q2, if_pos q8, if_neg q16, if_pos q24]) l0 l1 l2
        · refine iq_iconst hS 28 J_MScriptRows_order_d27 (v := 2) (by decide +kernel) rfl ?_
          refine iq_goto hS J_MScriptRows_order_d28 (t := 32) rfl ?_
          exact J1 _ _ (by simp only [if_neg q2, if_pos q8, if_neg q16, if_neg q24]) l0 l1 l2
    · refine iq_iconst hS 12 J_MScriptRows_order_d11 (v := 1) (by decide +kernel) rfl ?_
      refine iq_goto hS J_MScriptRows_order_d12 (t := 32) rfl ?_
      exact J1 _ _ (by simp only [if_neg q2, if_neg q8]) l0 l1 l2
theorem f_MScriptRows_order_fr {p0 : Int32} {p1 : Int32} {M : im_M} {r : Int32 × im_M} (h : f_MScriptRows_order p0 p1 M = some r) : fr 0 [(71, 0)] M r.2 := by
  replace h : ed (f_MScriptRows_order p0 p1 M) (fun x => x = r) := ⟨r, h, rfl⟩
  unfold f_MScriptRows_order at h
  by_cases q39 : (im_i (im_setI M 71 0 ((if p1 < 0 then 1 else (if p1 ≤ 8 then (if p0 < 0 then 2 else (if p0 < (im_i M 71 37) then 0 else 2)) else 1)) : Int32)) 71 0) ≤ 0
  · replace h := ed_pos q39 h
    obtain ⟨g56, h⟩ := ed_gd h
    exact fr_ret h (fr_F (by decide) fr_refl)
  · replace h := ed_neg q39 h
    exact fr_ret h (fr_F (by decide) fr_refl)
noncomputable def f_M_order (p0 : Int32) (p1 : Int32) (M : im_M) : Option (Int32 × im_M) := bd2 (f_MScriptRows_order p0 p1 M) fun (x1 : Int32) (M1 : im_M) => bd1 (f_MScriptRows_thrown M1) fun (x2 : Int32) => some (x1, (im_setI M1 69 0 x2))
theorem J_M_order_d0 : decode J_M_order.2.1 0 = .ok (.aload_n 0, 1) := by decide +kernel
theorem J_M_order_d1 : decode J_M_order.2.1 1 = .ok (.getfield 16, 3) := by decide +kernel
theorem J_M_order_d4 : decode J_M_order.2.1 4 = .ok (.iload_n 1, 1) := by decide +kernel
theorem J_M_order_d5 : decode J_M_order.2.1 5 = .ok (.iload_n 2, 1) := by decide +kernel
theorem J_M_order_d6 : decode J_M_order.2.1 6 = .ok (.invokevirtual 97, 3) := by decide +kernel
theorem J_M_order_d9 : decode J_M_order.2.1 9 = .ok (.istore_n 3, 1) := by decide +kernel
theorem J_M_order_d10 : decode J_M_order.2.1 10 = .ok (.aload_n 0, 1) := by decide +kernel
theorem J_M_order_d11 : decode J_M_order.2.1 11 = .ok (.aload_n 0, 1) := by decide +kernel
theorem J_M_order_d12 : decode J_M_order.2.1 12 = .ok (.getfield 16, 3) := by decide +kernel
theorem J_M_order_d15 : decode J_M_order.2.1 15 = .ok (.invokevirtual 96, 3) := by decide +kernel
theorem J_M_order_d18 : decode J_M_order.2.1 18 = .ok (.putfield 58, 3) := by decide +kernel
theorem J_M_order_d21 : decode J_M_order.2.1 21 = .ok (.iload_n 3, 1) := by decide +kernel
theorem J_M_order_d22 : decode J_M_order.2.1 22 = .ok (.ireturn, 1) := by decide +kernel
theorem f_M_order_ok {L : Nat} {xs : Nat → Int32} {dep : Nat} {w : Bool} {p0 : Int32} {p1 : Int32} {M : im_M} {Q : Int32 × im_M → Prop} (hM : lw_S w M) (h : ed (f_M_order p0 p1 M) Q) : ia (tb_G L xs) (dep + 1) J_M_order (rwI w Q) (0, lv_args 0 [.ref 69, .int p0, .int p1], [], M) := by
  have hS : im_St (tb_G L xs) (dep + 1) J_M_order (ia (tb_G L xs) (dep + 1) J_M_order (rwI w Q)) := ia_St
  unfold f_M_order at h
  have l0 : im_lk (lv_args 0 [.ref 69, .int p0, .int p1]) 0 = some (.ref 69) := rfl
  have l1 : im_lk (lv_args 0 [.ref 69, .int p0, .int p1]) 1 = some (.int p0) := rfl
  have l2 : im_lk (lv_args 0 [.ref 69, .int p0, .int p1]) 2 = some (.int p1) := rfl
  refine iq_aload_n hS 1 J_M_order_d0 l0 rfl ?_
  refine iq_getR hS 4 J_M_order_d1 lf_17_16 (Or.inl ⟨_, rfl⟩) (ka_69 hM) (ra_69_3 hM) rfl ?_
  refine iq_iload_n hS 5 J_M_order_d4 l1 rfl ?_
  refine iq_iload_n hS 6 J_M_order_d5 l2 rfl ?_
  obtain ⟨Q1, hQ1, h⟩ := bd2_ed h
  refine iq_cwI hS 9 J_M_order_d6 rfl (pr_inst (vs := [_, _]) lc_17_97 lT_327 rfl rfl (by decide) (by decide) rfl (Nat.le_of_ble_eq_true rfl) (Nat.le_of_ble_eq_true rfl) (fun _ => Or.inl (pr_b (ka_71 hM) (by decide) rfl))) (f_MScriptRows_order_ok (dep := dep + 0) hM h) rfl ?_
  intro x1 M1 hM1 h
  replace h := hQ1 _ _ h
  refine iq_istore_n hS 10 J_M_order_d9 (by decide) rfl ?_
  refine iq_aload_n hS 11 J_M_order_d10 (lk_1r l0 (by decide)) rfl ?_
  refine iq_aload_n hS 12 J_M_order_d11 (lk_1r l0 (by decide)) rfl ?_
  refine iq_getR hS 15 J_M_order_d12 lf_17_16 (Or.inl ⟨_, rfl⟩) (ka_69 hM1) (ra_69_3 hM1) rfl ?_
  obtain ⟨Q2, hQ2, h⟩ := bd1_ed h
  refine iq_cpI hS 18 J_M_order_d15 rfl (pr_inst (vs := []) lc_17_96 lT_325 rfl rfl (by decide) (by decide) rfl (Nat.le_of_ble_eq_true rfl) (Nat.le_of_ble_eq_true rfl) (fun _ => Or.inl (pr_b (ka_71 hM1) (by decide) rfl))) (f_MScriptRows_thrown_ok (dep := dep + 0) hM1 h) rfl ?_
  intro x2 h
  replace h := hQ2 _ h
  refine iq_putI hS 21 J_M_order_d18 lf_17_58 (Or.inl rfl) rfl (ka_69 hM1) rfl ?_
  refine iq_iload_n hS 22 J_M_order_d21 lk_1s rfl ?_
  exact iq_iret J_M_order_d22 rfl rfl ⟨_, rfl, (lw_sI hM1), ed_some h⟩
theorem f_M_order_fr {p0 : Int32} {p1 : Int32} {M : im_M} {r : Int32 × im_M} (h : f_M_order p0 p1 M = some r) : fr 0 [(69, 0), (71, 0)] M r.2 := by
  replace h : ed (f_M_order p0 p1 M) (fun x => x = r) := ⟨r, h, rfl⟩
  unfold f_M_order at h
  obtain ⟨Q1, hQ1, h⟩ := bd2_ed h
  obtain ⟨⟨x1, M1⟩, e1, h⟩ := h
  replace h := hQ1 _ _ h
  obtain ⟨Q2, hQ2, h⟩ := bd1_ed h
  obtain ⟨x2, e2, h⟩ := h
  replace h := hQ2 _ h
  exact fr_ret h (fr_F (by decide) (fr_tr (fr_mono (by decide) (by decide +kernel) (f_MScriptRows_order_fr e1)) fr_refl))
noncomputable def f_MScriptRows_data_L26 (v3 : Int32) (v4 : Int32) (M7 : im_M) (x5 : Int64) (x6 : Int32) : Option ((Int64 × Int32) ⊕ (Int64)) := if 8 ≤ x6 then some (.inr x5) else if ¬ (im_i M7 71 0) = 0 then some (.inr x5) else bd1 (if (lg_cmp ((Int32.toInt64 v4) + (Int32.toInt64 x6)) 0) < 0 then some x5 else gd (inb (((9 : Int32) * v3) + 8) 1080) <| if 0 ≤ (lg_cmp ((Int32.toInt64 v4) + (Int32.toInt64 x6)) (Int32.toInt64 (im_i M7 87 (Int32.toNatClampNeg (((9 : Int32) * v3) + 8))))) then some x5 else gd (inb (((200 : Int32) * v3) + (Int64.toInt32 ((Int32.toInt64 v4) + (Int32.toInt64 x6)))) 24000) <| some (x5 ||| ((Int32.toInt64 (im_i M7 88 (Int32.toNatClampNeg (((200 : Int32) * v3) + (Int64.toInt32 ((Int32.toInt64 v4) + (Int32.toInt64 x6))))))) <<< (Int32.toInt64 ((8 : Int32) * x6) &&& 63) : Int64))) fun (y9 : Int64) => some (.inl (y9, (x6 + 1)))
noncomputable def f_MScriptRows_data (p0 : Int32) (p1 : Int32) (M : im_M) : Option (Int64 × im_M) := bd1 (lp (uc2 (f_MScriptRows_data_L26 p0 p1 (im_setI M 71 0 ((if p0 < 0 then 1 else (if p0 < (im_i M 71 37) then 0 else 1)) : Int32)))) (0, 0)) fun (y15 : Int64) => some (y15, (im_setI M 71 0 ((if p0 < 0 then 1 else (if p0 < (im_i M 71 37) then 0 else 1)) : Int32)))
theorem J_MScriptRows_data_d0 : decode J_MScriptRows_data.2.1 0 = .ok (.aload_n 0, 1) := by decide +kernel
theorem J_MScriptRows_data_d1 : decode J_MScriptRows_data.2.1 1 = .ok (.iload_n 1, 1) := by decide +kernel
theorem J_MScriptRows_data_d2 : decode J_MScriptRows_data.2.1 2 = .ok (.ifCond .lt 11, 3) := by decide +kernel
theorem J_MScriptRows_data_d5 : decode J_MScriptRows_data.2.1 5 = .ok (.iload_n 1, 1) := by decide +kernel
theorem J_MScriptRows_data_d6 : decode J_MScriptRows_data.2.1 6 = .ok (.aload_n 0, 1) := by decide +kernel
theorem J_MScriptRows_data_d7 : decode J_MScriptRows_data.2.1 7 = .ok (.getfield 155, 3) := by decide +kernel
theorem J_MScriptRows_data_d10 : decode J_MScriptRows_data.2.1 10 = .ok (.if_icmp .lt 7, 3) := by decide +kernel
theorem J_MScriptRows_data_d13 : decode J_MScriptRows_data.2.1 13 = .ok (.iconst 1, 1) := by decide +kernel
theorem J_MScriptRows_data_d14 : decode J_MScriptRows_data.2.1 14 = .ok (.goto 4, 3) := by decide +kernel
theorem J_MScriptRows_data_d17 : decode J_MScriptRows_data.2.1 17 = .ok (.iconst 0, 1) := by decide +kernel
theorem J_MScriptRows_data_d18 : decode J_MScriptRows_data.2.1 18 = .ok (.putfield 65, 3) := by decide +kernel
theorem J_MScriptRows_data_d21 : decode J_MScriptRows_data.2.1 21 = .ok (.lconst 0, 1) := by decide +kernel
theorem J_MScriptRows_data_d22 : decode J_MScriptRows_data.2.1 22 = .ok (.lstore_n 3, 1) := by decide +kernel
theorem J_MScriptRows_data_d23 : decode J_MScriptRows_data.2.1 23 = .ok (.iconst 0, 1) := by decide +kernel
theorem J_MScriptRows_data_d24 : decode J_MScriptRows_data.2.1 24 = .ok (.istore 5, 2) := by decide +kernel
theorem J_MScriptRows_data_d26 : decode J_MScriptRows_data.2.1 26 = .ok (.iload 5, 2) := by decide +kernel
theorem J_MScriptRows_data_d28 : decode J_MScriptRows_data.2.1 28 = .ok (.bipush 8, 2) := by decide +kernel
theorem J_MScriptRows_data_d30 : decode J_MScriptRows_data.2.1 30 = .ok (.if_icmp .ge 74, 3) := by decide +kernel
theorem J_MScriptRows_data_d33 : decode J_MScriptRows_data.2.1 33 = .ok (.aload_n 0, 1) := by decide +kernel
theorem J_MScriptRows_data_d34 : decode J_MScriptRows_data.2.1 34 = .ok (.getfield 65, 3) := by decide +kernel
theorem J_MScriptRows_data_d37 : decode J_MScriptRows_data.2.1 37 = .ok (.ifCond .ne 67, 3) := by decide +kernel
theorem J_MScriptRows_data_d40 : decode J_MScriptRows_data.2.1 40 = .ok (.iload_n 2, 1) := by decide +kernel
theorem J_MScriptRows_data_d41 : decode J_MScriptRows_data.2.1 41 = .ok (.i2l, 1) := by decide +kernel
theorem J_MScriptRows_data_d42 : decode J_MScriptRows_data.2.1 42 = .ok (.iload 5, 2) := by decide +kernel
theorem J_MScriptRows_data_d44 : decode J_MScriptRows_data.2.1 44 = .ok (.i2l, 1) := by decide +kernel
theorem J_MScriptRows_data_d45 : decode J_MScriptRows_data.2.1 45 = .ok (.ladd, 1) := by decide +kernel
theorem J_MScriptRows_data_d46 : decode J_MScriptRows_data.2.1 46 = .ok (.lstore 6, 2) := by decide +kernel
theorem J_MScriptRows_data_d48 : decode J_MScriptRows_data.2.1 48 = .ok (.lload 6, 2) := by decide +kernel
theorem J_MScriptRows_data_d50 : decode J_MScriptRows_data.2.1 50 = .ok (.lconst 0, 1) := by decide +kernel
theorem J_MScriptRows_data_d51 : decode J_MScriptRows_data.2.1 51 = .ok (.lcmp, 1) := by decide +kernel
theorem J_MScriptRows_data_d52 : decode J_MScriptRows_data.2.1 52 = .ok (.ifCond .lt 46, 3) := by decide +kernel
theorem J_MScriptRows_data_d55 : decode J_MScriptRows_data.2.1 55 = .ok (.lload 6, 2) := by decide +kernel
theorem J_MScriptRows_data_d57 : decode J_MScriptRows_data.2.1 57 = .ok (.aload_n 0, 1) := by decide +kernel
theorem J_MScriptRows_data_d58 : decode J_MScriptRows_data.2.1 58 = .ok (.getfield 59, 3) := by decide +kernel
theorem J_MScriptRows_data_d61 : decode J_MScriptRows_data.2.1 61 = .ok (.bipush 9, 2) := by decide +kernel
theorem J_MScriptRows_data_d63 : decode J_MScriptRows_data.2.1 63 = .ok (.iload_n 1, 1) := by decide +kernel
theorem J_MScriptRows_data_d64 : decode J_MScriptRows_data.2.1 64 = .ok (.imul, 1) := by decide +kernel
theorem J_MScriptRows_data_d65 : decode J_MScriptRows_data.2.1 65 = .ok (.bipush 8, 2) := by decide +kernel
theorem J_MScriptRows_data_d67 : decode J_MScriptRows_data.2.1 67 = .ok (.iadd, 1) := by decide +kernel
theorem J_MScriptRows_data_d68 : decode J_MScriptRows_data.2.1 68 = .ok (.iaload, 1) := by decide +kernel
theorem J_MScriptRows_data_d69 : decode J_MScriptRows_data.2.1 69 = .ok (.i2l, 1) := by decide +kernel
theorem J_MScriptRows_data_d70 : decode J_MScriptRows_data.2.1 70 = .ok (.lcmp, 1) := by decide +kernel
theorem J_MScriptRows_data_d71 : decode J_MScriptRows_data.2.1 71 = .ok (.ifCond .ge 27, 3) := by decide +kernel
theorem J_MScriptRows_data_d74 : decode J_MScriptRows_data.2.1 74 = .ok (.lload_n 3, 1) := by decide +kernel
theorem J_MScriptRows_data_d75 : decode J_MScriptRows_data.2.1 75 = .ok (.aload_n 0, 1) := by decide +kernel
theorem J_MScriptRows_data_d76 : decode J_MScriptRows_data.2.1 76 = .ok (.getfield 62, 3) := by decide +kernel
theorem J_MScriptRows_data_d79 : decode J_MScriptRows_data.2.1 79 = .ok (.sipush 200, 3) := by decide +kernel
theorem J_MScriptRows_data_d82 : decode J_MScriptRows_data.2.1 82 = .ok (.iload_n 1, 1) := by decide +kernel
theorem J_MScriptRows_data_d83 : decode J_MScriptRows_data.2.1 83 = .ok (.imul, 1) := by decide +kernel
theorem J_MScriptRows_data_d84 : decode J_MScriptRows_data.2.1 84 = .ok (.lload 6, 2) := by decide +kernel
theorem J_MScriptRows_data_d86 : decode J_MScriptRows_data.2.1 86 = .ok (.l2i, 1) := by decide +kernel
theorem J_MScriptRows_data_d87 : decode J_MScriptRows_data.2.1 87 = .ok (.iadd, 1) := by decide +kernel
theorem J_MScriptRows_data_d88 : decode J_MScriptRows_data.2.1 88 = .ok (.iaload, 1) := by decide +kernel
theorem J_MScriptRows_data_d89 : decode J_MScriptRows_data.2.1 89 = .ok (.i2l, 1) := by decide +kernel
theorem J_MScriptRows_data_d90 : decode J_MScriptRows_data.2.1 90 = .ok (.bipush 8, 2) := by decide +kernel
theorem J_MScriptRows_data_d92 : decode J_MScriptRows_data.2.1 92 = .ok (.iload 5, 2) := by decide +kernel
theorem J_MScriptRows_data_d94 : decode J_MScriptRows_data.2.1 94 = .ok (.imul, 1) := by decide +kernel
theorem J_MScriptRows_data_d95 : decode J_MScriptRows_data.2.1 95 = .ok (.lshl, 1) := by decide +kernel
theorem J_MScriptRows_data_d96 : decode J_MScriptRows_data.2.1 96 = .ok (.lor, 1) := by decide +kernel
theorem J_MScriptRows_data_d97 : decode J_MScriptRows_data.2.1 97 = .ok (.lstore_n 3, 1) := by decide +kernel
theorem J_MScriptRows_data_d98 : decode J_MScriptRows_data.2.1 98 = .ok (.iinc 5 1, 3) := by decide +kernel
theorem J_MScriptRows_data_d101 : decode J_MScriptRows_data.2.1 101 = .ok (.goto (-75), 3) := by decide +kernel
theorem J_MScriptRows_data_d104 : decode J_MScriptRows_data.2.1 104 = .ok (.lload_n 3, 1) := by decide +kernel
theorem J_MScriptRows_data_d105 : decode J_MScriptRows_data.2.1 105 = .ok (.lreturn, 1) := by decide +kernel
theorem f_MScriptRows_data_ok {L : Nat} {xs : Nat → Int32} {dep : Nat} {w : Bool} {p0 : Int32} {p1 : Int32} {M : im_M} {Q : Int64 × im_M → Prop} (hM : lw_S w M) (h : ed (f_MScriptRows_data p0 p1 M) Q) : ia (tb_G L xs) dep J_MScriptRows_data (rwL w Q) (0, lv_args 0 [.ref 71, .int p0, .int p1], [], M) := by
  have hS : im_St (tb_G L xs) dep J_MScriptRows_data (ia (tb_G L xs) dep J_MScriptRows_data (rwL w Q)) := ia_St
  unfold f_MScriptRows_data at h
  have l0 : im_lk (lv_args 0 [.ref 71, .int p0, .int p1]) 0 = some (.ref 71) := rfl
  have l1 : im_lk (lv_args 0 [.ref 71, .int p0, .int p1]) 1 = some (.int p0) := rfl
  have l2 : im_lk (lv_args 0 [.ref 71, .int p0, .int p1]) 2 = some (.int p1) := rfl
  refine iq_aload_n hS 1 J_MScriptRows_data_d0 l0 rfl ?_
  refine iq_iload_n hS 2 J_MScriptRows_data_d1 l1 rfl ?_
  have J1 : ∀ (z2 : Int32) (L' : List (Nat × Value)), z2 = ((if p0 < 0 then 1 else (if p0 < (im_i M 71 37) then 0 else 1)) : Int32) → im_lk L' 0 = some (.ref 71) → im_lk L' 1 = some (.int p0) → im_lk L' 2 = some (.int p1) → ia (tb_G L xs) dep J_MScriptRows_data (rwL w Q) (18, L', [.int z2, .ref 71], M) := by
    intro z2 L' e3 l4 l5 l6
    subst e3
    refine iq_putI hS 21 J_MScriptRows_data_d18 lf_15_65 (Or.inl rfl) rfl (ka_71 hM) rfl ?_
    refine iq_lconst hS 22 J_MScriptRows_data_d21 (v := 0) (by decide +kernel) rfl ?_
    refine iq_lstore_n hS 23 J_MScriptRows_data_d22 (by decide) rfl ?_
    refine iq_iconst hS 24 J_MScriptRows_data_d23 (v := 0) (by decide +kernel) rfl ?_
    refine iq_istore hS 26 J_MScriptRows_data_d24 (by decide) rfl ?_
    obtain ⟨Q7, hQ7, h⟩ := bd1_ed h
    have K7 : ∀ (y8 : Int64) (L' : List (Nat × Value)), im_lk L' 3 = some (.long y8) → Q7 y8 → ia (tb_G L xs) dep J_MScriptRows_data (rwL w Q) (104, L', [], (im_setI M 71 0 ((if p0 < 0 then 1 else (if p0 < (im_i M 71 37) then 0 else 1)) : Int32))) := by
      intro y8 L' l9 h
      replace h := hQ7 _ h
      refine iq_lload_n hS 105 J_MScriptRows_data_d104 l9 rfl ?_
      exact iq_lret J_MScriptRows_data_d105 rfl ⟨_, rfl, (lw_sI hM), ed_some h⟩
    obtain ⟨r7, hr7, hq7⟩ := h
    obtain ⟨n7, hn7⟩ := lp_n hr7
    have I7 : ∀ (n : Nat) (x10 : Int64) (x11 : Int32) (L' : List (Nat × Value)), im_lk L' 0 = some (.ref 71) → im_lk L' 1 = some (.int p0) → im_lk L' 2 = some (.int p1) → im_lk L' 3 = some (.long x10) → im_lk L' 5 = some (.int x11) → lpn (uc2 (f_MScriptRows_data_L26 p0 p1 (im_setI M 71 0 ((if p0 < 0 then 1 else (if p0 < (im_i M 71 37) then 0 else 1)) : Int32)))) n (x10, x11) = some r7 → ia (tb_G L xs) dep J_MScriptRows_data (rwL w Q) (26, L', [], (im_setI M 71 0 ((if p0 < 0 then 1 else (if p0 < (im_i M 71 37) then 0 else 1)) : Int32))) := by
      intro n
      induction n with
      | zero => intro x10 x11 L' l12 l13 l14 l15 l16 hn; exact (lpn_0 hn).elim
      | succ n ih =>
        intro x10 x11 L' l12 l13 l14 l15 l16 hn
        have h := lpn_ed2 hn
        unfold f_MScriptRows_data_L26 at h
        refine iq_iload hS 28 J_MScriptRows_data_d26 l16 rfl ?_
        refine iq_bipush hS 30 J_MScriptRows_data_d28 (v := 8) (by decide +kernel) rfl ?_
        refine iq_icmp_ge hS 33 J_MScriptRows_data_d30 (t := 104) rfl (fun q30 => ?_) rfl (fun q30 => ?_)
        · replace h := ed_pos q30 h
          exact K7 _ _ l15 (lq_r h hq7)
        · replace h := ed_neg q30 h
          refine iq_aload_n hS 34 J_MScriptRows_data_d33 l12 rfl ?_
          refine iq_getI hS 37 J_MScriptRows_data_d34 lf_15_65 (Or.inl rfl) (ka_71 (lw_sI hM)) rfl ?_
          refine iq_if_ne hS 40 J_MScriptRows_data_d37 (t := 104) rfl (fun q37 => ?_) rfl (fun q37 => ?_)
          · replace h := ed_pos q37 h
            exact K7 _ _ l15 (lq_r h hq7)
          · replace h := ed_neg q37 h
            refine iq_iload_n hS 41 J_MScriptRows_data_d40 l14 rfl ?_
            refine iq_i2l hS 42 J_MScriptRows_data_d41 rfl ?_
            refine iq_iload hS 44 J_MScriptRows_data_d42 l16 rfl ?_
            refine iq_i2l hS 45 J_MScriptRows_data_d44 rfl ?_
            refine iq_ladd hS 46 J_MScriptRows_data_d45 rfl ?_
            refine iq_lstore hS 48 J_MScriptRows_data_d46 (by decide) rfl ?_
            refine iq_lload hS 50 J_MScriptRows_data_d48 lk_2s rfl ?_
            refine iq_lconst hS 51 J_MScriptRows_data_d50 (v := 0) (by decide +kernel) rfl ?_
            refine iq_lcmp hS 52 J_MScriptRows_data_d51 rfl ?_
            obtain ⟨Q17, hQ17, h⟩ := bd1_ed h
            have J17 : ∀ (y18 : Int64) (L' : List (Nat × Value)), im_lk L' 0 = some (.ref 71) → im_lk L' 1 = some (.int p0) → im_lk L' 2 = some (.int p1) → im_lk L' 3 = some (.long y18) → im_lk L' 5 = some (.int x11) → Q17 y18 → ia (tb_G L xs) dep J_MScriptRows_data (rwL w Q) (98, L', [], (im_setI M 71 0 ((if p0 < 0 then 1 else (if p0 < (im_i M 71 37) then 0 else 1)) : Int32))) := by
              intro y18 L' l19 l20 l21 l22 l23 h
              replace h := hQ17 _ h
              refine iq_iincv hS 101 J_MScriptRows_data_d98 (c := 1) (by decide +kernel) l23 (by decide) rfl ?_
              refine iq_goto hS J_MScriptRows_data_d101 (t := 26) rfl ?_
              exact ih _ _ _ (lk_1r l19 (by decide)) (lk_1i l20 (by decide)) (lk_1i l21 (by decide)) (lk_1l l22 (by decide) (by decide)) lk_1s (lq_l h)
            refine iq_if_lt hS 55 J_MScriptRows_data_d52 (t := 98) rfl (fun q52 => ?_) rfl (fun q52 => ?_)
            · replace h := ed_pos q52 h
              exact J17 _ _ (lk_2r l12 (by decide) (by decide)) (lk_2i l13 (by decide) (by decide)) (lk_2i l14 (by decide) (by decide)) (lk_2l l15 (by decide) (by decide) (by decide)) (lk_2i l16 (by decide) (by decide)) (ed_some h)
            · replace h := ed_neg q52 h
              refine iq_lload hS 57 J_MScriptRows_data_d55 lk_2s rfl ?_
              refine iq_aload_n hS 58 J_MScriptRows_data_d57 (lk_2r l12 (by decide) (by decide)) rfl ?_
              refine iq_getR hS 61 J_MScriptRows_data_d58 lf_15_59 (Or.inr ⟨_, rfl⟩) (ka_71 (lw_sI hM)) (ra_71_38 (lw_sI hM)) rfl ?_
              refine iq_bipush hS 63 J_MScriptRows_data_d61 (v := 9) (by decide +kernel) rfl ?_
              refine iq_iload_n hS 64 J_MScriptRows_data_d63 (lk_2i l13 (by decide) (by decide)) rfl ?_
              refine iq_imul hS 65 J_MScriptRows_data_d64 rfl ?_
              refine iq_bipush hS 67 J_MScriptRows_data_d65 (v := 8) (by decide +kernel) rfl ?_
              refine iq_iadd hS 68 J_MScriptRows_data_d67 rfl ?_
              obtain ⟨g68, h⟩ := ed_gd h
              refine iq_iaload hS 69 J_MScriptRows_data_d68 ⟨(ka_87 (lw_sI hM)).1, (ka_87 (lw_sI hM)).2, g68.1, ix_lt (kl_87 (lw_sI hM)) g68.2⟩ rfl ?_
              refine iq_i2l hS 70 J_MScriptRows_data_d69 rfl ?_
              refine iq_lcmp hS 71 J_MScriptRows_data_d70 rfl ?_
              refine iq_if_ge hS 74 J_MScriptRows_data_d71 (t := 98) rfl (fun q71 => ?_) rfl (fun q71 => ?_)
              · replace h := ed_pos q71 h
                exact J17 _ _ (lk_2r l12 (by decide) (by decide)) (lk_2i l13 (by decide) (by decide)) (lk_2i l14 (by decide) (by decide)) (lk_2l l15 (by decide) (by decide) (by decide)) (lk_2i l16 (by decide) (by decide)) (ed_some h)
              · replace h := ed_neg q71 h
                refine iq_lload_n hS 75 J_MScriptRows_data_d74 (lk_2l l15 (by decide) (by decide) (by decide)) rfl ?_
                refine iq_aload_n hS 76 J_MScriptRows_data_d75 (lk_2r l12 (by decide) (by decide)) rfl ?_
                refine iq_getR hS 79 J_MScriptRows_data_d76 lf_15_62 (Or.inr ⟨_, rfl⟩) (ka_71 (lw_sI hM)) (ra_71_39 (lw_sI hM)) rfl ?_
                refine iq_sipush hS 82 J_MScriptRows_data_d79 (v := 200) (by decide +kernel) rfl ?_
                refine iq_iload_n hS 83 J_MScriptRows_data_d82 (lk_2i l13 (by decide) (by decide)) rfl ?_
                refine iq_imul hS 84 J_MScriptRows_data_d83 rfl ?_
                refine iq_lload hS 86 J_MScriptRows_data_d84 lk_2s rfl ?_
                refine iq_l2i hS 87 J_MScriptRows_data_d86 rfl ?_
                refine iq_iadd hS 88 J_MScriptRows_data_d87 rfl ?_
                obtain ⟨g88, h⟩ := ed_gd h
                refine iq_iaload hS 89 J_MScriptRows_data_d88 ⟨(ka_88 (lw_sI hM)).1, (ka_88 (lw_sI hM)).2, g88.1, ix_lt (kl_88 (lw_sI hM)) g88.2⟩ rfl ?_
                refine iq_i2l hS 90 J_MScriptRows_data_d89 rfl ?_
                refine iq_bipush hS 92 J_MScriptRows_data_d90 (v := 8) (by decide +kernel) rfl ?_
                refine iq_iload hS 94 J_MScriptRows_data_d92 (lk_2i l16 (by decide) (by decide)) rfl ?_
                refine iq_imul hS 95 J_MScriptRows_data_d94 rfl ?_
                refine iq_lshl hS 96 J_MScriptRows_data_d95 rfl ?_
                refine iq_lor hS 97 J_MScriptRows_data_d96 rfl ?_
                refine iq_lstore_n hS 98 J_MScriptRows_data_d97 (by decide) rfl ?_
                exact J17 _ _ (lk_2r (lk_2r l12 (by decide) (by decide)) (by decide) (by decide)) (lk_2i (lk_2i l13 (by decide) (by decide)) (by decide) (by decide)) (lk_2i (lk_2i l14 (by decide) (by decide)) (by decide) (by decide)) lk_2s (lk_2i (lk_2i l16 (by decide) (by decide)) (by decide) (by decide)) (ed_some h)
    exact I7 n7 _ _ _ (lk_1r (lk_2r l4 (by decide) (by decide)) (by decide)) (lk_1i (lk_2i l5 (by decide) (by decide)) (by decide)) (lk_1i (lk_2i l6 (by decide) (by decide)) (by decide)) (lk_1l lk_2s (by decide) (by decide)) lk_1s hn7
  refine iq_if_lt hS 5 J_MScriptRows_data_d2 (t := 13) rfl (fun q2 => ?_) rfl (fun q2 => ?_)
  · refine iq_iconst hS 14 J_MScriptRows_data_d13 (v := 1) (by decide +kernel) rfl ?_
    refine iq_goto hS J_MScriptRows_data_d14 (t := 18) rfl ?_
    exact J1 _ _ (by simp only [if_pos q2]) l0 l1 l2
  · refine iq_iload_n hS 6 J_MScriptRows_data_d5 l1 rfl ?_
    refine iq_aload_n hS 7 J_MScriptRows_data_d6 l0 rfl ?_
    refine iq_getI hS 10 J_MScriptRows_data_d7 lf_15_155 (Or.inl rfl) (ka_71 hM) rfl ?_
    refine iq_icmp_lt hS 13 J_MScriptRows_data_d10 (t := 17) rfl (fun q10 => ?_) rfl (fun q10 => ?_)
    · refine iq_iconst hS 18 J_MScriptRows_data_d17 (v := 0) (by decide +kernel) rfl ?_
      exact J1 _ _ (by simp only [if_neg q2, if_pos q10]) l0 l1 l2
    · refine iq_iconst hS 14 J_MScriptRows_data_d13 (v := 1) (by decide +kernel) rfl ?_
      refine iq_goto hS J_MScriptRows_data_d14 (t := 18) rfl ?_
      exact J1 _ _ (by simp only [if_neg q2, if_neg q10]) l0 l1 l2
theorem f_MScriptRows_data_fr {p0 : Int32} {p1 : Int32} {M : im_M} {r : Int64 × im_M} (h : f_MScriptRows_data p0 p1 M = some r) : fr 0 [(71, 0)] M r.2 := by
  replace h : ed (f_MScriptRows_data p0 p1 M) (fun x => x = r) := ⟨r, h, rfl⟩
  unfold f_MScriptRows_data at h
  obtain ⟨Q2, hQ2, h⟩ := bd1_ed h
  have K2 : ∀ (y3 : Int64), Q2 y3 → fr 0 [(71, 0)] M r.2 := by
    intro y3 h
    replace h := hQ2 _ h
    exact fr_ret h (fr_F (by decide) fr_refl)
  obtain ⟨r2, hr2, hq2⟩ := h
  obtain ⟨n2, hn2⟩ := lp_n hr2
  have I2 : ∀ (n : Nat) (x4 : Int64) (x5 : Int32), lpn (uc2 (f_MScriptRows_data_L26 p0 p1 (im_setI M 71 0 ((if p0 < 0 then 1 else (if p0 < (im_i M 71 37) then 0 else 1)) : Int32)))) n (x4, x5) = some r2 → fr 0 [(71, 0)] M r.2 := by
    intro n
    induction n with
    | zero => intro x4 x5 hn; exact (lpn_0 hn).elim
    | succ n ih =>
      intro x4 x5 hn
      have h := lpn_ed2 hn
      unfold f_MScriptRows_data_L26 at h
      by_cases q30 : 8 ≤ x5
      · replace h := ed_pos q30 h
        exact K2 _ (lq_r h hq2)
      · replace h := ed_neg q30 h
        by_cases q37 : ¬ (im_i (im_setI M 71 0 ((if p0 < 0 then 1 else (if p0 < (im_i M 71 37) then 0 else 1)) : Int32)) 71 0) = 0
        · replace h := ed_pos q37 h
          exact K2 _ (lq_r h hq2)
        · replace h := ed_neg q37 h
          obtain ⟨Q6, hQ6, h⟩ := bd1_ed h
          have J6 : ∀ (y7 : Int64), Q6 y7 → fr 0 [(71, 0)] M r.2 := by
            intro y7 h
            replace h := hQ6 _ h
            exact ih _ _ (lq_l h)
          by_cases q52 : (lg_cmp ((Int32.toInt64 p1) + (Int32.toInt64 x5)) 0) < 0
          · replace h := ed_pos q52 h
            exact J6 _ (ed_some h)
          · replace h := ed_neg q52 h
            obtain ⟨g68, h⟩ := ed_gd h
            by_cases q71 : 0 ≤ (lg_cmp ((Int32.toInt64 p1) + (Int32.toInt64 x5)) (Int32.toInt64 (im_i (im_setI M 71 0 ((if p0 < 0 then 1 else (if p0 < (im_i M 71 37) then 0 else 1)) : Int32)) 87 (Int32.toNatClampNeg (((9 : Int32) * p0) + 8)))))
            · replace h := ed_pos q71 h
              exact J6 _ (ed_some h)
            · replace h := ed_neg q71 h
              obtain ⟨g88, h⟩ := ed_gd h
              exact J6 _ (ed_some h)
  exact I2 n2 _ _ hn2
noncomputable def f_M_data (p0 : Int32) (p1 : Int32) (M : im_M) : Option (Int64 × im_M) := bd2 (f_MScriptRows_data p0 p1 M) fun (x1 : Int64) (M1 : im_M) => bd1 (f_MScriptRows_thrown M1) fun (x2 : Int32) => some (x1, (im_setI M1 69 0 x2))
theorem J_M_data_d0 : decode J_M_data.2.1 0 = .ok (.aload_n 0, 1) := by decide +kernel
theorem J_M_data_d1 : decode J_M_data.2.1 1 = .ok (.getfield 16, 3) := by decide +kernel
theorem J_M_data_d4 : decode J_M_data.2.1 4 = .ok (.iload_n 1, 1) := by decide +kernel
theorem J_M_data_d5 : decode J_M_data.2.1 5 = .ok (.iload_n 2, 1) := by decide +kernel
theorem J_M_data_d6 : decode J_M_data.2.1 6 = .ok (.invokevirtual 100, 3) := by decide +kernel
theorem J_M_data_d9 : decode J_M_data.2.1 9 = .ok (.lstore_n 3, 1) := by decide +kernel
theorem J_M_data_d10 : decode J_M_data.2.1 10 = .ok (.aload_n 0, 1) := by decide +kernel
theorem J_M_data_d11 : decode J_M_data.2.1 11 = .ok (.aload_n 0, 1) := by decide +kernel
theorem J_M_data_d12 : decode J_M_data.2.1 12 = .ok (.getfield 16, 3) := by decide +kernel
theorem J_M_data_d15 : decode J_M_data.2.1 15 = .ok (.invokevirtual 96, 3) := by decide +kernel
theorem J_M_data_d18 : decode J_M_data.2.1 18 = .ok (.putfield 58, 3) := by decide +kernel
theorem J_M_data_d21 : decode J_M_data.2.1 21 = .ok (.lload_n 3, 1) := by decide +kernel
theorem J_M_data_d22 : decode J_M_data.2.1 22 = .ok (.lreturn, 1) := by decide +kernel
theorem f_M_data_ok {L : Nat} {xs : Nat → Int32} {dep : Nat} {w : Bool} {p0 : Int32} {p1 : Int32} {M : im_M} {Q : Int64 × im_M → Prop} (hM : lw_S w M) (h : ed (f_M_data p0 p1 M) Q) : ia (tb_G L xs) (dep + 1) J_M_data (rwL w Q) (0, lv_args 0 [.ref 69, .int p0, .int p1], [], M) := by
  have hS : im_St (tb_G L xs) (dep + 1) J_M_data (ia (tb_G L xs) (dep + 1) J_M_data (rwL w Q)) := ia_St
  unfold f_M_data at h
  have l0 : im_lk (lv_args 0 [.ref 69, .int p0, .int p1]) 0 = some (.ref 69) := rfl
  have l1 : im_lk (lv_args 0 [.ref 69, .int p0, .int p1]) 1 = some (.int p0) := rfl
  have l2 : im_lk (lv_args 0 [.ref 69, .int p0, .int p1]) 2 = some (.int p1) := rfl
  refine iq_aload_n hS 1 J_M_data_d0 l0 rfl ?_
  refine iq_getR hS 4 J_M_data_d1 lf_17_16 (Or.inl ⟨_, rfl⟩) (ka_69 hM) (ra_69_3 hM) rfl ?_
  refine iq_iload_n hS 5 J_M_data_d4 l1 rfl ?_
  refine iq_iload_n hS 6 J_M_data_d5 l2 rfl ?_
  obtain ⟨Q1, hQ1, h⟩ := bd2_ed h
  refine iq_cwL hS 9 J_M_data_d6 rfl (pr_inst (vs := [_, _]) lc_17_100 lT_329 rfl rfl (by decide) (by decide) rfl (Nat.le_of_ble_eq_true rfl) (Nat.le_of_ble_eq_true rfl) (fun _ => Or.inl (pr_b (ka_71 hM) (by decide) rfl))) (f_MScriptRows_data_ok (dep := dep + 0) hM h) rfl ?_
  intro x1 M1 hM1 h
  replace h := hQ1 _ _ h
  refine iq_lstore_n hS 10 J_M_data_d9 (by decide) rfl ?_
  refine iq_aload_n hS 11 J_M_data_d10 (lk_2r l0 (by decide) (by decide)) rfl ?_
  refine iq_aload_n hS 12 J_M_data_d11 (lk_2r l0 (by decide) (by decide)) rfl ?_
  refine iq_getR hS 15 J_M_data_d12 lf_17_16 (Or.inl ⟨_, rfl⟩) (ka_69 hM1) (ra_69_3 hM1) rfl ?_
  obtain ⟨Q2, hQ2, h⟩ := bd1_ed h
  refine iq_cpI hS 18 J_M_data_d15 rfl (pr_inst (vs := []) lc_17_96 lT_325 rfl rfl (by decide) (by decide) rfl (Nat.le_of_ble_eq_true rfl) (Nat.le_of_ble_eq_true rfl) (fun _ => Or.inl (pr_b (ka_71 hM1) (by decide) rfl))) (f_MScriptRows_thrown_ok (dep := dep + 0) hM1 h) rfl ?_
  intro x2 h
  replace h := hQ2 _ h
  refine iq_putI hS 21 J_M_data_d18 lf_17_58 (Or.inl rfl) rfl (ka_69 hM1) rfl ?_
  refine iq_lload_n hS 22 J_M_data_d21 lk_2s rfl ?_
  exact iq_lret J_M_data_d22 rfl ⟨_, rfl, (lw_sI hM1), ed_some h⟩
theorem f_M_data_fr {p0 : Int32} {p1 : Int32} {M : im_M} {r : Int64 × im_M} (h : f_M_data p0 p1 M = some r) : fr 0 [(69, 0), (71, 0)] M r.2 := by
  replace h : ed (f_M_data p0 p1 M) (fun x => x = r) := ⟨r, h, rfl⟩
  unfold f_M_data at h
  obtain ⟨Q1, hQ1, h⟩ := bd2_ed h
  obtain ⟨⟨x1, M1⟩, e1, h⟩ := h
  replace h := hQ1 _ _ h
  obtain ⟨Q2, hQ2, h⟩ := bd1_ed h
  obtain ⟨x2, e2, h⟩ := h
  replace h := hQ2 _ h
  exact fr_ret h (fr_F (by decide) (fr_tr (fr_mono (by decide) (by decide +kernel) (f_MScriptRows_data_fr e1)) fr_refl))
noncomputable def f_MDotRows_sheet_L53 (x3 : Int32) (M4 : im_M) : Option ((Int32 × im_M) ⊕ (im_M)) := if 32768 ≤ x3 then some (.inr M4) else gd (inb x3 32768) <| some (.inl ((x3 + 1), (im_setI M4 90 (Int32.toNatClampNeg x3) 0)))
noncomputable def f_MDotRows_sheet (p0 : Int32) (p1 : Int32) (M : im_M) : Option (im_M) := if (im_i (im_setI M 89 0 ((if p0 < 1 then 1 else (if 1024 < p0 then 1 else (if p1 < 1 then 1 else (if p1 ≤ 1024 then 0 else 1)))) : Int32)) 89 0) ≤ 0 then bd1 (lp (uc2 (f_MDotRows_sheet_L53)) (0, (im_setI (im_setI (im_setI M 89 0 ((if p0 < 1 then 1 else (if 1024 < p0 then 1 else (if p1 < 1 then 1 else (if p1 ≤ 1024 then 0 else 1)))) : Int32)) 89 1 p0) 89 2 p1))) fun (M5 : im_M) => some M5 else some (im_setI M 89 0 ((if p0 < 1 then 1 else (if 1024 < p0 then 1 else (if p1 < 1 then 1 else (if p1 ≤ 1024 then 0 else 1)))) : Int32))
theorem J_MDotRows_sheet_d0 : decode J_MDotRows_sheet.2.1 0 = .ok (.aload_n 0, 1) := by decide +kernel
theorem J_MDotRows_sheet_d1 : decode J_MDotRows_sheet.2.1 1 = .ok (.iload_n 1, 1) := by decide +kernel
theorem J_MDotRows_sheet_d2 : decode J_MDotRows_sheet.2.1 2 = .ok (.iconst 1, 1) := by decide +kernel
theorem J_MDotRows_sheet_d3 : decode J_MDotRows_sheet.2.1 3 = .ok (.if_icmp .lt 22, 3) := by decide +kernel
theorem J_MDotRows_sheet_d6 : decode J_MDotRows_sheet.2.1 6 = .ok (.iload_n 1, 1) := by decide +kernel
theorem J_MDotRows_sheet_d7 : decode J_MDotRows_sheet.2.1 7 = .ok (.sipush 1024, 3) := by decide +kernel
theorem J_MDotRows_sheet_d10 : decode J_MDotRows_sheet.2.1 10 = .ok (.if_icmp .gt 15, 3) := by decide +kernel
theorem J_MDotRows_sheet_d13 : decode J_MDotRows_sheet.2.1 13 = .ok (.iload_n 2, 1) := by decide +kernel
theorem J_MDotRows_sheet_d14 : decode J_MDotRows_sheet.2.1 14 = .ok (.iconst 1, 1) := by decide +kernel
theorem J_MDotRows_sheet_d15 : decode J_MDotRows_sheet.2.1 15 = .ok (.if_icmp .lt 10, 3) := by decide +kernel
theorem J_MDotRows_sheet_d18 : decode J_MDotRows_sheet.2.1 18 = .ok (.iload_n 2, 1) := by decide +kernel
theorem J_MDotRows_sheet_d19 : decode J_MDotRows_sheet.2.1 19 = .ok (.sipush 1024, 3) := by decide +kernel
theorem J_MDotRows_sheet_d22 : decode J_MDotRows_sheet.2.1 22 = .ok (.if_icmp .le 7, 3) := by decide +kernel
theorem J_MDotRows_sheet_d25 : decode J_MDotRows_sheet.2.1 25 = .ok (.iconst 1, 1) := by decide +kernel
theorem J_MDotRows_sheet_d26 : decode J_MDotRows_sheet.2.1 26 = .ok (.goto 4, 3) := by decide +kernel
theorem J_MDotRows_sheet_d29 : decode J_MDotRows_sheet.2.1 29 = .ok (.iconst 0, 1) := by decide +kernel
theorem J_MDotRows_sheet_d30 : decode J_MDotRows_sheet.2.1 30 = .ok (.putfield 37, 3) := by decide +kernel
theorem J_MDotRows_sheet_d33 : decode J_MDotRows_sheet.2.1 33 = .ok (.aload_n 0, 1) := by decide +kernel
theorem J_MDotRows_sheet_d34 : decode J_MDotRows_sheet.2.1 34 = .ok (.getfield 37, 3) := by decide +kernel
theorem J_MDotRows_sheet_d37 : decode J_MDotRows_sheet.2.1 37 = .ok (.ifCond .le 4, 3) := by decide +kernel
theorem J_MDotRows_sheet_d40 : decode J_MDotRows_sheet.2.1 40 = .ok (.return_, 1) := by decide +kernel
theorem J_MDotRows_sheet_d41 : decode J_MDotRows_sheet.2.1 41 = .ok (.aload_n 0, 1) := by decide +kernel
theorem J_MDotRows_sheet_d42 : decode J_MDotRows_sheet.2.1 42 = .ok (.iload_n 1, 1) := by decide +kernel
theorem J_MDotRows_sheet_d43 : decode J_MDotRows_sheet.2.1 43 = .ok (.putfield 7, 3) := by decide +kernel
theorem J_MDotRows_sheet_d46 : decode J_MDotRows_sheet.2.1 46 = .ok (.aload_n 0, 1) := by decide +kernel
theorem J_MDotRows_sheet_d47 : decode J_MDotRows_sheet.2.1 47 = .ok (.iload_n 2, 1) := by decide +kernel
theorem J_MDotRows_sheet_d48 : decode J_MDotRows_sheet.2.1 48 = .ok (.putfield 13, 3) := by decide +kernel
theorem J_MDotRows_sheet_d51 : decode J_MDotRows_sheet.2.1 51 = .ok (.iconst 0, 1) := by decide +kernel
theorem J_MDotRows_sheet_d52 : decode J_MDotRows_sheet.2.1 52 = .ok (.istore_n 3, 1) := by decide +kernel
theorem J_MDotRows_sheet_d53 : decode J_MDotRows_sheet.2.1 53 = .ok (.iload_n 3, 1) := by decide +kernel
theorem J_MDotRows_sheet_d54 : decode J_MDotRows_sheet.2.1 54 = .ok (.ldc 16, 2) := by decide +kernel
theorem J_MDotRows_sheet_d56 : decode J_MDotRows_sheet.2.1 56 = .ok (.if_icmp .ge 16, 3) := by decide +kernel
theorem J_MDotRows_sheet_d59 : decode J_MDotRows_sheet.2.1 59 = .ok (.aload_n 0, 1) := by decide +kernel
theorem J_MDotRows_sheet_d60 : decode J_MDotRows_sheet.2.1 60 = .ok (.getfield 17, 3) := by decide +kernel
theorem J_MDotRows_sheet_d63 : decode J_MDotRows_sheet.2.1 63 = .ok (.iload_n 3, 1) := by decide +kernel
theorem J_MDotRows_sheet_d64 : decode J_MDotRows_sheet.2.1 64 = .ok (.iconst 0, 1) := by decide +kernel
theorem J_MDotRows_sheet_d65 : decode J_MDotRows_sheet.2.1 65 = .ok (.iastore, 1) := by decide +kernel
theorem J_MDotRows_sheet_d66 : decode J_MDotRows_sheet.2.1 66 = .ok (.iinc 3 1, 3) := by decide +kernel
theorem J_MDotRows_sheet_d69 : decode J_MDotRows_sheet.2.1 69 = .ok (.goto (-16), 3) := by decide +kernel
theorem J_MDotRows_sheet_d72 : decode J_MDotRows_sheet.2.1 72 = .ok (.return_, 1) := by decide +kernel
theorem f_MDotRows_sheet_ok {L : Nat} {xs : Nat → Int32} {dep : Nat} {w : Bool} {p0 : Int32} {p1 : Int32} {M : im_M} {Q : im_M → Prop} (hM : lw_S w M) (h : ed (f_MDotRows_sheet p0 p1 M) Q) : ia (tb_G L xs) dep J_MDotRows_sheet (rwV w Q) (0, lv_args 0 [.ref 89, .int p0, .int p1], [], M) := by
  have hS : im_St (tb_G L xs) dep J_MDotRows_sheet (ia (tb_G L xs) dep J_MDotRows_sheet (rwV w Q)) := ia_St
  unfold f_MDotRows_sheet at h
  have l0 : im_lk (lv_args 0 [.ref 89, .int p0, .int p1]) 0 = some (.ref 89) := rfl
  have l1 : im_lk (lv_args 0 [.ref 89, .int p0, .int p1]) 1 = some (.int p0) := rfl
  have l2 : im_lk (lv_args 0 [.ref 89, .int p0, .int p1]) 2 = some (.int p1) := rfl
  refine iq_aload_n hS 1 J_MDotRows_sheet_d0 l0 rfl ?_
  refine iq_iload_n hS 2 J_MDotRows_sheet_d1 l1 rfl ?_
  refine iq_iconst hS 3 J_MDotRows_sheet_d2 (v := 1) (by decide +kernel) rfl ?_
  have J1 : ∀ (z2 : Int32) (L' : List (Nat × Value)), z2 = ((if p0 < 1 then 1 else (if 1024 < p0 then 1 else (if p1 < 1 then 1 else (if p1 ≤ 1024 then 0 else 1)))) : Int32) → im_lk L' 0 = some (.ref 89) → im_lk L' 1 = some (.int p0) → im_lk L' 2 = some (.int p1) → ia (tb_G L xs) dep J_MDotRows_sheet (rwV w Q) (30, L', [.int z2, .ref 89], M) := by
    intro z2 L' e3 l4 l5 l6
    subst e3
    refine iq_putI hS 33 J_MDotRows_sheet_d30 lf_12_37 (Or.inl rfl) rfl (ka_89 hM) rfl ?_
    refine iq_aload_n hS 34 J_MDotRows_sheet_d33 l4 rfl ?_
    refine iq_getI hS 37 J_MDotRows_sheet_d34 lf_12_37 (Or.inl rfl) (ka_89 (lw_sI hM)) rfl ?_
    refine iq_if_le hS 40 J_MDotRows_sheet_d37 (t := 41) rfl (fun q37 => ?_) rfl (fun q37 => ?_)
    · replace h := ed_pos q37 h
      refine iq_aload_n hS 42 J_MDotRows_sheet_d41 l4 rfl ?_
      refine iq_iload_n hS 43 J_MDotRows_sheet_d42 l5 rfl ?_
      refine iq_putI hS 46 J_MDotRows_sheet_d43 lf_12_7 (Or.inl rfl) rfl (ka_89 (lw_sI hM)) rfl ?_
      refine iq_aload_n hS 47 J_MDotRows_sheet_d46 l4 rfl ?_
      refine iq_iload_n hS 48 J_MDotRows_sheet_d47 l6 rfl ?_
      refine iq_putI hS 51 J_MDotRows_sheet_d48 lf_12_13 (Or.inl rfl) rfl (ka_89 (lw_sI (lw_sI hM))) rfl ?_
      refine iq_iconst hS 52 J_MDotRows_sheet_d51 (v := 0) (by decide +kernel) rfl ?_
      refine iq_istore_n hS 53 J_MDotRows_sheet_d52 (by decide) rfl ?_
      obtain ⟨Q7, hQ7, h⟩ := bd1_ed h
      have K7 : ∀ (M8 : im_M) (L' : List (Nat × Value)), lw_S w M8 → Q7 M8 → ia (tb_G L xs) dep J_MDotRows_sheet (rwV w Q) (72, L', [], M8) := by
        intro M8 L' hM8  h
        replace h := hQ7 _ h
        exact iq_ret J_MDotRows_sheet_d72 rfl ⟨rfl, hM8, ed_some h⟩
      obtain ⟨r7, hr7, hq7⟩ := h
      obtain ⟨n7, hn7⟩ := lp_n hr7
      have I7 : ∀ (n : Nat) (x9 : Int32) (M10 : im_M) (L' : List (Nat × Value)), lw_S w M10 → im_lk L' 0 = some (.ref 89) → im_lk L' 3 = some (.int x9) → lpn (uc2 (f_MDotRows_sheet_L53)) n (x9, M10) = some r7 → ia (tb_G L xs) dep J_MDotRows_sheet (rwV w Q) (53, L', [], M10) := by
        intro n
        induction n with
        | zero => intro x9 M10 L' hM10 l11 l12 hn; exact (lpn_0 hn).elim
        | succ n ih =>
          intro x9 M10 L' hM10 l11 l12 hn
          have h := lpn_ed2 hn
          unfold f_MDotRows_sheet_L53 at h
          refine iq_iload_n hS 54 J_MDotRows_sheet_d53 l12 rfl ?_
          refine iq_ldc hS 56 J_MDotRows_sheet_d54 lk_12_16 rfl ?_
          refine iq_icmp_ge hS 59 J_MDotRows_sheet_d56 (t := 72) rfl (fun q56 => ?_) rfl (fun q56 => ?_)
          · replace h := ed_pos q56 h
            exact K7 _ _ hM10  (lq_r h hq7)
          · replace h := ed_neg q56 h
            refine iq_aload_n hS 60 J_MDotRows_sheet_d59 l11 rfl ?_
            refine iq_getR hS 63 J_MDotRows_sheet_d60 lf_12_17 (Or.inr ⟨_, rfl⟩) (ka_89 hM10) (ra_89_4 hM10) rfl ?_
            refine iq_iload_n hS 64 J_MDotRows_sheet_d63 l12 rfl ?_
            refine iq_iconst hS 65 J_MDotRows_sheet_d64 (v := 0) (by decide +kernel) rfl ?_
            obtain ⟨g65, h⟩ := ed_gd h
            refine iq_iastore hS 66 J_MDotRows_sheet_d65 ⟨(ka_90 hM10).1, (ka_90 hM10).2, g65.1, ix_lt (kl_90 hM10) g65.2⟩ rfl ?_
            refine iq_iincv hS 69 J_MDotRows_sheet_d66 (c := 1) (by decide +kernel) l12 (by decide) rfl ?_
            refine iq_goto hS J_MDotRows_sheet_d69 (t := 53) rfl ?_
            exact ih _ _ _ (lw_sI hM10) (lk_1r l11 (by decide)) lk_1s (lq_l h)
      exact I7 n7 _ _ _ (lw_sI (lw_sI (lw_sI hM))) (lk_1r l4 (by decide)) lk_1s hn7
    · replace h := ed_neg q37 h
      exact iq_ret J_MDotRows_sheet_d40 rfl ⟨rfl, (lw_sI hM), ed_some h⟩
  refine iq_icmp_lt hS 6 J_MDotRows_sheet_d3 (t := 25) rfl (fun q3 => ?_) rfl (fun q3 => ?_)
  · refine iq_iconst hS 26 J_MDotRows_sheet_d25 (v := 1) (by decide +kernel) rfl ?_
    refine iq_goto hS J_MDotRows_sheet_d26 (t := 30) rfl ?_
    exact J1 _ _ (by simp only [if_pos q3]) l0 l1 l2
  · refine iq_iload_n hS 7 J_MDotRows_sheet_d6 l1 rfl ?_
    refine iq_sipush hS 10 J_MDotRows_sheet_d7 (v := 1024) (by decide +kernel) rfl ?_
    refine iq_icmp_gt hS 13 J_MDotRows_sheet_d10 (t := 25) rfl (fun q10 => ?_) rfl (fun q10 => ?_)
    · refine iq_iconst hS 26 J_MDotRows_sheet_d25 (v := 1) (by decide +kernel) rfl ?_
      refine iq_goto hS J_MDotRows_sheet_d26 (t := 30) rfl ?_
      exact J1 _ _ (by simp only [if_neg q3, if_pos q10]) l0 l1 l2
    · refine iq_iload_n hS 14 J_MDotRows_sheet_d13 l2 rfl ?_
      refine iq_iconst hS 15 J_MDotRows_sheet_d14 (v := 1) (by decide +kernel) rfl ?_
      refine iq_icmp_lt hS 18 J_MDotRows_sheet_d15 (t := 25) rfl (fun q15 => ?_) rfl (fun q15 => ?_)
      · refine iq_iconst hS 26 J_MDotRows_sheet_d25 (v := 1) (by decide +kernel) rfl ?_
        refine iq_goto hS J_MDotRows_sheet_d26 (t := 30) rfl ?_
        exact J1 _ _ (by simp only [if_neg q3, if_neg q10, if_pos q15]) l0 l1 l2
      · refine iq_iload_n hS 19 J_MDotRows_sheet_d18 l2 rfl ?_
        refine iq_sipush hS 22 J_MDotRows_sheet_d19 (v := 1024) (by decide +kernel) rfl ?_
        refine iq_icmp_le hS 25 J_MDotRows_sheet_d22 (t := 29) rfl (fun q22 => ?_) rfl (fun q22 => ?_)
        · refine iq_iconst hS 30 J_MDotRows_sheet_d29 (v := 0) (by decide +kernel) rfl ?_
          exact J1 _ _ (by simp only [if_neg q3, if_neg q10, if_neg q15, if_pos q22]) l0 l1 l2
        · refine iq_iconst hS 26 J_MDotRows_sheet_d25 (v := 1) (by decide +kernel) rfl ?_
          refine iq_goto hS J_MDotRows_sheet_d26 (t := 30) rfl ?_
          exact J1 _ _ (by simp only [if_neg q3, if_neg q10, if_neg q15, if_neg q22]) l0 l1 l2
theorem f_MDotRows_sheet_fr {p0 : Int32} {p1 : Int32} {M : im_M} {r : im_M} (h : f_MDotRows_sheet p0 p1 M = some r) : fr 1237940039285380274899124224 [(89, 0), (89, 1), (89, 2)] M r := by
  replace h : ed (f_MDotRows_sheet p0 p1 M) (fun x => x = r) := ⟨r, h, rfl⟩
  unfold f_MDotRows_sheet at h
  by_cases q37 : (im_i (im_setI M 89 0 ((if p0 < 1 then 1 else (if 1024 < p0 then 1 else (if p1 < 1 then 1 else (if p1 ≤ 1024 then 0 else 1)))) : Int32)) 89 0) ≤ 0
  · replace h := ed_pos q37 h
    obtain ⟨Q2, hQ2, h⟩ := bd1_ed h
    have K2 : ∀ (M3 : im_M), fr 1237940039285380274899124224 [(89, 0), (89, 1), (89, 2)] M M3 → Q2 M3 → fr 1237940039285380274899124224 [(89, 0), (89, 1), (89, 2)] M r := by
      intro M3 hM3 h
      replace h := hQ2 _ h
      exact fr_retV h hM3
    obtain ⟨r2, hr2, hq2⟩ := h
    obtain ⟨n2, hn2⟩ := lp_n hr2
    have I2 : ∀ (n : Nat) (x4 : Int32) (M5 : im_M), fr 1237940039285380274899124224 [(89, 0), (89, 1), (89, 2)] M M5 → lpn (uc2 (f_MDotRows_sheet_L53)) n (x4, M5) = some r2 → fr 1237940039285380274899124224 [(89, 0), (89, 1), (89, 2)] M r := by
      intro n
      induction n with
      | zero => intro x4 M5 hM5 hn; exact (lpn_0 hn).elim
      | succ n ih =>
        intro x4 M5 hM5 hn
        have h := lpn_ed2 hn
        unfold f_MDotRows_sheet_L53 at h
        by_cases q56 : 32768 ≤ x4
        · replace h := ed_pos q56 h
          exact K2 _ hM5 (lq_r h hq2)
        · replace h := ed_neg q56 h
          obtain ⟨g65, h⟩ := ed_gd h
          exact ih _ _ (fr_I (by decide) hM5) (lq_l h)
    exact I2 n2 _ _ (fr_F (by decide) (fr_F (by decide) (fr_F (by decide) fr_refl))) hn2
  · replace h := ed_neg q37 h
    exact fr_retV h (fr_F (by decide) fr_refl)
