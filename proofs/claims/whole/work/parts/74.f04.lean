/-! METHODS AS FUNCTIONS -/
noncomputable def f_HOrders_value_1 (p0 : Int32) (p1 : Int32) (M : im_M) : Option (Int32) := gd (inb ((p0 * 14) + p1) 1680) <| some (im_i M 13 (Int32.toNatClampNeg ((p0 * 14) + p1)))
theorem f_HOrders_value_1_ok {L : Nat} {xs : Nat → Int32} {dep : Nat} {w : Bool} {p0 : Int32} {p1 : Int32} {M : im_M} {Q : Int32 → Prop} (hM : lw_S w M) (h : ed (f_HOrders_value_1 p0 p1 M) Q) : ia (tb_G L xs) dep J_HOrders_value (rpI M Q) (0, lv_args 0 [.ref 11, .int p0, .int p1], [], M) := by
  have hS : im_St (tb_G L xs) dep J_HOrders_value (ia (tb_G L xs) dep J_HOrders_value (rpI M Q)) := ia_St
  unfold f_HOrders_value_1 at h
  have l0 : im_lk (lv_args 0 [.ref 11, .int p0, .int p1]) 0 = some (.ref 11) := rfl
  have l1 : im_lk (lv_args 0 [.ref 11, .int p0, .int p1]) 1 = some (.int p0) := rfl
  have l2 : im_lk (lv_args 0 [.ref 11, .int p0, .int p1]) 2 = some (.int p1) := rfl
  refine iq_aload_n hS 1 J_HOrders_value_d0 l0 rfl ?_
  refine iq_getR hS 4 J_HOrders_value_d1 lf_5_13 (Or.inr ⟨_, rfl⟩) (ka_11 hM) (ra_11_0 hM) rfl ?_
  refine iq_iload_n hS 5 J_HOrders_value_d4 l1 rfl ?_
  refine iq_bipush hS 7 J_HOrders_value_d5 (v := 14) (by decide +kernel) rfl ?_
  refine iq_imul hS 8 J_HOrders_value_d7 rfl ?_
  refine iq_iload_n hS 9 J_HOrders_value_d8 l2 rfl ?_
  refine iq_iadd hS 10 J_HOrders_value_d9 rfl ?_
  obtain ⟨g10, h⟩ := ed_gd h
  refine iq_iaload hS 11 J_HOrders_value_d10 ⟨(ka_13 hM).1, (ka_13 hM).2, g10.1, ix_lt (kl_13 hM) g10.2⟩ rfl ?_
  exact iq_iret J_HOrders_value_d11 rfl rfl ⟨_, rfl, rfl, ed_some h⟩
noncomputable def f_H_order (p0 : Int32) (p1 : Int32) (M : im_M) : Option (Int32) := if p1 < 0 then none else if p1 ≤ 8 then if p0 < 0 then none else if p0 < (im_i M 11 3) then bd1 (f_HOrders_value_1 p0 p1 M) fun (x1 : Int32) => some x1 else none else none
theorem f_H_order_ok {L : Nat} {xs : Nat → Int32} {dep : Nat} {w : Bool} {p0 : Int32} {p1 : Int32} {M : im_M} {Q : Int32 → Prop} (hM : lw_S w M) (h : ed (f_H_order p0 p1 M) Q) : ia (tb_G L xs) (dep + 1) J_H_order (rpI M Q) (0, lv_args 0 [.ref 0, .int p0, .int p1], [], M) := by
  have hS : im_St (tb_G L xs) (dep + 1) J_H_order (ia (tb_G L xs) (dep + 1) J_H_order (rpI M Q)) := ia_St
  unfold f_H_order at h
  have l0 : im_lk (lv_args 0 [.ref 0, .int p0, .int p1]) 0 = some (.ref 0) := rfl
  have l1 : im_lk (lv_args 0 [.ref 0, .int p0, .int p1]) 1 = some (.int p0) := rfl
  have l2 : im_lk (lv_args 0 [.ref 0, .int p0, .int p1]) 2 = some (.int p1) := rfl
  refine iq_iload_n hS 1 J_H_order_d0 l2 rfl ?_
  refine iq_if_lt hS 4 J_H_order_d1 (t := 10) rfl (fun q1 => ?_) rfl (fun q1 => ?_)
  · replace h := ed_pos q1 h
    exact (ed_none h).elim
  · replace h := ed_neg q1 h
    refine iq_iload_n hS 5 J_H_order_d4 l2 rfl ?_
    refine iq_bipush hS 7 J_H_order_d5 (v := 8) (by decide +kernel) rfl ?_
    refine iq_icmp_le hS 10 J_H_order_d7 (t := 18) rfl (fun q7 => ?_) rfl (fun q7 => ?_)
    · replace h := ed_pos q7 h
      refine iq_iload_n hS 19 J_H_order_d18 l1 rfl ?_
      refine iq_if_lt hS 22 J_H_order_d19 (t := 33) rfl (fun q19 => ?_) rfl (fun q19 => ?_)
      · replace h := ed_pos q19 h
        exact (ed_none h).elim
      · replace h := ed_neg q19 h
        refine iq_iload_n hS 23 J_H_order_d22 l1 rfl ?_
        refine iq_aload_n hS 24 J_H_order_d23 l0 rfl ?_
        refine iq_getR hS 27 J_H_order_d24 lf_11_21 (Or.inl ⟨_, rfl⟩) (ka_0 hM) (ra_0_1 hM) rfl ?_
        refine iq_getI hS 30 J_H_order_d27 lf_11_128 (Or.inl rfl) (ka_11 hM) rfl ?_
        refine iq_icmp_lt hS 33 J_H_order_d30 (t := 41) rfl (fun q30 => ?_) rfl (fun q30 => ?_)
        · replace h := ed_pos q30 h
          refine iq_aload_n hS 42 J_H_order_d41 l0 rfl ?_
          refine iq_getR hS 45 J_H_order_d42 lf_11_21 (Or.inl ⟨_, rfl⟩) (ka_0 hM) (ra_0_1 hM) rfl ?_
          refine iq_iload_n hS 46 J_H_order_d45 l1 rfl ?_
          refine iq_iload_n hS 47 J_H_order_d46 l2 rfl ?_
          obtain ⟨Q1, hQ1, h⟩ := bd1_ed h
          refine iq_cpI hS 50 J_H_order_d47 rfl (pr_inst (vs := [_, _]) lc_11_131 lT_77 rfl rfl (by decide) (by decide) rfl (Nat.le_of_ble_eq_true rfl) (Nat.le_of_ble_eq_true rfl) (fun _ => Or.inl (pr_b (ka_11 hM) (by decide) rfl))) (f_HOrders_value_1_ok (dep := dep + 0) hM h) rfl ?_
          intro x1 h
          replace h := hQ1 _ h
          exact iq_iret J_H_order_d50 rfl rfl ⟨_, rfl, rfl, ed_some h⟩
        · replace h := ed_neg q30 h
          exact (ed_none h).elim
    · replace h := ed_neg q7 h
      exact (ed_none h).elim
noncomputable def f_H_eightBytes_1_L6 (v2 : Int32) (v3 : Int32) (v4 : Int32) (M7 : im_M) (x5 : Int64) (x6 : Int32) : Option ((Int64 × Int32) ⊕ (Int64)) := if 8 ≤ x6 then some (.inr x5) else bd1 (if (lg_cmp ((Int32.toInt64 v4) + (Int32.toInt64 x6)) 0) < 0 then some x5 else if 0 ≤ (lg_cmp ((Int32.toInt64 v4) + (Int32.toInt64 x6)) (Int32.toInt64 v3)) then some x5 else gd (inb (v2 + (Int64.toInt32 ((Int32.toInt64 v4) + (Int32.toInt64 x6)))) 24000) <| some (x5 ||| ((Int32.toInt64 ((im_i M7 14 (Int32.toNatClampNeg (v2 + (Int64.toInt32 ((Int32.toInt64 v4) + (Int32.toInt64 x6)))))) &&& 255)) <<< (Int32.toInt64 ((8 : Int32) * x6) &&& 63)))) fun (y9 : Int64) => some (.inl (y9, (x6 + 1)))
noncomputable def f_H_eightBytes_1 (p1 : Int32) (p2 : Int32) (p3 : Int32) (M : im_M) : Option (Int64) := bd1 (lp (uc2 (f_H_eightBytes_1_L6 p1 p2 p3 M)) (0, 0)) fun (y16 : Int64) => some y16
theorem f_H_eightBytes_1_ok {L : Nat} {xs : Nat → Int32} {dep : Nat} {w : Bool} {p1 : Int32} {p2 : Int32} {p3 : Int32} {M : im_M} {Q : Int64 → Prop} (hM : lw_S w M) (h : ed (f_H_eightBytes_1 p1 p2 p3 M) Q) : ia (tb_G L xs) dep J_H_eightBytes (rpL M Q) (0, lv_args 0 [.ref 14, .int p1, .int p2, .int p3], [], M) := by
  have hS : im_St (tb_G L xs) dep J_H_eightBytes (ia (tb_G L xs) dep J_H_eightBytes (rpL M Q)) := ia_St
  unfold f_H_eightBytes_1 at h
  have l0 : im_lk (lv_args 0 [.ref 14, .int p1, .int p2, .int p3]) 0 = some (.ref 14) := rfl
  have l1 : im_lk (lv_args 0 [.ref 14, .int p1, .int p2, .int p3]) 1 = some (.int p1) := rfl
  have l2 : im_lk (lv_args 0 [.ref 14, .int p1, .int p2, .int p3]) 2 = some (.int p2) := rfl
  have l3 : im_lk (lv_args 0 [.ref 14, .int p1, .int p2, .int p3]) 3 = some (.int p3) := rfl
  refine iq_lconst hS 1 J_H_eightBytes_d0 (v := 0) (by decide +kernel) rfl ?_
  refine iq_lstore hS 3 J_H_eightBytes_d1 (by decide) rfl ?_
  refine iq_iconst hS 4 J_H_eightBytes_d3 (v := 0) (by decide +kernel) rfl ?_
  refine iq_istore hS 6 J_H_eightBytes_d4 (by decide) rfl ?_
  obtain ⟨Q1, hQ1, h⟩ := bd1_ed h
  have K1 : ∀ (y2 : Int64) (L' : List (Nat × Value)), im_lk L' 4 = some (.long y2) → Q1 y2 → ia (tb_G L xs) dep J_H_eightBytes (rpL M Q) (65, L', [], M) := by
    intro y2 L' l3 h
    replace h := hQ1 _ h
    refine iq_lload hS 67 J_H_eightBytes_d65 l3 rfl ?_
    exact iq_lret J_H_eightBytes_d67 rfl ⟨_, rfl, rfl, ed_some h⟩
  obtain ⟨r1, hr1, hq1⟩ := h
  obtain ⟨n1, hn1⟩ := lp_n hr1
  have I1 : ∀ (n : Nat) (x4 : Int64) (x5 : Int32) (L' : List (Nat × Value)), im_lk L' 0 = some (.ref 14) → im_lk L' 1 = some (.int p1) → im_lk L' 2 = some (.int p2) → im_lk L' 3 = some (.int p3) → im_lk L' 4 = some (.long x4) → im_lk L' 6 = some (.int x5) → lpn (uc2 (f_H_eightBytes_1_L6 p1 p2 p3 M)) n (x4, x5) = some r1 → ia (tb_G L xs) dep J_H_eightBytes (rpL M Q) (6, L', [], M) := by
    intro n
    induction n with
    | zero => intro x4 x5 L' l6 l7 l8 l9 l10 l11 hn; exact (lpn_0 hn).elim
    | succ n ih =>
      intro x4 x5 L' l6 l7 l8 l9 l10 l11 hn
      have h := lpn_ed2 hn
      unfold f_H_eightBytes_1_L6 at h
      refine iq_iload hS 8 J_H_eightBytes_d6 l11 rfl ?_
      refine iq_bipush hS 10 J_H_eightBytes_d8 (v := 8) (by decide +kernel) rfl ?_
      refine iq_icmp_ge hS 13 J_H_eightBytes_d10 (t := 65) rfl (fun q10 => ?_) rfl (fun q10 => ?_)
      · replace h := ed_pos q10 h
        exact K1 _ _ l10 (lq_r h hq1)
      · replace h := ed_neg q10 h
        refine iq_iload_n hS 14 J_H_eightBytes_d13 l9 rfl ?_
        refine iq_i2l hS 15 J_H_eightBytes_d14 rfl ?_
        refine iq_iload hS 17 J_H_eightBytes_d15 l11 rfl ?_
        refine iq_i2l hS 18 J_H_eightBytes_d17 rfl ?_
        refine iq_ladd hS 19 J_H_eightBytes_d18 rfl ?_
        refine iq_lstore hS 21 J_H_eightBytes_d19 (by decide) rfl ?_
        refine iq_lload hS 23 J_H_eightBytes_d21 lk_2s rfl ?_
        refine iq_lconst hS 24 J_H_eightBytes_d23 (v := 0) (by decide +kernel) rfl ?_
        refine iq_lcmp hS 25 J_H_eightBytes_d24 rfl ?_
        obtain ⟨Q12, hQ12, h⟩ := bd1_ed h
        have J12 : ∀ (y13 : Int64) (L' : List (Nat × Value)), im_lk L' 0 = some (.ref 14) → im_lk L' 1 = some (.int p1) → im_lk L' 2 = some (.int p2) → im_lk L' 3 = some (.int p3) → im_lk L' 4 = some (.long y13) → im_lk L' 6 = some (.int x5) → Q12 y13 → ia (tb_G L xs) dep J_H_eightBytes (rpL M Q) (59, L', [], M) := by
          intro y13 L' l14 l15 l16 l17 l18 l19 h
          replace h := hQ12 _ h
          refine iq_iincv hS 62 J_H_eightBytes_d59 (c := 1) (by decide +kernel) l19 (by decide) rfl ?_
          refine iq_goto hS J_H_eightBytes_d62 (t := 6) rfl ?_
          exact ih _ _ _ (lk_1r l14 (by decide)) (lk_1i l15 (by decide)) (lk_1i l16 (by decide)) (lk_1i l17 (by decide)) (lk_1l l18 (by decide) (by decide)) lk_1s (lq_l h)
        refine iq_if_lt hS 28 J_H_eightBytes_d25 (t := 59) rfl (fun q25 => ?_) rfl (fun q25 => ?_)
        · replace h := ed_pos q25 h
          exact J12 _ _ (lk_2r l6 (by decide) (by decide)) (lk_2i l7 (by decide) (by decide)) (lk_2i l8 (by decide) (by decide)) (lk_2i l9 (by decide) (by decide)) (lk_2l l10 (by decide) (by decide) (by decide)) (lk_2i l11 (by decide) (by decide)) (ed_some h)
        · replace h := ed_neg q25 h
          refine iq_lload hS 30 J_H_eightBytes_d28 lk_2s rfl ?_
          refine iq_iload_n hS 31 J_H_eightBytes_d30 (lk_2i l8 (by decide) (by decide)) rfl ?_
          refine iq_i2l hS 32 J_H_eightBytes_d31 rfl ?_
          refine iq_lcmp hS 33 J_H_eightBytes_d32 rfl ?_
          refine iq_if_ge hS 36 J_H_eightBytes_d33 (t := 59) rfl (fun q33 => ?_) rfl (fun q33 => ?_)
          · replace h := ed_pos q33 h
            exact J12 _ _ (lk_2r l6 (by decide) (by decide)) (lk_2i l7 (by decide) (by decide)) (lk_2i l8 (by decide) (by decide)) (lk_2i l9 (by decide) (by decide)) (lk_2l l10 (by decide) (by decide) (by decide)) (lk_2i l11 (by decide) (by decide)) (ed_some h)
          · replace h := ed_neg q33 h
            refine iq_lload hS 38 J_H_eightBytes_d36 (lk_2l l10 (by decide) (by decide) (by decide)) rfl ?_
            refine iq_aload_n hS 39 J_H_eightBytes_d38 (lk_2r l6 (by decide) (by decide)) rfl ?_
            refine iq_iload_n hS 40 J_H_eightBytes_d39 (lk_2i l7 (by decide) (by decide)) rfl ?_
            refine iq_lload hS 42 J_H_eightBytes_d40 lk_2s rfl ?_
            refine iq_l2i hS 43 J_H_eightBytes_d42 rfl ?_
            refine iq_iadd hS 44 J_H_eightBytes_d43 rfl ?_
            obtain ⟨g44, h⟩ := ed_gd h
            refine iq_baload hS 45 J_H_eightBytes_d44 ⟨(ka_14 hM).1, (ka_14 hM).2, g44.1, ix_lt (kl_14 hM) g44.2⟩ rfl ?_
            refine iq_sipush hS 48 J_H_eightBytes_d45 (v := 255) (by decide +kernel) rfl ?_
            refine iq_iand hS 49 J_H_eightBytes_d48 rfl ?_
            refine iq_i2l hS 50 J_H_eightBytes_d49 rfl ?_
            refine iq_bipush hS 52 J_H_eightBytes_d50 (v := 8) (by decide +kernel) rfl ?_
            refine iq_iload hS 54 J_H_eightBytes_d52 (lk_2i l11 (by decide) (by decide)) rfl ?_
            refine iq_imul hS 55 J_H_eightBytes_d54 rfl ?_
            refine iq_lshl hS 56 J_H_eightBytes_d55 rfl ?_
            refine iq_lor hS 57 J_H_eightBytes_d56 rfl ?_
            refine iq_lstore hS 59 J_H_eightBytes_d57 (by decide) rfl ?_
            exact J12 _ _ (lk_2r (lk_2r l6 (by decide) (by decide)) (by decide) (by decide)) (lk_2i (lk_2i l7 (by decide) (by decide)) (by decide) (by decide)) (lk_2i (lk_2i l8 (by decide) (by decide)) (by decide) (by decide)) (lk_2i (lk_2i l9 (by decide) (by decide)) (by decide) (by decide)) lk_2s (lk_2i (lk_2i l11 (by decide) (by decide)) (by decide) (by decide)) (ed_some h)
  exact I1 n1 _ _ _ (lk_1r (lk_2r l0 (by decide) (by decide)) (by decide)) (lk_1i (lk_2i l1 (by decide) (by decide)) (by decide)) (lk_1i (lk_2i l2 (by decide) (by decide)) (by decide)) (lk_1i (lk_2i l3 (by decide) (by decide)) (by decide)) (lk_1l lk_2s (by decide) (by decide)) lk_1s hn1
noncomputable def f_H_data (p0 : Int32) (p1 : Int32) (M : im_M) : Option (Int64) := if p0 < 0 then none else if p0 < (im_i M 11 3) then bd1 (f_HOrders_value_1 p0 8 M) fun (x1 : Int32) => bd1 (f_H_eightBytes_1 (p0 * 200) x1 p1 M) fun (x2 : Int64) => some x2 else none
theorem J_H_data_d23 : decode J_H_data.2.1 23 = .ok (.aload_n 0, 1) := by decide +kernel
theorem J_H_data_d24 : decode J_H_data.2.1 24 = .ok (.getfield 21, 3) := by decide +kernel
theorem J_H_data_d27 : decode J_H_data.2.1 27 = .ok (.getfield 135, 3) := by decide +kernel
theorem J_H_data_d30 : decode J_H_data.2.1 30 = .ok (.iload_n 1, 1) := by decide +kernel
theorem J_H_data_d31 : decode J_H_data.2.1 31 = .ok (.sipush 200, 3) := by decide +kernel
theorem J_H_data_d34 : decode J_H_data.2.1 34 = .ok (.imul, 1) := by decide +kernel
theorem J_H_data_d35 : decode J_H_data.2.1 35 = .ok (.aload_n 0, 1) := by decide +kernel
theorem J_H_data_d36 : decode J_H_data.2.1 36 = .ok (.getfield 21, 3) := by decide +kernel
theorem J_H_data_d39 : decode J_H_data.2.1 39 = .ok (.iload_n 1, 1) := by decide +kernel
theorem J_H_data_d40 : decode J_H_data.2.1 40 = .ok (.bipush 8, 2) := by decide +kernel
theorem J_H_data_d42 : decode J_H_data.2.1 42 = .ok (.invokevirtual 131, 3) := by decide +kernel
theorem J_H_data_d45 : decode J_H_data.2.1 45 = .ok (.iload_n 2, 1) := by decide +kernel
theorem J_H_data_d46 : decode J_H_data.2.1 46 = .ok (.invokestatic 138, 3) := by decide +kernel
theorem J_H_data_d49 : decode J_H_data.2.1 49 = .ok (.lreturn, 1) := by decide +kernel
theorem f_H_data_ok {L : Nat} {xs : Nat → Int32} {dep : Nat} {w : Bool} {p0 : Int32} {p1 : Int32} {M : im_M} {Q : Int64 → Prop} (hM : lw_S w M) (h : ed (f_H_data p0 p1 M) Q) : ia (tb_G L xs) (dep + 1) J_H_data (rpL M Q) (0, lv_args 0 [.ref 0, .int p0, .int p1], [], M) := by
  have hS : im_St (tb_G L xs) (dep + 1) J_H_data (ia (tb_G L xs) (dep + 1) J_H_data (rpL M Q)) := ia_St
  unfold f_H_data at h
  have l0 : im_lk (lv_args 0 [.ref 0, .int p0, .int p1]) 0 = some (.ref 0) := rfl
  have l1 : im_lk (lv_args 0 [.ref 0, .int p0, .int p1]) 1 = some (.int p0) := rfl
  have l2 : im_lk (lv_args 0 [.ref 0, .int p0, .int p1]) 2 = some (.int p1) := rfl
  refine iq_iload_n hS 1 J_H_data_d0 l1 rfl ?_
  refine iq_if_lt hS 4 J_H_data_d1 (t := 15) rfl (fun q1 => ?_) rfl (fun q1 => ?_)
  · replace h := ed_pos q1 h
    exact (ed_none h).elim
  · replace h := ed_neg q1 h
    refine iq_iload_n hS 5 J_H_data_d4 l1 rfl ?_
    refine iq_aload_n hS 6 J_H_data_d5 l0 rfl ?_
    refine iq_getR hS 9 J_H_data_d6 lf_11_21 (Or.inl ⟨_, rfl⟩) (ka_0 hM) (ra_0_1 hM) rfl ?_
    refine iq_getI hS 12 J_H_data_d9 lf_11_128 (Or.inl rfl) (ka_11 hM) rfl ?_
    refine iq_icmp_lt hS 15 J_H_data_d12 (t := 23) rfl (fun q12 => ?_) rfl (fun q12 => ?_)
    · replace h := ed_pos q12 h
      refine iq_aload_n hS 24 J_H_data_d23 l0 rfl ?_
      refine iq_getR hS 27 J_H_data_d24 lf_11_21 (Or.inl ⟨_, rfl⟩) (ka_0 hM) (ra_0_1 hM) rfl ?_
      refine iq_getR hS 30 J_H_data_d27 lf_11_135 (Or.inr ⟨_, rfl⟩) (ka_11 hM) (ra_11_1 hM) rfl ?_
      refine iq_iload_n hS 31 J_H_data_d30 l1 rfl ?_
      refine iq_sipush hS 34 J_H_data_d31 (v := 200) (by decide +kernel) rfl ?_
      refine iq_imul hS 35 J_H_data_d34 rfl ?_
      refine iq_aload_n hS 36 J_H_data_d35 l0 rfl ?_
      refine iq_getR hS 39 J_H_data_d36 lf_11_21 (Or.inl ⟨_, rfl⟩) (ka_0 hM) (ra_0_1 hM) rfl ?_
      refine iq_iload_n hS 40 J_H_data_d39 l1 rfl ?_
      refine iq_bipush hS 42 J_H_data_d40 (v := 8) (by decide +kernel) rfl ?_
      obtain ⟨Q1, hQ1, h⟩ := bd1_ed h
      refine iq_cpI hS 45 J_H_data_d42 rfl (pr_inst (vs := [_, _]) lc_11_131 lT_77 rfl rfl (by decide) (by decide) rfl (Nat.le_of_ble_eq_true rfl) (Nat.le_of_ble_eq_true rfl) (fun _ => Or.inl (pr_b (ka_11 hM) (by decide) rfl))) (f_HOrders_value_1_ok (dep := dep + 0) hM h) rfl ?_
      intro x1 h
      replace h := hQ1 _ h
      refine iq_iload_n hS 46 J_H_data_d45 l2 rfl ?_
      obtain ⟨Q2, hQ2, h⟩ := bd1_ed h
      refine iq_cpL hS 49 J_H_data_d46 rfl (pr_stat (vs := [_, _, _, _]) lc_11_138 lT_94 rfl rfl (by decide) rfl (Nat.le_of_ble_eq_true rfl) (Nat.le_of_ble_eq_true rfl)) (f_H_eightBytes_1_ok (dep := dep + 0) hM h) rfl ?_
      intro x2 h
      replace h := hQ2 _ h
      exact iq_lret J_H_data_d49 rfl ⟨_, rfl, rfl, ed_some h⟩
    · replace h := ed_neg q12 h
      exact (ed_none h).elim
noncomputable def f_Arrays_fill2_L6 (v2 : Int64) (v3 : Int32) (x4 : Int32) (M5 : im_M) : Option ((Int32 × im_M) ⊕ (im_M)) := if v3 ≤ x4 then some (.inr M5) else gd (inb x4 4096) <| some (.inl ((x4 + 1), (im_setL M5 (sw w) (Int32.toNatClampNeg x4) v2)))
noncomputable def f_Arrays_fill2 (p1 : Int64) (M : im_M) : Option (im_M) := bd1 (lp (uc2 (f_Arrays_fill2_L6 p1 4096)) (0, M)) fun (M6 : im_M) => some M6
theorem J_Arrays_fill2_d0 : decode J_Arrays_fill2.2.1 0 = .ok (.iconst 0, 1) := by decide +kernel
theorem J_Arrays_fill2_d1 : decode J_Arrays_fill2.2.1 1 = .ok (.istore_n 3, 1) := by decide +kernel
theorem J_Arrays_fill2_d2 : decode J_Arrays_fill2.2.1 2 = .ok (.aload_n 0, 1) := by decide +kernel
theorem J_Arrays_fill2_d3 : decode J_Arrays_fill2.2.1 3 = .ok (.arraylength, 1) := by decide +kernel
theorem J_Arrays_fill2_d4 : decode J_Arrays_fill2.2.1 4 = .ok (.istore 4, 2) := by decide +kernel
theorem J_Arrays_fill2_d6 : decode J_Arrays_fill2.2.1 6 = .ok (.iload_n 3, 1) := by decide +kernel
theorem J_Arrays_fill2_d7 : decode J_Arrays_fill2.2.1 7 = .ok (.iload 4, 2) := by decide +kernel
theorem J_Arrays_fill2_d9 : decode J_Arrays_fill2.2.1 9 = .ok (.if_icmp .ge 13, 3) := by decide +kernel
theorem J_Arrays_fill2_d12 : decode J_Arrays_fill2.2.1 12 = .ok (.aload_n 0, 1) := by decide +kernel
theorem J_Arrays_fill2_d13 : decode J_Arrays_fill2.2.1 13 = .ok (.iload_n 3, 1) := by decide +kernel
theorem J_Arrays_fill2_d14 : decode J_Arrays_fill2.2.1 14 = .ok (.lload_n 1, 1) := by decide +kernel
theorem J_Arrays_fill2_d15 : decode J_Arrays_fill2.2.1 15 = .ok (.lastore, 1) := by decide +kernel
theorem J_Arrays_fill2_d16 : decode J_Arrays_fill2.2.1 16 = .ok (.iinc 3 1, 3) := by decide +kernel
theorem J_Arrays_fill2_d19 : decode J_Arrays_fill2.2.1 19 = .ok (.goto (-13), 3) := by decide +kernel
theorem J_Arrays_fill2_d22 : decode J_Arrays_fill2.2.1 22 = .ok (.return_, 1) := by decide +kernel
theorem f_Arrays_fill2_ok {L : Nat} {xs : Nat → Int32} {dep : Nat} {w : Bool} {p1 : Int64} {M : im_M} {Q : im_M → Prop} (hM : lw_S w M) (h : ed (f_Arrays_fill2 p1 M) Q) : ia (tb_G L xs) dep J_Arrays_fill2 (rwV w Q) (0, lv_args 0 [.ref (sw w), .long p1], [], M) := by
  have hS : im_St (tb_G L xs) dep J_Arrays_fill2 (ia (tb_G L xs) dep J_Arrays_fill2 (rwV w Q)) := ia_St
  unfold f_Arrays_fill2 at h
  have l0 : im_lk (lv_args 0 [.ref (sw w), .long p1]) 0 = some (.ref (sw w)) := rfl
  have l1 : im_lk (lv_args 0 [.ref (sw w), .long p1]) 1 = some (.long p1) := rfl
  refine iq_iconst hS 1 J_Arrays_fill2_d0 (v := 0) (by decide +kernel) rfl ?_
  refine iq_istore_n hS 2 J_Arrays_fill2_d1 (by decide) rfl ?_
  refine iq_aload_n hS 3 J_Arrays_fill2_d2 (lk_1r l0 (by decide)) rfl ?_
  refine iq_alenv hS 4 J_Arrays_fill2_d3 (v := 4096) (ka_sw hM) (by decide) (by decide) (kl_sw hM) (by decide +kernel) rfl ?_
  refine iq_istore hS 6 J_Arrays_fill2_d4 (by decide) rfl ?_
  obtain ⟨Q1, hQ1, h⟩ := bd1_ed h
  have K1 : ∀ (M2 : im_M) (L' : List (Nat × Value)), lw_S w M2 → Q1 M2 → ia (tb_G L xs) dep J_Arrays_fill2 (rwV w Q) (22, L', [], M2) := by
    intro M2 L' hM2  h
    replace h := hQ1 _ h
    exact iq_ret J_Arrays_fill2_d22 rfl ⟨rfl, hM2, ed_some h⟩
  obtain ⟨r1, hr1, hq1⟩ := h
  obtain ⟨n1, hn1⟩ := lp_n hr1
  have I1 : ∀ (n : Nat) (x3 : Int32) (M4 : im_M) (L' : List (Nat × Value)), lw_S w M4 → im_lk L' 0 = some (.ref (sw w)) → im_lk L' 1 = some (.long p1) → im_lk L' 3 = some (.int x3) → im_lk L' 4 = some (.int 4096) → lpn (uc2 (f_Arrays_fill2_L6 p1 4096)) n (x3, M4) = some r1 → ia (tb_G L xs) dep J_Arrays_fill2 (rwV w Q) (6, L', [], M4) := by
    intro n
    induction n with
    | zero => intro x3 M4 L' hM4 l5 l6 l7 l8 hn; exact (lpn_0 hn).elim
    | succ n ih =>
      intro x3 M4 L' hM4 l5 l6 l7 l8 hn
      have h := lpn_ed2 hn
      unfold f_Arrays_fill2_L6 at h
      refine iq_iload_n hS 7 J_Arrays_fill2_d6 l7 rfl ?_
      refine iq_iload hS 9 J_Arrays_fill2_d7 l8 rfl ?_
      refine iq_icmp_ge hS 12 J_Arrays_fill2_d9 (t := 22) rfl (fun q9 => ?_) rfl (fun q9 => ?_)
      · replace h := ed_pos q9 h
        exact K1 _ _ hM4  (lq_r h hq1)
      · replace h := ed_neg q9 h
        refine iq_aload_n hS 13 J_Arrays_fill2_d12 l5 rfl ?_
        refine iq_iload_n hS 14 J_Arrays_fill2_d13 l7 rfl ?_
        refine iq_lload_n hS 15 J_Arrays_fill2_d14 l6 rfl ?_
        obtain ⟨g15, h⟩ := ed_gd h
        refine iq_lastore hS 16 J_Arrays_fill2_d15 ⟨(ka_sw hM4).1, (ka_sw hM4).2, g15.1, ix_lt (kl_sw hM4) g15.2⟩ rfl ?_
        refine iq_iincv hS 19 J_Arrays_fill2_d16 (c := 1) (by decide +kernel) l7 (by decide) rfl ?_
        refine iq_goto hS J_Arrays_fill2_d19 (t := 6) rfl ?_
        exact ih _ _ _ hM4 (lk_1r l5 (by decide)) (lk_1l l6 (by decide) (by decide)) lk_1s (lk_1i l8 (by decide)) (lq_l h)
  exact I1 n1 _ _ _ hM (lk_1r (lk_1r l0 (by decide)) (by decide)) (lk_1l (lk_1l l1 (by decide) (by decide)) (by decide) (by decide)) (lk_1i lk_1s (by decide)) lk_1s hn1
noncomputable def f_HSheet_renew (w : Bool) (p0 : Int32) (p1 : Int32) (M : im_M) : Option (im_M) := bd1 (f_Arrays_fill2 0 (im_setI (im_setI M 28 0 p0) 28 1 p1)) fun (M1 : im_M) => some M1
theorem J_HSheet_renew_d0 : decode J_HSheet_renew.2.1 0 = .ok (.aload_n 0, 1) := by decide +kernel
theorem J_HSheet_renew_d1 : decode J_HSheet_renew.2.1 1 = .ok (.iload_n 1, 1) := by decide +kernel
theorem J_HSheet_renew_d2 : decode J_HSheet_renew.2.1 2 = .ok (.putfield 9, 3) := by decide +kernel
theorem J_HSheet_renew_d5 : decode J_HSheet_renew.2.1 5 = .ok (.aload_n 0, 1) := by decide +kernel
theorem J_HSheet_renew_d6 : decode J_HSheet_renew.2.1 6 = .ok (.iload_n 2, 1) := by decide +kernel
theorem J_HSheet_renew_d7 : decode J_HSheet_renew.2.1 7 = .ok (.putfield 15, 3) := by decide +kernel
theorem J_HSheet_renew_d10 : decode J_HSheet_renew.2.1 10 = .ok (.aload_n 0, 1) := by decide +kernel
theorem J_HSheet_renew_d11 : decode J_HSheet_renew.2.1 11 = .ok (.getfield 18, 3) := by decide +kernel
theorem J_HSheet_renew_d14 : decode J_HSheet_renew.2.1 14 = .ok (.lconst 0, 1) := by decide +kernel
theorem J_HSheet_renew_d15 : decode J_HSheet_renew.2.1 15 = .ok (.invokestatic 25, 3) := by decide +kernel
theorem J_HSheet_renew_d18 : decode J_HSheet_renew.2.1 18 = .ok (.return_, 1) := by decide +kernel
theorem f_HSheet_renew_ok {L : Nat} {xs : Nat → Int32} {dep : Nat} {w : Bool} {p0 : Int32} {p1 : Int32} {M : im_M} {Q : im_M → Prop} (hM : lw_S w M) (h : ed (f_HSheet_renew w p0 p1 M) Q) : ia (tb_G L xs) (dep + 1) J_HSheet_renew (rwV w Q) (0, lv_args 0 [.ref 28, .int p0, .int p1], [], M) := by
  have hS : im_St (tb_G L xs) (dep + 1) J_HSheet_renew (ia (tb_G L xs) (dep + 1) J_HSheet_renew (rwV w Q)) := ia_St
  unfold f_HSheet_renew at h
  have l0 : im_lk (lv_args 0 [.ref 28, .int p0, .int p1]) 0 = some (.ref 28) := rfl
  have l1 : im_lk (lv_args 0 [.ref 28, .int p0, .int p1]) 1 = some (.int p0) := rfl
  have l2 : im_lk (lv_args 0 [.ref 28, .int p0, .int p1]) 2 = some (.int p1) := rfl
  refine iq_aload_n hS 1 J_HSheet_renew_d0 l0 rfl ?_
  refine iq_iload_n hS 2 J_HSheet_renew_d1 l1 rfl ?_
  refine iq_putI hS 5 J_HSheet_renew_d2 lf_9_9 (Or.inl rfl) rfl (ka_28 hM) rfl ?_
  refine iq_aload_n hS 6 J_HSheet_renew_d5 l0 rfl ?_
  refine iq_iload_n hS 7 J_HSheet_renew_d6 l2 rfl ?_
  refine iq_putI hS 10 J_HSheet_renew_d7 lf_9_15 (Or.inl rfl) rfl (ka_28 hM) rfl ?_
  refine iq_aload_n hS 11 J_HSheet_renew_d10 l0 rfl ?_
  refine iq_getR hS 14 J_HSheet_renew_d11 lf_9_18 (Or.inr ⟨_, rfl⟩) (ka_28 hM) (ra_28_sw hM) rfl ?_
  refine iq_lconst hS 15 J_HSheet_renew_d14 (v := 0) (by decide +kernel) rfl ?_
  obtain ⟨Q1, hQ1, h⟩ := bd1_ed h
  refine iq_cwV hS 18 J_HSheet_renew_d15 rfl (pr_stat (vs := [_, _]) lc_9_25 lT_107 rfl rfl (by decide) rfl (Nat.le_of_ble_eq_true rfl) (Nat.le_of_ble_eq_true rfl)) (f_Arrays_fill2_ok (dep := dep + 0) hM h) rfl ?_
  intro M1 hM1 h
  replace h := hQ1 _ h
  exact iq_ret J_HSheet_renew_d18 rfl ⟨rfl, hM1, ed_some h⟩
noncomputable def f_HOrders_byteAt (p0 : Int32) (p1 : Int32) (M : im_M) : Option (Int32) := gd (inb ((p0 * 200) + p1) 24000) <| some ((im_i M 14 (Int32.toNatClampNeg ((p0 * 200) + p1))) &&& 255)
theorem J_HOrders_byteAt_d0 : decode J_HOrders_byteAt.2.1 0 = .ok (.aload_n 0, 1) := by decide +kernel
theorem J_HOrders_byteAt_d1 : decode J_HOrders_byteAt.2.1 1 = .ok (.getfield 17, 3) := by decide +kernel
theorem J_HOrders_byteAt_d4 : decode J_HOrders_byteAt.2.1 4 = .ok (.iload_n 1, 1) := by decide +kernel
theorem J_HOrders_byteAt_d5 : decode J_HOrders_byteAt.2.1 5 = .ok (.sipush 200, 3) := by decide +kernel
theorem J_HOrders_byteAt_d8 : decode J_HOrders_byteAt.2.1 8 = .ok (.imul, 1) := by decide +kernel
theorem J_HOrders_byteAt_d9 : decode J_HOrders_byteAt.2.1 9 = .ok (.iload_n 2, 1) := by decide +kernel
theorem J_HOrders_byteAt_d10 : decode J_HOrders_byteAt.2.1 10 = .ok (.iadd, 1) := by decide +kernel
theorem J_HOrders_byteAt_d11 : decode J_HOrders_byteAt.2.1 11 = .ok (.baload, 1) := by decide +kernel
theorem J_HOrders_byteAt_d12 : decode J_HOrders_byteAt.2.1 12 = .ok (.sipush 255, 3) := by decide +kernel
theorem J_HOrders_byteAt_d15 : decode J_HOrders_byteAt.2.1 15 = .ok (.iand, 1) := by decide +kernel
theorem J_HOrders_byteAt_d16 : decode J_HOrders_byteAt.2.1 16 = .ok (.ireturn, 1) := by decide +kernel
theorem f_HOrders_byteAt_ok {L : Nat} {xs : Nat → Int32} {dep : Nat} {w : Bool} {p0 : Int32} {p1 : Int32} {M : im_M} {Q : Int32 → Prop} (hM : lw_S w M) (h : ed (f_HOrders_byteAt p0 p1 M) Q) : ia (tb_G L xs) dep J_HOrders_byteAt (rpI M Q) (0, lv_args 0 [.ref 11, .int p0, .int p1], [], M) := by
  have hS : im_St (tb_G L xs) dep J_HOrders_byteAt (ia (tb_G L xs) dep J_HOrders_byteAt (rpI M Q)) := ia_St
  unfold f_HOrders_byteAt at h
  have l0 : im_lk (lv_args 0 [.ref 11, .int p0, .int p1]) 0 = some (.ref 11) := rfl
  have l1 : im_lk (lv_args 0 [.ref 11, .int p0, .int p1]) 1 = some (.int p0) := rfl
  have l2 : im_lk (lv_args 0 [.ref 11, .int p0, .int p1]) 2 = some (.int p1) := rfl
  refine iq_aload_n hS 1 J_HOrders_byteAt_d0 l0 rfl ?_
  refine iq_getR hS 4 J_HOrders_byteAt_d1 lf_5_17 (Or.inr ⟨_, rfl⟩) (ka_11 hM) (ra_11_1 hM) rfl ?_
  refine iq_iload_n hS 5 J_HOrders_byteAt_d4 l1 rfl ?_
  refine iq_sipush hS 8 J_HOrders_byteAt_d5 (v := 200) (by decide +kernel) rfl ?_
  refine iq_imul hS 9 J_HOrders_byteAt_d8 rfl ?_
  refine iq_iload_n hS 10 J_HOrders_byteAt_d9 l2 rfl ?_
  refine iq_iadd hS 11 J_HOrders_byteAt_d10 rfl ?_
  obtain ⟨g11, h⟩ := ed_gd h
  refine iq_baload hS 12 J_HOrders_byteAt_d11 ⟨(ka_14 hM).1, (ka_14 hM).2, g11.1, ix_lt (kl_14 hM) g11.2⟩ rfl ?_
  refine iq_sipush hS 15 J_HOrders_byteAt_d12 (v := 255) (by decide +kernel) rfl ?_
  refine iq_iand hS 16 J_HOrders_byteAt_d15 rfl ?_
  exact iq_iret J_HOrders_byteAt_d16 rfl rfl ⟨_, rfl, rfl, ed_some h⟩
noncomputable def f_HSheet_strikeColumn_L3 (w : Bool) (v2 : Int32) (v3 : Int32) (v4 : Int64) (x5 : Int32) (M6 : im_M) : Option ((Int32 × im_M) ⊕ (im_M)) := if v3 < x5 then some (.inr M6) else bd1 (if (im_i M6 28 2) = 0 then gd (inb ((x5 * 8) + v2) 4096) <| some ((im_l M6 (sw w) (Int32.toNatClampNeg ((x5 * 8) + v2))) ||| v4) else gd (inb ((x5 * 8) + v2) 4096) <| some ((im_l M6 (sw w) (Int32.toNatClampNeg ((x5 * 8) + v2))) ^^^ v4)) fun (y8 : Int64) => gd (inb ((x5 * 8) + v2) 4096) <| some (.inl ((x5 + 1), (im_setL M6 (sw w) (Int32.toNatClampNeg ((x5 * 8) + v2)) y8)))
noncomputable def f_HSheet_strikeColumn (w : Bool) (p0 : Int32) (p1 : Int32) (p2 : Int32) (p3 : Int64) (M : im_M) : Option (im_M) := bd1 (lp (uc2 (f_HSheet_strikeColumn_L3 w p0 p2 p3)) (p1, M)) fun (M14 : im_M) => some M14
theorem J_HSheet_strikeColumn_d0 : decode J_HSheet_strikeColumn.2.1 0 = .ok (.iload_n 2, 1) := by decide +kernel
theorem J_HSheet_strikeColumn_d1 : decode J_HSheet_strikeColumn.2.1 1 = .ok (.istore 6, 2) := by decide +kernel
theorem J_HSheet_strikeColumn_d3 : decode J_HSheet_strikeColumn.2.1 3 = .ok (.iload 6, 2) := by decide +kernel
theorem J_HSheet_strikeColumn_d5 : decode J_HSheet_strikeColumn.2.1 5 = .ok (.iload_n 3, 1) := by decide +kernel
theorem J_HSheet_strikeColumn_d6 : decode J_HSheet_strikeColumn.2.1 6 = .ok (.if_icmp .gt 55, 3) := by decide +kernel
theorem J_HSheet_strikeColumn_d9 : decode J_HSheet_strikeColumn.2.1 9 = .ok (.iload 6, 2) := by decide +kernel
theorem J_HSheet_strikeColumn_d11 : decode J_HSheet_strikeColumn.2.1 11 = .ok (.bipush 8, 2) := by decide +kernel
theorem J_HSheet_strikeColumn_d13 : decode J_HSheet_strikeColumn.2.1 13 = .ok (.imul, 1) := by decide +kernel
theorem J_HSheet_strikeColumn_d14 : decode J_HSheet_strikeColumn.2.1 14 = .ok (.iload_n 1, 1) := by decide +kernel
theorem J_HSheet_strikeColumn_d15 : decode J_HSheet_strikeColumn.2.1 15 = .ok (.iadd, 1) := by decide +kernel
theorem J_HSheet_strikeColumn_d16 : decode J_HSheet_strikeColumn.2.1 16 = .ok (.istore 7, 2) := by decide +kernel
theorem J_HSheet_strikeColumn_d18 : decode J_HSheet_strikeColumn.2.1 18 = .ok (.aload_n 0, 1) := by decide +kernel
theorem J_HSheet_strikeColumn_d19 : decode J_HSheet_strikeColumn.2.1 19 = .ok (.getfield 18, 3) := by decide +kernel
theorem J_HSheet_strikeColumn_d22 : decode J_HSheet_strikeColumn.2.1 22 = .ok (.iload 7, 2) := by decide +kernel
theorem J_HSheet_strikeColumn_d24 : decode J_HSheet_strikeColumn.2.1 24 = .ok (.aload_n 0, 1) := by decide +kernel
theorem J_HSheet_strikeColumn_d25 : decode J_HSheet_strikeColumn.2.1 25 = .ok (.getfield 49, 3) := by decide +kernel
theorem J_HSheet_strikeColumn_d28 : decode J_HSheet_strikeColumn.2.1 28 = .ok (.ifCond .eq 16, 3) := by decide +kernel
theorem J_HSheet_strikeColumn_d31 : decode J_HSheet_strikeColumn.2.1 31 = .ok (.aload_n 0, 1) := by decide +kernel
theorem J_HSheet_strikeColumn_d32 : decode J_HSheet_strikeColumn.2.1 32 = .ok (.getfield 18, 3) := by decide +kernel
theorem J_HSheet_strikeColumn_d35 : decode J_HSheet_strikeColumn.2.1 35 = .ok (.iload 7, 2) := by decide +kernel
theorem J_HSheet_strikeColumn_d37 : decode J_HSheet_strikeColumn.2.1 37 = .ok (.laload, 1) := by decide +kernel
theorem J_HSheet_strikeColumn_d38 : decode J_HSheet_strikeColumn.2.1 38 = .ok (.lload 4, 2) := by decide +kernel
theorem J_HSheet_strikeColumn_d40 : decode J_HSheet_strikeColumn.2.1 40 = .ok (.lxor, 1) := by decide +kernel
theorem J_HSheet_strikeColumn_d41 : decode J_HSheet_strikeColumn.2.1 41 = .ok (.goto 13, 3) := by decide +kernel
theorem J_HSheet_strikeColumn_d44 : decode J_HSheet_strikeColumn.2.1 44 = .ok (.aload_n 0, 1) := by decide +kernel
theorem J_HSheet_strikeColumn_d45 : decode J_HSheet_strikeColumn.2.1 45 = .ok (.getfield 18, 3) := by decide +kernel
theorem J_HSheet_strikeColumn_d48 : decode J_HSheet_strikeColumn.2.1 48 = .ok (.iload 7, 2) := by decide +kernel
theorem J_HSheet_strikeColumn_d50 : decode J_HSheet_strikeColumn.2.1 50 = .ok (.laload, 1) := by decide +kernel
theorem J_HSheet_strikeColumn_d51 : decode J_HSheet_strikeColumn.2.1 51 = .ok (.lload 4, 2) := by decide +kernel
theorem J_HSheet_strikeColumn_d53 : decode J_HSheet_strikeColumn.2.1 53 = .ok (.lor, 1) := by decide +kernel
theorem J_HSheet_strikeColumn_d54 : decode J_HSheet_strikeColumn.2.1 54 = .ok (.lastore, 1) := by decide +kernel
theorem J_HSheet_strikeColumn_d55 : decode J_HSheet_strikeColumn.2.1 55 = .ok (.iinc 6 1, 3) := by decide +kernel
theorem J_HSheet_strikeColumn_d58 : decode J_HSheet_strikeColumn.2.1 58 = .ok (.goto (-55), 3) := by decide +kernel
theorem J_HSheet_strikeColumn_d61 : decode J_HSheet_strikeColumn.2.1 61 = .ok (.return_, 1) := by decide +kernel
theorem f_HSheet_strikeColumn_ok {L : Nat} {xs : Nat → Int32} {dep : Nat} {w : Bool} {p0 : Int32} {p1 : Int32} {p2 : Int32} {p3 : Int64} {M : im_M} {Q : im_M → Prop} (hM : lw_S w M) (h : ed (f_HSheet_strikeColumn w p0 p1 p2 p3 M) Q) : ia (tb_G L xs) dep J_HSheet_strikeColumn (rwV w Q) (0, lv_args 0 [.ref 28, .int p0, .int p1, .int p2, .long p3], [], M) := by
  have hS : im_St (tb_G L xs) dep J_HSheet_strikeColumn (ia (tb_G L xs) dep J_HSheet_strikeColumn (rwV w Q)) := ia_St
  unfold f_HSheet_strikeColumn at h
  have l0 : im_lk (lv_args 0 [.ref 28, .int p0, .int p1, .int p2, .long p3]) 0 = some (.ref 28) := rfl
  have l1 : im_lk (lv_args 0 [.ref 28, .int p0, .int p1, .int p2, .long p3]) 1 = some (.int p0) := rfl
  have l2 : im_lk (lv_args 0 [.ref 28, .int p0, .int p1, .int p2, .long p3]) 2 = some (.int p1) := rfl
  have l3 : im_lk (lv_args 0 [.ref 28, .int p0, .int p1, .int p2, .long p3]) 3 = some (.int p2) := rfl
  have l4 : im_lk (lv_args 0 [.ref 28, .int p0, .int p1, .int p2, .long p3]) 4 = some (.long p3) := rfl
  refine iq_iload_n hS 1 J_HSheet_strikeColumn_d0 l2 rfl ?_
  refine iq_istore hS 3 J_HSheet_strikeColumn_d1 (by decide) rfl ?_
  obtain ⟨Q1, hQ1, h⟩ := bd1_ed h
  have K1 : ∀ (M2 : im_M) (L' : List (Nat × Value)), lw_S w M2 → Q1 M2 → ia (tb_G L xs) dep J_HSheet_strikeColumn (rwV w Q) (61, L', [], M2) := by
    intro M2 L' hM2  h
    replace h := hQ1 _ h
    exact iq_ret J_HSheet_strikeColumn_d61 rfl ⟨rfl, hM2, ed_some h⟩
  obtain ⟨r1, hr1, hq1⟩ := h
  obtain ⟨n1, hn1⟩ := lp_n hr1
  have I1 : ∀ (n : Nat) (x3 : Int32) (M4 : im_M) (L' : List (Nat × Value)), lw_S w M4 → im_lk L' 0 = some (.ref 28) → im_lk L' 1 = some (.int p0) → im_lk L' 3 = some (.int p2) → im_lk L' 4 = some (.long p3) → im_lk L' 6 = some (.int x3) → lpn (uc2 (f_HSheet_strikeColumn_L3 w p0 p2 p3)) n (x3, M4) = some r1 → ia (tb_G L xs) dep J_HSheet_strikeColumn (rwV w Q) (3, L', [], M4) := by
    intro n
    induction n with
    | zero => intro x3 M4 L' hM4 l5 l6 l7 l8 l9 hn; exact (lpn_0 hn).elim
    | succ n ih =>
      intro x3 M4 L' hM4 l5 l6 l7 l8 l9 hn
      have h := lpn_ed2 hn
      unfold f_HSheet_strikeColumn_L3 at h
      refine iq_iload hS 5 J_HSheet_strikeColumn_d3 l9 rfl ?_
      refine iq_iload_n hS 6 J_HSheet_strikeColumn_d5 l7 rfl ?_
      refine iq_icmp_gt hS 9 J_HSheet_strikeColumn_d6 (t := 61) rfl (fun q6 => ?_) rfl (fun q6 => ?_)
      · replace h := ed_pos q6 h
        exact K1 _ _ hM4  (lq_r h hq1)
      · replace h := ed_neg q6 h
        refine iq_iload hS 11 J_HSheet_strikeColumn_d9 l9 rfl ?_
        refine iq_bipush hS 13 J_HSheet_strikeColumn_d11 (v := 8) (by decide +kernel) rfl ?_
        refine iq_imul hS 14 J_HSheet_strikeColumn_d13 rfl ?_
        refine iq_iload_n hS 15 J_HSheet_strikeColumn_d14 l6 rfl ?_
        refine iq_iadd hS 16 J_HSheet_strikeColumn_d15 rfl ?_
        refine iq_istore hS 18 J_HSheet_strikeColumn_d16 (by decide) rfl ?_
        refine iq_aload_n hS 19 J_HSheet_strikeColumn_d18 (lk_1r l5 (by decide)) rfl ?_
        refine iq_getR hS 22 J_HSheet_strikeColumn_d19 lf_9_18 (Or.inr ⟨_, rfl⟩) (ka_28 hM4) (ra_28_sw hM4) rfl ?_
        refine iq_iload hS 24 J_HSheet_strikeColumn_d22 lk_1s rfl ?_
        refine iq_aload_n hS 25 J_HSheet_strikeColumn_d24 (lk_1r l5 (by decide)) rfl ?_
        refine iq_getI hS 28 J_HSheet_strikeColumn_d25 lf_9_49 (Or.inr rfl) (ka_28 hM4) rfl ?_
        obtain ⟨Q10, hQ10, h⟩ := bd1_ed h
        have J10 : ∀ (y11 : Int64) (L' : List (Nat × Value)), im_lk L' 0 = some (.ref 28) → im_lk L' 1 = some (.int p0) → im_lk L' 3 = some (.int p2) → im_lk L' 4 = some (.long p3) → im_lk L' 6 = some (.int x3) → Q10 y11 → ia (tb_G L xs) dep J_HSheet_strikeColumn (rwV w Q) (54, L', [.long y11, .int ((x3 * 8) + p0), .ref (sw w)], M4) := by
          intro y11 L' l12 l13 l14 l15 l16 h
          replace h := hQ10 _ h
          obtain ⟨g54, h⟩ := ed_gd h
          refine iq_lastore hS 55 J_HSheet_strikeColumn_d54 ⟨(ka_sw hM4).1, (ka_sw hM4).2, g54.1, ix_lt (kl_sw hM4) g54.2⟩ rfl ?_
          refine iq_iincv hS 58 J_HSheet_strikeColumn_d55 (c := 1) (by decide +kernel) l16 (by decide) rfl ?_
          refine iq_goto hS J_HSheet_strikeColumn_d58 (t := 3) rfl ?_
          exact ih _ _ _ hM4 (lk_1r l12 (by decide)) (lk_1i l13 (by decide)) (lk_1i l14 (by decide)) (lk_1l l15 (by decide) (by decide)) lk_1s (lq_l h)
        refine iq_if_eq hS 31 J_HSheet_strikeColumn_d28 (t := 44) rfl (fun q28 => ?_) rfl (fun q28 => ?_)
        · replace h := ed_pos q28 h
          refine iq_aload_n hS 45 J_HSheet_strikeColumn_d44 (lk_1r l5 (by decide)) rfl ?_
          refine iq_getR hS 48 J_HSheet_strikeColumn_d45 lf_9_18 (Or.inr ⟨_, rfl⟩) (ka_28 hM4) (ra_28_sw hM4) rfl ?_
          refine iq_iload hS 50 J_HSheet_strikeColumn_d48 lk_1s rfl ?_
          obtain ⟨g50, h⟩ := ed_gd h
          refine iq_laload hS 51 J_HSheet_strikeColumn_d50 ⟨(ka_sw hM4).1, (ka_sw hM4).2, g50.1, ix_lt (kl_sw hM4) g50.2⟩ rfl ?_
          refine iq_lload hS 53 J_HSheet_strikeColumn_d51 (lk_1l l8 (by decide) (by decide)) rfl ?_
          refine iq_lor hS 54 J_HSheet_strikeColumn_d53 rfl ?_
          exact J10 _ _ (lk_1r l5 (by decide)) (lk_1i l6 (by decide)) (lk_1i l7 (by decide)) (lk_1l l8 (by decide) (by decide)) (lk_1i l9 (by decide)) (ed_some h)
        · replace h := ed_neg q28 h
          refine iq_aload_n hS 32 J_HSheet_strikeColumn_d31 (lk_1r l5 (by decide)) rfl ?_
          refine iq_getR hS 35 J_HSheet_strikeColumn_d32 lf_9_18 (Or.inr ⟨_, rfl⟩) (ka_28 hM4) (ra_28_sw hM4) rfl ?_
          refine iq_iload hS 37 J_HSheet_strikeColumn_d35 lk_1s rfl ?_
          obtain ⟨g37, h⟩ := ed_gd h
          refine iq_laload hS 38 J_HSheet_strikeColumn_d37 ⟨(ka_sw hM4).1, (ka_sw hM4).2, g37.1, ix_lt (kl_sw hM4) g37.2⟩ rfl ?_
          refine iq_lload hS 40 J_HSheet_strikeColumn_d38 (lk_1l l8 (by decide) (by decide)) rfl ?_
          refine iq_lxor hS 41 J_HSheet_strikeColumn_d40 rfl ?_
          refine iq_goto hS J_HSheet_strikeColumn_d41 (t := 54) rfl ?_
          exact J10 _ _ (lk_1r l5 (by decide)) (lk_1i l6 (by decide)) (lk_1i l7 (by decide)) (lk_1l l8 (by decide) (by decide)) (lk_1i l9 (by decide)) (ed_some h)
  exact I1 n1 _ _ _ hM (lk_1r l0 (by decide)) (lk_1i l1 (by decide)) (lk_1i l3 (by decide)) (lk_1l l4 (by decide) (by decide)) lk_1s hn1
noncomputable def f_HSheet_box_L85 (w : Bool) (v6 : Int32) (v7 : Int32) (v8 : Int32) (v9 : Int32) (x10 : Int32) (M11 : im_M) : Option ((Int32 × im_M) ⊕ (im_M)) := if (v7 >>> (6 &&& 31)) < x10 then some (.inr M11) else bd1 (f_HSheet_strikeColumn w x10 v8 v9 ((if ¬ x10 = (v7 >>> (6 &&& 31)) then ((if ¬ x10 = (v6 >>> (6 &&& 31)) then (-1) else (((-1) : Int64) &&& (((-1) : Int64) <<< (Int32.toInt64 (v6 &&& 63) &&& 63)))) : Int64) else (((if ¬ x10 = (v6 >>> (6 &&& 31)) then (-1) else (((-1) : Int64) &&& (((-1) : Int64) <<< (Int32.toInt64 (v6 &&& 63) &&& 63)))) : Int64) &&& (Int64.toUInt64 (-1) >>> ((Int32.toInt64 ((63 : Int32) - (v7 &&& 63))).toUInt64 &&& Int64.toUInt64 63)).toInt64)) : Int64) M11) fun (M14 : im_M) => some (.inl ((x10 + 1), M14))
noncomputable def f_HSheet_box (w : Bool) (p0 : Int32) (p1 : Int32) (p2 : Int32) (p3 : Int32) (M : im_M) : Option (im_M) := bd1 (f_Math_max p0 0 M) fun (x1 : Int32) => bd1 (f_Math_min p2 ((im_i M 28 0) - 1) M) fun (x2 : Int32) => bd1 (f_Math_max p1 0 M) fun (x3 : Int32) => bd1 (f_Math_min p3 ((im_i M 28 1) - 1) M) fun (x4 : Int32) => if x2 < x1 then some M else if x3 ≤ x4 then bd1 (lp (uc2 (f_HSheet_box_L85 w x1 x2 x3 x4)) ((x1 >>> (6 &&& 31)), (im_setI M 28 3 ((im_i M 28 3) + (((x2 - x1) + 1) * ((x4 - x3) + 1)))))) fun (M15 : im_M) => some M15 else some M
theorem J_HSheet_box_d0 : decode J_HSheet_box.2.1 0 = .ok (.iload_n 1, 1) := by decide +kernel
theorem J_HSheet_box_d1 : decode J_HSheet_box.2.1 1 = .ok (.iconst 0, 1) := by decide +kernel
theorem J_HSheet_box_d2 : decode J_HSheet_box.2.1 2 = .ok (.invokestatic 31, 3) := by decide +kernel
theorem J_HSheet_box_d5 : decode J_HSheet_box.2.1 5 = .ok (.istore 5, 2) := by decide +kernel
theorem J_HSheet_box_d7 : decode J_HSheet_box.2.1 7 = .ok (.iload_n 3, 1) := by decide +kernel
theorem J_HSheet_box_d8 : decode J_HSheet_box.2.1 8 = .ok (.aload_n 0, 1) := by decide +kernel
theorem J_HSheet_box_d9 : decode J_HSheet_box.2.1 9 = .ok (.getfield 9, 3) := by decide +kernel
theorem J_HSheet_box_d12 : decode J_HSheet_box.2.1 12 = .ok (.iconst 1, 1) := by decide +kernel
theorem J_HSheet_box_d13 : decode J_HSheet_box.2.1 13 = .ok (.isub, 1) := by decide +kernel
theorem J_HSheet_box_d14 : decode J_HSheet_box.2.1 14 = .ok (.invokestatic 37, 3) := by decide +kernel
theorem J_HSheet_box_d17 : decode J_HSheet_box.2.1 17 = .ok (.istore 6, 2) := by decide +kernel
theorem J_HSheet_box_d19 : decode J_HSheet_box.2.1 19 = .ok (.iload_n 2, 1) := by decide +kernel
theorem J_HSheet_box_d20 : decode J_HSheet_box.2.1 20 = .ok (.iconst 0, 1) := by decide +kernel
theorem J_HSheet_box_d21 : decode J_HSheet_box.2.1 21 = .ok (.invokestatic 31, 3) := by decide +kernel
theorem J_HSheet_box_d24 : decode J_HSheet_box.2.1 24 = .ok (.istore 7, 2) := by decide +kernel
theorem J_HSheet_box_d26 : decode J_HSheet_box.2.1 26 = .ok (.iload 4, 2) := by decide +kernel
theorem J_HSheet_box_d28 : decode J_HSheet_box.2.1 28 = .ok (.aload_n 0, 1) := by decide +kernel
theorem J_HSheet_box_d29 : decode J_HSheet_box.2.1 29 = .ok (.getfield 15, 3) := by decide +kernel
theorem J_HSheet_box_d32 : decode J_HSheet_box.2.1 32 = .ok (.iconst 1, 1) := by decide +kernel
theorem J_HSheet_box_d33 : decode J_HSheet_box.2.1 33 = .ok (.isub, 1) := by decide +kernel
theorem J_HSheet_box_d34 : decode J_HSheet_box.2.1 34 = .ok (.invokestatic 37, 3) := by decide +kernel
theorem J_HSheet_box_d37 : decode J_HSheet_box.2.1 37 = .ok (.istore 8, 2) := by decide +kernel
theorem J_HSheet_box_d39 : decode J_HSheet_box.2.1 39 = .ok (.iload 5, 2) := by decide +kernel
theorem J_HSheet_box_d41 : decode J_HSheet_box.2.1 41 = .ok (.iload 6, 2) := by decide +kernel
theorem J_HSheet_box_d43 : decode J_HSheet_box.2.1 43 = .ok (.if_icmp .gt 10, 3) := by decide +kernel
theorem J_HSheet_box_d46 : decode J_HSheet_box.2.1 46 = .ok (.iload 7, 2) := by decide +kernel
theorem J_HSheet_box_d48 : decode J_HSheet_box.2.1 48 = .ok (.iload 8, 2) := by decide +kernel
theorem J_HSheet_box_d50 : decode J_HSheet_box.2.1 50 = .ok (.if_icmp .le 4, 3) := by decide +kernel
theorem J_HSheet_box_d53 : decode J_HSheet_box.2.1 53 = .ok (.return_, 1) := by decide +kernel
theorem J_HSheet_box_d54 : decode J_HSheet_box.2.1 54 = .ok (.aload_n 0, 1) := by decide +kernel
theorem J_HSheet_box_d55 : decode J_HSheet_box.2.1 55 = .ok (.dup, 1) := by decide +kernel
theorem J_HSheet_box_d56 : decode J_HSheet_box.2.1 56 = .ok (.getfield 40, 3) := by decide +kernel
theorem J_HSheet_box_d59 : decode J_HSheet_box.2.1 59 = .ok (.iload 6, 2) := by decide +kernel
theorem J_HSheet_box_d61 : decode J_HSheet_box.2.1 61 = .ok (.iload 5, 2) := by decide +kernel
theorem J_HSheet_box_d63 : decode J_HSheet_box.2.1 63 = .ok (.isub, 1) := by decide +kernel
theorem J_HSheet_box_d64 : decode J_HSheet_box.2.1 64 = .ok (.iconst 1, 1) := by decide +kernel
theorem J_HSheet_box_d65 : decode J_HSheet_box.2.1 65 = .ok (.iadd, 1) := by decide +kernel
theorem J_HSheet_box_d66 : decode J_HSheet_box.2.1 66 = .ok (.iload 8, 2) := by decide +kernel
theorem J_HSheet_box_d68 : decode J_HSheet_box.2.1 68 = .ok (.iload 7, 2) := by decide +kernel
theorem J_HSheet_box_d70 : decode J_HSheet_box.2.1 70 = .ok (.isub, 1) := by decide +kernel
theorem J_HSheet_box_d71 : decode J_HSheet_box.2.1 71 = .ok (.iconst 1, 1) := by decide +kernel
theorem J_HSheet_box_d72 : decode J_HSheet_box.2.1 72 = .ok (.iadd, 1) := by decide +kernel
theorem J_HSheet_box_d73 : decode J_HSheet_box.2.1 73 = .ok (.imul, 1) := by decide +kernel
theorem J_HSheet_box_d74 : decode J_HSheet_box.2.1 74 = .ok (.iadd, 1) := by decide +kernel
theorem J_HSheet_box_d75 : decode J_HSheet_box.2.1 75 = .ok (.putfield 40, 3) := by decide +kernel
theorem J_HSheet_box_d78 : decode J_HSheet_box.2.1 78 = .ok (.iload 5, 2) := by decide +kernel
theorem J_HSheet_box_d80 : decode J_HSheet_box.2.1 80 = .ok (.bipush 6, 2) := by decide +kernel
theorem J_HSheet_box_d82 : decode J_HSheet_box.2.1 82 = .ok (.ishr, 1) := by decide +kernel
theorem J_HSheet_box_d83 : decode J_HSheet_box.2.1 83 = .ok (.istore 9, 2) := by decide +kernel
theorem J_HSheet_box_d85 : decode J_HSheet_box.2.1 85 = .ok (.iload 9, 2) := by decide +kernel
theorem J_HSheet_box_d87 : decode J_HSheet_box.2.1 87 = .ok (.iload 6, 2) := by decide +kernel
theorem J_HSheet_box_d89 : decode J_HSheet_box.2.1 89 = .ok (.bipush 6, 2) := by decide +kernel
theorem J_HSheet_box_d91 : decode J_HSheet_box.2.1 91 = .ok (.ishr, 1) := by decide +kernel
theorem J_HSheet_box_d92 : decode J_HSheet_box.2.1 92 = .ok (.if_icmp .gt 77, 3) := by decide +kernel
theorem J_HSheet_box_d95 : decode J_HSheet_box.2.1 95 = .ok (.ldc2_w 43, 3) := by decide +kernel
theorem J_HSheet_box_d98 : decode J_HSheet_box.2.1 98 = .ok (.lstore 10, 2) := by decide +kernel
theorem J_HSheet_box_d100 : decode J_HSheet_box.2.1 100 = .ok (.iload 9, 2) := by decide +kernel
theorem J_HSheet_box_d102 : decode J_HSheet_box.2.1 102 = .ok (.iload 5, 2) := by decide +kernel
theorem J_HSheet_box_d104 : decode J_HSheet_box.2.1 104 = .ok (.bipush 6, 2) := by decide +kernel
theorem J_HSheet_box_d106 : decode J_HSheet_box.2.1 106 = .ok (.ishr, 1) := by decide +kernel
theorem J_HSheet_box_d107 : decode J_HSheet_box.2.1 107 = .ok (.if_icmp .ne 17, 3) := by decide +kernel
theorem J_HSheet_box_d110 : decode J_HSheet_box.2.1 110 = .ok (.lload 10, 2) := by decide +kernel
theorem J_HSheet_box_d112 : decode J_HSheet_box.2.1 112 = .ok (.ldc2_w 43, 3) := by decide +kernel
theorem J_HSheet_box_d115 : decode J_HSheet_box.2.1 115 = .ok (.iload 5, 2) := by decide +kernel
theorem J_HSheet_box_d117 : decode J_HSheet_box.2.1 117 = .ok (.bipush 63, 2) := by decide +kernel
theorem J_HSheet_box_d119 : decode J_HSheet_box.2.1 119 = .ok (.iand, 1) := by decide +kernel
theorem J_HSheet_box_d120 : decode J_HSheet_box.2.1 120 = .ok (.lshl, 1) := by decide +kernel
theorem J_HSheet_box_d121 : decode J_HSheet_box.2.1 121 = .ok (.land, 1) := by decide +kernel
theorem J_HSheet_box_d122 : decode J_HSheet_box.2.1 122 = .ok (.lstore 10, 2) := by decide +kernel
theorem J_HSheet_box_d124 : decode J_HSheet_box.2.1 124 = .ok (.iload 9, 2) := by decide +kernel
theorem J_HSheet_box_d126 : decode J_HSheet_box.2.1 126 = .ok (.iload 6, 2) := by decide +kernel
theorem J_HSheet_box_d128 : decode J_HSheet_box.2.1 128 = .ok (.bipush 6, 2) := by decide +kernel
theorem J_HSheet_box_d130 : decode J_HSheet_box.2.1 130 = .ok (.ishr, 1) := by decide +kernel
theorem J_HSheet_box_d131 : decode J_HSheet_box.2.1 131 = .ok (.if_icmp .ne 20, 3) := by decide +kernel
theorem J_HSheet_box_d134 : decode J_HSheet_box.2.1 134 = .ok (.lload 10, 2) := by decide +kernel
theorem J_HSheet_box_d136 : decode J_HSheet_box.2.1 136 = .ok (.ldc2_w 43, 3) := by decide +kernel
theorem J_HSheet_box_d139 : decode J_HSheet_box.2.1 139 = .ok (.bipush 63, 2) := by decide +kernel
theorem J_HSheet_box_d141 : decode J_HSheet_box.2.1 141 = .ok (.iload 6, 2) := by decide +kernel
theorem J_HSheet_box_d143 : decode J_HSheet_box.2.1 143 = .ok (.bipush 63, 2) := by decide +kernel
theorem J_HSheet_box_d145 : decode J_HSheet_box.2.1 145 = .ok (.iand, 1) := by decide +kernel
theorem J_HSheet_box_d146 : decode J_HSheet_box.2.1 146 = .ok (.isub, 1) := by decide +kernel
theorem J_HSheet_box_d147 : decode J_HSheet_box.2.1 147 = .ok (.lushr, 1) := by decide +kernel
theorem J_HSheet_box_d148 : decode J_HSheet_box.2.1 148 = .ok (.land, 1) := by decide +kernel
theorem J_HSheet_box_d149 : decode J_HSheet_box.2.1 149 = .ok (.lstore 10, 2) := by decide +kernel
theorem J_HSheet_box_d151 : decode J_HSheet_box.2.1 151 = .ok (.aload_n 0, 1) := by decide +kernel
theorem J_HSheet_box_d152 : decode J_HSheet_box.2.1 152 = .ok (.iload 9, 2) := by decide +kernel
theorem J_HSheet_box_d154 : decode J_HSheet_box.2.1 154 = .ok (.iload 7, 2) := by decide +kernel
theorem J_HSheet_box_d156 : decode J_HSheet_box.2.1 156 = .ok (.iload 8, 2) := by decide +kernel
theorem J_HSheet_box_d158 : decode J_HSheet_box.2.1 158 = .ok (.lload 10, 2) := by decide +kernel
theorem J_HSheet_box_d160 : decode J_HSheet_box.2.1 160 = .ok (.invokevirtual 45, 3) := by decide +kernel
theorem J_HSheet_box_d163 : decode J_HSheet_box.2.1 163 = .ok (.iinc 9 1, 3) := by decide +kernel
theorem J_HSheet_box_d166 : decode J_HSheet_box.2.1 166 = .ok (.goto (-81), 3) := by decide +kernel
theorem J_HSheet_box_d169 : decode J_HSheet_box.2.1 169 = .ok (.return_, 1) := by decide +kernel
theorem f_HSheet_box_ok {L : Nat} {xs : Nat → Int32} {dep : Nat} {w : Bool} {p0 : Int32} {p1 : Int32} {p2 : Int32} {p3 : Int32} {M : im_M} {Q : im_M → Prop} (hM : lw_S w M) (h : ed (f_HSheet_box w p0 p1 p2 p3 M) Q) : ia (tb_G L xs) (dep + 1) J_HSheet_box (rwV w Q) (0, lv_args 0 [.ref 28, .int p0, .int p1, .int p2, .int p3], [], M) := by
  have hS : im_St (tb_G L xs) (dep + 1) J_HSheet_box (ia (tb_G L xs) (dep + 1) J_HSheet_box (rwV w Q)) := ia_St
  unfold f_HSheet_box at h
  have l0 : im_lk (lv_args 0 [.ref 28, .int p0, .int p1, .int p2, .int p3]) 0 = some (.ref 28) := rfl
  have l1 : im_lk (lv_args 0 [.ref 28, .int p0, .int p1, .int p2, .int p3]) 1 = some (.int p0) := rfl
  have l2 : im_lk (lv_args 0 [.ref 28, .int p0, .int p1, .int p2, .int p3]) 2 = some (.int p1) := rfl
  have l3 : im_lk (lv_args 0 [.ref 28, .int p0, .int p1, .int p2, .int p3]) 3 = some (.int p2) := rfl
  have l4 : im_lk (lv_args 0 [.ref 28, .int p0, .int p1, .int p2, .int p3]) 4 = some (.int p3) := rfl
  refine iq_iload_n hS 1 J_HSheet_box_d0 l1 rfl ?_
  refine iq_iconst hS 2 J_HSheet_box_d1 (v := 0) (by decide +kernel) rfl ?_
  obtain ⟨Q1, hQ1, h⟩ := bd1_ed h
  refine iq_cpI hS 5 J_HSheet_box_d2 rfl (pr_stat (vs := [_, _]) lc_9_31 lT_27 rfl rfl (by decide) rfl (Nat.le_of_ble_eq_true rfl) (Nat.le_of_ble_eq_true rfl)) (f_Math_max_ok (dep := dep + 0) hM h) rfl ?_
  intro x1 h
  replace h := hQ1 _ h
  refine iq_istore hS 7 J_HSheet_box_d5 (by decide) rfl ?_
  refine iq_iload_n hS 8 J_HSheet_box_d7 (lk_1i l3 (by decide)) rfl ?_
  refine iq_aload_n hS 9 J_HSheet_box_d8 (lk_1r l0 (by decide)) rfl ?_
  refine iq_getI hS 12 J_HSheet_box_d9 lf_9_9 (Or.inl rfl) (ka_28 hM) rfl ?_
  refine iq_iconst hS 13 J_HSheet_box_d12 (v := 1) (by decide +kernel) rfl ?_
  refine iq_isub hS 14 J_HSheet_box_d13 rfl ?_
  obtain ⟨Q2, hQ2, h⟩ := bd1_ed h
  refine iq_cpI hS 17 J_HSheet_box_d14 rfl (pr_stat (vs := [_, _]) lc_9_37 lT_28 rfl rfl (by decide) rfl (Nat.le_of_ble_eq_true rfl) (Nat.le_of_ble_eq_true rfl)) (f_Math_min_ok (dep := dep + 0) hM h) rfl ?_
  intro x2 h
  replace h := hQ2 _ h
  refine iq_istore hS 19 J_HSheet_box_d17 (by decide) rfl ?_
  refine iq_iload_n hS 20 J_HSheet_box_d19 (lk_1i (lk_1i l2 (by decide)) (by decide)) rfl ?_
  refine iq_iconst hS 21 J_HSheet_box_d20 (v := 0) (by decide +kernel) rfl ?_
  obtain ⟨Q3, hQ3, h⟩ := bd1_ed h
  refine iq_cpI hS 24 J_HSheet_box_d21 rfl (pr_stat (vs := [_, _]) lc_9_31 lT_27 rfl rfl (by decide) rfl (Nat.le_of_ble_eq_true rfl) (Nat.le_of_ble_eq_true rfl)) (f_Math_max_ok (dep := dep + 0) hM h) rfl ?_
  intro x3 h
  replace h := hQ3 _ h
  refine iq_istore hS 26 J_HSheet_box_d24 (by decide) rfl ?_
  refine iq_iload hS 28 J_HSheet_box_d26 (lk_1i (lk_1i (lk_1i l4 (by decide)) (by decide)) (by decide)) rfl ?_
  refine iq_aload_n hS 29 J_HSheet_box_d28 (lk_1r (lk_1r (lk_1r l0 (by decide)) (by decide)) (by decide)) rfl ?_
  refine iq_getI hS 32 J_HSheet_box_d29 lf_9_15 (Or.inl rfl) (ka_28 hM) rfl ?_
  refine iq_iconst hS 33 J_HSheet_box_d32 (v := 1) (by decide +kernel) rfl ?_
  refine iq_isub hS 34 J_HSheet_box_d33 rfl ?_
  obtain ⟨Q4, hQ4, h⟩ := bd1_ed h
  refine iq_cpI hS 37 J_HSheet_box_d34 rfl (pr_stat (vs := [_, _]) lc_9_37 lT_28 rfl rfl (by decide) rfl (Nat.le_of_ble_eq_true rfl) (Nat.le_of_ble_eq_true rfl)) (f_Math_min_ok (dep := dep + 0) hM h) rfl ?_
  intro x4 h
  replace h := hQ4 _ h
  refine iq_istore hS 39 J_HSheet_box_d37 (by decide) rfl ?_
  refine iq_iload hS 41 J_HSheet_box_d39 (lk_1i (lk_1i (lk_1i lk_1s (by decide)) (by decide)) (by decide)) rfl ?_
  refine iq_iload hS 43 J_HSheet_box_d41 (lk_1i (lk_1i lk_1s (by decide)) (by decide)) rfl ?_
  refine iq_icmp_gt hS 46 J_HSheet_box_d43 (t := 53) rfl (fun q43 => ?_) rfl (fun q43 => ?_)
  · replace h := ed_pos q43 h
    exact iq_ret J_HSheet_box_d53 rfl ⟨rfl, hM, ed_some h⟩
  · replace h := ed_neg q43 h
    refine iq_iload hS 48 J_HSheet_box_d46 (lk_1i lk_1s (by decide)) rfl ?_
    refine iq_iload hS 50 J_HSheet_box_d48 lk_1s rfl ?_
    refine iq_icmp_le hS 53 J_HSheet_box_d50 (t := 54) rfl (fun q50 => ?_) rfl (fun q50 => ?_)
    · replace h := ed_pos q50 h
      refine iq_aload_n hS 55 J_HSheet_box_d54 (lk_1r (lk_1r (lk_1r (lk_1r l0 (by decide)) (by decide)) (by decide)) (by decide)) rfl ?_
      refine iq_dup hS 56 J_HSheet_box_d55 rfl rfl ?_
      refine iq_getI hS 59 J_HSheet_box_d56 lf_9_40 (Or.inl rfl) (ka_28 hM) rfl ?_
      refine iq_iload hS 61 J_HSheet_box_d59 (lk_1i (lk_1i lk_1s (by decide)) (by decide)) rfl ?_
      refine iq_iload hS 63 J_HSheet_box_d61 (lk_1i (lk_1i (lk_1i lk_1s (by decide)) (by decide)) (by decide)) rfl ?_
      refine iq_isub hS 64 J_HSheet_box_d63 rfl ?_
      refine iq_iconst hS 65 J_HSheet_box_d64 (v := 1) (by decide +kernel) rfl ?_
      refine iq_iadd hS 66 J_HSheet_box_d65 rfl ?_
      refine iq_iload hS 68 J_HSheet_box_d66 lk_1s rfl ?_
      refine iq_iload hS 70 J_HSheet_box_d68 (lk_1i lk_1s (by decide)) rfl ?_
      refine iq_isub hS 71 J_HSheet_box_d70 rfl ?_
      refine iq_iconst hS 72 J_HSheet_box_d71 (v := 1) (by decide +kernel) rfl ?_
      refine iq_iadd hS 73 J_HSheet_box_d72 rfl ?_
      refine iq_imul hS 74 J_HSheet_box_d73 rfl ?_
      refine iq_iadd hS 75 J_HSheet_box_d74 rfl ?_
      refine iq_putI hS 78 J_HSheet_box_d75 lf_9_40 (Or.inl rfl) rfl (ka_28 hM) rfl ?_
      refine iq_iload hS 80 J_HSheet_box_d78 (lk_1i (lk_1i (lk_1i lk_1s (by decide)) (by decide)) (by decide)) rfl ?_
      refine iq_bipush hS 82 J_HSheet_box_d80 (v := 6) (by decide +kernel) rfl ?_
      refine iq_ishr hS 83 J_HSheet_box_d82 rfl ?_
      refine iq_istore hS 85 J_HSheet_box_d83 (by decide) rfl ?_
      obtain ⟨Q5, hQ5, h⟩ := bd1_ed h
      have K5 : ∀ (M6 : im_M) (L' : List (Nat × Value)), lw_S w M6 → Q5 M6 → ia (tb_G L xs) (dep + 1) J_HSheet_box (rwV w Q) (169, L', [], M6) := by
        intro M6 L' hM6  h
        replace h := hQ5 _ h
        exact iq_ret J_HSheet_box_d169 rfl ⟨rfl, hM6, ed_some h⟩
      obtain ⟨r5, hr5, hq5⟩ := h
      obtain ⟨n5, hn5⟩ := lp_n hr5
      have I5 : ∀ (n : Nat) (x7 : Int32) (M8 : im_M) (L' : List (Nat × Value)), lw_S w M8 → im_lk L' 0 = some (.ref 28) → im_lk L' 5 = some (.int x1) → im_lk L' 6 = some (.int x2) → im_lk L' 7 = some (.int x3) → im_lk L' 8 = some (.int x4) → im_lk L' 9 = some (.int x7) → lpn (uc2 (f_HSheet_box_L85 w x1 x2 x3 x4)) n (x7, M8) = some r5 → ia (tb_G L xs) (dep + 1) J_HSheet_box (rwV w Q) (85, L', [], M8) := by
        intro n
        induction n with
        | zero => intro x7 M8 L' hM8 l9 l10 l11 l12 l13 l14 hn; exact (lpn_0 hn).elim
        | succ n ih =>
          intro x7 M8 L' hM8 l9 l10 l11 l12 l13 l14 hn
          have h := lpn_ed2 hn
          unfold f_HSheet_box_L85 at h
          refine iq_iload hS 87 J_HSheet_box_d85 l14 rfl ?_
          refine iq_iload hS 89 J_HSheet_box_d87 l11 rfl ?_
          refine iq_bipush hS 91 J_HSheet_box_d89 (v := 6) (by decide +kernel) rfl ?_
          refine iq_ishr hS 92 J_HSheet_box_d91 rfl ?_
          refine iq_icmp_gt hS 95 J_HSheet_box_d92 (t := 169) rfl (fun q92 => ?_) rfl (fun q92 => ?_)
          · replace h := ed_pos q92 h
            exact K5 _ _ hM8  (lq_r h hq5)
          · replace h := ed_neg q92 h
            refine iq_ldc2_w hS 98 J_HSheet_box_d95 lk_9_43 rfl ?_
            refine iq_lstore hS 100 J_HSheet_box_d98 (by decide) rfl ?_
            refine iq_iload hS 102 J_HSheet_box_d100 (lk_2i l14 (by decide) (by decide)) rfl ?_
            refine iq_iload hS 104 J_HSheet_box_d102 (lk_2i l10 (by decide) (by decide)) rfl ?_
            refine iq_bipush hS 106 J_HSheet_box_d104 (v := 6) (by decide +kernel) rfl ?_
            refine iq_ishr hS 107 J_HSheet_box_d106 rfl ?_
            have J15 : ∀ (z16 : Int64) (L' : List (Nat × Value)), z16 = ((if ¬ x7 = (x1 >>> (6 &&& 31)) then (-1) else (((-1) : Int64) &&& (((-1) : Int64) <<< (Int32.toInt64 (x1 &&& 63) &&& 63)))) : Int64) → im_lk L' 0 = some (.ref 28) → im_lk L' 5 = some (.int x1) → im_lk L' 6 = some (.int x2) → im_lk L' 7 = some (.int x3) → im_lk L' 8 = some (.int x4) → im_lk L' 9 = some (.int x7) → im_lk L' 10 = some (.long z16) → ia (tb_G L xs) (dep + 1) J_HSheet_box (rwV w Q) (124, L', [], M8) := by
              intro z16 L' e17 l18 l19 l20 l21 l22 l23 l24
              subst e17
              refine iq_iload hS 126 J_HSheet_box_d124 l23 rfl ?_
              refine iq_iload hS 128 J_HSheet_box_d126 l20 rfl ?_
              refine iq_bipush hS 130 J_HSheet_box_d128 (v := 6) (by decide +kernel) rfl ?_
              refine iq_ishr hS 131 J_HSheet_box_d130 rfl ?_
              have J25 : ∀ (z26 : Int64) (L' : List (Nat × Value)), z26 = ((if ¬ x7 = (x2 >>> (6 &&& 31)) then ((if ¬ x7 = (x1 >>> (6 &&& 31)) then (-1) else (((-1) : Int64) &&& (((-1) : Int64) <<< (Int32.toInt64 (x1 &&& 63) &&& 63)))) : Int64) else (((if ¬ x7 = (x1 >>> (6 &&& 31)) then (-1) else (((-1) : Int64) &&& (((-1) : Int64) <<< (Int32.toInt64 (x1 &&& 63) &&& 63)))) : Int64) &&& (Int64.toUInt64 (-1) >>> ((Int32.toInt64 ((63 : Int32) - (x2 &&& 63))).toUInt64 &&& Int64.toUInt64 63)).toInt64)) : Int64) → im_lk L' 0 = some (.ref 28) → im_lk L' 5 = some (.int x1) → im_lk L' 6 = some (.int x2) → im_lk L' 7 = some (.int x3) → im_lk L' 8 = some (.int x4) → im_lk L' 9 = some (.int x7) → im_lk L' 10 = some (.long z26) → ia (tb_G L xs) (dep + 1) J_HSheet_box (rwV w Q) (151, L', [], M8) := by
                intro z26 L' e27 l28 l29 l30 l31 l32 l33 l34
                subst e27
                refine iq_aload_n hS 152 J_HSheet_box_d151 l28 rfl ?_
                refine iq_iload hS 154 J_HSheet_box_d152 l33 rfl ?_
                refine iq_iload hS 156 J_HSheet_box_d154 l31 rfl ?_
                refine iq_iload hS 158 J_HSheet_box_d156 l32 rfl ?_
                refine iq_lload hS 160 J_HSheet_box_d158 l34 rfl ?_
                obtain ⟨Q35, hQ35, h⟩ := bd1_ed h
                refine iq_cwV hS 163 J_HSheet_box_d160 rfl (pr_inst (vs := [_, _, _, _]) lc_9_45 lT_114 rfl rfl (by decide) (by decide) rfl (Nat.le_of_ble_eq_true rfl) (Nat.le_of_ble_eq_true rfl) (fun _ => Or.inl (pr_b (ka_28 hM8) (by decide) rfl))) (f_HSheet_strikeColumn_ok (dep := dep + 0) hM8 h) rfl ?_
                intro M35 hM35 h
                replace h := hQ35 _ h
                refine iq_iincv hS 166 J_HSheet_box_d163 (c := 1) (by decide +kernel) l33 (by decide) rfl ?_
                refine iq_goto hS J_HSheet_box_d166 (t := 85) rfl ?_
                exact ih _ _ _ hM35 (lk_1r l28 (by decide)) (lk_1i l29 (by decide)) (lk_1i l30 (by decide)) (lk_1i l31 (by decide)) (lk_1i l32 (by decide)) lk_1s (lq_l h)
              refine iq_icmp_ne hS 134 J_HSheet_box_d131 (t := 151) rfl (fun q131 => ?_) rfl (fun q131 => ?_)
              · exact J25 _ _ (by rw [if_pos q131]) l18 l19 l20 l21 l22 l23 l24
              · refine iq_lload hS 136 J_HSheet_box_d134 l24 rfl ?_
                refine iq_ldc2_w hS 139 J_HSheet_box_d136 lk_9_43 rfl ?_
                refine iq_bipush hS 141 J_HSheet_box_d139 (v := 63) (by decide +kernel) rfl ?_
                refine iq_iload hS 143 J_HSheet_box_d141 l20 rfl ?_
                refine iq_bipush hS 145 J_HSheet_box_d143 (v := 63) (by decide +kernel) rfl ?_
                refine iq_iand hS 146 J_HSheet_box_d145 rfl ?_
                refine iq_isub hS 147 J_HSheet_box_d146 rfl ?_
                refine iq_lushr hS 148 J_HSheet_box_d147 rfl ?_
                refine iq_land hS 149 J_HSheet_box_d148 rfl ?_
                refine iq_lstore hS 151 J_HSheet_box_d149 (by decide) rfl ?_
                exact J25 _ _ (by rw [if_neg q131]) (lk_2r l18 (by decide) (by decide)) (lk_2i l19 (by decide) (by decide)) (lk_2i l20 (by decide) (by decide)) (lk_2i l21 (by decide) (by decide)) (lk_2i l22 (by decide) (by decide)) (lk_2i l23 (by decide) (by decide)) lk_2s
            refine iq_icmp_ne hS 110 J_HSheet_box_d107 (t := 124) rfl (fun q107 => ?_) rfl (fun q107 => ?_)
            · exact J15 _ _ (by rw [if_pos q107]) (lk_2r l9 (by decide) (by decide)) (lk_2i l10 (by decide) (by decide)) (lk_2i l11 (by decide) (by decide)) (lk_2i l12 (by decide) (by decide)) (lk_2i l13 (by decide) (by decide)) (lk_2i l14 (by decide) (by decide)) lk_2s
            · refine iq_lload hS 112 J_HSheet_box_d110 lk_2s rfl ?_
              refine iq_ldc2_w hS 115 J_HSheet_box_d112 lk_9_43 rfl ?_
              refine iq_iload hS 117 J_HSheet_box_d115 (lk_2i l10 (by decide) (by decide)) rfl ?_
              refine iq_bipush hS 119 J_HSheet_box_d117 (v := 63) (by decide +kernel) rfl ?_
              refine iq_iand hS 120 J_HSheet_box_d119 rfl ?_
              refine iq_lshl hS 121 J_HSheet_box_d120 rfl ?_
              refine iq_land hS 122 J_HSheet_box_d121 rfl ?_
              refine iq_lstore hS 124 J_HSheet_box_d122 (by decide) rfl ?_
              exact J15 _ _ (by rw [if_neg q107]) (lk_2r (lk_2r l9 (by decide) (by decide)) (by decide) (by decide)) (lk_2i (lk_2i l10 (by decide) (by decide)) (by decide) (by decide)) (lk_2i (lk_2i l11 (by decide) (by decide)) (by decide) (by decide)) (lk_2i (lk_2i l12 (by decide) (by decide)) (by decide) (by decide)) (lk_2i (lk_2i l13 (by decide) (by decide)) (by decide) (by decide)) (lk_2i (lk_2i l14 (by decide) (by decide)) (by decide) (by decide)) lk_2s
      exact I5 n5 _ _ _ hM (lk_1r (lk_1r (lk_1r (lk_1r (lk_1r l0 (by decide)) (by decide)) (by decide)) (by decide)) (by decide)) (lk_1i (lk_1i (lk_1i (lk_1i lk_1s (by decide)) (by decide)) (by decide)) (by decide)) (lk_1i (lk_1i (lk_1i lk_1s (by decide)) (by decide)) (by decide)) (lk_1i (lk_1i lk_1s (by decide)) (by decide)) (lk_1i lk_1s (by decide)) lk_1s hn5
    · replace h := ed_neg q50 h
      exact iq_ret J_HSheet_box_d53 rfl ⟨rfl, hM, ed_some h⟩
noncomputable def f_HPen_strike (w : Bool) (p0 : Int32) (p1 : Int32) (p2 : Int32) (p3 : Int32) (M : im_M) : Option (im_M) := if (im_i M 56 7) = 0 then bd1 (f_HSheet_box w ((im_i M 56 5) + p0) ((im_i M 56 6) + p1) ((((im_i M 56 5) + p0) + p2) - 1) ((((im_i M 56 6) + p1) + p3) - 1) M) fun (M1 : im_M) => some M1 else if (im_i M 56 7) = 1 then bd1 (f_HSheet_box w ((((im_i M 56 5) - p1) - p3) + 1) ((im_i M 56 6) + p0) ((im_i M 56 5) - p1) ((((im_i M 56 6) + p0) + p2) - 1) M) fun (M2 : im_M) => some M2 else if (im_i M 56 7) = 2 then bd1 (f_HSheet_box w ((((im_i M 56 5) - p0) - p2) + 1) ((((im_i M 56 6) - p1) - p3) + 1) ((im_i M 56 5) - p0) ((im_i M 56 6) - p1) M) fun (M3 : im_M) => some M3 else bd1 (f_HSheet_box w ((im_i M 56 5) + p1) ((((im_i M 56 6) - p0) - p2) + 1) ((((im_i M 56 5) + p1) + p3) - 1) ((im_i M 56 6) - p0) M) fun (M4 : im_M) => some M4
theorem J_HPen_strike_d0 : decode J_HPen_strike.2.1 0 = .ok (.aload_n 0, 1) := by decide +kernel
theorem J_HPen_strike_d1 : decode J_HPen_strike.2.1 1 = .ok (.getfield 50, 3) := by decide +kernel
theorem J_HPen_strike_d4 : decode J_HPen_strike.2.1 4 = .ok (.tableswitch 157 0 2 #[28, 71, 114], 28) := by decide +kernel
theorem J_HPen_strike_d32 : decode J_HPen_strike.2.1 32 = .ok (.aload_n 0, 1) := by decide +kernel
theorem J_HPen_strike_d33 : decode J_HPen_strike.2.1 33 = .ok (.getfield 19, 3) := by decide +kernel
theorem J_HPen_strike_d36 : decode J_HPen_strike.2.1 36 = .ok (.aload_n 0, 1) := by decide +kernel
theorem J_HPen_strike_d37 : decode J_HPen_strike.2.1 37 = .ok (.getfield 43, 3) := by decide +kernel
theorem J_HPen_strike_d40 : decode J_HPen_strike.2.1 40 = .ok (.iload_n 1, 1) := by decide +kernel
theorem J_HPen_strike_d41 : decode J_HPen_strike.2.1 41 = .ok (.iadd, 1) := by decide +kernel
theorem J_HPen_strike_d42 : decode J_HPen_strike.2.1 42 = .ok (.aload_n 0, 1) := by decide +kernel
theorem J_HPen_strike_d43 : decode J_HPen_strike.2.1 43 = .ok (.getfield 47, 3) := by decide +kernel
theorem J_HPen_strike_d46 : decode J_HPen_strike.2.1 46 = .ok (.iload_n 2, 1) := by decide +kernel
theorem J_HPen_strike_d47 : decode J_HPen_strike.2.1 47 = .ok (.iadd, 1) := by decide +kernel
theorem J_HPen_strike_d48 : decode J_HPen_strike.2.1 48 = .ok (.aload_n 0, 1) := by decide +kernel
theorem J_HPen_strike_d49 : decode J_HPen_strike.2.1 49 = .ok (.getfield 43, 3) := by decide +kernel
theorem J_HPen_strike_d52 : decode J_HPen_strike.2.1 52 = .ok (.iload_n 1, 1) := by decide +kernel
theorem J_HPen_strike_d53 : decode J_HPen_strike.2.1 53 = .ok (.iadd, 1) := by decide +kernel
theorem J_HPen_strike_d54 : decode J_HPen_strike.2.1 54 = .ok (.iload_n 3, 1) := by decide +kernel
theorem J_HPen_strike_d55 : decode J_HPen_strike.2.1 55 = .ok (.iadd, 1) := by decide +kernel
theorem J_HPen_strike_d56 : decode J_HPen_strike.2.1 56 = .ok (.iconst 1, 1) := by decide +kernel
theorem J_HPen_strike_d57 : decode J_HPen_strike.2.1 57 = .ok (.isub, 1) := by decide +kernel
theorem J_HPen_strike_d58 : decode J_HPen_strike.2.1 58 = .ok (.aload_n 0, 1) := by decide +kernel
theorem J_HPen_strike_d59 : decode J_HPen_strike.2.1 59 = .ok (.getfield 47, 3) := by decide +kernel
theorem J_HPen_strike_d62 : decode J_HPen_strike.2.1 62 = .ok (.iload_n 2, 1) := by decide +kernel
theorem J_HPen_strike_d63 : decode J_HPen_strike.2.1 63 = .ok (.iadd, 1) := by decide +kernel
theorem J_HPen_strike_d64 : decode J_HPen_strike.2.1 64 = .ok (.iload 4, 2) := by decide +kernel
theorem J_HPen_strike_d66 : decode J_HPen_strike.2.1 66 = .ok (.iadd, 1) := by decide +kernel
theorem J_HPen_strike_d67 : decode J_HPen_strike.2.1 67 = .ok (.iconst 1, 1) := by decide +kernel
theorem J_HPen_strike_d68 : decode J_HPen_strike.2.1 68 = .ok (.isub, 1) := by decide +kernel
theorem J_HPen_strike_d69 : decode J_HPen_strike.2.1 69 = .ok (.invokevirtual 107, 3) := by decide +kernel
theorem J_HPen_strike_d72 : decode J_HPen_strike.2.1 72 = .ok (.goto 129, 3) := by decide +kernel
theorem J_HPen_strike_d75 : decode J_HPen_strike.2.1 75 = .ok (.aload_n 0, 1) := by decide +kernel
theorem J_HPen_strike_d76 : decode J_HPen_strike.2.1 76 = .ok (.getfield 19, 3) := by decide +kernel
theorem J_HPen_strike_d79 : decode J_HPen_strike.2.1 79 = .ok (.aload_n 0, 1) := by decide +kernel
theorem J_HPen_strike_d80 : decode J_HPen_strike.2.1 80 = .ok (.getfield 43, 3) := by decide +kernel
theorem J_HPen_strike_d83 : decode J_HPen_strike.2.1 83 = .ok (.iload_n 2, 1) := by decide +kernel
theorem J_HPen_strike_d84 : decode J_HPen_strike.2.1 84 = .ok (.isub, 1) := by decide +kernel
theorem J_HPen_strike_d85 : decode J_HPen_strike.2.1 85 = .ok (.iload 4, 2) := by decide +kernel
theorem J_HPen_strike_d87 : decode J_HPen_strike.2.1 87 = .ok (.isub, 1) := by decide +kernel
theorem J_HPen_strike_d88 : decode J_HPen_strike.2.1 88 = .ok (.iconst 1, 1) := by decide +kernel
theorem J_HPen_strike_d89 : decode J_HPen_strike.2.1 89 = .ok (.iadd, 1) := by decide +kernel
theorem J_HPen_strike_d90 : decode J_HPen_strike.2.1 90 = .ok (.aload_n 0, 1) := by decide +kernel
theorem J_HPen_strike_d91 : decode J_HPen_strike.2.1 91 = .ok (.getfield 47, 3) := by decide +kernel
theorem J_HPen_strike_d94 : decode J_HPen_strike.2.1 94 = .ok (.iload_n 1, 1) := by decide +kernel
theorem J_HPen_strike_d95 : decode J_HPen_strike.2.1 95 = .ok (.iadd, 1) := by decide +kernel
theorem J_HPen_strike_d96 : decode J_HPen_strike.2.1 96 = .ok (.aload_n 0, 1) := by decide +kernel
theorem J_HPen_strike_d97 : decode J_HPen_strike.2.1 97 = .ok (.getfield 43, 3) := by decide +kernel
theorem J_HPen_strike_d100 : decode J_HPen_strike.2.1 100 = .ok (.iload_n 2, 1) := by decide +kernel
theorem J_HPen_strike_d101 : decode J_HPen_strike.2.1 101 = .ok (.isub, 1) := by decide +kernel
theorem J_HPen_strike_d102 : decode J_HPen_strike.2.1 102 = .ok (.aload_n 0, 1) := by decide +kernel
theorem J_HPen_strike_d103 : decode J_HPen_strike.2.1 103 = .ok (.getfield 47, 3) := by decide +kernel
theorem J_HPen_strike_d106 : decode J_HPen_strike.2.1 106 = .ok (.iload_n 1, 1) := by decide +kernel
theorem J_HPen_strike_d107 : decode J_HPen_strike.2.1 107 = .ok (.iadd, 1) := by decide +kernel
theorem J_HPen_strike_d108 : decode J_HPen_strike.2.1 108 = .ok (.iload_n 3, 1) := by decide +kernel
theorem J_HPen_strike_d109 : decode J_HPen_strike.2.1 109 = .ok (.iadd, 1) := by decide +kernel
theorem J_HPen_strike_d110 : decode J_HPen_strike.2.1 110 = .ok (.iconst 1, 1) := by decide +kernel
theorem J_HPen_strike_d111 : decode J_HPen_strike.2.1 111 = .ok (.isub, 1) := by decide +kernel
theorem J_HPen_strike_d112 : decode J_HPen_strike.2.1 112 = .ok (.invokevirtual 107, 3) := by decide +kernel
theorem J_HPen_strike_d115 : decode J_HPen_strike.2.1 115 = .ok (.goto 86, 3) := by decide +kernel
theorem J_HPen_strike_d118 : decode J_HPen_strike.2.1 118 = .ok (.aload_n 0, 1) := by decide +kernel
theorem J_HPen_strike_d119 : decode J_HPen_strike.2.1 119 = .ok (.getfield 19, 3) := by decide +kernel
theorem J_HPen_strike_d122 : decode J_HPen_strike.2.1 122 = .ok (.aload_n 0, 1) := by decide +kernel
theorem J_HPen_strike_d123 : decode J_HPen_strike.2.1 123 = .ok (.getfield 43, 3) := by decide +kernel
theorem J_HPen_strike_d126 : decode J_HPen_strike.2.1 126 = .ok (.iload_n 1, 1) := by decide +kernel
theorem J_HPen_strike_d127 : decode J_HPen_strike.2.1 127 = .ok (.isub, 1) := by decide +kernel
theorem J_HPen_strike_d128 : decode J_HPen_strike.2.1 128 = .ok (.iload_n 3, 1) := by decide +kernel
theorem J_HPen_strike_d129 : decode J_HPen_strike.2.1 129 = .ok (.isub, 1) := by decide +kernel
theorem J_HPen_strike_d130 : decode J_HPen_strike.2.1 130 = .ok (.iconst 1, 1) := by decide +kernel
theorem J_HPen_strike_d131 : decode J_HPen_strike.2.1 131 = .ok (.iadd, 1) := by decide +kernel
theorem J_HPen_strike_d132 : decode J_HPen_strike.2.1 132 = .ok (.aload_n 0, 1) := by decide +kernel
theorem J_HPen_strike_d133 : decode J_HPen_strike.2.1 133 = .ok (.getfield 47, 3) := by decide +kernel
theorem J_HPen_strike_d136 : decode J_HPen_strike.2.1 136 = .ok (.iload_n 2, 1) := by decide +kernel
theorem J_HPen_strike_d137 : decode J_HPen_strike.2.1 137 = .ok (.isub, 1) := by decide +kernel
theorem J_HPen_strike_d138 : decode J_HPen_strike.2.1 138 = .ok (.iload 4, 2) := by decide +kernel
theorem J_HPen_strike_d140 : decode J_HPen_strike.2.1 140 = .ok (.isub, 1) := by decide +kernel
theorem J_HPen_strike_d141 : decode J_HPen_strike.2.1 141 = .ok (.iconst 1, 1) := by decide +kernel
theorem J_HPen_strike_d142 : decode J_HPen_strike.2.1 142 = .ok (.iadd, 1) := by decide +kernel
theorem J_HPen_strike_d143 : decode J_HPen_strike.2.1 143 = .ok (.aload_n 0, 1) := by decide +kernel
theorem J_HPen_strike_d144 : decode J_HPen_strike.2.1 144 = .ok (.getfield 43, 3) := by decide +kernel
theorem J_HPen_strike_d147 : decode J_HPen_strike.2.1 147 = .ok (.iload_n 1, 1) := by decide +kernel
theorem J_HPen_strike_d148 : decode J_HPen_strike.2.1 148 = .ok (.isub, 1) := by decide +kernel
theorem J_HPen_strike_d149 : decode J_HPen_strike.2.1 149 = .ok (.aload_n 0, 1) := by decide +kernel
theorem J_HPen_strike_d150 : decode J_HPen_strike.2.1 150 = .ok (.getfield 47, 3) := by decide +kernel
theorem J_HPen_strike_d153 : decode J_HPen_strike.2.1 153 = .ok (.iload_n 2, 1) := by decide +kernel
theorem J_HPen_strike_d154 : decode J_HPen_strike.2.1 154 = .ok (.isub, 1) := by decide +kernel
theorem J_HPen_strike_d155 : decode J_HPen_strike.2.1 155 = .ok (.invokevirtual 107, 3) := by decide +kernel
theorem J_HPen_strike_d158 : decode J_HPen_strike.2.1 158 = .ok (.goto 43, 3) := by decide +kernel
theorem J_HPen_strike_d161 : decode J_HPen_strike.2.1 161 = .ok (.aload_n 0, 1) := by decide +kernel
theorem J_HPen_strike_d162 : decode J_HPen_strike.2.1 162 = .ok (.getfield 19, 3) := by decide +kernel
theorem J_HPen_strike_d165 : decode J_HPen_strike.2.1 165 = .ok (.aload_n 0, 1) := by decide +kernel
theorem J_HPen_strike_d166 : decode J_HPen_strike.2.1 166 = .ok (.getfield 43, 3) := by decide +kernel
theorem J_HPen_strike_d169 : decode J_HPen_strike.2.1 169 = .ok (.iload_n 2, 1) := by decide +kernel
theorem J_HPen_strike_d170 : decode J_HPen_strike.2.1 170 = .ok (.iadd, 1) := by decide +kernel
theorem J_HPen_strike_d171 : decode J_HPen_strike.2.1 171 = .ok (.aload_n 0, 1) := by decide +kernel
theorem J_HPen_strike_d172 : decode J_HPen_strike.2.1 172 = .ok (.getfield 47, 3) := by decide +kernel
theorem J_HPen_strike_d175 : decode J_HPen_strike.2.1 175 = .ok (.iload_n 1, 1) := by decide +kernel
theorem J_HPen_strike_d176 : decode J_HPen_strike.2.1 176 = .ok (.isub, 1) := by decide +kernel
theorem J_HPen_strike_d177 : decode J_HPen_strike.2.1 177 = .ok (.iload_n 3, 1) := by decide +kernel
theorem J_HPen_strike_d178 : decode J_HPen_strike.2.1 178 = .ok (.isub, 1) := by decide +kernel
theorem J_HPen_strike_d179 : decode J_HPen_strike.2.1 179 = .ok (.iconst 1, 1) := by decide +kernel
theorem J_HPen_strike_d180 : decode J_HPen_strike.2.1 180 = .ok (.iadd, 1) := by decide +kernel
theorem J_HPen_strike_d181 : decode J_HPen_strike.2.1 181 = .ok (.aload_n 0, 1) := by decide +kernel
theorem J_HPen_strike_d182 : decode J_HPen_strike.2.1 182 = .ok (.getfield 43, 3) := by decide +kernel
theorem J_HPen_strike_d185 : decode J_HPen_strike.2.1 185 = .ok (.iload_n 2, 1) := by decide +kernel
theorem J_HPen_strike_d186 : decode J_HPen_strike.2.1 186 = .ok (.iadd, 1) := by decide +kernel
theorem J_HPen_strike_d187 : decode J_HPen_strike.2.1 187 = .ok (.iload 4, 2) := by decide +kernel
theorem J_HPen_strike_d189 : decode J_HPen_strike.2.1 189 = .ok (.iadd, 1) := by decide +kernel
theorem J_HPen_strike_d190 : decode J_HPen_strike.2.1 190 = .ok (.iconst 1, 1) := by decide +kernel
theorem J_HPen_strike_d191 : decode J_HPen_strike.2.1 191 = .ok (.isub, 1) := by decide +kernel
theorem J_HPen_strike_d192 : decode J_HPen_strike.2.1 192 = .ok (.aload_n 0, 1) := by decide +kernel
theorem J_HPen_strike_d193 : decode J_HPen_strike.2.1 193 = .ok (.getfield 47, 3) := by decide +kernel
theorem J_HPen_strike_d196 : decode J_HPen_strike.2.1 196 = .ok (.iload_n 1, 1) := by decide +kernel
theorem J_HPen_strike_d197 : decode J_HPen_strike.2.1 197 = .ok (.isub, 1) := by decide +kernel
theorem J_HPen_strike_d198 : decode J_HPen_strike.2.1 198 = .ok (.invokevirtual 107, 3) := by decide +kernel
theorem J_HPen_strike_d201 : decode J_HPen_strike.2.1 201 = .ok (.return_, 1) := by decide +kernel
theorem f_HPen_strike_ok {L : Nat} {xs : Nat → Int32} {dep : Nat} {w : Bool} {p0 : Int32} {p1 : Int32} {p2 : Int32} {p3 : Int32} {M : im_M} {Q : im_M → Prop} (hM : lw_S w M) (h : ed (f_HPen_strike w p0 p1 p2 p3 M) Q) : ia (tb_G L xs) (dep + 2) J_HPen_strike (rwV w Q) (0, lv_args 0 [.ref 56, .int p0, .int p1, .int p2, .int p3], [], M) := by
  have hS : im_St (tb_G L xs) (dep + 2) J_HPen_strike (ia (tb_G L xs) (dep + 2) J_HPen_strike (rwV w Q)) := ia_St
  unfold f_HPen_strike at h
  have l0 : im_lk (lv_args 0 [.ref 56, .int p0, .int p1, .int p2, .int p3]) 0 = some (.ref 56) := rfl
  have l1 : im_lk (lv_args 0 [.ref 56, .int p0, .int p1, .int p2, .int p3]) 1 = some (.int p0) := rfl
  have l2 : im_lk (lv_args 0 [.ref 56, .int p0, .int p1, .int p2, .int p3]) 2 = some (.int p1) := rfl
  have l3 : im_lk (lv_args 0 [.ref 56, .int p0, .int p1, .int p2, .int p3]) 3 = some (.int p2) := rfl
  have l4 : im_lk (lv_args 0 [.ref 56, .int p0, .int p1, .int p2, .int p3]) 4 = some (.int p3) := rfl
  refine iq_aload_n hS 1 J_HPen_strike_d0 l0 rfl ?_
  refine iq_getI hS 4 J_HPen_strike_d1 lf_6_50 (Or.inl rfl) (ka_56 hM) rfl ?_
  by_cases q4_0 : (im_i M 56 7) = 0
  · replace h := ed_pos q4_0 h
    refine iq_tsw hS J_HPen_strike_d4 (t := 32) (sw_v q4_0 (by decide +kernel)) ?_
    refine iq_aload_n hS 33 J_HPen_strike_d32 l0 rfl ?_
    refine iq_getR hS 36 J_HPen_strike_d33 lf_6_19 (Or.inl ⟨_, rfl⟩) (ka_56 hM) (ra_56_0 hM) rfl ?_
    refine iq_aload_n hS 37 J_HPen_strike_d36 l0 rfl ?_
    refine iq_getI hS 40 J_HPen_strike_d37 lf_6_43 (Or.inl rfl) (ka_56 hM) rfl ?_
    refine iq_iload_n hS 41 J_HPen_strike_d40 l1 rfl ?_
    refine iq_iadd hS 42 J_HPen_strike_d41 rfl ?_
    refine iq_aload_n hS 43 J_HPen_strike_d42 l0 rfl ?_
    refine iq_getI hS 46 J_HPen_strike_d43 lf_6_47 (Or.inl rfl) (ka_56 hM) rfl ?_
    refine iq_iload_n hS 47 J_HPen_strike_d46 l2 rfl ?_
    refine iq_iadd hS 48 J_HPen_strike_d47 rfl ?_
    refine iq_aload_n hS 49 J_HPen_strike_d48 l0 rfl ?_
    refine iq_getI hS 52 J_HPen_strike_d49 lf_6_43 (Or.inl rfl) (ka_56 hM) rfl ?_
    refine iq_iload_n hS 53 J_HPen_strike_d52 l1 rfl ?_
    refine iq_iadd hS 54 J_HPen_strike_d53 rfl ?_
    refine iq_iload_n hS 55 J_HPen_strike_d54 l3 rfl ?_
    refine iq_iadd hS 56 J_HPen_strike_d55 rfl ?_
    refine iq_iconst hS 57 J_HPen_strike_d56 (v := 1) (by decide +kernel) rfl ?_
    refine iq_isub hS 58 J_HPen_strike_d57 rfl ?_
    refine iq_aload_n hS 59 J_HPen_strike_d58 l0 rfl ?_
    refine iq_getI hS 62 J_HPen_strike_d59 lf_6_47 (Or.inl rfl) (ka_56 hM) rfl ?_
    refine iq_iload_n hS 63 J_HPen_strike_d62 l2 rfl ?_
    refine iq_iadd hS 64 J_HPen_strike_d63 rfl ?_
    refine iq_iload hS 66 J_HPen_strike_d64 l4 rfl ?_
    refine iq_iadd hS 67 J_HPen_strike_d66 rfl ?_
    refine iq_iconst hS 68 J_HPen_strike_d67 (v := 1) (by decide +kernel) rfl ?_
    refine iq_isub hS 69 J_HPen_strike_d68 rfl ?_
    obtain ⟨Q1, hQ1, h⟩ := bd1_ed h
    refine iq_cwV hS 72 J_HPen_strike_d69 rfl (pr_inst (vs := [_, _, _, _]) lc_6_107 lT_113 rfl rfl (by decide) (by decide) rfl (Nat.le_of_ble_eq_true rfl) (Nat.le_of_ble_eq_true rfl) (fun _ => Or.inl (pr_b (ka_28 hM) (by decide) rfl))) (f_HSheet_box_ok (dep := dep + 0) hM h) rfl ?_
    intro M1 hM1 h
    replace h := hQ1 _ h
    refine iq_goto hS J_HPen_strike_d72 (t := 201) rfl ?_
    exact iq_ret J_HPen_strike_d201 rfl ⟨rfl, hM1, ed_some h⟩
  replace h := ed_neg q4_0 h
  by_cases q4_1 : (im_i M 56 7) = 1
  · replace h := ed_pos q4_1 h
    refine iq_tsw hS J_HPen_strike_d4 (t := 75) (sw_v q4_1 (by decide +kernel)) ?_
    refine iq_aload_n hS 76 J_HPen_strike_d75 l0 rfl ?_
    refine iq_getR hS 79 J_HPen_strike_d76 lf_6_19 (Or.inl ⟨_, rfl⟩) (ka_56 hM) (ra_56_0 hM) rfl ?_
    refine iq_aload_n hS 80 J_HPen_strike_d79 l0 rfl ?_
    refine iq_getI hS 83 J_HPen_strike_d80 lf_6_43 (Or.inl rfl) (ka_56 hM) rfl ?_
    refine iq_iload_n hS 84 J_HPen_strike_d83 l2 rfl ?_
    refine iq_isub hS 85 J_HPen_strike_d84 rfl ?_
    refine iq_iload hS 87 J_HPen_strike_d85 l4 rfl ?_
    refine iq_isub hS 88 J_HPen_strike_d87 rfl ?_
    refine iq_iconst hS 89 J_HPen_strike_d88 (v := 1) (by decide +kernel) rfl ?_
    refine iq_iadd hS 90 J_HPen_strike_d89 rfl ?_
    refine iq_aload_n hS 91 J_HPen_strike_d90 l0 rfl ?_
    refine iq_getI hS 94 J_HPen_strike_d91 lf_6_47 (Or.inl rfl) (ka_56 hM) rfl ?_
    refine iq_iload_n hS 95 J_HPen_strike_d94 l1 rfl ?_
    refine iq_iadd hS 96 J_HPen_strike_d95 rfl ?_
    refine iq_aload_n hS 97 J_HPen_strike_d96 l0 rfl ?_
    refine iq_getI hS 100 J_HPen_strike_d97 lf_6_43 (Or.inl rfl) (ka_56 hM) rfl ?_
    refine iq_iload_n hS 101 J_HPen_strike_d100 l2 rfl ?_
    refine iq_isub hS 102 J_HPen_strike_d101 rfl ?_
    refine iq_aload_n hS 103 J_HPen_strike_d102 l0 rfl ?_
    refine iq_getI hS 106 J_HPen_strike_d103 lf_6_47 (Or.inl rfl) (ka_56 hM) rfl ?_
    refine iq_iload_n hS 107 J_HPen_strike_d106 l1 rfl ?_
    refine iq_iadd hS 108 J_HPen_strike_d107 rfl ?_
    refine iq_iload_n hS 109 J_HPen_strike_d108 l3 rfl ?_
    refine iq_iadd hS 110 J_HPen_strike_d109 rfl ?_
    refine iq_iconst hS 111 J_HPen_strike_d110 (v := 1) (by decide +kernel) rfl ?_
    refine iq_isub hS 112 J_HPen_strike_d111 rfl ?_
    obtain ⟨Q2, hQ2, h⟩ := bd1_ed h
    refine iq_cwV hS 115 J_HPen_strike_d112 rfl (pr_inst (vs := [_, _, _, _]) lc_6_107 lT_113 rfl rfl (by decide) (by decide) rfl (Nat.le_of_ble_eq_true rfl) (Nat.le_of_ble_eq_true rfl) (fun _ => Or.inl (pr_b (ka_28 hM) (by decide) rfl))) (f_HSheet_box_ok (dep := dep + 0) hM h) rfl ?_
    intro M2 hM2 h
    replace h := hQ2 _ h
    refine iq_goto hS J_HPen_strike_d115 (t := 201) rfl ?_
    exact iq_ret J_HPen_strike_d201 rfl ⟨rfl, hM2, ed_some h⟩
  replace h := ed_neg q4_1 h
  by_cases q4_2 : (im_i M 56 7) = 2
  · replace h := ed_pos q4_2 h
    refine iq_tsw hS J_HPen_strike_d4 (t := 118) (sw_v q4_2 (by decide +kernel)) ?_
    refine iq_aload_n hS 119 J_HPen_strike_d118 l0 rfl ?_
    refine iq_getR hS 122 J_HPen_strike_d119 lf_6_19 (Or.inl ⟨_, rfl⟩) (ka_56 hM) (ra_56_0 hM) rfl ?_
    refine iq_aload_n hS 123 J_HPen_strike_d122 l0 rfl ?_
    refine iq_getI hS 126 J_HPen_strike_d123 lf_6_43 (Or.inl rfl) (ka_56 hM) rfl ?_
    refine iq_iload_n hS 127 J_HPen_strike_d126 l1 rfl ?_
    refine iq_isub hS 128 J_HPen_strike_d127 rfl ?_
    refine iq_iload_n hS 129 J_HPen_strike_d128 l3 rfl ?_
    refine iq_isub hS 130 J_HPen_strike_d129 rfl ?_
    refine iq_iconst hS 131 J_HPen_strike_d130 (v := 1) (by decide +kernel) rfl ?_
    refine iq_iadd hS 132 J_HPen_strike_d131 rfl ?_
    refine iq_aload_n hS 133 J_HPen_strike_d132 l0 rfl ?_
    refine iq_getI hS 136 J_HPen_strike_d133 lf_6_47 (Or.inl rfl) (ka_56 hM) rfl ?_
    refine iq_iload_n hS 137 J_HPen_strike_d136 l2 rfl ?_
    refine iq_isub hS 138 J_HPen_strike_d137 rfl ?_
    refine iq_iload hS 140 J_HPen_strike_d138 l4 rfl ?_
    refine iq_isub hS 141 J_HPen_strike_d140 rfl ?_
    refine iq_iconst hS 142 J_HPen_strike_d141 (v := 1) (by decide +kernel) rfl ?_
    refine iq_iadd hS 143 J_HPen_strike_d142 rfl ?_
    refine iq_aload_n hS 144 J_HPen_strike_d143 l0 rfl ?_
    refine iq_getI hS 147 J_HPen_strike_d144 lf_6_43 (Or.inl rfl) (ka_56 hM) rfl ?_
    refine iq_iload_n hS 148 J_HPen_strike_d147 l1 rfl ?_
    refine iq_isub hS 149 J_HPen_strike_d148 rfl ?_
    refine iq_aload_n hS 150 J_HPen_strike_d149 l0 rfl ?_
    refine iq_getI hS 153 J_HPen_strike_d150 lf_6_47 (Or.inl rfl) (ka_56 hM) rfl ?_
    refine iq_iload_n hS 154 J_HPen_strike_d153 l2 rfl ?_
    refine iq_isub hS 155 J_HPen_strike_d154 rfl ?_
    obtain ⟨Q3, hQ3, h⟩ := bd1_ed h
    refine iq_cwV hS 158 J_HPen_strike_d155 rfl (pr_inst (vs := [_, _, _, _]) lc_6_107 lT_113 rfl rfl (by decide) (by decide) rfl (Nat.le_of_ble_eq_true rfl) (Nat.le_of_ble_eq_true rfl) (fun _ => Or.inl (pr_b (ka_28 hM) (by decide) rfl))) (f_HSheet_box_ok (dep := dep + 0) hM h) rfl ?_
    intro M3 hM3 h
    replace h := hQ3 _ h
    refine iq_goto hS J_HPen_strike_d158 (t := 201) rfl ?_
    exact iq_ret J_HPen_strike_d201 rfl ⟨rfl, hM3, ed_some h⟩
  replace h := ed_neg q4_2 h
  refine iq_tsw hS J_HPen_strike_d4 (t := 161) (sw_d [0, 1, 2] (by decide) (by decide) (by decide +kernel) (sw_nc q4_0 (sw_nc q4_1 (sw_nc q4_2 sw_nn)))) ?_
  refine iq_aload_n hS 162 J_HPen_strike_d161 l0 rfl ?_
  refine iq_getR hS 165 J_HPen_strike_d162 lf_6_19 (Or.inl ⟨_, rfl⟩) (ka_56 hM) (ra_56_0 hM) rfl ?_
  refine iq_aload_n hS 166 J_HPen_strike_d165 l0 rfl ?_
  refine iq_getI hS 169 J_HPen_strike_d166 lf_6_43 (Or.inl rfl) (ka_56 hM) rfl ?_
  refine iq_iload_n hS 170 J_HPen_strike_d169 l2 rfl ?_
  refine iq_iadd hS 171 J_HPen_strike_d170 rfl ?_
  refine iq_aload_n hS 172 J_HPen_strike_d171 l0 rfl ?_
  refine iq_getI hS 175 J_HPen_strike_d172 lf_6_47 (Or.inl rfl) (ka_56 hM) rfl ?_
  refine iq_iload_n hS 176 J_HPen_strike_d175 l1 rfl ?_
  refine iq_isub hS 177 J_HPen_strike_d176 rfl ?_
  refine iq_iload_n hS 178 J_HPen_strike_d177 l3 rfl ?_
  refine iq_isub hS 179 J_HPen_strike_d178 rfl ?_
  refine iq_iconst hS 180 J_HPen_strike_d179 (v := 1) (by decide +kernel) rfl ?_
  refine iq_iadd hS 181 J_HPen_strike_d180 rfl ?_
  refine iq_aload_n hS 182 J_HPen_strike_d181 l0 rfl ?_
  refine iq_getI hS 185 J_HPen_strike_d182 lf_6_43 (Or.inl rfl) (ka_56 hM) rfl ?_
  refine iq_iload_n hS 186 J_HPen_strike_d185 l2 rfl ?_
  refine iq_iadd hS 187 J_HPen_strike_d186 rfl ?_
  refine iq_iload hS 189 J_HPen_strike_d187 l4 rfl ?_
  refine iq_iadd hS 190 J_HPen_strike_d189 rfl ?_
  refine iq_iconst hS 191 J_HPen_strike_d190 (v := 1) (by decide +kernel) rfl ?_
  refine iq_isub hS 192 J_HPen_strike_d191 rfl ?_
  refine iq_aload_n hS 193 J_HPen_strike_d192 l0 rfl ?_
  refine iq_getI hS 196 J_HPen_strike_d193 lf_6_47 (Or.inl rfl) (ka_56 hM) rfl ?_
  refine iq_iload_n hS 197 J_HPen_strike_d196 l1 rfl ?_
  refine iq_isub hS 198 J_HPen_strike_d197 rfl ?_
  obtain ⟨Q4, hQ4, h⟩ := bd1_ed h
  refine iq_cwV hS 201 J_HPen_strike_d198 rfl (pr_inst (vs := [_, _, _, _]) lc_6_107 lT_113 rfl rfl (by decide) (by decide) rfl (Nat.le_of_ble_eq_true rfl) (Nat.le_of_ble_eq_true rfl) (fun _ => Or.inl (pr_b (ka_28 hM) (by decide) rfl))) (f_HSheet_box_ok (dep := dep + 0) hM h) rfl ?_
  intro M4 hM4 h
  replace h := hQ4 _ h
  exact iq_ret J_HPen_strike_d201 rfl ⟨rfl, hM4, ed_some h⟩
noncomputable def f_HPen_drawCellRow_L6 (w : Bool) (v2 : Int32) (v3 : Int32) (v4 : Int32) (v5 : Int32) (v6 : Int32) (v7 : Int32) (x8 : Int32) (x9 : Int32) (M10 : im_M) : Option ((Int32 × Int32 × im_M) ⊕ (im_M)) := if v3 < x9 then some (.inr M10) else bd2 (jn1 (fun (y13 : Int32) => if y13 ≤ 0 then some (y13, M10) else bd1 (f_HPen_strike w (v4 + (v6 * (x9 - y13))) v5 (v6 * y13) v7 M10) fun (M23 : im_M) => some (0, M23)) fun k12 => if v3 ≤ x9 then k12 x8 else if ((Int32.toUInt32 v2 >>> (Int32.toUInt32 ((v3 - 1) - x9) &&& Int32.toUInt32 31)).toInt32 &&& 1) = 0 then k12 x8 else some ((x8 + 1), M10)) fun (y24 : Int32) (M25 : im_M) => some (.inl (y24, (x9 + 1), M25))
noncomputable def f_HPen_drawCellRow (w : Bool) (p0 : Int32) (p1 : Int32) (p2 : Int32) (p3 : Int32) (p4 : Int32) (p5 : Int32) (M : im_M) : Option (im_M) := bd1 (lp (uc3 (f_HPen_drawCellRow_L6 w p0 p1 p2 p3 p4 p5)) (0, 0, M)) fun (M35 : im_M) => some M35
theorem J_HPen_drawCellRow_d0 : decode J_HPen_drawCellRow.2.1 0 = .ok (.iconst 0, 1) := by decide +kernel
theorem J_HPen_drawCellRow_d1 : decode J_HPen_drawCellRow.2.1 1 = .ok (.istore 7, 2) := by decide +kernel
theorem J_HPen_drawCellRow_d3 : decode J_HPen_drawCellRow.2.1 3 = .ok (.iconst 0, 1) := by decide +kernel
theorem J_HPen_drawCellRow_d4 : decode J_HPen_drawCellRow.2.1 4 = .ok (.istore 8, 2) := by decide +kernel
theorem J_HPen_drawCellRow_d6 : decode J_HPen_drawCellRow.2.1 6 = .ok (.iload 8, 2) := by decide +kernel
theorem J_HPen_drawCellRow_d8 : decode J_HPen_drawCellRow.2.1 8 = .ok (.iload_n 2, 1) := by decide +kernel
theorem J_HPen_drawCellRow_d9 : decode J_HPen_drawCellRow.2.1 9 = .ok (.if_icmp .gt 65, 3) := by decide +kernel
theorem J_HPen_drawCellRow_d12 : decode J_HPen_drawCellRow.2.1 12 = .ok (.iload 8, 2) := by decide +kernel
theorem J_HPen_drawCellRow_d14 : decode J_HPen_drawCellRow.2.1 14 = .ok (.iload_n 2, 1) := by decide +kernel
theorem J_HPen_drawCellRow_d15 : decode J_HPen_drawCellRow.2.1 15 = .ok (.if_icmp .ge 22, 3) := by decide +kernel
theorem J_HPen_drawCellRow_d18 : decode J_HPen_drawCellRow.2.1 18 = .ok (.iload_n 1, 1) := by decide +kernel
theorem J_HPen_drawCellRow_d19 : decode J_HPen_drawCellRow.2.1 19 = .ok (.iload_n 2, 1) := by decide +kernel
theorem J_HPen_drawCellRow_d20 : decode J_HPen_drawCellRow.2.1 20 = .ok (.iconst 1, 1) := by decide +kernel
theorem J_HPen_drawCellRow_d21 : decode J_HPen_drawCellRow.2.1 21 = .ok (.isub, 1) := by decide +kernel
theorem J_HPen_drawCellRow_d22 : decode J_HPen_drawCellRow.2.1 22 = .ok (.iload 8, 2) := by decide +kernel
theorem J_HPen_drawCellRow_d24 : decode J_HPen_drawCellRow.2.1 24 = .ok (.isub, 1) := by decide +kernel
theorem J_HPen_drawCellRow_d25 : decode J_HPen_drawCellRow.2.1 25 = .ok (.iushr, 1) := by decide +kernel
theorem J_HPen_drawCellRow_d26 : decode J_HPen_drawCellRow.2.1 26 = .ok (.iconst 1, 1) := by decide +kernel
theorem J_HPen_drawCellRow_d27 : decode J_HPen_drawCellRow.2.1 27 = .ok (.iand, 1) := by decide +kernel
theorem J_HPen_drawCellRow_d28 : decode J_HPen_drawCellRow.2.1 28 = .ok (.ifCond .eq 9, 3) := by decide +kernel
theorem J_HPen_drawCellRow_d31 : decode J_HPen_drawCellRow.2.1 31 = .ok (.iinc 7 1, 3) := by decide +kernel
theorem J_HPen_drawCellRow_d34 : decode J_HPen_drawCellRow.2.1 34 = .ok (.goto 34, 3) := by decide +kernel
theorem J_HPen_drawCellRow_d37 : decode J_HPen_drawCellRow.2.1 37 = .ok (.iload 7, 2) := by decide +kernel
theorem J_HPen_drawCellRow_d39 : decode J_HPen_drawCellRow.2.1 39 = .ok (.ifCond .le 29, 3) := by decide +kernel
theorem J_HPen_drawCellRow_d42 : decode J_HPen_drawCellRow.2.1 42 = .ok (.aload_n 0, 1) := by decide +kernel
theorem J_HPen_drawCellRow_d43 : decode J_HPen_drawCellRow.2.1 43 = .ok (.iload_n 3, 1) := by decide +kernel
theorem J_HPen_drawCellRow_d44 : decode J_HPen_drawCellRow.2.1 44 = .ok (.iload 5, 2) := by decide +kernel
theorem J_HPen_drawCellRow_d46 : decode J_HPen_drawCellRow.2.1 46 = .ok (.iload 8, 2) := by decide +kernel
theorem J_HPen_drawCellRow_d48 : decode J_HPen_drawCellRow.2.1 48 = .ok (.iload 7, 2) := by decide +kernel
theorem J_HPen_drawCellRow_d50 : decode J_HPen_drawCellRow.2.1 50 = .ok (.isub, 1) := by decide +kernel
theorem J_HPen_drawCellRow_d51 : decode J_HPen_drawCellRow.2.1 51 = .ok (.imul, 1) := by decide +kernel
theorem J_HPen_drawCellRow_d52 : decode J_HPen_drawCellRow.2.1 52 = .ok (.iadd, 1) := by decide +kernel
theorem J_HPen_drawCellRow_d53 : decode J_HPen_drawCellRow.2.1 53 = .ok (.iload 4, 2) := by decide +kernel
theorem J_HPen_drawCellRow_d55 : decode J_HPen_drawCellRow.2.1 55 = .ok (.iload 5, 2) := by decide +kernel
theorem J_HPen_drawCellRow_d57 : decode J_HPen_drawCellRow.2.1 57 = .ok (.iload 7, 2) := by decide +kernel
theorem J_HPen_drawCellRow_d59 : decode J_HPen_drawCellRow.2.1 59 = .ok (.imul, 1) := by decide +kernel
theorem J_HPen_drawCellRow_d60 : decode J_HPen_drawCellRow.2.1 60 = .ok (.iload 6, 2) := by decide +kernel
theorem J_HPen_drawCellRow_d62 : decode J_HPen_drawCellRow.2.1 62 = .ok (.invokevirtual 118, 3) := by decide +kernel
theorem J_HPen_drawCellRow_d65 : decode J_HPen_drawCellRow.2.1 65 = .ok (.iconst 0, 1) := by decide +kernel
theorem J_HPen_drawCellRow_d66 : decode J_HPen_drawCellRow.2.1 66 = .ok (.istore 7, 2) := by decide +kernel
theorem J_HPen_drawCellRow_d68 : decode J_HPen_drawCellRow.2.1 68 = .ok (.iinc 8 1, 3) := by decide +kernel
theorem J_HPen_drawCellRow_d71 : decode J_HPen_drawCellRow.2.1 71 = .ok (.goto (-65), 3) := by decide +kernel
theorem J_HPen_drawCellRow_d74 : decode J_HPen_drawCellRow.2.1 74 = .ok (.return_, 1) := by decide +kernel
theorem f_HPen_drawCellRow_ok {L : Nat} {xs : Nat → Int32} {dep : Nat} {w : Bool} {p0 : Int32} {p1 : Int32} {p2 : Int32} {p3 : Int32} {p4 : Int32} {p5 : Int32} {M : im_M} {Q : im_M → Prop} (hM : lw_S w M) (h : ed (f_HPen_drawCellRow w p0 p1 p2 p3 p4 p5 M) Q) : ia (tb_G L xs) (dep + 3) J_HPen_drawCellRow (rwV w Q) (0, lv_args 0 [.ref 56, .int p0, .int p1, .int p2, .int p3, .int p4, .int p5], [], M) := by
  have hS : im_St (tb_G L xs) (dep + 3) J_HPen_drawCellRow (ia (tb_G L xs) (dep + 3) J_HPen_drawCellRow (rwV w Q)) := ia_St
  unfold f_HPen_drawCellRow at h
  have l0 : im_lk (lv_args 0 [.ref 56, .int p0, .int p1, .int p2, .int p3, .int p4, .int p5]) 0 = some (.ref 56) := rfl
  have l1 : im_lk (lv_args 0 [.ref 56, .int p0, .int p1, .int p2, .int p3, .int p4, .int p5]) 1 = some (.int p0) := rfl
  have l2 : im_lk (lv_args 0 [.ref 56, .int p0, .int p1, .int p2, .int p3, .int p4, .int p5]) 2 = some (.int p1) := rfl
  have l3 : im_lk (lv_args 0 [.ref 56, .int p0, .int p1, .int p2, .int p3, .int p4, .int p5]) 3 = some (.int p2) := rfl
  have l4 : im_lk (lv_args 0 [.ref 56, .int p0, .int p1, .int p2, .int p3, .int p4, .int p5]) 4 = some (.int p3) := rfl
  have l5 : im_lk (lv_args 0 [.ref 56, .int p0, .int p1, .int p2, .int p3, .int p4, .int p5]) 5 = some (.int p4) := rfl
  have l6 : im_lk (lv_args 0 [.ref 56, .int p0, .int p1, .int p2, .int p3, .int p4, .int p5]) 6 = some (.int p5) := rfl
  refine iq_iconst hS 1 J_HPen_drawCellRow_d0 (v := 0) (by decide +kernel) rfl ?_
  refine iq_istore hS 3 J_HPen_drawCellRow_d1 (by decide) rfl ?_
  refine iq_iconst hS 4 J_HPen_drawCellRow_d3 (v := 0) (by decide +kernel) rfl ?_
  refine iq_istore hS 6 J_HPen_drawCellRow_d4 (by decide) rfl ?_
  obtain ⟨Q1, hQ1, h⟩ := bd1_ed h
  have K1 : ∀ (M2 : im_M) (L' : List (Nat × Value)), lw_S w M2 → Q1 M2 → ia (tb_G L xs) (dep + 3) J_HPen_drawCellRow (rwV w Q) (74, L', [], M2) := by
    intro M2 L' hM2  h
    replace h := hQ1 _ h
    exact iq_ret J_HPen_drawCellRow_d74 rfl ⟨rfl, hM2, ed_some h⟩
  obtain ⟨r1, hr1, hq1⟩ := h
  obtain ⟨n1, hn1⟩ := lp_n hr1
  have I1 : ∀ (n : Nat) (x3 : Int32) (x4 : Int32) (M5 : im_M) (L' : List (Nat × Value)), lw_S w M5 → im_lk L' 0 = some (.ref 56) → im_lk L' 1 = some (.int p0) → im_lk L' 2 = some (.int p1) → im_lk L' 3 = some (.int p2) → im_lk L' 4 = some (.int p3) → im_lk L' 5 = some (.int p4) → im_lk L' 6 = some (.int p5) → im_lk L' 7 = some (.int x3) → im_lk L' 8 = some (.int x4) → lpn (uc3 (f_HPen_drawCellRow_L6 w p0 p1 p2 p3 p4 p5)) n (x3, x4, M5) = some r1 → ia (tb_G L xs) (dep + 3) J_HPen_drawCellRow (rwV w Q) (6, L', [], M5) := by
    intro n
    induction n with
    | zero => intro x3 x4 M5 L' hM5 l6 l7 l8 l9 l10 l11 l12 l13 l14 hn; exact (lpn_0 hn).elim
    | succ n ih =>
      intro x3 x4 M5 L' hM5 l6 l7 l8 l9 l10 l11 l12 l13 l14 hn
      have h := lpn_ed3 hn
      unfold f_HPen_drawCellRow_L6 at h
      refine iq_iload hS 8 J_HPen_drawCellRow_d6 l14 rfl ?_
      refine iq_iload_n hS 9 J_HPen_drawCellRow_d8 l8 rfl ?_
      refine iq_icmp_gt hS 12 J_HPen_drawCellRow_d9 (t := 74) rfl (fun q9 => ?_) rfl (fun q9 => ?_)
      · replace h := ed_pos q9 h
        exact K1 _ _ hM5  (lq_r h hq1)
      · replace h := ed_neg q9 h
        refine iq_iload hS 14 J_HPen_drawCellRow_d12 l14 rfl ?_
        refine iq_iload_n hS 15 J_HPen_drawCellRow_d14 l8 rfl ?_
        obtain ⟨Q15, hQ15, h⟩ := bd2_ed h
        have J15 : ∀ (y28 : Int32) (M29 : im_M) (L' : List (Nat × Value)), lw_S w M29 → im_lk L' 0 = some (.ref 56) → im_lk L' 1 = some (.int p0) → im_lk L' 2 = some (.int p1) → im_lk L' 3 = some (.int p2) → im_lk L' 4 = some (.int p3) → im_lk L' 5 = some (.int p4) → im_lk L' 6 = some (.int p5) → im_lk L' 7 = some (.int y28) → im_lk L' 8 = some (.int x4) → Q15 (y28, M29) → ia (tb_G L xs) (dep + 3) J_HPen_drawCellRow (rwV w Q) (68, L', [], M29) := by
          intro y28 M29 L' hM29 l30 l31 l32 l33 l34 l35 l36 l37 l38 h
          replace h := hQ15 _ _ h
          refine iq_iincv hS 71 J_HPen_drawCellRow_d68 (c := 1) (by decide +kernel) l38 (by decide) rfl ?_
          refine iq_goto hS J_HPen_drawCellRow_d71 (t := 6) rfl ?_
          exact ih _ _ _ _ hM29 (lk_1r l30 (by decide)) (lk_1i l31 (by decide)) (lk_1i l32 (by decide)) (lk_1i l33 (by decide)) (lk_1i l34 (by decide)) (lk_1i l35 (by decide)) (lk_1i l36 (by decide)) (lk_1i l37 (by decide)) lk_1s (lq_l h)
        obtain ⟨k16, Q16, hQ16, hk16, h⟩ := jn1_ed h
        have J16 : ∀ (y17 : Int32) (L' : List (Nat × Value)), im_lk L' 0 = some (.ref 56) → im_lk L' 1 = some (.int p0) → im_lk L' 2 = some (.int p1) → im_lk L' 3 = some (.int p2) → im_lk L' 4 = some (.int p3) → im_lk L' 5 = some (.int p4) → im_lk L' 6 = some (.int p5) → im_lk L' 7 = some (.int y17) → im_lk L' 8 = some (.int x4) → Q16 y17 → ia (tb_G L xs) (dep + 3) J_HPen_drawCellRow (rwV w Q) (37, L', [], M5) := by
          intro y17 L' l18 l19 l20 l21 l22 l23 l24 l25 l26 h
          replace h := hQ16 _ h
          refine iq_iload hS 39 J_HPen_drawCellRow_d37 l25 rfl ?_
          refine iq_if_le hS 42 J_HPen_drawCellRow_d39 (t := 68) rfl (fun q39 => ?_) rfl (fun q39 => ?_)
          · replace h := ed_pos q39 h
            exact J15 _ _ _ hM5 l18 l19 l20 l21 l22 l23 l24 l25 l26 (ed_some h)
          · replace h := ed_neg q39 h
            refine iq_aload_n hS 43 J_HPen_drawCellRow_d42 l18 rfl ?_
            refine iq_iload_n hS 44 J_HPen_drawCellRow_d43 l21 rfl ?_
            refine iq_iload hS 46 J_HPen_drawCellRow_d44 l23 rfl ?_
            refine iq_iload hS 48 J_HPen_drawCellRow_d46 l26 rfl ?_
            refine iq_iload hS 50 J_HPen_drawCellRow_d48 l25 rfl ?_
            refine iq_isub hS 51 J_HPen_drawCellRow_d50 rfl ?_
            refine iq_imul hS 52 J_HPen_drawCellRow_d51 rfl ?_
            refine iq_iadd hS 53 J_HPen_drawCellRow_d52 rfl ?_
            refine iq_iload hS 55 J_HPen_drawCellRow_d53 l22 rfl ?_
            refine iq_iload hS 57 J_HPen_drawCellRow_d55 l23 rfl ?_
            refine iq_iload hS 59 J_HPen_drawCellRow_d57 l25 rfl ?_
            refine iq_imul hS 60 J_HPen_drawCellRow_d59 rfl ?_
            refine iq_iload hS 62 J_HPen_drawCellRow_d60 l24 rfl ?_
            obtain ⟨Q27, hQ27, h⟩ := bd1_ed h
            refine iq_cwV hS 65 J_HPen_drawCellRow_d62 rfl (pr_inst (vs := [_, _, _, _]) lc_6_118 lT_112 rfl rfl (by decide) (by decide) rfl (Nat.le_of_ble_eq_true rfl) (Nat.le_of_ble_eq_true rfl) (fun _ => Or.inl (pr_b (ka_56 hM5) (by decide) rfl))) (f_HPen_strike_ok (dep := dep + 0) hM5 h) rfl ?_
            intro M27 hM27 h
            replace h := hQ27 _ h
            refine iq_iconst hS 66 J_HPen_drawCellRow_d65 (v := 0) (by decide +kernel) rfl ?_
            refine iq_istore hS 68 J_HPen_drawCellRow_d66 (by decide) rfl ?_
            exact J15 _ _ _ hM27 (lk_1r l18 (by decide)) (lk_1i l19 (by decide)) (lk_1i l20 (by decide)) (lk_1i l21 (by decide)) (lk_1i l22 (by decide)) (lk_1i l23 (by decide)) (lk_1i l24 (by decide)) lk_1s (lk_1i l26 (by decide)) (ed_some h)
        refine iq_icmp_ge hS 18 J_HPen_drawCellRow_d15 (t := 37) rfl (fun q15 => ?_) rfl (fun q15 => ?_)
        · replace h := ed_pos q15 h
          exact J16 _ _ l6 l7 l8 l9 l10 l11 l12 l13 l14 (hk16 _ h)
        · replace h := ed_neg q15 h
          refine iq_iload_n hS 19 J_HPen_drawCellRow_d18 l7 rfl ?_
          refine iq_iload_n hS 20 J_HPen_drawCellRow_d19 l8 rfl ?_
          refine iq_iconst hS 21 J_HPen_drawCellRow_d20 (v := 1) (by decide +kernel) rfl ?_
          refine iq_isub hS 22 J_HPen_drawCellRow_d21 rfl ?_
          refine iq_iload hS 24 J_HPen_drawCellRow_d22 l14 rfl ?_
          refine iq_isub hS 25 J_HPen_drawCellRow_d24 rfl ?_
          refine iq_iushr hS 26 J_HPen_drawCellRow_d25 rfl ?_
          refine iq_iconst hS 27 J_HPen_drawCellRow_d26 (v := 1) (by decide +kernel) rfl ?_
          refine iq_iand hS 28 J_HPen_drawCellRow_d27 rfl ?_
          refine iq_if_eq hS 31 J_HPen_drawCellRow_d28 (t := 37) rfl (fun q28 => ?_) rfl (fun q28 => ?_)
          · replace h := ed_pos q28 h
            exact J16 _ _ l6 l7 l8 l9 l10 l11 l12 l13 l14 (hk16 _ h)
          · replace h := ed_neg q28 h
            refine iq_iincv hS 34 J_HPen_drawCellRow_d31 (c := 1) (by decide +kernel) l13 (by decide) rfl ?_
            refine iq_goto hS J_HPen_drawCellRow_d34 (t := 68) rfl ?_
            exact J15 _ _ _ hM5 (lk_1r l6 (by decide)) (lk_1i l7 (by decide)) (lk_1i l8 (by decide)) (lk_1i l9 (by decide)) (lk_1i l10 (by decide)) (lk_1i l11 (by decide)) (lk_1i l12 (by decide)) lk_1s (lk_1i l14 (by decide)) (ed_some h)
  exact I1 n1 _ _ _ _ hM (lk_1r (lk_1r l0 (by decide)) (by decide)) (lk_1i (lk_1i l1 (by decide)) (by decide)) (lk_1i (lk_1i l2 (by decide)) (by decide)) (lk_1i (lk_1i l3 (by decide)) (by decide)) (lk_1i (lk_1i l4 (by decide)) (by decide)) (lk_1i (lk_1i l5 (by decide)) (by decide)) (lk_1i (lk_1i l6 (by decide)) (by decide)) (lk_1i lk_1s (by decide)) lk_1s hn1
noncomputable def f_HPen_drawText_L89 (w : Bool) (v16 : Int32) (v17 : Int32) (v18 : Int32) (v19 : Int32) (v20 : Int32) (v21 : Int32) (v22 : Int32) (v23 : Int32) (x24 : Int32) (M25 : im_M) : Option ((Int32 × im_M) ⊕ (im_M)) := gd (inb (((3 : Int32) * v17) + 1) 12) <| if (im_i M25 57 (Int32.toNatClampNeg (((3 : Int32) * v17) + 1))) ≤ x24 then some (.inr M25) else gd (inb (v23 + x24) 32768) <| bd1 (f_HPen_drawCellRow w (im_i M25 58 (Int32.toNatClampNeg (v23 + x24))) v20 (v21 * v22) (v19 * x24) v18 v19 M25) fun (M26 : im_M) => some (.inl ((x24 + 1), M26))
noncomputable def f_HPen_drawText_L56 (w : Bool) (v5 : Int32) (v6 : Int32) (v7 : Int32) (v8 : Int32) (v9 : Int32) (v10 : Int32) (x11 : Int32) (M12 : im_M) : Option ((Int32 × im_M) ⊕ (im_M)) := bd1 (f_HOrders_value_1 v5 8 M12) fun (x13 : Int32) => if x13 ≤ x11 then some (.inr M12) else bd1 (f_HOrders_byteAt v5 x11 M12) fun (x14 : Int32) => bd1 (lp (uc2 (f_HPen_drawText_L89 w v5 v6 v7 v8 v9 v10 x11 (((v6 * 256) + x14) * 32))) (0, M12)) fun (M27 : im_M) => some (.inl ((x11 + 1), M27))
noncomputable def f_HPen_drawText (w : Bool) (p1 : Int32) (M : im_M) : Option (im_M) := bd1 (f_HOrders_value_1 p1 5 M) fun (x1 : Int32) => bd1 (f_HOrders_value_1 p1 6 M) fun (x2 : Int32) => bd1 (f_HOrders_value_1 p1 7 M) fun (x3 : Int32) => gd (inb ((3 : Int32) * x1) 12) <| gd (inb (((3 : Int32) * x1) + 2) 12) <| bd1 (lp (uc2 (f_HPen_drawText_L56 w p1 x1 x2 x3 (im_i M 57 (Int32.toNatClampNeg ((3 : Int32) * x1))) (x2 * ((im_i M 57 (Int32.toNatClampNeg ((3 : Int32) * x1))) + (im_i M 57 (Int32.toNatClampNeg (((3 : Int32) * x1) + 2))))))) (0, M)) fun (M28 : im_M) => some M28
theorem J_HPen_drawText_d0 : decode J_HPen_drawText.2.1 0 = .ok (.aload_n 1, 1) := by decide +kernel
theorem J_HPen_drawText_d1 : decode J_HPen_drawText.2.1 1 = .ok (.iload_n 2, 1) := by decide +kernel
theorem J_HPen_drawText_d2 : decode J_HPen_drawText.2.1 2 = .ok (.iconst 5, 1) := by decide +kernel
theorem J_HPen_drawText_d3 : decode J_HPen_drawText.2.1 3 = .ok (.invokevirtual 39, 3) := by decide +kernel
theorem J_HPen_drawText_d6 : decode J_HPen_drawText.2.1 6 = .ok (.istore_n 3, 1) := by decide +kernel
theorem J_HPen_drawText_d7 : decode J_HPen_drawText.2.1 7 = .ok (.aload_n 1, 1) := by decide +kernel
theorem J_HPen_drawText_d8 : decode J_HPen_drawText.2.1 8 = .ok (.iload_n 2, 1) := by decide +kernel
theorem J_HPen_drawText_d9 : decode J_HPen_drawText.2.1 9 = .ok (.bipush 6, 2) := by decide +kernel
theorem J_HPen_drawText_d11 : decode J_HPen_drawText.2.1 11 = .ok (.invokevirtual 39, 3) := by decide +kernel
theorem J_HPen_drawText_d14 : decode J_HPen_drawText.2.1 14 = .ok (.istore 4, 2) := by decide +kernel
theorem J_HPen_drawText_d16 : decode J_HPen_drawText.2.1 16 = .ok (.aload_n 1, 1) := by decide +kernel
theorem J_HPen_drawText_d17 : decode J_HPen_drawText.2.1 17 = .ok (.iload_n 2, 1) := by decide +kernel
theorem J_HPen_drawText_d18 : decode J_HPen_drawText.2.1 18 = .ok (.bipush 7, 2) := by decide +kernel
theorem J_HPen_drawText_d20 : decode J_HPen_drawText.2.1 20 = .ok (.invokevirtual 39, 3) := by decide +kernel
theorem J_HPen_drawText_d23 : decode J_HPen_drawText.2.1 23 = .ok (.istore 5, 2) := by decide +kernel
theorem J_HPen_drawText_d25 : decode J_HPen_drawText.2.1 25 = .ok (.aload_n 0, 1) := by decide +kernel
theorem J_HPen_drawText_d26 : decode J_HPen_drawText.2.1 26 = .ok (.getfield 9, 3) := by decide +kernel
theorem J_HPen_drawText_d29 : decode J_HPen_drawText.2.1 29 = .ok (.iconst 3, 1) := by decide +kernel
theorem J_HPen_drawText_d30 : decode J_HPen_drawText.2.1 30 = .ok (.iload_n 3, 1) := by decide +kernel
theorem J_HPen_drawText_d31 : decode J_HPen_drawText.2.1 31 = .ok (.imul, 1) := by decide +kernel
theorem J_HPen_drawText_d32 : decode J_HPen_drawText.2.1 32 = .ok (.iaload, 1) := by decide +kernel
theorem J_HPen_drawText_d33 : decode J_HPen_drawText.2.1 33 = .ok (.istore 6, 2) := by decide +kernel
theorem J_HPen_drawText_d35 : decode J_HPen_drawText.2.1 35 = .ok (.iload 4, 2) := by decide +kernel
theorem J_HPen_drawText_d37 : decode J_HPen_drawText.2.1 37 = .ok (.iload 6, 2) := by decide +kernel
theorem J_HPen_drawText_d39 : decode J_HPen_drawText.2.1 39 = .ok (.aload_n 0, 1) := by decide +kernel
theorem J_HPen_drawText_d40 : decode J_HPen_drawText.2.1 40 = .ok (.getfield 9, 3) := by decide +kernel
theorem J_HPen_drawText_d43 : decode J_HPen_drawText.2.1 43 = .ok (.iconst 3, 1) := by decide +kernel
theorem J_HPen_drawText_d44 : decode J_HPen_drawText.2.1 44 = .ok (.iload_n 3, 1) := by decide +kernel
theorem J_HPen_drawText_d45 : decode J_HPen_drawText.2.1 45 = .ok (.imul, 1) := by decide +kernel
theorem J_HPen_drawText_d46 : decode J_HPen_drawText.2.1 46 = .ok (.iconst 2, 1) := by decide +kernel
theorem J_HPen_drawText_d47 : decode J_HPen_drawText.2.1 47 = .ok (.iadd, 1) := by decide +kernel
theorem J_HPen_drawText_d48 : decode J_HPen_drawText.2.1 48 = .ok (.iaload, 1) := by decide +kernel
theorem J_HPen_drawText_d49 : decode J_HPen_drawText.2.1 49 = .ok (.iadd, 1) := by decide +kernel
theorem J_HPen_drawText_d50 : decode J_HPen_drawText.2.1 50 = .ok (.imul, 1) := by decide +kernel
theorem J_HPen_drawText_d51 : decode J_HPen_drawText.2.1 51 = .ok (.istore 7, 2) := by decide +kernel
theorem J_HPen_drawText_d53 : decode J_HPen_drawText.2.1 53 = .ok (.iconst 0, 1) := by decide +kernel
theorem J_HPen_drawText_d54 : decode J_HPen_drawText.2.1 54 = .ok (.istore 8, 2) := by decide +kernel
theorem J_HPen_drawText_d56 : decode J_HPen_drawText.2.1 56 = .ok (.iload 8, 2) := by decide +kernel
theorem J_HPen_drawText_d58 : decode J_HPen_drawText.2.1 58 = .ok (.aload_n 1, 1) := by decide +kernel
theorem J_HPen_drawText_d59 : decode J_HPen_drawText.2.1 59 = .ok (.iload_n 2, 1) := by decide +kernel
theorem J_HPen_drawText_d60 : decode J_HPen_drawText.2.1 60 = .ok (.bipush 8, 2) := by decide +kernel
theorem J_HPen_drawText_d62 : decode J_HPen_drawText.2.1 62 = .ok (.invokevirtual 39, 3) := by decide +kernel
theorem J_HPen_drawText_d65 : decode J_HPen_drawText.2.1 65 = .ok (.if_icmp .ge 81, 3) := by decide +kernel
theorem J_HPen_drawText_d68 : decode J_HPen_drawText.2.1 68 = .ok (.iload_n 3, 1) := by decide +kernel
theorem J_HPen_drawText_d69 : decode J_HPen_drawText.2.1 69 = .ok (.sipush 256, 3) := by decide +kernel
theorem J_HPen_drawText_d72 : decode J_HPen_drawText.2.1 72 = .ok (.imul, 1) := by decide +kernel
theorem J_HPen_drawText_d73 : decode J_HPen_drawText.2.1 73 = .ok (.aload_n 1, 1) := by decide +kernel
theorem J_HPen_drawText_d74 : decode J_HPen_drawText.2.1 74 = .ok (.iload_n 2, 1) := by decide +kernel
theorem J_HPen_drawText_d75 : decode J_HPen_drawText.2.1 75 = .ok (.iload 8, 2) := by decide +kernel
theorem J_HPen_drawText_d77 : decode J_HPen_drawText.2.1 77 = .ok (.invokevirtual 111, 3) := by decide +kernel
theorem J_HPen_drawText_d80 : decode J_HPen_drawText.2.1 80 = .ok (.iadd, 1) := by decide +kernel
theorem J_HPen_drawText_d81 : decode J_HPen_drawText.2.1 81 = .ok (.bipush 32, 2) := by decide +kernel
theorem J_HPen_drawText_d83 : decode J_HPen_drawText.2.1 83 = .ok (.imul, 1) := by decide +kernel
theorem J_HPen_drawText_d84 : decode J_HPen_drawText.2.1 84 = .ok (.istore 9, 2) := by decide +kernel
theorem J_HPen_drawText_d86 : decode J_HPen_drawText.2.1 86 = .ok (.iconst 0, 1) := by decide +kernel
theorem J_HPen_drawText_d87 : decode J_HPen_drawText.2.1 87 = .ok (.istore 10, 2) := by decide +kernel
theorem J_HPen_drawText_d89 : decode J_HPen_drawText.2.1 89 = .ok (.iload 10, 2) := by decide +kernel
theorem J_HPen_drawText_d91 : decode J_HPen_drawText.2.1 91 = .ok (.aload_n 0, 1) := by decide +kernel
theorem J_HPen_drawText_d92 : decode J_HPen_drawText.2.1 92 = .ok (.getfield 9, 3) := by decide +kernel
theorem J_HPen_drawText_d95 : decode J_HPen_drawText.2.1 95 = .ok (.iconst 3, 1) := by decide +kernel
theorem J_HPen_drawText_d96 : decode J_HPen_drawText.2.1 96 = .ok (.iload_n 3, 1) := by decide +kernel
theorem J_HPen_drawText_d97 : decode J_HPen_drawText.2.1 97 = .ok (.imul, 1) := by decide +kernel
theorem J_HPen_drawText_d98 : decode J_HPen_drawText.2.1 98 = .ok (.iconst 1, 1) := by decide +kernel
theorem J_HPen_drawText_d99 : decode J_HPen_drawText.2.1 99 = .ok (.iadd, 1) := by decide +kernel
theorem J_HPen_drawText_d100 : decode J_HPen_drawText.2.1 100 = .ok (.iaload, 1) := by decide +kernel
theorem J_HPen_drawText_d101 : decode J_HPen_drawText.2.1 101 = .ok (.if_icmp .ge 39, 3) := by decide +kernel
theorem J_HPen_drawText_d104 : decode J_HPen_drawText.2.1 104 = .ok (.aload_n 0, 1) := by decide +kernel
theorem J_HPen_drawText_d105 : decode J_HPen_drawText.2.1 105 = .ok (.aload_n 0, 1) := by decide +kernel
theorem J_HPen_drawText_d106 : decode J_HPen_drawText.2.1 106 = .ok (.getfield 16, 3) := by decide +kernel
theorem J_HPen_drawText_d109 : decode J_HPen_drawText.2.1 109 = .ok (.iload 9, 2) := by decide +kernel
theorem J_HPen_drawText_d111 : decode J_HPen_drawText.2.1 111 = .ok (.iload 10, 2) := by decide +kernel
theorem J_HPen_drawText_d113 : decode J_HPen_drawText.2.1 113 = .ok (.iadd, 1) := by decide +kernel
theorem J_HPen_drawText_d114 : decode J_HPen_drawText.2.1 114 = .ok (.iaload, 1) := by decide +kernel
theorem J_HPen_drawText_d115 : decode J_HPen_drawText.2.1 115 = .ok (.iload 6, 2) := by decide +kernel
theorem J_HPen_drawText_d117 : decode J_HPen_drawText.2.1 117 = .ok (.iload 7, 2) := by decide +kernel
theorem J_HPen_drawText_d119 : decode J_HPen_drawText.2.1 119 = .ok (.iload 8, 2) := by decide +kernel
theorem J_HPen_drawText_d121 : decode J_HPen_drawText.2.1 121 = .ok (.imul, 1) := by decide +kernel
theorem J_HPen_drawText_d122 : decode J_HPen_drawText.2.1 122 = .ok (.iload 5, 2) := by decide +kernel
theorem J_HPen_drawText_d124 : decode J_HPen_drawText.2.1 124 = .ok (.iload 10, 2) := by decide +kernel
theorem J_HPen_drawText_d126 : decode J_HPen_drawText.2.1 126 = .ok (.imul, 1) := by decide +kernel
theorem J_HPen_drawText_d127 : decode J_HPen_drawText.2.1 127 = .ok (.iload 4, 2) := by decide +kernel
theorem J_HPen_drawText_d129 : decode J_HPen_drawText.2.1 129 = .ok (.iload 5, 2) := by decide +kernel
theorem J_HPen_drawText_d131 : decode J_HPen_drawText.2.1 131 = .ok (.invokevirtual 114, 3) := by decide +kernel
theorem J_HPen_drawText_d134 : decode J_HPen_drawText.2.1 134 = .ok (.iinc 10 1, 3) := by decide +kernel
theorem J_HPen_drawText_d137 : decode J_HPen_drawText.2.1 137 = .ok (.goto (-48), 3) := by decide +kernel
theorem J_HPen_drawText_d140 : decode J_HPen_drawText.2.1 140 = .ok (.iinc 8 1, 3) := by decide +kernel
theorem J_HPen_drawText_d143 : decode J_HPen_drawText.2.1 143 = .ok (.goto (-87), 3) := by decide +kernel
theorem J_HPen_drawText_d146 : decode J_HPen_drawText.2.1 146 = .ok (.return_, 1) := by decide +kernel
theorem f_HPen_drawText_ok {L : Nat} {xs : Nat → Int32} {dep : Nat} {w : Bool} {p1 : Int32} {M : im_M} {Q : im_M → Prop} (hM : lw_S w M) (h : ed (f_HPen_drawText w p1 M) Q) : ia (tb_G L xs) (dep + 4) J_HPen_drawText (rwV w Q) (0, lv_args 0 [.ref 56, .ref 11, .int p1], [], M) := by
  have hS : im_St (tb_G L xs) (dep + 4) J_HPen_drawText (ia (tb_G L xs) (dep + 4) J_HPen_drawText (rwV w Q)) := ia_St
  unfold f_HPen_drawText at h
  have l0 : im_lk (lv_args 0 [.ref 56, .ref 11, .int p1]) 0 = some (.ref 56) := rfl
  have l1 : im_lk (lv_args 0 [.ref 56, .ref 11, .int p1]) 1 = some (.ref 11) := rfl
  have l2 : im_lk (lv_args 0 [.ref 56, .ref 11, .int p1]) 2 = some (.int p1) := rfl
  refine iq_aload_n hS 1 J_HPen_drawText_d0 l1 rfl ?_
  refine iq_iload_n hS 2 J_HPen_drawText_d1 l2 rfl ?_
  refine iq_iconst hS 3 J_HPen_drawText_d2 (v := 5) (by decide +kernel) rfl ?_
  obtain ⟨Q1, hQ1, h⟩ := bd1_ed h
  refine iq_cpI hS 6 J_HPen_drawText_d3 rfl (pr_inst (vs := [_, _]) lc_6_39 lT_77 rfl rfl (by decide) (by decide) rfl (Nat.le_of_ble_eq_true rfl) (Nat.le_of_ble_eq_true rfl) (fun _ => Or.inl (pr_b (ka_11 hM) (by decide) rfl))) (f_HOrders_value_1_ok (dep := dep + 3) hM h) rfl ?_
  intro x1 h
  replace h := hQ1 _ h
  refine iq_istore_n hS 7 J_HPen_drawText_d6 (by decide) rfl ?_
  refine iq_aload_n hS 8 J_HPen_drawText_d7 (lk_1r l1 (by decide)) rfl ?_
  refine iq_iload_n hS 9 J_HPen_drawText_d8 (lk_1i l2 (by decide)) rfl ?_
  refine iq_bipush hS 11 J_HPen_drawText_d9 (v := 6) (by decide +kernel) rfl ?_
  obtain ⟨Q2, hQ2, h⟩ := bd1_ed h
  refine iq_cpI hS 14 J_HPen_drawText_d11 rfl (pr_inst (vs := [_, _]) lc_6_39 lT_77 rfl rfl (by decide) (by decide) rfl (Nat.le_of_ble_eq_true rfl) (Nat.le_of_ble_eq_true rfl) (fun _ => Or.inl (pr_b (ka_11 hM) (by decide) rfl))) (f_HOrders_value_1_ok (dep := dep + 3) hM h) rfl ?_
  intro x2 h
  replace h := hQ2 _ h
  refine iq_istore hS 16 J_HPen_drawText_d14 (by decide) rfl ?_
  refine iq_aload_n hS 17 J_HPen_drawText_d16 (lk_1r (lk_1r l1 (by decide)) (by decide)) rfl ?_
  refine iq_iload_n hS 18 J_HPen_drawText_d17 (lk_1i (lk_1i l2 (by decide)) (by decide)) rfl ?_
  refine iq_bipush hS 20 J_HPen_drawText_d18 (v := 7) (by decide +kernel) rfl ?_
  obtain ⟨Q3, hQ3, h⟩ := bd1_ed h
  refine iq_cpI hS 23 J_HPen_drawText_d20 rfl (pr_inst (vs := [_, _]) lc_6_39 lT_77 rfl rfl (by decide) (by decide) rfl (Nat.le_of_ble_eq_true rfl) (Nat.le_of_ble_eq_true rfl) (fun _ => Or.inl (pr_b (ka_11 hM) (by decide) rfl))) (f_HOrders_value_1_ok (dep := dep + 3) hM h) rfl ?_
  intro x3 h
  replace h := hQ3 _ h
  refine iq_istore hS 25 J_HPen_drawText_d23 (by decide) rfl ?_
  refine iq_aload_n hS 26 J_HPen_drawText_d25 (lk_1r (lk_1r (lk_1r l0 (by decide)) (by decide)) (by decide)) rfl ?_
  refine iq_getR hS 29 J_HPen_drawText_d26 lf_6_9 (Or.inr ⟨_, rfl⟩) (ka_56 hM) (ra_56_3 hM) rfl ?_
  refine iq_iconst hS 30 J_HPen_drawText_d29 (v := 3) (by decide +kernel) rfl ?_
  refine iq_iload_n hS 31 J_HPen_drawText_d30 (lk_1i (lk_1i lk_1s (by decide)) (by decide)) rfl ?_
  refine iq_imul hS 32 J_HPen_drawText_d31 rfl ?_
  obtain ⟨g32, h⟩ := ed_gd h
  refine iq_iaload hS 33 J_HPen_drawText_d32 ⟨(ka_57 hM).1, (ka_57 hM).2, g32.1, ix_lt (kl_57 hM) g32.2⟩ rfl ?_
  refine iq_istore hS 35 J_HPen_drawText_d33 (by decide) rfl ?_
  refine iq_iload hS 37 J_HPen_drawText_d35 (lk_1i (lk_1i lk_1s (by decide)) (by decide)) rfl ?_
  refine iq_iload hS 39 J_HPen_drawText_d37 lk_1s rfl ?_
  refine iq_aload_n hS 40 J_HPen_drawText_d39 (lk_1r (lk_1r (lk_1r (lk_1r l0 (by decide)) (by decide)) (by decide)) (by decide)) rfl ?_
  refine iq_getR hS 43 J_HPen_drawText_d40 lf_6_9 (Or.inr ⟨_, rfl⟩) (ka_56 hM) (ra_56_3 hM) rfl ?_
  refine iq_iconst hS 44 J_HPen_drawText_d43 (v := 3) (by decide +kernel) rfl ?_
  refine iq_iload_n hS 45 J_HPen_drawText_d44 (lk_1i (lk_1i (lk_1i lk_1s (by decide)) (by decide)) (by decide)) rfl ?_
  refine iq_imul hS 46 J_HPen_drawText_d45 rfl ?_
  refine iq_iconst hS 47 J_HPen_drawText_d46 (v := 2) (by decide +kernel) rfl ?_
  refine iq_iadd hS 48 J_HPen_drawText_d47 rfl ?_
  obtain ⟨g48, h⟩ := ed_gd h
  refine iq_iaload hS 49 J_HPen_drawText_d48 ⟨(ka_57 hM).1, (ka_57 hM).2, g48.1, ix_lt (kl_57 hM) g48.2⟩ rfl ?_
  refine iq_iadd hS 50 J_HPen_drawText_d49 rfl ?_
  refine iq_imul hS 51 J_HPen_drawText_d50 rfl ?_
  refine iq_istore hS 53 J_HPen_drawText_d51 (by decide) rfl ?_
  refine iq_iconst hS 54 J_HPen_drawText_d53 (v := 0) (by decide +kernel) rfl ?_
  refine iq_istore hS 56 J_HPen_drawText_d54 (by decide) rfl ?_
  obtain ⟨Q4, hQ4, h⟩ := bd1_ed h
  have K4 : ∀ (M5 : im_M) (L' : List (Nat × Value)), lw_S w M5 → Q4 M5 → ia (tb_G L xs) (dep + 4) J_HPen_drawText (rwV w Q) (146, L', [], M5) := by
    intro M5 L' hM5  h
    replace h := hQ4 _ h
    exact iq_ret J_HPen_drawText_d146 rfl ⟨rfl, hM5, ed_some h⟩
  obtain ⟨r4, hr4, hq4⟩ := h
  obtain ⟨n4, hn4⟩ := lp_n hr4
  have I4 : ∀ (n : Nat) (x6 : Int32) (M7 : im_M) (L' : List (Nat × Value)), lw_S w M7 → im_lk L' 0 = some (.ref 56) → im_lk L' 1 = some (.ref 11) → im_lk L' 2 = some (.int p1) → im_lk L' 3 = some (.int x1) → im_lk L' 4 = some (.int x2) → im_lk L' 5 = some (.int x3) → im_lk L' 6 = some (.int (im_i M 57 (Int32.toNatClampNeg ((3 : Int32) * x1)))) → im_lk L' 7 = some (.int (x2 * ((im_i M 57 (Int32.toNatClampNeg ((3 : Int32) * x1))) + (im_i M 57 (Int32.toNatClampNeg (((3 : Int32) * x1) + 2)))))) → im_lk L' 8 = some (.int x6) → lpn (uc2 (f_HPen_drawText_L56 w p1 x1 x2 x3 (im_i M 57 (Int32.toNatClampNeg ((3 : Int32) * x1))) (x2 * ((im_i M 57 (Int32.toNatClampNeg ((3 : Int32) * x1))) + (im_i M 57 (Int32.toNatClampNeg (((3 : Int32) * x1) + 2))))))) n (x6, M7) = some r4 → ia (tb_G L xs) (dep + 4) J_HPen_drawText (rwV w Q) (56, L', [], M7) := by
    intro n
    induction n with
    | zero => intro x6 M7 L' hM7 l8 l9 l10 l11 l12 l13 l14 l15 l16 hn; exact (lpn_0 hn).elim
    | succ n ih =>
      intro x6 M7 L' hM7 l8 l9 l10 l11 l12 l13 l14 l15 l16 hn
      have h := lpn_ed2 hn
      unfold f_HPen_drawText_L56 at h
      refine iq_iload hS 58 J_HPen_drawText_d56 l16 rfl ?_
      refine iq_aload_n hS 59 J_HPen_drawText_d58 l9 rfl ?_
      refine iq_iload_n hS 60 J_HPen_drawText_d59 l10 rfl ?_
      refine iq_bipush hS 62 J_HPen_drawText_d60 (v := 8) (by decide +kernel) rfl ?_
      obtain ⟨Q17, hQ17, h⟩ := bd1_ed h
      refine iq_cpI hS 65 J_HPen_drawText_d62 rfl (pr_inst (vs := [_, _]) lc_6_39 lT_77 rfl rfl (by decide) (by decide) rfl (Nat.le_of_ble_eq_true rfl) (Nat.le_of_ble_eq_true rfl) (fun _ => Or.inl (pr_b (ka_11 hM7) (by decide) rfl))) (f_HOrders_value_1_ok (dep := dep + 3) hM7 h) rfl ?_
      intro x17 h
      replace h := hQ17 _ h
      refine iq_icmp_ge hS 68 J_HPen_drawText_d65 (t := 146) rfl (fun q65 => ?_) rfl (fun q65 => ?_)
      · replace h := ed_pos q65 h
        exact K4 _ _ hM7  (lq_r h hq4)
      · replace h := ed_neg q65 h
        refine iq_iload_n hS 69 J_HPen_drawText_d68 l11 rfl ?_
        refine iq_sipush hS 72 J_HPen_drawText_d69 (v := 256) (by decide +kernel) rfl ?_
        refine iq_imul hS 73 J_HPen_drawText_d72 rfl ?_
        refine iq_aload_n hS 74 J_HPen_drawText_d73 l9 rfl ?_
        refine iq_iload_n hS 75 J_HPen_drawText_d74 l10 rfl ?_
        refine iq_iload hS 77 J_HPen_drawText_d75 l16 rfl ?_
        obtain ⟨Q18, hQ18, h⟩ := bd1_ed h
        refine iq_cpI hS 80 J_HPen_drawText_d77 rfl (pr_inst (vs := [_, _]) lc_6_111 lT_110 rfl rfl (by decide) (by decide) rfl (Nat.le_of_ble_eq_true rfl) (Nat.le_of_ble_eq_true rfl) (fun _ => Or.inl (pr_b (ka_11 hM7) (by decide) rfl))) (f_HOrders_byteAt_ok (dep := dep + 3) hM7 h) rfl ?_
        intro x18 h
        replace h := hQ18 _ h
        refine iq_iadd hS 81 J_HPen_drawText_d80 rfl ?_
        refine iq_bipush hS 83 J_HPen_drawText_d81 (v := 32) (by decide +kernel) rfl ?_
        refine iq_imul hS 84 J_HPen_drawText_d83 rfl ?_
        refine iq_istore hS 86 J_HPen_drawText_d84 (by decide) rfl ?_
        refine iq_iconst hS 87 J_HPen_drawText_d86 (v := 0) (by decide +kernel) rfl ?_
        refine iq_istore hS 89 J_HPen_drawText_d87 (by decide) rfl ?_
        obtain ⟨Q19, hQ19, h⟩ := bd1_ed h
        have K19 : ∀ (M20 : im_M) (L' : List (Nat × Value)), lw_S w M20 → im_lk L' 0 = some (.ref 56) → im_lk L' 1 = some (.ref 11) → im_lk L' 2 = some (.int p1) → im_lk L' 3 = some (.int x1) → im_lk L' 4 = some (.int x2) → im_lk L' 5 = some (.int x3) → im_lk L' 6 = some (.int (im_i M 57 (Int32.toNatClampNeg ((3 : Int32) * x1)))) → im_lk L' 7 = some (.int (x2 * ((im_i M 57 (Int32.toNatClampNeg ((3 : Int32) * x1))) + (im_i M 57 (Int32.toNatClampNeg (((3 : Int32) * x1) + 2)))))) → im_lk L' 8 = some (.int x6) → Q19 M20 → ia (tb_G L xs) (dep + 4) J_HPen_drawText (rwV w Q) (140, L', [], M20) := by
          intro M20 L' hM20 l21 l22 l23 l24 l25 l26 l27 l28 l29 h
          replace h := hQ19 _ h
          refine iq_iincv hS 143 J_HPen_drawText_d140 (c := 1) (by decide +kernel) l29 (by decide) rfl ?_
          refine iq_goto hS J_HPen_drawText_d143 (t := 56) rfl ?_
          exact ih _ _ _ hM20 (lk_1r l21 (by decide)) (lk_1r l22 (by decide)) (lk_1i l23 (by decide)) (lk_1i l24 (by decide)) (lk_1i l25 (by decide)) (lk_1i l26 (by decide)) (lk_1i l27 (by decide)) (lk_1i l28 (by decide)) lk_1s (lq_l h)
        obtain ⟨r19, hr19, hq19⟩ := h
        obtain ⟨n19, hn19⟩ := lp_n hr19
        have I19 : ∀ (n : Nat) (x30 : Int32) (M31 : im_M) (L' : List (Nat × Value)), lw_S w M31 → im_lk L' 0 = some (.ref 56) → im_lk L' 1 = some (.ref 11) → im_lk L' 2 = some (.int p1) → im_lk L' 3 = some (.int x1) → im_lk L' 4 = some (.int x2) → im_lk L' 5 = some (.int x3) → im_lk L' 6 = some (.int (im_i M 57 (Int32.toNatClampNeg ((3 : Int32) * x1)))) → im_lk L' 7 = some (.int (x2 * ((im_i M 57 (Int32.toNatClampNeg ((3 : Int32) * x1))) + (im_i M 57 (Int32.toNatClampNeg (((3 : Int32) * x1) + 2)))))) → im_lk L' 8 = some (.int x6) → im_lk L' 9 = some (.int (((x1 * 256) + x18) * 32)) → im_lk L' 10 = some (.int x30) → lpn (uc2 (f_HPen_drawText_L89 w p1 x1 x2 x3 (im_i M 57 (Int32.toNatClampNeg ((3 : Int32) * x1))) (x2 * ((im_i M 57 (Int32.toNatClampNeg ((3 : Int32) * x1))) + (im_i M 57 (Int32.toNatClampNeg (((3 : Int32) * x1) + 2))))) x6 (((x1 * 256) + x18) * 32))) n (x30, M31) = some r19 → ia (tb_G L xs) (dep + 4) J_HPen_drawText (rwV w Q) (89, L', [], M31) := by
          intro n
          induction n with
          | zero => intro x30 M31 L' hM31 l32 l33 l34 l35 l36 l37 l38 l39 l40 l41 l42 hn; exact (lpn_0 hn).elim
          | succ n ih =>
            intro x30 M31 L' hM31 l32 l33 l34 l35 l36 l37 l38 l39 l40 l41 l42 hn
            have h := lpn_ed2 hn
            unfold f_HPen_drawText_L89 at h
            refine iq_iload hS 91 J_HPen_drawText_d89 l42 rfl ?_
            refine iq_aload_n hS 92 J_HPen_drawText_d91 l32 rfl ?_
            refine iq_getR hS 95 J_HPen_drawText_d92 lf_6_9 (Or.inr ⟨_, rfl⟩) (ka_56 hM31) (ra_56_3 hM31) rfl ?_
            refine iq_iconst hS 96 J_HPen_drawText_d95 (v := 3) (by decide +kernel) rfl ?_
            refine iq_iload_n hS 97 J_HPen_drawText_d96 l35 rfl ?_
            refine iq_imul hS 98 J_HPen_drawText_d97 rfl ?_
            refine iq_iconst hS 99 J_HPen_drawText_d98 (v := 1) (by decide +kernel) rfl ?_
            refine iq_iadd hS 100 J_HPen_drawText_d99 rfl ?_
            obtain ⟨g100, h⟩ := ed_gd h
            refine iq_iaload hS 101 J_HPen_drawText_d100 ⟨(ka_57 hM31).1, (ka_57 hM31).2, g100.1, ix_lt (kl_57 hM31) g100.2⟩ rfl ?_
            refine iq_icmp_ge hS 104 J_HPen_drawText_d101 (t := 140) rfl (fun q101 => ?_) rfl (fun q101 => ?_)
            · replace h := ed_pos q101 h
              exact K19 _ _ hM31 l32 l33 l34 l35 l36 l37 l38 l39 l40 (lq_r h hq19)
            · replace h := ed_neg q101 h
              refine iq_aload_n hS 105 J_HPen_drawText_d104 l32 rfl ?_
              refine iq_aload_n hS 106 J_HPen_drawText_d105 l32 rfl ?_
              refine iq_getR hS 109 J_HPen_drawText_d106 lf_6_16 (Or.inr ⟨_, rfl⟩) (ka_56 hM31) (ra_56_4 hM31) rfl ?_
              refine iq_iload hS 111 J_HPen_drawText_d109 l41 rfl ?_
              refine iq_iload hS 113 J_HPen_drawText_d111 l42 rfl ?_
              refine iq_iadd hS 114 J_HPen_drawText_d113 rfl ?_
              obtain ⟨g114, h⟩ := ed_gd h
              refine iq_iaload hS 115 J_HPen_drawText_d114 ⟨(ka_58 hM31).1, (ka_58 hM31).2, g114.1, ix_lt (kl_58 hM31) g114.2⟩ rfl ?_
              refine iq_iload hS 117 J_HPen_drawText_d115 l38 rfl ?_
              refine iq_iload hS 119 J_HPen_drawText_d117 l39 rfl ?_
              refine iq_iload hS 121 J_HPen_drawText_d119 l40 rfl ?_
              refine iq_imul hS 122 J_HPen_drawText_d121 rfl ?_
              refine iq_iload hS 124 J_HPen_drawText_d122 l37 rfl ?_
              refine iq_iload hS 126 J_HPen_drawText_d124 l42 rfl ?_
              refine iq_imul hS 127 J_HPen_drawText_d126 rfl ?_
              refine iq_iload hS 129 J_HPen_drawText_d127 l36 rfl ?_
              refine iq_iload hS 131 J_HPen_drawText_d129 l37 rfl ?_
              obtain ⟨Q43, hQ43, h⟩ := bd1_ed h
              refine iq_cwV hS 134 J_HPen_drawText_d131 rfl (pr_inst (vs := [_, _, _, _, _, _]) lc_6_114 lT_111 rfl rfl (by decide) (by decide) rfl (Nat.le_of_ble_eq_true rfl) (Nat.le_of_ble_eq_true rfl) (fun _ => Or.inl (pr_b (ka_56 hM31) (by decide) rfl))) (f_HPen_drawCellRow_ok (dep := dep + 0) hM31 h) rfl ?_
              intro M43 hM43 h
              replace h := hQ43 _ h
              refine iq_iincv hS 137 J_HPen_drawText_d134 (c := 1) (by decide +kernel) l42 (by decide) rfl ?_
              refine iq_goto hS J_HPen_drawText_d137 (t := 89) rfl ?_
              exact ih _ _ _ hM43 (lk_1r l32 (by decide)) (lk_1r l33 (by decide)) (lk_1i l34 (by decide)) (lk_1i l35 (by decide)) (lk_1i l36 (by decide)) (lk_1i l37 (by decide)) (lk_1i l38 (by decide)) (lk_1i l39 (by decide)) (lk_1i l40 (by decide)) (lk_1i l41 (by decide)) lk_1s (lq_l h)
        exact I19 n19 _ _ _ hM7 (lk_1r (lk_1r l8 (by decide)) (by decide)) (lk_1r (lk_1r l9 (by decide)) (by decide)) (lk_1i (lk_1i l10 (by decide)) (by decide)) (lk_1i (lk_1i l11 (by decide)) (by decide)) (lk_1i (lk_1i l12 (by decide)) (by decide)) (lk_1i (lk_1i l13 (by decide)) (by decide)) (lk_1i (lk_1i l14 (by decide)) (by decide)) (lk_1i (lk_1i l15 (by decide)) (by decide)) (lk_1i (lk_1i l16 (by decide)) (by decide)) (lk_1i lk_1s (by decide)) lk_1s hn19
  exact I4 n4 _ _ _ hM (lk_1r (lk_1r (lk_1r (lk_1r (lk_1r (lk_1r l0 (by decide)) (by decide)) (by decide)) (by decide)) (by decide)) (by decide)) (lk_1r (lk_1r (lk_1r (lk_1r (lk_1r (lk_1r l1 (by decide)) (by decide)) (by decide)) (by decide)) (by decide)) (by decide)) (lk_1i (lk_1i (lk_1i (lk_1i (lk_1i (lk_1i l2 (by decide)) (by decide)) (by decide)) (by decide)) (by decide)) (by decide)) (lk_1i (lk_1i (lk_1i (lk_1i (lk_1i lk_1s (by decide)) (by decide)) (by decide)) (by decide)) (by decide)) (lk_1i (lk_1i (lk_1i (lk_1i lk_1s (by decide)) (by decide)) (by decide)) (by decide)) (lk_1i (lk_1i (lk_1i lk_1s (by decide)) (by decide)) (by decide)) (lk_1i (lk_1i lk_1s (by decide)) (by decide)) (lk_1i lk_1s (by decide)) lk_1s hn4
noncomputable def f_Arrays_fill_2_L10 (v3 : Int32) (v4 : Int32) (x5 : Int32) (M6 : im_M) : Option ((Int32 × im_M) ⊕ (im_M)) := if v3 ≤ x5 then some (.inr M6) else gd (inb x5 198) <| some (.inl ((x5 + 1), (im_setI M6 35 (Int32.toNatClampNeg x5) v4)))
noncomputable def f_Arrays_fill_2 (p1 : Int32) (p2 : Int32) (p3 : Int32) (M : im_M) : Option (im_M) := bd0 (f_Arrays_rangeCheck 198 p1 p2 M) fun (_ : Unit) => bd1 (lp (uc2 (f_Arrays_fill_2_L10 p2 p3)) (p1, M)) fun (M7 : im_M) => some M7
theorem f_Arrays_fill_2_ok {L : Nat} {xs : Nat → Int32} {dep : Nat} {w : Bool} {p1 : Int32} {p2 : Int32} {p3 : Int32} {M : im_M} {Q : im_M → Prop} (hM : lw_S w M) (h : ed (f_Arrays_fill_2 p1 p2 p3 M) Q) : ia (tb_G L xs) (dep + 1) J_Arrays_fill (rwV w Q) (0, lv_args 0 [.ref 35, .int p1, .int p2, .int p3], [], M) := by
  have hS : im_St (tb_G L xs) (dep + 1) J_Arrays_fill (ia (tb_G L xs) (dep + 1) J_Arrays_fill (rwV w Q)) := ia_St
  unfold f_Arrays_fill_2 at h
  have l0 : im_lk (lv_args 0 [.ref 35, .int p1, .int p2, .int p3]) 0 = some (.ref 35) := rfl
  have l1 : im_lk (lv_args 0 [.ref 35, .int p1, .int p2, .int p3]) 1 = some (.int p1) := rfl
  have l2 : im_lk (lv_args 0 [.ref 35, .int p1, .int p2, .int p3]) 2 = some (.int p2) := rfl
  have l3 : im_lk (lv_args 0 [.ref 35, .int p1, .int p2, .int p3]) 3 = some (.int p3) := rfl
  refine iq_aload_n hS 1 J_Arrays_fill_d0 l0 rfl ?_
  refine iq_alenv hS 2 J_Arrays_fill_d1 (v := 198) (ka_35 hM) (by decide) (by decide) (kl_35 hM) (by decide +kernel) rfl ?_
  refine iq_iload_n hS 3 J_Arrays_fill_d2 l1 rfl ?_
  refine iq_iload_n hS 4 J_Arrays_fill_d3 l2 rfl ?_
  obtain ⟨Q1, hQ1, h⟩ := bd0_ed h
  refine iq_cpV hS 7 J_Arrays_fill_d4 rfl (pr_stat (vs := [_, _, _]) lc_22_13 lT_54 rfl rfl (by decide) rfl (Nat.le_of_ble_eq_true rfl) (Nat.le_of_ble_eq_true rfl)) (f_Arrays_rangeCheck_ok (dep := dep + 0) hM h) rfl ?_
  intro h
  replace h := hQ1  h
  refine iq_iload_n hS 8 J_Arrays_fill_d7 l1 rfl ?_
  refine iq_istore hS 10 J_Arrays_fill_d8 (by decide) rfl ?_
  obtain ⟨Q2, hQ2, h⟩ := bd1_ed h
  have K2 : ∀ (M3 : im_M) (L' : List (Nat × Value)), lw_S w M3 → Q2 M3 → ia (tb_G L xs) (dep + 1) J_Arrays_fill (rwV w Q) (27, L', [], M3) := by
    intro M3 L' hM3  h
    replace h := hQ2 _ h
    exact iq_ret J_Arrays_fill_d27 rfl ⟨rfl, hM3, ed_some h⟩
  obtain ⟨r2, hr2, hq2⟩ := h
  obtain ⟨n2, hn2⟩ := lp_n hr2
  have I2 : ∀ (n : Nat) (x4 : Int32) (M5 : im_M) (L' : List (Nat × Value)), lw_S w M5 → im_lk L' 0 = some (.ref 35) → im_lk L' 2 = some (.int p2) → im_lk L' 3 = some (.int p3) → im_lk L' 4 = some (.int x4) → lpn (uc2 (f_Arrays_fill_2_L10 p2 p3)) n (x4, M5) = some r2 → ia (tb_G L xs) (dep + 1) J_Arrays_fill (rwV w Q) (10, L', [], M5) := by
    intro n
    induction n with
    | zero => intro x4 M5 L' hM5 l6 l7 l8 l9 hn; exact (lpn_0 hn).elim
    | succ n ih =>
      intro x4 M5 L' hM5 l6 l7 l8 l9 hn
      have h := lpn_ed2 hn
      unfold f_Arrays_fill_2_L10 at h
      refine iq_iload hS 12 J_Arrays_fill_d10 l9 rfl ?_
      refine iq_iload_n hS 13 J_Arrays_fill_d12 l7 rfl ?_
      refine iq_icmp_ge hS 16 J_Arrays_fill_d13 (t := 27) rfl (fun q13 => ?_) rfl (fun q13 => ?_)
      · replace h := ed_pos q13 h
        exact K2 _ _ hM5  (lq_r h hq2)
      · replace h := ed_neg q13 h
        refine iq_aload_n hS 17 J_Arrays_fill_d16 l6 rfl ?_
        refine iq_iload hS 19 J_Arrays_fill_d17 l9 rfl ?_
        refine iq_iload_n hS 20 J_Arrays_fill_d19 l8 rfl ?_
        obtain ⟨g20, h⟩ := ed_gd h
        refine iq_iastore hS 21 J_Arrays_fill_d20 ⟨(ka_35 hM5).1, (ka_35 hM5).2, g20.1, ix_lt (kl_35 hM5) g20.2⟩ rfl ?_
        refine iq_iincv hS 24 J_Arrays_fill_d21 (c := 1) (by decide +kernel) l9 (by decide) rfl ?_
        refine iq_goto hS J_Arrays_fill_d24 (t := 10) rfl ?_
        exact ih _ _ _ hM5 (lk_1r l6 (by decide)) (lk_1i l7 (by decide)) (lk_1i l8 (by decide)) lk_1s (lq_l h)
  exact I2 n2 _ _ _ hM (lk_1r l0 (by decide)) (lk_1i l2 (by decide)) (lk_1i l3 (by decide)) lk_1s hn2
noncomputable def f_HBars_symbolFor (p0 : Int32) (p1 : Int32) (M : im_M) : Option (Int32) := gd (inb p0 65) <| if ¬ p1 = 2 then if 32 ≤ (im_i M 34 (Int32.toNatClampNeg p0)) then if ((if ¬ p1 = 0 then 128 else 96) : Int32) ≤ (im_i M 34 (Int32.toNatClampNeg p0)) then some (-1) else some ((im_i M 34 (Int32.toNatClampNeg p0)) - 32) else if ¬ p1 = 0 then some (-1) else some ((im_i M 34 (Int32.toNatClampNeg p0)) + 64) else bd1 (if (im_i M 31 6) ≤ (p0 + 1) then some (-1) else gd (inb (p0 + 1) 65) <| some ((im_i M 34 (Int32.toNatClampNeg (p0 + 1))) - 48)) fun (y3 : Int32) => if ((im_i M 34 (Int32.toNatClampNeg p0)) - 48) < 0 then some (-1) else if 9 < ((im_i M 34 (Int32.toNatClampNeg p0)) - 48) then some (-1) else if y3 < 0 then some (-1) else if 9 < y3 then some (-1) else some (((10 : Int32) * ((im_i M 34 (Int32.toNatClampNeg p0)) - 48)) + y3)
theorem J_HBars_symbolFor_d0 : decode J_HBars_symbolFor.2.1 0 = .ok (.aload_n 0, 1) := by decide +kernel
theorem J_HBars_symbolFor_d1 : decode J_HBars_symbolFor.2.1 1 = .ok (.getfield 20, 3) := by decide +kernel
theorem J_HBars_symbolFor_d4 : decode J_HBars_symbolFor.2.1 4 = .ok (.iload_n 1, 1) := by decide +kernel
theorem J_HBars_symbolFor_d5 : decode J_HBars_symbolFor.2.1 5 = .ok (.iaload, 1) := by decide +kernel
theorem J_HBars_symbolFor_d6 : decode J_HBars_symbolFor.2.1 6 = .ok (.istore_n 3, 1) := by decide +kernel
theorem J_HBars_symbolFor_d7 : decode J_HBars_symbolFor.2.1 7 = .ok (.iload_n 2, 1) := by decide +kernel
theorem J_HBars_symbolFor_d8 : decode J_HBars_symbolFor.2.1 8 = .ok (.iconst 2, 1) := by decide +kernel
theorem J_HBars_symbolFor_d9 : decode J_HBars_symbolFor.2.1 9 = .ok (.if_icmp .ne 73, 3) := by decide +kernel
theorem J_HBars_symbolFor_d12 : decode J_HBars_symbolFor.2.1 12 = .ok (.iload_n 3, 1) := by decide +kernel
theorem J_HBars_symbolFor_d13 : decode J_HBars_symbolFor.2.1 13 = .ok (.bipush 48, 2) := by decide +kernel
theorem J_HBars_symbolFor_d15 : decode J_HBars_symbolFor.2.1 15 = .ok (.isub, 1) := by decide +kernel
theorem J_HBars_symbolFor_d16 : decode J_HBars_symbolFor.2.1 16 = .ok (.istore 4, 2) := by decide +kernel
theorem J_HBars_symbolFor_d18 : decode J_HBars_symbolFor.2.1 18 = .ok (.iload_n 1, 1) := by decide +kernel
theorem J_HBars_symbolFor_d19 : decode J_HBars_symbolFor.2.1 19 = .ok (.iconst 1, 1) := by decide +kernel
theorem J_HBars_symbolFor_d20 : decode J_HBars_symbolFor.2.1 20 = .ok (.iadd, 1) := by decide +kernel
theorem J_HBars_symbolFor_d21 : decode J_HBars_symbolFor.2.1 21 = .ok (.aload_n 0, 1) := by decide +kernel
theorem J_HBars_symbolFor_d22 : decode J_HBars_symbolFor.2.1 22 = .ok (.getfield 32, 3) := by decide +kernel
theorem J_HBars_symbolFor_d25 : decode J_HBars_symbolFor.2.1 25 = .ok (.if_icmp .ge 17, 3) := by decide +kernel
theorem J_HBars_symbolFor_d28 : decode J_HBars_symbolFor.2.1 28 = .ok (.aload_n 0, 1) := by decide +kernel
theorem J_HBars_symbolFor_d29 : decode J_HBars_symbolFor.2.1 29 = .ok (.getfield 20, 3) := by decide +kernel
theorem J_HBars_symbolFor_d32 : decode J_HBars_symbolFor.2.1 32 = .ok (.iload_n 1, 1) := by decide +kernel
theorem J_HBars_symbolFor_d33 : decode J_HBars_symbolFor.2.1 33 = .ok (.iconst 1, 1) := by decide +kernel
theorem J_HBars_symbolFor_d34 : decode J_HBars_symbolFor.2.1 34 = .ok (.iadd, 1) := by decide +kernel
theorem J_HBars_symbolFor_d35 : decode J_HBars_symbolFor.2.1 35 = .ok (.iaload, 1) := by decide +kernel
theorem J_HBars_symbolFor_d36 : decode J_HBars_symbolFor.2.1 36 = .ok (.bipush 48, 2) := by decide +kernel
theorem J_HBars_symbolFor_d38 : decode J_HBars_symbolFor.2.1 38 = .ok (.isub, 1) := by decide +kernel
theorem J_HBars_symbolFor_d39 : decode J_HBars_symbolFor.2.1 39 = .ok (.goto 4, 3) := by decide +kernel
theorem J_HBars_symbolFor_d42 : decode J_HBars_symbolFor.2.1 42 = .ok (.iconst (-1), 1) := by decide +kernel
theorem J_HBars_symbolFor_d43 : decode J_HBars_symbolFor.2.1 43 = .ok (.istore 5, 2) := by decide +kernel
theorem J_HBars_symbolFor_d45 : decode J_HBars_symbolFor.2.1 45 = .ok (.iload 4, 2) := by decide +kernel
theorem J_HBars_symbolFor_d47 : decode J_HBars_symbolFor.2.1 47 = .ok (.ifCond .lt 33, 3) := by decide +kernel
theorem J_HBars_symbolFor_d50 : decode J_HBars_symbolFor.2.1 50 = .ok (.iload 4, 2) := by decide +kernel
theorem J_HBars_symbolFor_d52 : decode J_HBars_symbolFor.2.1 52 = .ok (.bipush 9, 2) := by decide +kernel
theorem J_HBars_symbolFor_d54 : decode J_HBars_symbolFor.2.1 54 = .ok (.if_icmp .gt 26, 3) := by decide +kernel
theorem J_HBars_symbolFor_d57 : decode J_HBars_symbolFor.2.1 57 = .ok (.iload 5, 2) := by decide +kernel
theorem J_HBars_symbolFor_d59 : decode J_HBars_symbolFor.2.1 59 = .ok (.ifCond .lt 21, 3) := by decide +kernel
theorem J_HBars_symbolFor_d62 : decode J_HBars_symbolFor.2.1 62 = .ok (.iload 5, 2) := by decide +kernel
theorem J_HBars_symbolFor_d64 : decode J_HBars_symbolFor.2.1 64 = .ok (.bipush 9, 2) := by decide +kernel
theorem J_HBars_symbolFor_d66 : decode J_HBars_symbolFor.2.1 66 = .ok (.if_icmp .gt 14, 3) := by decide +kernel
theorem J_HBars_symbolFor_d69 : decode J_HBars_symbolFor.2.1 69 = .ok (.bipush 10, 2) := by decide +kernel
theorem J_HBars_symbolFor_d71 : decode J_HBars_symbolFor.2.1 71 = .ok (.iload 4, 2) := by decide +kernel
theorem J_HBars_symbolFor_d73 : decode J_HBars_symbolFor.2.1 73 = .ok (.imul, 1) := by decide +kernel
theorem J_HBars_symbolFor_d74 : decode J_HBars_symbolFor.2.1 74 = .ok (.iload 5, 2) := by decide +kernel
theorem J_HBars_symbolFor_d76 : decode J_HBars_symbolFor.2.1 76 = .ok (.iadd, 1) := by decide +kernel
theorem J_HBars_symbolFor_d77 : decode J_HBars_symbolFor.2.1 77 = .ok (.goto 4, 3) := by decide +kernel
theorem J_HBars_symbolFor_d80 : decode J_HBars_symbolFor.2.1 80 = .ok (.iconst (-1), 1) := by decide +kernel
theorem J_HBars_symbolFor_d81 : decode J_HBars_symbolFor.2.1 81 = .ok (.ireturn, 1) := by decide +kernel
theorem J_HBars_symbolFor_d82 : decode J_HBars_symbolFor.2.1 82 = .ok (.iload_n 3, 1) := by decide +kernel
theorem J_HBars_symbolFor_d83 : decode J_HBars_symbolFor.2.1 83 = .ok (.bipush 32, 2) := by decide +kernel
theorem J_HBars_symbolFor_d85 : decode J_HBars_symbolFor.2.1 85 = .ok (.if_icmp .ge 16, 3) := by decide +kernel
theorem J_HBars_symbolFor_d88 : decode J_HBars_symbolFor.2.1 88 = .ok (.iload_n 2, 1) := by decide +kernel
theorem J_HBars_symbolFor_d89 : decode J_HBars_symbolFor.2.1 89 = .ok (.ifCond .ne 10, 3) := by decide +kernel
theorem J_HBars_symbolFor_d92 : decode J_HBars_symbolFor.2.1 92 = .ok (.iload_n 3, 1) := by decide +kernel
theorem J_HBars_symbolFor_d93 : decode J_HBars_symbolFor.2.1 93 = .ok (.bipush 64, 2) := by decide +kernel
theorem J_HBars_symbolFor_d95 : decode J_HBars_symbolFor.2.1 95 = .ok (.iadd, 1) := by decide +kernel
theorem J_HBars_symbolFor_d96 : decode J_HBars_symbolFor.2.1 96 = .ok (.goto 4, 3) := by decide +kernel
theorem J_HBars_symbolFor_d99 : decode J_HBars_symbolFor.2.1 99 = .ok (.iconst (-1), 1) := by decide +kernel
theorem J_HBars_symbolFor_d100 : decode J_HBars_symbolFor.2.1 100 = .ok (.ireturn, 1) := by decide +kernel
theorem J_HBars_symbolFor_d101 : decode J_HBars_symbolFor.2.1 101 = .ok (.iload_n 3, 1) := by decide +kernel
theorem J_HBars_symbolFor_d102 : decode J_HBars_symbolFor.2.1 102 = .ok (.iload_n 2, 1) := by decide +kernel
theorem J_HBars_symbolFor_d103 : decode J_HBars_symbolFor.2.1 103 = .ok (.ifCond .ne 8, 3) := by decide +kernel
theorem J_HBars_symbolFor_d106 : decode J_HBars_symbolFor.2.1 106 = .ok (.bipush 96, 2) := by decide +kernel
theorem J_HBars_symbolFor_d108 : decode J_HBars_symbolFor.2.1 108 = .ok (.goto 6, 3) := by decide +kernel
theorem J_HBars_symbolFor_d111 : decode J_HBars_symbolFor.2.1 111 = .ok (.sipush 128, 3) := by decide +kernel
theorem J_HBars_symbolFor_d114 : decode J_HBars_symbolFor.2.1 114 = .ok (.if_icmp .ge 10, 3) := by decide +kernel
theorem J_HBars_symbolFor_d117 : decode J_HBars_symbolFor.2.1 117 = .ok (.iload_n 3, 1) := by decide +kernel
theorem J_HBars_symbolFor_d118 : decode J_HBars_symbolFor.2.1 118 = .ok (.bipush 32, 2) := by decide +kernel
theorem J_HBars_symbolFor_d120 : decode J_HBars_symbolFor.2.1 120 = .ok (.isub, 1) := by decide +kernel
theorem J_HBars_symbolFor_d121 : decode J_HBars_symbolFor.2.1 121 = .ok (.goto 4, 3) := by decide +kernel
theorem J_HBars_symbolFor_d124 : decode J_HBars_symbolFor.2.1 124 = .ok (.iconst (-1), 1) := by decide +kernel
theorem J_HBars_symbolFor_d125 : decode J_HBars_symbolFor.2.1 125 = .ok (.ireturn, 1) := by decide +kernel
theorem f_HBars_symbolFor_ok {L : Nat} {xs : Nat → Int32} {dep : Nat} {w : Bool} {p0 : Int32} {p1 : Int32} {M : im_M} {Q : Int32 → Prop} (hM : lw_S w M) (h : ed (f_HBars_symbolFor p0 p1 M) Q) : ia (tb_G L xs) dep J_HBars_symbolFor (rpI M Q) (0, lv_args 0 [.ref 31, .int p0, .int p1], [], M) := by
  have hS : im_St (tb_G L xs) dep J_HBars_symbolFor (ia (tb_G L xs) dep J_HBars_symbolFor (rpI M Q)) := ia_St
  unfold f_HBars_symbolFor at h
  have l0 : im_lk (lv_args 0 [.ref 31, .int p0, .int p1]) 0 = some (.ref 31) := rfl
  have l1 : im_lk (lv_args 0 [.ref 31, .int p0, .int p1]) 1 = some (.int p0) := rfl
  have l2 : im_lk (lv_args 0 [.ref 31, .int p0, .int p1]) 2 = some (.int p1) := rfl
  refine iq_aload_n hS 1 J_HBars_symbolFor_d0 l0 rfl ?_
  refine iq_getR hS 4 J_HBars_symbolFor_d1 lf_0_20 (Or.inr ⟨_, rfl⟩) (ka_31 hM) (ra_31_5 hM) rfl ?_
  refine iq_iload_n hS 5 J_HBars_symbolFor_d4 l1 rfl ?_
  obtain ⟨g5, h⟩ := ed_gd h
  refine iq_iaload hS 6 J_HBars_symbolFor_d5 ⟨(ka_34 hM).1, (ka_34 hM).2, g5.1, ix_lt (kl_34 hM) g5.2⟩ rfl ?_
  refine iq_istore_n hS 7 J_HBars_symbolFor_d6 (by decide) rfl ?_
  refine iq_iload_n hS 8 J_HBars_symbolFor_d7 (lk_1i l2 (by decide)) rfl ?_
  refine iq_iconst hS 9 J_HBars_symbolFor_d8 (v := 2) (by decide +kernel) rfl ?_
  refine iq_icmp_ne hS 12 J_HBars_symbolFor_d9 (t := 82) rfl (fun q9 => ?_) rfl (fun q9 => ?_)
  · replace h := ed_pos q9 h
    refine iq_iload_n hS 83 J_HBars_symbolFor_d82 lk_1s rfl ?_
    refine iq_bipush hS 85 J_HBars_symbolFor_d83 (v := 32) (by decide +kernel) rfl ?_
    refine iq_icmp_ge hS 88 J_HBars_symbolFor_d85 (t := 101) rfl (fun q85 => ?_) rfl (fun q85 => ?_)
    · replace h := ed_pos q85 h
      refine iq_iload_n hS 102 J_HBars_symbolFor_d101 lk_1s rfl ?_
      refine iq_iload_n hS 103 J_HBars_symbolFor_d102 (lk_1i l2 (by decide)) rfl ?_
      have J1 : ∀ (z2 : Int32) (L' : List (Nat × Value)), z2 = ((if ¬ p1 = 0 then 128 else 96) : Int32) → im_lk L' 3 = some (.int (im_i M 34 (Int32.toNatClampNeg p0))) → ia (tb_G L xs) dep J_HBars_symbolFor (rpI M Q) (114, L', [.int z2, .int (im_i M 34 (Int32.toNatClampNeg p0))], M) := by
        intro z2 L' e3 l4
        subst e3
        refine iq_icmp_ge hS 117 J_HBars_symbolFor_d114 (t := 124) rfl (fun q114 => ?_) rfl (fun q114 => ?_)
        · replace h := ed_pos q114 h
          refine iq_iconst hS 125 J_HBars_symbolFor_d124 (v := (-1)) (by decide +kernel) rfl ?_
          exact iq_iret J_HBars_symbolFor_d125 rfl rfl ⟨_, rfl, rfl, ed_some h⟩
        · replace h := ed_neg q114 h
          refine iq_iload_n hS 118 J_HBars_symbolFor_d117 l4 rfl ?_
          refine iq_bipush hS 120 J_HBars_symbolFor_d118 (v := 32) (by decide +kernel) rfl ?_
          refine iq_isub hS 121 J_HBars_symbolFor_d120 rfl ?_
          refine iq_goto hS J_HBars_symbolFor_d121 (t := 125) rfl ?_
          exact iq_iret J_HBars_symbolFor_d125 rfl rfl ⟨_, rfl, rfl, ed_some h⟩
      refine iq_if_ne hS 106 J_HBars_symbolFor_d103 (t := 111) rfl (fun q103 => ?_) rfl (fun q103 => ?_)
      · refine iq_sipush hS 114 J_HBars_symbolFor_d111 (v := 128) (by decide +kernel) rfl ?_
        exact J1 _ _ (by rw [if_pos q103]) lk_1s
      · refine iq_bipush hS 108 J_HBars_symbolFor_d106 (v := 96) (by decide +kernel) rfl ?_
        refine iq_goto hS J_HBars_symbolFor_d108 (t := 114) rfl ?_
        exact J1 _ _ (by rw [if_neg q103]) lk_1s
    · replace h := ed_neg q85 h
      refine iq_iload_n hS 89 J_HBars_symbolFor_d88 (lk_1i l2 (by decide)) rfl ?_
      refine iq_if_ne hS 92 J_HBars_symbolFor_d89 (t := 99) rfl (fun q89 => ?_) rfl (fun q89 => ?_)
      · replace h := ed_pos q89 h
        refine iq_iconst hS 100 J_HBars_symbolFor_d99 (v := (-1)) (by decide +kernel) rfl ?_
        exact iq_iret J_HBars_symbolFor_d100 rfl rfl ⟨_, rfl, rfl, ed_some h⟩
      · replace h := ed_neg q89 h
        refine iq_iload_n hS 93 J_HBars_symbolFor_d92 lk_1s rfl ?_
        refine iq_bipush hS 95 J_HBars_symbolFor_d93 (v := 64) (by decide +kernel) rfl ?_
        refine iq_iadd hS 96 J_HBars_symbolFor_d95 rfl ?_
        refine iq_goto hS J_HBars_symbolFor_d96 (t := 100) rfl ?_
        exact iq_iret J_HBars_symbolFor_d100 rfl rfl ⟨_, rfl, rfl, ed_some h⟩
  · replace h := ed_neg q9 h
    refine iq_iload_n hS 13 J_HBars_symbolFor_d12 lk_1s rfl ?_
    refine iq_bipush hS 15 J_HBars_symbolFor_d13 (v := 48) (by decide +kernel) rfl ?_
    refine iq_isub hS 16 J_HBars_symbolFor_d15 rfl ?_
    refine iq_istore hS 18 J_HBars_symbolFor_d16 (by decide) rfl ?_
    refine iq_iload_n hS 19 J_HBars_symbolFor_d18 (lk_1i (lk_1i l1 (by decide)) (by decide)) rfl ?_
    refine iq_iconst hS 20 J_HBars_symbolFor_d19 (v := 1) (by decide +kernel) rfl ?_
    refine iq_iadd hS 21 J_HBars_symbolFor_d20 rfl ?_
    refine iq_aload_n hS 22 J_HBars_symbolFor_d21 (lk_1r (lk_1r l0 (by decide)) (by decide)) rfl ?_
    refine iq_getI hS 25 J_HBars_symbolFor_d22 lf_0_32 (Or.inl rfl) (ka_31 hM) rfl ?_
    obtain ⟨Q5, hQ5, h⟩ := bd1_ed h
    have J5 : ∀ (y6 : Int32) (L' : List (Nat × Value)), im_lk L' 4 = some (.int ((im_i M 34 (Int32.toNatClampNeg p0)) - 48)) → Q5 y6 → ia (tb_G L xs) dep J_HBars_symbolFor (rpI M Q) (43, L', [.int y6], M) := by
      intro y6 L' l7 h
      replace h := hQ5 _ h
      refine iq_istore hS 45 J_HBars_symbolFor_d43 (by decide) rfl ?_
      refine iq_iload hS 47 J_HBars_symbolFor_d45 (lk_1i l7 (by decide)) rfl ?_
      refine iq_if_lt hS 50 J_HBars_symbolFor_d47 (t := 80) rfl (fun q47 => ?_) rfl (fun q47 => ?_)
      · replace h := ed_pos q47 h
        refine iq_iconst hS 81 J_HBars_symbolFor_d80 (v := (-1)) (by decide +kernel) rfl ?_
        exact iq_iret J_HBars_symbolFor_d81 rfl rfl ⟨_, rfl, rfl, ed_some h⟩
      · replace h := ed_neg q47 h
        refine iq_iload hS 52 J_HBars_symbolFor_d50 (lk_1i l7 (by decide)) rfl ?_
        refine iq_bipush hS 54 J_HBars_symbolFor_d52 (v := 9) (by decide +kernel) rfl ?_
        refine iq_icmp_gt hS 57 J_HBars_symbolFor_d54 (t := 80) rfl (fun q54 => ?_) rfl (fun q54 => ?_)
        · replace h := ed_pos q54 h
          refine iq_iconst hS 81 J_HBars_symbolFor_d80 (v := (-1)) (by decide +kernel) rfl ?_
          exact iq_iret J_HBars_symbolFor_d81 rfl rfl ⟨_, rfl, rfl, ed_some h⟩
        · replace h := ed_neg q54 h
          refine iq_iload hS 59 J_HBars_symbolFor_d57 lk_1s rfl ?_
          refine iq_if_lt hS 62 J_HBars_symbolFor_d59 (t := 80) rfl (fun q59 => ?_) rfl (fun q59 => ?_)
          · replace h := ed_pos q59 h
            refine iq_iconst hS 81 J_HBars_symbolFor_d80 (v := (-1)) (by decide +kernel) rfl ?_
            exact iq_iret J_HBars_symbolFor_d81 rfl rfl ⟨_, rfl, rfl, ed_some h⟩
          · replace h := ed_neg q59 h
            refine iq_iload hS 64 J_HBars_symbolFor_d62 lk_1s rfl ?_
            refine iq_bipush hS 66 J_HBars_symbolFor_d64 (v := 9) (by decide +kernel) rfl ?_
            refine iq_icmp_gt hS 69 J_HBars_symbolFor_d66 (t := 80) rfl (fun q66 => ?_) rfl (fun q66 => ?_)
            · replace h := ed_pos q66 h
              refine iq_iconst hS 81 J_HBars_symbolFor_d80 (v := (-1)) (by decide +kernel) rfl ?_
              exact iq_iret J_HBars_symbolFor_d81 rfl rfl ⟨_, rfl, rfl, ed_some h⟩
            · replace h := ed_neg q66 h
              refine iq_bipush hS 71 J_HBars_symbolFor_d69 (v := 10) (by decide +kernel) rfl ?_
              refine iq_iload hS 73 J_HBars_symbolFor_d71 (lk_1i l7 (by decide)) rfl ?_
              refine iq_imul hS 74 J_HBars_symbolFor_d73 rfl ?_
              refine iq_iload hS 76 J_HBars_symbolFor_d74 lk_1s rfl ?_
              refine iq_iadd hS 77 J_HBars_symbolFor_d76 rfl ?_
              refine iq_goto hS J_HBars_symbolFor_d77 (t := 81) rfl ?_
              exact iq_iret J_HBars_symbolFor_d81 rfl rfl ⟨_, rfl, rfl, ed_some h⟩
    refine iq_icmp_ge hS 28 J_HBars_symbolFor_d25 (t := 42) rfl (fun q25 => ?_) rfl (fun q25 => ?_)
    · replace h := ed_pos q25 h
      refine iq_iconst hS 43 J_HBars_symbolFor_d42 (v := (-1)) (by decide +kernel) rfl ?_
      exact J5 _ _ lk_1s (ed_some h)
    · replace h := ed_neg q25 h
      refine iq_aload_n hS 29 J_HBars_symbolFor_d28 (lk_1r (lk_1r l0 (by decide)) (by decide)) rfl ?_
      refine iq_getR hS 32 J_HBars_symbolFor_d29 lf_0_20 (Or.inr ⟨_, rfl⟩) (ka_31 hM) (ra_31_5 hM) rfl ?_
      refine iq_iload_n hS 33 J_HBars_symbolFor_d32 (lk_1i (lk_1i l1 (by decide)) (by decide)) rfl ?_
      refine iq_iconst hS 34 J_HBars_symbolFor_d33 (v := 1) (by decide +kernel) rfl ?_
      refine iq_iadd hS 35 J_HBars_symbolFor_d34 rfl ?_
      obtain ⟨g35, h⟩ := ed_gd h
      refine iq_iaload hS 36 J_HBars_symbolFor_d35 ⟨(ka_34 hM).1, (ka_34 hM).2, g35.1, ix_lt (kl_34 hM) g35.2⟩ rfl ?_
      refine iq_bipush hS 38 J_HBars_symbolFor_d36 (v := 48) (by decide +kernel) rfl ?_
      refine iq_isub hS 39 J_HBars_symbolFor_d38 rfl ?_
      refine iq_goto hS J_HBars_symbolFor_d39 (t := 43) rfl ?_
      exact J5 _ _ lk_1s (ed_some h)
noncomputable def f_HBars_signsEach (p0 : Int32) (M : im_M) : Option (Int32) := if ¬ p0 = 2 then some 1 else some 2
theorem J_HBars_signsEach_d0 : decode J_HBars_signsEach.2.1 0 = .ok (.iload_n 0, 1) := by decide +kernel
theorem J_HBars_signsEach_d1 : decode J_HBars_signsEach.2.1 1 = .ok (.iconst 2, 1) := by decide +kernel
theorem J_HBars_signsEach_d2 : decode J_HBars_signsEach.2.1 2 = .ok (.if_icmp .ne 7, 3) := by decide +kernel
theorem J_HBars_signsEach_d5 : decode J_HBars_signsEach.2.1 5 = .ok (.iconst 2, 1) := by decide +kernel
theorem J_HBars_signsEach_d6 : decode J_HBars_signsEach.2.1 6 = .ok (.goto 4, 3) := by decide +kernel
theorem J_HBars_signsEach_d9 : decode J_HBars_signsEach.2.1 9 = .ok (.iconst 1, 1) := by decide +kernel
theorem J_HBars_signsEach_d10 : decode J_HBars_signsEach.2.1 10 = .ok (.ireturn, 1) := by decide +kernel
theorem f_HBars_signsEach_ok {L : Nat} {xs : Nat → Int32} {dep : Nat} {w : Bool} {p0 : Int32} {M : im_M} {Q : Int32 → Prop} (hM : lw_S w M) (h : ed (f_HBars_signsEach p0 M) Q) : ia (tb_G L xs) dep J_HBars_signsEach (rpI M Q) (0, lv_args 0 [.int p0], [], M) := by
  have hS : im_St (tb_G L xs) dep J_HBars_signsEach (ia (tb_G L xs) dep J_HBars_signsEach (rpI M Q)) := ia_St
  unfold f_HBars_signsEach at h
  have l0 : im_lk (lv_args 0 [.int p0]) 0 = some (.int p0) := rfl
  refine iq_iload_n hS 1 J_HBars_signsEach_d0 l0 rfl ?_
  refine iq_iconst hS 2 J_HBars_signsEach_d1 (v := 2) (by decide +kernel) rfl ?_
  refine iq_icmp_ne hS 5 J_HBars_signsEach_d2 (t := 9) rfl (fun q2 => ?_) rfl (fun q2 => ?_)
  · replace h := ed_pos q2 h
    refine iq_iconst hS 10 J_HBars_signsEach_d9 (v := 1) (by decide +kernel) rfl ?_
    exact iq_iret J_HBars_signsEach_d10 rfl rfl ⟨_, rfl, rfl, ed_some h⟩
  · replace h := ed_neg q2 h
    refine iq_iconst hS 6 J_HBars_signsEach_d5 (v := 2) (by decide +kernel) rfl ?_
    refine iq_goto hS J_HBars_signsEach_d6 (t := 10) rfl ?_
    exact iq_iret J_HBars_signsEach_d10 rfl rfl ⟨_, rfl, rfl, ed_some h⟩
noncomputable def f_HBars_straight (p0 : Int32) (p1 : Int32) (M : im_M) : Option (Int32) := bd1 (f_HBars_symbolFor p0 p1 M) fun (x1 : Int32) => if ¬ x1 = (-1) then bd1 (f_HBars_signsEach p1 M) fun (x2 : Int32) => gd (inb (((3 : Int32) * (p0 + x2)) + p1) 198) <| some ((1 : Int32) + (im_i M 35 (Int32.toNatClampNeg (((3 : Int32) * (p0 + x2)) + p1)))) else some 1000
theorem J_HBars_straight_d0 : decode J_HBars_straight.2.1 0 = .ok (.aload_n 0, 1) := by decide +kernel
theorem J_HBars_straight_d1 : decode J_HBars_straight.2.1 1 = .ok (.iload_n 1, 1) := by decide +kernel
theorem J_HBars_straight_d2 : decode J_HBars_straight.2.1 2 = .ok (.iload_n 2, 1) := by decide +kernel
theorem J_HBars_straight_d3 : decode J_HBars_straight.2.1 3 = .ok (.invokevirtual 66, 3) := by decide +kernel
theorem J_HBars_straight_d6 : decode J_HBars_straight.2.1 6 = .ok (.iconst (-1), 1) := by decide +kernel
theorem J_HBars_straight_d7 : decode J_HBars_straight.2.1 7 = .ok (.if_icmp .ne 9, 3) := by decide +kernel
theorem J_HBars_straight_d10 : decode J_HBars_straight.2.1 10 = .ok (.sipush 1000, 3) := by decide +kernel
theorem J_HBars_straight_d13 : decode J_HBars_straight.2.1 13 = .ok (.goto 20, 3) := by decide +kernel
theorem J_HBars_straight_d16 : decode J_HBars_straight.2.1 16 = .ok (.iconst 1, 1) := by decide +kernel
theorem J_HBars_straight_d17 : decode J_HBars_straight.2.1 17 = .ok (.aload_n 0, 1) := by decide +kernel
theorem J_HBars_straight_d18 : decode J_HBars_straight.2.1 18 = .ok (.getfield 23, 3) := by decide +kernel
theorem J_HBars_straight_d21 : decode J_HBars_straight.2.1 21 = .ok (.iconst 3, 1) := by decide +kernel
theorem J_HBars_straight_d22 : decode J_HBars_straight.2.1 22 = .ok (.iload_n 1, 1) := by decide +kernel
theorem J_HBars_straight_d23 : decode J_HBars_straight.2.1 23 = .ok (.iload_n 2, 1) := by decide +kernel
theorem J_HBars_straight_d24 : decode J_HBars_straight.2.1 24 = .ok (.invokestatic 69, 3) := by decide +kernel
theorem J_HBars_straight_d27 : decode J_HBars_straight.2.1 27 = .ok (.iadd, 1) := by decide +kernel
theorem J_HBars_straight_d28 : decode J_HBars_straight.2.1 28 = .ok (.imul, 1) := by decide +kernel
theorem J_HBars_straight_d29 : decode J_HBars_straight.2.1 29 = .ok (.iload_n 2, 1) := by decide +kernel
theorem J_HBars_straight_d30 : decode J_HBars_straight.2.1 30 = .ok (.iadd, 1) := by decide +kernel
theorem J_HBars_straight_d31 : decode J_HBars_straight.2.1 31 = .ok (.iaload, 1) := by decide +kernel
theorem J_HBars_straight_d32 : decode J_HBars_straight.2.1 32 = .ok (.iadd, 1) := by decide +kernel
theorem J_HBars_straight_d33 : decode J_HBars_straight.2.1 33 = .ok (.ireturn, 1) := by decide +kernel
theorem f_HBars_straight_ok {L : Nat} {xs : Nat → Int32} {dep : Nat} {w : Bool} {p0 : Int32} {p1 : Int32} {M : im_M} {Q : Int32 → Prop} (hM : lw_S w M) (h : ed (f_HBars_straight p0 p1 M) Q) : ia (tb_G L xs) (dep + 1) J_HBars_straight (rpI M Q) (0, lv_args 0 [.ref 31, .int p0, .int p1], [], M) := by
  have hS : im_St (tb_G L xs) (dep + 1) J_HBars_straight (ia (tb_G L xs) (dep + 1) J_HBars_straight (rpI M Q)) := ia_St
  unfold f_HBars_straight at h
  have l0 : im_lk (lv_args 0 [.ref 31, .int p0, .int p1]) 0 = some (.ref 31) := rfl
  have l1 : im_lk (lv_args 0 [.ref 31, .int p0, .int p1]) 1 = some (.int p0) := rfl
  have l2 : im_lk (lv_args 0 [.ref 31, .int p0, .int p1]) 2 = some (.int p1) := rfl
  refine iq_aload_n hS 1 J_HBars_straight_d0 l0 rfl ?_
  refine iq_iload_n hS 2 J_HBars_straight_d1 l1 rfl ?_
  refine iq_iload_n hS 3 J_HBars_straight_d2 l2 rfl ?_
  obtain ⟨Q1, hQ1, h⟩ := bd1_ed h
  refine iq_cpI hS 6 J_HBars_straight_d3 rfl (pr_inst (vs := [_, _]) lc_0_66 lT_119 rfl rfl (by decide) (by decide) rfl (Nat.le_of_ble_eq_true rfl) (Nat.le_of_ble_eq_true rfl) (fun _ => Or.inl (pr_b (ka_31 hM) (by decide) rfl))) (f_HBars_symbolFor_ok (dep := dep + 0) hM h) rfl ?_
  intro x1 h
  replace h := hQ1 _ h
  refine iq_iconst hS 7 J_HBars_straight_d6 (v := (-1)) (by decide +kernel) rfl ?_
  refine iq_icmp_ne hS 10 J_HBars_straight_d7 (t := 16) rfl (fun q7 => ?_) rfl (fun q7 => ?_)
  · replace h := ed_pos q7 h
    refine iq_iconst hS 17 J_HBars_straight_d16 (v := 1) (by decide +kernel) rfl ?_
    refine iq_aload_n hS 18 J_HBars_straight_d17 l0 rfl ?_
    refine iq_getR hS 21 J_HBars_straight_d18 lf_0_23 (Or.inr ⟨_, rfl⟩) (ka_31 hM) (ra_31_7 hM) rfl ?_
    refine iq_iconst hS 22 J_HBars_straight_d21 (v := 3) (by decide +kernel) rfl ?_
    refine iq_iload_n hS 23 J_HBars_straight_d22 l1 rfl ?_
    refine iq_iload_n hS 24 J_HBars_straight_d23 l2 rfl ?_
    obtain ⟨Q2, hQ2, h⟩ := bd1_ed h
    refine iq_cpI hS 27 J_HBars_straight_d24 rfl (pr_stat (vs := [_]) lc_0_69 lT_120 rfl rfl (by decide) rfl (Nat.le_of_ble_eq_true rfl) (Nat.le_of_ble_eq_true rfl)) (f_HBars_signsEach_ok (dep := dep + 0) hM h) rfl ?_
    intro x2 h
    replace h := hQ2 _ h
    refine iq_iadd hS 28 J_HBars_straight_d27 rfl ?_
    refine iq_imul hS 29 J_HBars_straight_d28 rfl ?_
    refine iq_iload_n hS 30 J_HBars_straight_d29 l2 rfl ?_
    refine iq_iadd hS 31 J_HBars_straight_d30 rfl ?_
    obtain ⟨g31, h⟩ := ed_gd h
    refine iq_iaload hS 32 J_HBars_straight_d31 ⟨(ka_35 hM).1, (ka_35 hM).2, g31.1, ix_lt (kl_35 hM) g31.2⟩ rfl ?_
    refine iq_iadd hS 33 J_HBars_straight_d32 rfl ?_
    exact iq_iret J_HBars_straight_d33 rfl rfl ⟨_, rfl, rfl, ed_some h⟩
  · replace h := ed_neg q7 h
    refine iq_sipush hS 13 J_HBars_straight_d10 (v := 1000) (by decide +kernel) rfl ?_
    refine iq_goto hS J_HBars_straight_d13 (t := 33) rfl ?_
    exact iq_iret J_HBars_straight_d33 rfl rfl ⟨_, rfl, rfl, ed_some h⟩
noncomputable def f_HBars_shifted (p0 : Int32) (p1 : Int32) (M : im_M) : Option (Int32) := jn0 (fun (_ : Unit) => some 1000) fun k1 => if p1 = 2 then k1 () else bd1 (f_HBars_symbolFor p0 ((1 : Int32) - p1) M) fun (x2 : Int32) => if ¬ x2 = (-1) then gd (inb (((3 : Int32) * (p0 + 1)) + p1) 198) <| some ((2 : Int32) + (im_i M 35 (Int32.toNatClampNeg (((3 : Int32) * (p0 + 1)) + p1)))) else k1 ()
theorem J_HBars_shifted_d0 : decode J_HBars_shifted.2.1 0 = .ok (.iload_n 2, 1) := by decide +kernel
theorem J_HBars_shifted_d1 : decode J_HBars_shifted.2.1 1 = .ok (.iconst 2, 1) := by decide +kernel
theorem J_HBars_shifted_d2 : decode J_HBars_shifted.2.1 2 = .ok (.if_icmp .eq 15, 3) := by decide +kernel
theorem J_HBars_shifted_d5 : decode J_HBars_shifted.2.1 5 = .ok (.aload_n 0, 1) := by decide +kernel
theorem J_HBars_shifted_d6 : decode J_HBars_shifted.2.1 6 = .ok (.iload_n 1, 1) := by decide +kernel
theorem J_HBars_shifted_d7 : decode J_HBars_shifted.2.1 7 = .ok (.iconst 1, 1) := by decide +kernel
theorem J_HBars_shifted_d8 : decode J_HBars_shifted.2.1 8 = .ok (.iload_n 2, 1) := by decide +kernel
theorem J_HBars_shifted_d9 : decode J_HBars_shifted.2.1 9 = .ok (.isub, 1) := by decide +kernel
theorem J_HBars_shifted_d10 : decode J_HBars_shifted.2.1 10 = .ok (.invokevirtual 66, 3) := by decide +kernel
theorem J_HBars_shifted_d13 : decode J_HBars_shifted.2.1 13 = .ok (.iconst (-1), 1) := by decide +kernel
theorem J_HBars_shifted_d14 : decode J_HBars_shifted.2.1 14 = .ok (.if_icmp .ne 9, 3) := by decide +kernel
theorem J_HBars_shifted_d17 : decode J_HBars_shifted.2.1 17 = .ok (.sipush 1000, 3) := by decide +kernel
theorem J_HBars_shifted_d20 : decode J_HBars_shifted.2.1 20 = .ok (.goto 17, 3) := by decide +kernel
theorem J_HBars_shifted_d23 : decode J_HBars_shifted.2.1 23 = .ok (.iconst 2, 1) := by decide +kernel
theorem J_HBars_shifted_d24 : decode J_HBars_shifted.2.1 24 = .ok (.aload_n 0, 1) := by decide +kernel
theorem J_HBars_shifted_d25 : decode J_HBars_shifted.2.1 25 = .ok (.getfield 23, 3) := by decide +kernel
theorem J_HBars_shifted_d28 : decode J_HBars_shifted.2.1 28 = .ok (.iconst 3, 1) := by decide +kernel
theorem J_HBars_shifted_d29 : decode J_HBars_shifted.2.1 29 = .ok (.iload_n 1, 1) := by decide +kernel
theorem J_HBars_shifted_d30 : decode J_HBars_shifted.2.1 30 = .ok (.iconst 1, 1) := by decide +kernel
theorem J_HBars_shifted_d31 : decode J_HBars_shifted.2.1 31 = .ok (.iadd, 1) := by decide +kernel
theorem J_HBars_shifted_d32 : decode J_HBars_shifted.2.1 32 = .ok (.imul, 1) := by decide +kernel
theorem J_HBars_shifted_d33 : decode J_HBars_shifted.2.1 33 = .ok (.iload_n 2, 1) := by decide +kernel
theorem J_HBars_shifted_d34 : decode J_HBars_shifted.2.1 34 = .ok (.iadd, 1) := by decide +kernel
theorem J_HBars_shifted_d35 : decode J_HBars_shifted.2.1 35 = .ok (.iaload, 1) := by decide +kernel
theorem J_HBars_shifted_d36 : decode J_HBars_shifted.2.1 36 = .ok (.iadd, 1) := by decide +kernel
theorem J_HBars_shifted_d37 : decode J_HBars_shifted.2.1 37 = .ok (.ireturn, 1) := by decide +kernel
theorem f_HBars_shifted_ok {L : Nat} {xs : Nat → Int32} {dep : Nat} {w : Bool} {p0 : Int32} {p1 : Int32} {M : im_M} {Q : Int32 → Prop} (hM : lw_S w M) (h : ed (f_HBars_shifted p0 p1 M) Q) : ia (tb_G L xs) (dep + 1) J_HBars_shifted (rpI M Q) (0, lv_args 0 [.ref 31, .int p0, .int p1], [], M) := by
  have hS : im_St (tb_G L xs) (dep + 1) J_HBars_shifted (ia (tb_G L xs) (dep + 1) J_HBars_shifted (rpI M Q)) := ia_St
  unfold f_HBars_shifted at h
  have l0 : im_lk (lv_args 0 [.ref 31, .int p0, .int p1]) 0 = some (.ref 31) := rfl
  have l1 : im_lk (lv_args 0 [.ref 31, .int p0, .int p1]) 1 = some (.int p0) := rfl
  have l2 : im_lk (lv_args 0 [.ref 31, .int p0, .int p1]) 2 = some (.int p1) := rfl
  refine iq_iload_n hS 1 J_HBars_shifted_d0 l2 rfl ?_
  refine iq_iconst hS 2 J_HBars_shifted_d1 (v := 2) (by decide +kernel) rfl ?_
  obtain ⟨k1, Q1, hQ1, hk1, h⟩ := jn0_ed h
  have J1 : ∀  (L' : List (Nat × Value)), Q1 () → ia (tb_G L xs) (dep + 1) J_HBars_shifted (rpI M Q) (17, L', [], M) := by
    intro  L'  h
    replace h := hQ1  h
    refine iq_sipush hS 20 J_HBars_shifted_d17 (v := 1000) (by decide +kernel) rfl ?_
    refine iq_goto hS J_HBars_shifted_d20 (t := 37) rfl ?_
    exact iq_iret J_HBars_shifted_d37 rfl rfl ⟨_, rfl, rfl, ed_some h⟩
  refine iq_icmp_eq hS 5 J_HBars_shifted_d2 (t := 17) rfl (fun q2 => ?_) rfl (fun q2 => ?_)
  · replace h := ed_pos q2 h
    exact J1  _  (hk1  h)
  · replace h := ed_neg q2 h
    refine iq_aload_n hS 6 J_HBars_shifted_d5 l0 rfl ?_
    refine iq_iload_n hS 7 J_HBars_shifted_d6 l1 rfl ?_
    refine iq_iconst hS 8 J_HBars_shifted_d7 (v := 1) (by decide +kernel) rfl ?_
    refine iq_iload_n hS 9 J_HBars_shifted_d8 l2 rfl ?_
    refine iq_isub hS 10 J_HBars_shifted_d9 rfl ?_
    obtain ⟨Q2, hQ2, h⟩ := bd1_ed h
    refine iq_cpI hS 13 J_HBars_shifted_d10 rfl (pr_inst (vs := [_, _]) lc_0_66 lT_119 rfl rfl (by decide) (by decide) rfl (Nat.le_of_ble_eq_true rfl) (Nat.le_of_ble_eq_true rfl) (fun _ => Or.inl (pr_b (ka_31 hM) (by decide) rfl))) (f_HBars_symbolFor_ok (dep := dep + 0) hM h) rfl ?_
    intro x2 h
    replace h := hQ2 _ h
    refine iq_iconst hS 14 J_HBars_shifted_d13 (v := (-1)) (by decide +kernel) rfl ?_
    refine iq_icmp_ne hS 17 J_HBars_shifted_d14 (t := 23) rfl (fun q14 => ?_) rfl (fun q14 => ?_)
    · replace h := ed_pos q14 h
      refine iq_iconst hS 24 J_HBars_shifted_d23 (v := 2) (by decide +kernel) rfl ?_
      refine iq_aload_n hS 25 J_HBars_shifted_d24 l0 rfl ?_
      refine iq_getR hS 28 J_HBars_shifted_d25 lf_0_23 (Or.inr ⟨_, rfl⟩) (ka_31 hM) (ra_31_7 hM) rfl ?_
      refine iq_iconst hS 29 J_HBars_shifted_d28 (v := 3) (by decide +kernel) rfl ?_
      refine iq_iload_n hS 30 J_HBars_shifted_d29 l1 rfl ?_
      refine iq_iconst hS 31 J_HBars_shifted_d30 (v := 1) (by decide +kernel) rfl ?_
      refine iq_iadd hS 32 J_HBars_shifted_d31 rfl ?_
      refine iq_imul hS 33 J_HBars_shifted_d32 rfl ?_
      refine iq_iload_n hS 34 J_HBars_shifted_d33 l2 rfl ?_
      refine iq_iadd hS 35 J_HBars_shifted_d34 rfl ?_
      obtain ⟨g35, h⟩ := ed_gd h
      refine iq_iaload hS 36 J_HBars_shifted_d35 ⟨(ka_35 hM).1, (ka_35 hM).2, g35.1, ix_lt (kl_35 hM) g35.2⟩ rfl ?_
      refine iq_iadd hS 37 J_HBars_shifted_d36 rfl ?_
      exact iq_iret J_HBars_shifted_d37 rfl rfl ⟨_, rfl, rfl, ed_some h⟩
    · replace h := ed_neg q14 h
      exact J1  _  (hk1  h)
noncomputable def f_HBars_fewestBySign (p0 : Int32) (p1 : Int32) (M : im_M) : Option (Int32) := gd (inb p0 65) <| if ¬ (im_i M 34 (Int32.toNatClampNeg p0)) = 128 then bd1 (f_HBars_straight p0 p1 M) fun (x1 : Int32) => bd1 (f_HBars_shifted p0 p1 M) fun (x2 : Int32) => bd1 (f_Math_min x1 x2 M) fun (x3 : Int32) => some x3 else gd (inb (((3 : Int32) * (p0 + 1)) + p1) 198) <| some ((1 : Int32) + (im_i M 35 (Int32.toNatClampNeg (((3 : Int32) * (p0 + 1)) + p1))))
theorem J_HBars_fewestBySign_d0 : decode J_HBars_fewestBySign.2.1 0 = .ok (.aload_n 0, 1) := by decide +kernel
theorem J_HBars_fewestBySign_d1 : decode J_HBars_fewestBySign.2.1 1 = .ok (.getfield 20, 3) := by decide +kernel
theorem J_HBars_fewestBySign_d4 : decode J_HBars_fewestBySign.2.1 4 = .ok (.iload_n 1, 1) := by decide +kernel
theorem J_HBars_fewestBySign_d5 : decode J_HBars_fewestBySign.2.1 5 = .ok (.iaload, 1) := by decide +kernel
theorem J_HBars_fewestBySign_d6 : decode J_HBars_fewestBySign.2.1 6 = .ok (.sipush 128, 3) := by decide +kernel
theorem J_HBars_fewestBySign_d9 : decode J_HBars_fewestBySign.2.1 9 = .ok (.if_icmp .ne 18, 3) := by decide +kernel
theorem J_HBars_fewestBySign_d12 : decode J_HBars_fewestBySign.2.1 12 = .ok (.iconst 1, 1) := by decide +kernel
theorem J_HBars_fewestBySign_d13 : decode J_HBars_fewestBySign.2.1 13 = .ok (.aload_n 0, 1) := by decide +kernel
theorem J_HBars_fewestBySign_d14 : decode J_HBars_fewestBySign.2.1 14 = .ok (.getfield 23, 3) := by decide +kernel
theorem J_HBars_fewestBySign_d17 : decode J_HBars_fewestBySign.2.1 17 = .ok (.iconst 3, 1) := by decide +kernel
theorem J_HBars_fewestBySign_d18 : decode J_HBars_fewestBySign.2.1 18 = .ok (.iload_n 1, 1) := by decide +kernel
theorem J_HBars_fewestBySign_d19 : decode J_HBars_fewestBySign.2.1 19 = .ok (.iconst 1, 1) := by decide +kernel
theorem J_HBars_fewestBySign_d20 : decode J_HBars_fewestBySign.2.1 20 = .ok (.iadd, 1) := by decide +kernel
theorem J_HBars_fewestBySign_d21 : decode J_HBars_fewestBySign.2.1 21 = .ok (.imul, 1) := by decide +kernel
theorem J_HBars_fewestBySign_d22 : decode J_HBars_fewestBySign.2.1 22 = .ok (.iload_n 2, 1) := by decide +kernel
theorem J_HBars_fewestBySign_d23 : decode J_HBars_fewestBySign.2.1 23 = .ok (.iadd, 1) := by decide +kernel
theorem J_HBars_fewestBySign_d24 : decode J_HBars_fewestBySign.2.1 24 = .ok (.iaload, 1) := by decide +kernel
theorem J_HBars_fewestBySign_d25 : decode J_HBars_fewestBySign.2.1 25 = .ok (.iadd, 1) := by decide +kernel
theorem J_HBars_fewestBySign_d26 : decode J_HBars_fewestBySign.2.1 26 = .ok (.ireturn, 1) := by decide +kernel
theorem J_HBars_fewestBySign_d27 : decode J_HBars_fewestBySign.2.1 27 = .ok (.aload_n 0, 1) := by decide +kernel
theorem J_HBars_fewestBySign_d28 : decode J_HBars_fewestBySign.2.1 28 = .ok (.iload_n 1, 1) := by decide +kernel
theorem J_HBars_fewestBySign_d29 : decode J_HBars_fewestBySign.2.1 29 = .ok (.iload_n 2, 1) := by decide +kernel
theorem J_HBars_fewestBySign_d30 : decode J_HBars_fewestBySign.2.1 30 = .ok (.invokevirtual 60, 3) := by decide +kernel
theorem J_HBars_fewestBySign_d33 : decode J_HBars_fewestBySign.2.1 33 = .ok (.aload_n 0, 1) := by decide +kernel
theorem J_HBars_fewestBySign_d34 : decode J_HBars_fewestBySign.2.1 34 = .ok (.iload_n 1, 1) := by decide +kernel
theorem J_HBars_fewestBySign_d35 : decode J_HBars_fewestBySign.2.1 35 = .ok (.iload_n 2, 1) := by decide +kernel
theorem J_HBars_fewestBySign_d36 : decode J_HBars_fewestBySign.2.1 36 = .ok (.invokevirtual 63, 3) := by decide +kernel
theorem J_HBars_fewestBySign_d39 : decode J_HBars_fewestBySign.2.1 39 = .ok (.invokestatic 55, 3) := by decide +kernel
theorem J_HBars_fewestBySign_d42 : decode J_HBars_fewestBySign.2.1 42 = .ok (.ireturn, 1) := by decide +kernel
theorem f_HBars_fewestBySign_ok {L : Nat} {xs : Nat → Int32} {dep : Nat} {w : Bool} {p0 : Int32} {p1 : Int32} {M : im_M} {Q : Int32 → Prop} (hM : lw_S w M) (h : ed (f_HBars_fewestBySign p0 p1 M) Q) : ia (tb_G L xs) (dep + 2) J_HBars_fewestBySign (rpI M Q) (0, lv_args 0 [.ref 31, .int p0, .int p1], [], M) := by
  have hS : im_St (tb_G L xs) (dep + 2) J_HBars_fewestBySign (ia (tb_G L xs) (dep + 2) J_HBars_fewestBySign (rpI M Q)) := ia_St
  unfold f_HBars_fewestBySign at h
  have l0 : im_lk (lv_args 0 [.ref 31, .int p0, .int p1]) 0 = some (.ref 31) := rfl
  have l1 : im_lk (lv_args 0 [.ref 31, .int p0, .int p1]) 1 = some (.int p0) := rfl
  have l2 : im_lk (lv_args 0 [.ref 31, .int p0, .int p1]) 2 = some (.int p1) := rfl
  refine iq_aload_n hS 1 J_HBars_fewestBySign_d0 l0 rfl ?_
  refine iq_getR hS 4 J_HBars_fewestBySign_d1 lf_0_20 (Or.inr ⟨_, rfl⟩) (ka_31 hM) (ra_31_5 hM) rfl ?_
  refine iq_iload_n hS 5 J_HBars_fewestBySign_d4 l1 rfl ?_
  obtain ⟨g5, h⟩ := ed_gd h
  refine iq_iaload hS 6 J_HBars_fewestBySign_d5 ⟨(ka_34 hM).1, (ka_34 hM).2, g5.1, ix_lt (kl_34 hM) g5.2⟩ rfl ?_
  refine iq_sipush hS 9 J_HBars_fewestBySign_d6 (v := 128) (by decide +kernel) rfl ?_
  refine iq_icmp_ne hS 12 J_HBars_fewestBySign_d9 (t := 27) rfl (fun q9 => ?_) rfl (fun q9 => ?_)
  · replace h := ed_pos q9 h
    refine iq_aload_n hS 28 J_HBars_fewestBySign_d27 l0 rfl ?_
    refine iq_iload_n hS 29 J_HBars_fewestBySign_d28 l1 rfl ?_
    refine iq_iload_n hS 30 J_HBars_fewestBySign_d29 l2 rfl ?_
    obtain ⟨Q1, hQ1, h⟩ := bd1_ed h
    refine iq_cpI hS 33 J_HBars_fewestBySign_d30 rfl (pr_inst (vs := [_, _]) lc_0_60 lT_118 rfl rfl (by decide) (by decide) rfl (Nat.le_of_ble_eq_true rfl) (Nat.le_of_ble_eq_true rfl) (fun _ => Or.inl (pr_b (ka_31 hM) (by decide) rfl))) (f_HBars_straight_ok (dep := dep + 0) hM h) rfl ?_
    intro x1 h
    replace h := hQ1 _ h
    refine iq_aload_n hS 34 J_HBars_fewestBySign_d33 l0 rfl ?_
    refine iq_iload_n hS 35 J_HBars_fewestBySign_d34 l1 rfl ?_
    refine iq_iload_n hS 36 J_HBars_fewestBySign_d35 l2 rfl ?_
    obtain ⟨Q2, hQ2, h⟩ := bd1_ed h
    refine iq_cpI hS 39 J_HBars_fewestBySign_d36 rfl (pr_inst (vs := [_, _]) lc_0_63 lT_121 rfl rfl (by decide) (by decide) rfl (Nat.le_of_ble_eq_true rfl) (Nat.le_of_ble_eq_true rfl) (fun _ => Or.inl (pr_b (ka_31 hM) (by decide) rfl))) (f_HBars_shifted_ok (dep := dep + 0) hM h) rfl ?_
    intro x2 h
    replace h := hQ2 _ h
    obtain ⟨Q3, hQ3, h⟩ := bd1_ed h
    refine iq_cpI hS 42 J_HBars_fewestBySign_d39 rfl (pr_stat (vs := [_, _]) lc_0_55 lT_28 rfl rfl (by decide) rfl (Nat.le_of_ble_eq_true rfl) (Nat.le_of_ble_eq_true rfl)) (f_Math_min_ok (dep := dep + 1) hM h) rfl ?_
    intro x3 h
    replace h := hQ3 _ h
    exact iq_iret J_HBars_fewestBySign_d42 rfl rfl ⟨_, rfl, rfl, ed_some h⟩
  · replace h := ed_neg q9 h
    refine iq_iconst hS 13 J_HBars_fewestBySign_d12 (v := 1) (by decide +kernel) rfl ?_
    refine iq_aload_n hS 14 J_HBars_fewestBySign_d13 l0 rfl ?_
    refine iq_getR hS 17 J_HBars_fewestBySign_d14 lf_0_23 (Or.inr ⟨_, rfl⟩) (ka_31 hM) (ra_31_7 hM) rfl ?_
    refine iq_iconst hS 18 J_HBars_fewestBySign_d17 (v := 3) (by decide +kernel) rfl ?_
    refine iq_iload_n hS 19 J_HBars_fewestBySign_d18 l1 rfl ?_
    refine iq_iconst hS 20 J_HBars_fewestBySign_d19 (v := 1) (by decide +kernel) rfl ?_
    refine iq_iadd hS 21 J_HBars_fewestBySign_d20 rfl ?_
    refine iq_imul hS 22 J_HBars_fewestBySign_d21 rfl ?_
    refine iq_iload_n hS 23 J_HBars_fewestBySign_d22 l2 rfl ?_
    refine iq_iadd hS 24 J_HBars_fewestBySign_d23 rfl ?_
    obtain ⟨g24, h⟩ := ed_gd h
    refine iq_iaload hS 25 J_HBars_fewestBySign_d24 ⟨(ka_35 hM).1, (ka_35 hM).2, g24.1, ix_lt (kl_35 hM) g24.2⟩ rfl ?_
    refine iq_iadd hS 26 J_HBars_fewestBySign_d25 rfl ?_
    exact iq_iret J_HBars_fewestBySign_d26 rfl rfl ⟨_, rfl, rfl, ed_some h⟩
noncomputable def f_HBars_countFewest_L29 (x3 : Int32) (M4 : im_M) : Option ((Int32 × im_M) ⊕ (im_M)) := if x3 < 0 then some (.inr M4) else bd1 (f_HBars_fewestBySign x3 0 M4) fun (x5 : Int32) => bd1 (f_HBars_fewestBySign x3 1 M4) fun (x6 : Int32) => bd1 (f_HBars_fewestBySign x3 2 M4) fun (x7 : Int32) => bd1 (f_Math_min x6 x7 M4) fun (x8 : Int32) => bd1 (f_Math_min x5 ((1 : Int32) + x8) M4) fun (x9 : Int32) => gd (inb ((3 : Int32) * x3) 198) <| bd1 (f_Math_min x5 x7 (im_setI M4 35 (Int32.toNatClampNeg ((3 : Int32) * x3)) x9)) fun (x10 : Int32) => bd1 (f_Math_min x6 ((1 : Int32) + x10) (im_setI M4 35 (Int32.toNatClampNeg ((3 : Int32) * x3)) x9)) fun (x11 : Int32) => gd (inb (((3 : Int32) * x3) + 1) 198) <| bd1 (f_Math_min x5 x6 (im_setI (im_setI M4 35 (Int32.toNatClampNeg ((3 : Int32) * x3)) x9) 35 (Int32.toNatClampNeg (((3 : Int32) * x3) + 1)) x11)) fun (x12 : Int32) => bd1 (f_Math_min x7 ((1 : Int32) + x12) (im_setI (im_setI M4 35 (Int32.toNatClampNeg ((3 : Int32) * x3)) x9) 35 (Int32.toNatClampNeg (((3 : Int32) * x3) + 1)) x11)) fun (x13 : Int32) => gd (inb (((3 : Int32) * x3) + 2) 198) <| some (.inl ((x3 + (-1)), (im_setI (im_setI (im_setI M4 35 (Int32.toNatClampNeg ((3 : Int32) * x3)) x9) 35 (Int32.toNatClampNeg (((3 : Int32) * x3) + 1)) x11) 35 (Int32.toNatClampNeg (((3 : Int32) * x3) + 2)) x13)))
noncomputable def f_HBars_countFewest (M : im_M) : Option (im_M) := bd1 (f_Arrays_fill_2 ((3 : Int32) * (im_i M 31 6)) (((3 : Int32) * (im_i M 31 6)) + 3) 0 M) fun (M1 : im_M) => bd1 (lp (uc2 (f_HBars_countFewest_L29)) (((im_i M1 31 6) - 1), M1)) fun (M14 : im_M) => some M14
theorem J_HBars_countFewest_d0 : decode J_HBars_countFewest.2.1 0 = .ok (.aload_n 0, 1) := by decide +kernel
theorem J_HBars_countFewest_d1 : decode J_HBars_countFewest.2.1 1 = .ok (.getfield 23, 3) := by decide +kernel
theorem J_HBars_countFewest_d4 : decode J_HBars_countFewest.2.1 4 = .ok (.iconst 3, 1) := by decide +kernel
theorem J_HBars_countFewest_d5 : decode J_HBars_countFewest.2.1 5 = .ok (.aload_n 0, 1) := by decide +kernel
theorem J_HBars_countFewest_d6 : decode J_HBars_countFewest.2.1 6 = .ok (.getfield 32, 3) := by decide +kernel
theorem J_HBars_countFewest_d9 : decode J_HBars_countFewest.2.1 9 = .ok (.imul, 1) := by decide +kernel
theorem J_HBars_countFewest_d10 : decode J_HBars_countFewest.2.1 10 = .ok (.iconst 3, 1) := by decide +kernel
theorem J_HBars_countFewest_d11 : decode J_HBars_countFewest.2.1 11 = .ok (.aload_n 0, 1) := by decide +kernel
theorem J_HBars_countFewest_d12 : decode J_HBars_countFewest.2.1 12 = .ok (.getfield 32, 3) := by decide +kernel
theorem J_HBars_countFewest_d15 : decode J_HBars_countFewest.2.1 15 = .ok (.imul, 1) := by decide +kernel
theorem J_HBars_countFewest_d16 : decode J_HBars_countFewest.2.1 16 = .ok (.iconst 3, 1) := by decide +kernel
theorem J_HBars_countFewest_d17 : decode J_HBars_countFewest.2.1 17 = .ok (.iadd, 1) := by decide +kernel
theorem J_HBars_countFewest_d18 : decode J_HBars_countFewest.2.1 18 = .ok (.iconst 0, 1) := by decide +kernel
theorem J_HBars_countFewest_d19 : decode J_HBars_countFewest.2.1 19 = .ok (.invokestatic 45, 3) := by decide +kernel
theorem J_HBars_countFewest_d22 : decode J_HBars_countFewest.2.1 22 = .ok (.aload_n 0, 1) := by decide +kernel
theorem J_HBars_countFewest_d23 : decode J_HBars_countFewest.2.1 23 = .ok (.getfield 32, 3) := by decide +kernel
theorem J_HBars_countFewest_d26 : decode J_HBars_countFewest.2.1 26 = .ok (.iconst 1, 1) := by decide +kernel
theorem J_HBars_countFewest_d27 : decode J_HBars_countFewest.2.1 27 = .ok (.isub, 1) := by decide +kernel
theorem J_HBars_countFewest_d28 : decode J_HBars_countFewest.2.1 28 = .ok (.istore_n 1, 1) := by decide +kernel
theorem J_HBars_countFewest_d29 : decode J_HBars_countFewest.2.1 29 = .ok (.iload_n 1, 1) := by decide +kernel
theorem J_HBars_countFewest_d30 : decode J_HBars_countFewest.2.1 30 = .ok (.ifCond .lt 95, 3) := by decide +kernel
theorem J_HBars_countFewest_d33 : decode J_HBars_countFewest.2.1 33 = .ok (.aload_n 0, 1) := by decide +kernel
theorem J_HBars_countFewest_d34 : decode J_HBars_countFewest.2.1 34 = .ok (.iload_n 1, 1) := by decide +kernel
theorem J_HBars_countFewest_d35 : decode J_HBars_countFewest.2.1 35 = .ok (.iconst 0, 1) := by decide +kernel
theorem J_HBars_countFewest_d36 : decode J_HBars_countFewest.2.1 36 = .ok (.invokevirtual 51, 3) := by decide +kernel
theorem J_HBars_countFewest_d39 : decode J_HBars_countFewest.2.1 39 = .ok (.istore_n 2, 1) := by decide +kernel
theorem J_HBars_countFewest_d40 : decode J_HBars_countFewest.2.1 40 = .ok (.aload_n 0, 1) := by decide +kernel
theorem J_HBars_countFewest_d41 : decode J_HBars_countFewest.2.1 41 = .ok (.iload_n 1, 1) := by decide +kernel
theorem J_HBars_countFewest_d42 : decode J_HBars_countFewest.2.1 42 = .ok (.iconst 1, 1) := by decide +kernel
theorem J_HBars_countFewest_d43 : decode J_HBars_countFewest.2.1 43 = .ok (.invokevirtual 51, 3) := by decide +kernel
theorem J_HBars_countFewest_d46 : decode J_HBars_countFewest.2.1 46 = .ok (.istore_n 3, 1) := by decide +kernel
theorem J_HBars_countFewest_d47 : decode J_HBars_countFewest.2.1 47 = .ok (.aload_n 0, 1) := by decide +kernel
theorem J_HBars_countFewest_d48 : decode J_HBars_countFewest.2.1 48 = .ok (.iload_n 1, 1) := by decide +kernel
theorem J_HBars_countFewest_d49 : decode J_HBars_countFewest.2.1 49 = .ok (.iconst 2, 1) := by decide +kernel
theorem J_HBars_countFewest_d50 : decode J_HBars_countFewest.2.1 50 = .ok (.invokevirtual 51, 3) := by decide +kernel
theorem J_HBars_countFewest_d53 : decode J_HBars_countFewest.2.1 53 = .ok (.istore 4, 2) := by decide +kernel
theorem J_HBars_countFewest_d55 : decode J_HBars_countFewest.2.1 55 = .ok (.aload_n 0, 1) := by decide +kernel
theorem J_HBars_countFewest_d56 : decode J_HBars_countFewest.2.1 56 = .ok (.getfield 23, 3) := by decide +kernel
theorem J_HBars_countFewest_d59 : decode J_HBars_countFewest.2.1 59 = .ok (.iconst 3, 1) := by decide +kernel
theorem J_HBars_countFewest_d60 : decode J_HBars_countFewest.2.1 60 = .ok (.iload_n 1, 1) := by decide +kernel
theorem J_HBars_countFewest_d61 : decode J_HBars_countFewest.2.1 61 = .ok (.imul, 1) := by decide +kernel
theorem J_HBars_countFewest_d62 : decode J_HBars_countFewest.2.1 62 = .ok (.iload_n 2, 1) := by decide +kernel
theorem J_HBars_countFewest_d63 : decode J_HBars_countFewest.2.1 63 = .ok (.iconst 1, 1) := by decide +kernel
theorem J_HBars_countFewest_d64 : decode J_HBars_countFewest.2.1 64 = .ok (.iload_n 3, 1) := by decide +kernel
theorem J_HBars_countFewest_d65 : decode J_HBars_countFewest.2.1 65 = .ok (.iload 4, 2) := by decide +kernel
theorem J_HBars_countFewest_d67 : decode J_HBars_countFewest.2.1 67 = .ok (.invokestatic 55, 3) := by decide +kernel
theorem J_HBars_countFewest_d70 : decode J_HBars_countFewest.2.1 70 = .ok (.iadd, 1) := by decide +kernel
theorem J_HBars_countFewest_d71 : decode J_HBars_countFewest.2.1 71 = .ok (.invokestatic 55, 3) := by decide +kernel
theorem J_HBars_countFewest_d74 : decode J_HBars_countFewest.2.1 74 = .ok (.iastore, 1) := by decide +kernel
theorem J_HBars_countFewest_d75 : decode J_HBars_countFewest.2.1 75 = .ok (.aload_n 0, 1) := by decide +kernel
theorem J_HBars_countFewest_d76 : decode J_HBars_countFewest.2.1 76 = .ok (.getfield 23, 3) := by decide +kernel
theorem J_HBars_countFewest_d79 : decode J_HBars_countFewest.2.1 79 = .ok (.iconst 3, 1) := by decide +kernel
theorem J_HBars_countFewest_d80 : decode J_HBars_countFewest.2.1 80 = .ok (.iload_n 1, 1) := by decide +kernel
theorem J_HBars_countFewest_d81 : decode J_HBars_countFewest.2.1 81 = .ok (.imul, 1) := by decide +kernel
theorem J_HBars_countFewest_d82 : decode J_HBars_countFewest.2.1 82 = .ok (.iconst 1, 1) := by decide +kernel
theorem J_HBars_countFewest_d83 : decode J_HBars_countFewest.2.1 83 = .ok (.iadd, 1) := by decide +kernel
theorem J_HBars_countFewest_d84 : decode J_HBars_countFewest.2.1 84 = .ok (.iload_n 3, 1) := by decide +kernel
theorem J_HBars_countFewest_d85 : decode J_HBars_countFewest.2.1 85 = .ok (.iconst 1, 1) := by decide +kernel
theorem J_HBars_countFewest_d86 : decode J_HBars_countFewest.2.1 86 = .ok (.iload_n 2, 1) := by decide +kernel
theorem J_HBars_countFewest_d87 : decode J_HBars_countFewest.2.1 87 = .ok (.iload 4, 2) := by decide +kernel
theorem J_HBars_countFewest_d89 : decode J_HBars_countFewest.2.1 89 = .ok (.invokestatic 55, 3) := by decide +kernel
theorem J_HBars_countFewest_d92 : decode J_HBars_countFewest.2.1 92 = .ok (.iadd, 1) := by decide +kernel
theorem J_HBars_countFewest_d93 : decode J_HBars_countFewest.2.1 93 = .ok (.invokestatic 55, 3) := by decide +kernel
theorem J_HBars_countFewest_d96 : decode J_HBars_countFewest.2.1 96 = .ok (.iastore, 1) := by decide +kernel
theorem J_HBars_countFewest_d97 : decode J_HBars_countFewest.2.1 97 = .ok (.aload_n 0, 1) := by decide +kernel
theorem J_HBars_countFewest_d98 : decode J_HBars_countFewest.2.1 98 = .ok (.getfield 23, 3) := by decide +kernel
theorem J_HBars_countFewest_d101 : decode J_HBars_countFewest.2.1 101 = .ok (.iconst 3, 1) := by decide +kernel
theorem J_HBars_countFewest_d102 : decode J_HBars_countFewest.2.1 102 = .ok (.iload_n 1, 1) := by decide +kernel
theorem J_HBars_countFewest_d103 : decode J_HBars_countFewest.2.1 103 = .ok (.imul, 1) := by decide +kernel
theorem J_HBars_countFewest_d104 : decode J_HBars_countFewest.2.1 104 = .ok (.iconst 2, 1) := by decide +kernel
theorem J_HBars_countFewest_d105 : decode J_HBars_countFewest.2.1 105 = .ok (.iadd, 1) := by decide +kernel
theorem J_HBars_countFewest_d106 : decode J_HBars_countFewest.2.1 106 = .ok (.iload 4, 2) := by decide +kernel
theorem J_HBars_countFewest_d108 : decode J_HBars_countFewest.2.1 108 = .ok (.iconst 1, 1) := by decide +kernel
theorem J_HBars_countFewest_d109 : decode J_HBars_countFewest.2.1 109 = .ok (.iload_n 2, 1) := by decide +kernel
theorem J_HBars_countFewest_d110 : decode J_HBars_countFewest.2.1 110 = .ok (.iload_n 3, 1) := by decide +kernel
theorem J_HBars_countFewest_d111 : decode J_HBars_countFewest.2.1 111 = .ok (.invokestatic 55, 3) := by decide +kernel
theorem J_HBars_countFewest_d114 : decode J_HBars_countFewest.2.1 114 = .ok (.iadd, 1) := by decide +kernel
theorem J_HBars_countFewest_d115 : decode J_HBars_countFewest.2.1 115 = .ok (.invokestatic 55, 3) := by decide +kernel
theorem J_HBars_countFewest_d118 : decode J_HBars_countFewest.2.1 118 = .ok (.iastore, 1) := by decide +kernel
theorem J_HBars_countFewest_d119 : decode J_HBars_countFewest.2.1 119 = .ok (.iinc 1 (-1), 3) := by decide +kernel
theorem J_HBars_countFewest_d122 : decode J_HBars_countFewest.2.1 122 = .ok (.goto (-93), 3) := by decide +kernel
theorem J_HBars_countFewest_d125 : decode J_HBars_countFewest.2.1 125 = .ok (.return_, 1) := by decide +kernel
theorem f_HBars_countFewest_ok {L : Nat} {xs : Nat → Int32} {dep : Nat} {w : Bool} {M : im_M} {Q : im_M → Prop} (hM : lw_S w M) (h : ed (f_HBars_countFewest M) Q) : ia (tb_G L xs) (dep + 3) J_HBars_countFewest (rwV w Q) (0, lv_args 0 [.ref 31], [], M) := by
  have hS : im_St (tb_G L xs) (dep + 3) J_HBars_countFewest (ia (tb_G L xs) (dep + 3) J_HBars_countFewest (rwV w Q)) := ia_St
  unfold f_HBars_countFewest at h
  have l0 : im_lk (lv_args 0 [.ref 31]) 0 = some (.ref 31) := rfl
  refine iq_aload_n hS 1 J_HBars_countFewest_d0 l0 rfl ?_
  refine iq_getR hS 4 J_HBars_countFewest_d1 lf_0_23 (Or.inr ⟨_, rfl⟩) (ka_31 hM) (ra_31_7 hM) rfl ?_
  refine iq_iconst hS 5 J_HBars_countFewest_d4 (v := 3) (by decide +kernel) rfl ?_
  refine iq_aload_n hS 6 J_HBars_countFewest_d5 l0 rfl ?_
  refine iq_getI hS 9 J_HBars_countFewest_d6 lf_0_32 (Or.inl rfl) (ka_31 hM) rfl ?_
  refine iq_imul hS 10 J_HBars_countFewest_d9 rfl ?_
  refine iq_iconst hS 11 J_HBars_countFewest_d10 (v := 3) (by decide +kernel) rfl ?_
  refine iq_aload_n hS 12 J_HBars_countFewest_d11 l0 rfl ?_
  refine iq_getI hS 15 J_HBars_countFewest_d12 lf_0_32 (Or.inl rfl) (ka_31 hM) rfl ?_
  refine iq_imul hS 16 J_HBars_countFewest_d15 rfl ?_
  refine iq_iconst hS 17 J_HBars_countFewest_d16 (v := 3) (by decide +kernel) rfl ?_
  refine iq_iadd hS 18 J_HBars_countFewest_d17 rfl ?_
  refine iq_iconst hS 19 J_HBars_countFewest_d18 (v := 0) (by decide +kernel) rfl ?_
  obtain ⟨Q1, hQ1, h⟩ := bd1_ed h
  refine iq_cwV hS 22 J_HBars_countFewest_d19 rfl (pr_stat (vs := [_, _, _, _]) lc_0_45 lT_53 rfl rfl (by decide) rfl (Nat.le_of_ble_eq_true rfl) (Nat.le_of_ble_eq_true rfl)) (f_Arrays_fill_2_ok (dep := dep + 1) hM h) rfl ?_
  intro M1 hM1 h
  replace h := hQ1 _ h
  refine iq_aload_n hS 23 J_HBars_countFewest_d22 l0 rfl ?_
  refine iq_getI hS 26 J_HBars_countFewest_d23 lf_0_32 (Or.inl rfl) (ka_31 hM1) rfl ?_
  refine iq_iconst hS 27 J_HBars_countFewest_d26 (v := 1) (by decide +kernel) rfl ?_
  refine iq_isub hS 28 J_HBars_countFewest_d27 rfl ?_
  refine iq_istore_n hS 29 J_HBars_countFewest_d28 (by decide) rfl ?_
  obtain ⟨Q2, hQ2, h⟩ := bd1_ed h
  have K2 : ∀ (M3 : im_M) (L' : List (Nat × Value)), lw_S w M3 → Q2 M3 → ia (tb_G L xs) (dep + 3) J_HBars_countFewest (rwV w Q) (125, L', [], M3) := by
    intro M3 L' hM3  h
    replace h := hQ2 _ h
    exact iq_ret J_HBars_countFewest_d125 rfl ⟨rfl, hM3, ed_some h⟩
  obtain ⟨r2, hr2, hq2⟩ := h
  obtain ⟨n2, hn2⟩ := lp_n hr2
  have I2 : ∀ (n : Nat) (x4 : Int32) (M5 : im_M) (L' : List (Nat × Value)), lw_S w M5 → im_lk L' 0 = some (.ref 31) → im_lk L' 1 = some (.int x4) → lpn (uc2 (f_HBars_countFewest_L29)) n (x4, M5) = some r2 → ia (tb_G L xs) (dep + 3) J_HBars_countFewest (rwV w Q) (29, L', [], M5) := by
    intro n
    induction n with
    | zero => intro x4 M5 L' hM5 l6 l7 hn; exact (lpn_0 hn).elim
    | succ n ih =>
      intro x4 M5 L' hM5 l6 l7 hn
      have h := lpn_ed2 hn
      unfold f_HBars_countFewest_L29 at h
      refine iq_iload_n hS 30 J_HBars_countFewest_d29 l7 rfl ?_
      refine iq_if_lt hS 33 J_HBars_countFewest_d30 (t := 125) rfl (fun q30 => ?_) rfl (fun q30 => ?_)
      · replace h := ed_pos q30 h
        exact K2 _ _ hM5  (lq_r h hq2)
      · replace h := ed_neg q30 h
        refine iq_aload_n hS 34 J_HBars_countFewest_d33 l6 rfl ?_
        refine iq_iload_n hS 35 J_HBars_countFewest_d34 l7 rfl ?_
        refine iq_iconst hS 36 J_HBars_countFewest_d35 (v := 0) (by decide +kernel) rfl ?_
        obtain ⟨Q8, hQ8, h⟩ := bd1_ed h
        refine iq_cpI hS 39 J_HBars_countFewest_d36 rfl (pr_inst (vs := [_, _]) lc_0_51 lT_117 rfl rfl (by decide) (by decide) rfl (Nat.le_of_ble_eq_true rfl) (Nat.le_of_ble_eq_true rfl) (fun _ => Or.inl (pr_b (ka_31 hM5) (by decide) rfl))) (f_HBars_fewestBySign_ok (dep := dep + 0) hM5 h) rfl ?_
        intro x8 h
        replace h := hQ8 _ h
        refine iq_istore_n hS 40 J_HBars_countFewest_d39 (by decide) rfl ?_
        refine iq_aload_n hS 41 J_HBars_countFewest_d40 (lk_1r l6 (by decide)) rfl ?_
        refine iq_iload_n hS 42 J_HBars_countFewest_d41 (lk_1i l7 (by decide)) rfl ?_
        refine iq_iconst hS 43 J_HBars_countFewest_d42 (v := 1) (by decide +kernel) rfl ?_
        obtain ⟨Q9, hQ9, h⟩ := bd1_ed h
        refine iq_cpI hS 46 J_HBars_countFewest_d43 rfl (pr_inst (vs := [_, _]) lc_0_51 lT_117 rfl rfl (by decide) (by decide) rfl (Nat.le_of_ble_eq_true rfl) (Nat.le_of_ble_eq_true rfl) (fun _ => Or.inl (pr_b (ka_31 hM5) (by decide) rfl))) (f_HBars_fewestBySign_ok (dep := dep + 0) hM5 h) rfl ?_
        intro x9 h
        replace h := hQ9 _ h
        refine iq_istore_n hS 47 J_HBars_countFewest_d46 (by decide) rfl ?_
        refine iq_aload_n hS 48 J_HBars_countFewest_d47 (lk_1r (lk_1r l6 (by decide)) (by decide)) rfl ?_
        refine iq_iload_n hS 49 J_HBars_countFewest_d48 (lk_1i (lk_1i l7 (by decide)) (by decide)) rfl ?_
        refine iq_iconst hS 50 J_HBars_countFewest_d49 (v := 2) (by decide +kernel) rfl ?_
        obtain ⟨Q10, hQ10, h⟩ := bd1_ed h
        refine iq_cpI hS 53 J_HBars_countFewest_d50 rfl (pr_inst (vs := [_, _]) lc_0_51 lT_117 rfl rfl (by decide) (by decide) rfl (Nat.le_of_ble_eq_true rfl) (Nat.le_of_ble_eq_true rfl) (fun _ => Or.inl (pr_b (ka_31 hM5) (by decide) rfl))) (f_HBars_fewestBySign_ok (dep := dep + 0) hM5 h) rfl ?_
        intro x10 h
        replace h := hQ10 _ h
        refine iq_istore hS 55 J_HBars_countFewest_d53 (by decide) rfl ?_
        refine iq_aload_n hS 56 J_HBars_countFewest_d55 (lk_1r (lk_1r (lk_1r l6 (by decide)) (by decide)) (by decide)) rfl ?_
        refine iq_getR hS 59 J_HBars_countFewest_d56 lf_0_23 (Or.inr ⟨_, rfl⟩) (ka_31 hM5) (ra_31_7 hM5) rfl ?_
        refine iq_iconst hS 60 J_HBars_countFewest_d59 (v := 3) (by decide +kernel) rfl ?_
        refine iq_iload_n hS 61 J_HBars_countFewest_d60 (lk_1i (lk_1i (lk_1i l7 (by decide)) (by decide)) (by decide)) rfl ?_
        refine iq_imul hS 62 J_HBars_countFewest_d61 rfl ?_
        refine iq_iload_n hS 63 J_HBars_countFewest_d62 (lk_1i (lk_1i lk_1s (by decide)) (by decide)) rfl ?_
        refine iq_iconst hS 64 J_HBars_countFewest_d63 (v := 1) (by decide +kernel) rfl ?_
        refine iq_iload_n hS 65 J_HBars_countFewest_d64 (lk_1i lk_1s (by decide)) rfl ?_
        refine iq_iload hS 67 J_HBars_countFewest_d65 lk_1s rfl ?_
        obtain ⟨Q11, hQ11, h⟩ := bd1_ed h
        refine iq_cpI hS 70 J_HBars_countFewest_d67 rfl (pr_stat (vs := [_, _]) lc_0_55 lT_28 rfl rfl (by decide) rfl (Nat.le_of_ble_eq_true rfl) (Nat.le_of_ble_eq_true rfl)) (f_Math_min_ok (dep := dep + 2) hM5 h) rfl ?_
        intro x11 h
        replace h := hQ11 _ h
        refine iq_iadd hS 71 J_HBars_countFewest_d70 rfl ?_
        obtain ⟨Q12, hQ12, h⟩ := bd1_ed h
        refine iq_cpI hS 74 J_HBars_countFewest_d71 rfl (pr_stat (vs := [_, _]) lc_0_55 lT_28 rfl rfl (by decide) rfl (Nat.le_of_ble_eq_true rfl) (Nat.le_of_ble_eq_true rfl)) (f_Math_min_ok (dep := dep + 2) hM5 h) rfl ?_
        intro x12 h
        replace h := hQ12 _ h
        obtain ⟨g74, h⟩ := ed_gd h
        refine iq_iastore hS 75 J_HBars_countFewest_d74 ⟨(ka_35 hM5).1, (ka_35 hM5).2, g74.1, ix_lt (kl_35 hM5) g74.2⟩ rfl ?_
        refine iq_aload_n hS 76 J_HBars_countFewest_d75 (lk_1r (lk_1r (lk_1r l6 (by decide)) (by decide)) (by decide)) rfl ?_
        refine iq_getR hS 79 J_HBars_countFewest_d76 lf_0_23 (Or.inr ⟨_, rfl⟩) (ka_31 hM5) (ra_31_7 hM5) rfl ?_
        refine iq_iconst hS 80 J_HBars_countFewest_d79 (v := 3) (by decide +kernel) rfl ?_
        refine iq_iload_n hS 81 J_HBars_countFewest_d80 (lk_1i (lk_1i (lk_1i l7 (by decide)) (by decide)) (by decide)) rfl ?_
        refine iq_imul hS 82 J_HBars_countFewest_d81 rfl ?_
        refine iq_iconst hS 83 J_HBars_countFewest_d82 (v := 1) (by decide +kernel) rfl ?_
        refine iq_iadd hS 84 J_HBars_countFewest_d83 rfl ?_
        refine iq_iload_n hS 85 J_HBars_countFewest_d84 (lk_1i lk_1s (by decide)) rfl ?_
        refine iq_iconst hS 86 J_HBars_countFewest_d85 (v := 1) (by decide +kernel) rfl ?_
        refine iq_iload_n hS 87 J_HBars_countFewest_d86 (lk_1i (lk_1i lk_1s (by decide)) (by decide)) rfl ?_
        refine iq_iload hS 89 J_HBars_countFewest_d87 lk_1s rfl ?_
        obtain ⟨Q13, hQ13, h⟩ := bd1_ed h
        refine iq_cpI hS 92 J_HBars_countFewest_d89 rfl (pr_stat (vs := [_, _]) lc_0_55 lT_28 rfl rfl (by decide) rfl (Nat.le_of_ble_eq_true rfl) (Nat.le_of_ble_eq_true rfl)) (f_Math_min_ok (dep := dep + 2) hM5 h) rfl ?_
        intro x13 h
        replace h := hQ13 _ h
        refine iq_iadd hS 93 J_HBars_countFewest_d92 rfl ?_
        obtain ⟨Q14, hQ14, h⟩ := bd1_ed h
        refine iq_cpI hS 96 J_HBars_countFewest_d93 rfl (pr_stat (vs := [_, _]) lc_0_55 lT_28 rfl rfl (by decide) rfl (Nat.le_of_ble_eq_true rfl) (Nat.le_of_ble_eq_true rfl)) (f_Math_min_ok (dep := dep + 2) hM5 h) rfl ?_
        intro x14 h
        replace h := hQ14 _ h
        obtain ⟨g96, h⟩ := ed_gd h
        refine iq_iastore hS 97 J_HBars_countFewest_d96 ⟨(ka_35 hM5).1, (ka_35 hM5).2, g96.1, ix_lt (kl_35 hM5) g96.2⟩ rfl ?_
        refine iq_aload_n hS 98 J_HBars_countFewest_d97 (lk_1r (lk_1r (lk_1r l6 (by decide)) (by decide)) (by decide)) rfl ?_
        refine iq_getR hS 101 J_HBars_countFewest_d98 lf_0_23 (Or.inr ⟨_, rfl⟩) (ka_31 hM5) (ra_31_7 hM5) rfl ?_
        refine iq_iconst hS 102 J_HBars_countFewest_d101 (v := 3) (by decide +kernel) rfl ?_
        refine iq_iload_n hS 103 J_HBars_countFewest_d102 (lk_1i (lk_1i (lk_1i l7 (by decide)) (by decide)) (by decide)) rfl ?_
        refine iq_imul hS 104 J_HBars_countFewest_d103 rfl ?_
        refine iq_iconst hS 105 J_HBars_countFewest_d104 (v := 2) (by decide +kernel) rfl ?_
        refine iq_iadd hS 106 J_HBars_countFewest_d105 rfl ?_
        refine iq_iload hS 108 J_HBars_countFewest_d106 lk_1s rfl ?_
        refine iq_iconst hS 109 J_HBars_countFewest_d108 (v := 1) (by decide +kernel) rfl ?_
        refine iq_iload_n hS 110 J_HBars_countFewest_d109 (lk_1i (lk_1i lk_1s (by decide)) (by decide)) rfl ?_
        refine iq_iload_n hS 111 J_HBars_countFewest_d110 (lk_1i lk_1s (by decide)) rfl ?_
        obtain ⟨Q15, hQ15, h⟩ := bd1_ed h
        refine iq_cpI hS 114 J_HBars_countFewest_d111 rfl (pr_stat (vs := [_, _]) lc_0_55 lT_28 rfl rfl (by decide) rfl (Nat.le_of_ble_eq_true rfl) (Nat.le_of_ble_eq_true rfl)) (f_Math_min_ok (dep := dep + 2) hM5 h) rfl ?_
        intro x15 h
        replace h := hQ15 _ h
        refine iq_iadd hS 115 J_HBars_countFewest_d114 rfl ?_
        obtain ⟨Q16, hQ16, h⟩ := bd1_ed h
        refine iq_cpI hS 118 J_HBars_countFewest_d115 rfl (pr_stat (vs := [_, _]) lc_0_55 lT_28 rfl rfl (by decide) rfl (Nat.le_of_ble_eq_true rfl) (Nat.le_of_ble_eq_true rfl)) (f_Math_min_ok (dep := dep + 2) hM5 h) rfl ?_
        intro x16 h
        replace h := hQ16 _ h
        obtain ⟨g118, h⟩ := ed_gd h
        refine iq_iastore hS 119 J_HBars_countFewest_d118 ⟨(ka_35 hM5).1, (ka_35 hM5).2, g118.1, ix_lt (kl_35 hM5) g118.2⟩ rfl ?_
        refine iq_iincv hS 122 J_HBars_countFewest_d119 (c := (-1)) (by decide +kernel) (lk_1i (lk_1i (lk_1i l7 (by decide)) (by decide)) (by decide)) (by decide) rfl ?_
        refine iq_goto hS J_HBars_countFewest_d122 (t := 29) rfl ?_
        exact ih _ _ _ hM5 (lk_1r (lk_1r (lk_1r (lk_1r l6 (by decide)) (by decide)) (by decide)) (by decide)) lk_1s (lq_l h)
  exact I2 n2 _ _ _ hM1 (lk_1r l0 (by decide)) lk_1s hn2
noncomputable def f_HBars_leastSymbol_L45 (v4 : Int32) (v5 : Int32) (v6 : Int32) (M8 : im_M) (x7 : Int32) : Option ((Int32) ⊕ ((Unit) ⊕ (Int32))) := if 101 < x7 then some (.inr (.inl ())) else jn0 (fun (_ : Unit) => some (.inl (x7 + 1))) fun k9 => if ((101 : Int32) - x7) = v5 then k9 () else gd (inb (((3 : Int32) * v4) + ((101 : Int32) - x7)) 198) <| if ¬ ((1 : Int32) + (im_i M8 35 (Int32.toNatClampNeg (((3 : Int32) * v4) + ((101 : Int32) - x7))))) = v6 then k9 () else some (.inr (.inr x7))
noncomputable def f_HBars_leastSymbol (p0 : Int32) (p1 : Int32) (M : im_M) : Option (Int32) := gd (inb (((3 : Int32) * p0) + p1) 198) <| bd1 (f_HBars_straight p0 p1 M) fun (x1 : Int32) => if ¬ x1 = (im_i M 35 (Int32.toNatClampNeg (((3 : Int32) * p0) + p1))) then bd1 (f_HBars_shifted p0 p1 M) fun (x2 : Int32) => if ¬ x2 = (im_i M 35 (Int32.toNatClampNeg (((3 : Int32) * p0) + p1))) then bs0 (lp (uc1 (f_HBars_leastSymbol_L45 p0 p1 (im_i M 35 (Int32.toNatClampNeg (((3 : Int32) * p0) + p1))) M)) 99) (fun (_ : Unit) => some 102) (fun t => some t) else some 98 else bd1 (f_HBars_symbolFor p0 p1 M) fun (x15 : Int32) => some x15
theorem J_HBars_leastSymbol_d0 : decode J_HBars_leastSymbol.2.1 0 = .ok (.aload_n 0, 1) := by decide +kernel
theorem J_HBars_leastSymbol_d1 : decode J_HBars_leastSymbol.2.1 1 = .ok (.getfield 23, 3) := by decide +kernel
theorem J_HBars_leastSymbol_d4 : decode J_HBars_leastSymbol.2.1 4 = .ok (.iconst 3, 1) := by decide +kernel
theorem J_HBars_leastSymbol_d5 : decode J_HBars_leastSymbol.2.1 5 = .ok (.iload_n 1, 1) := by decide +kernel
theorem J_HBars_leastSymbol_d6 : decode J_HBars_leastSymbol.2.1 6 = .ok (.imul, 1) := by decide +kernel
theorem J_HBars_leastSymbol_d7 : decode J_HBars_leastSymbol.2.1 7 = .ok (.iload_n 2, 1) := by decide +kernel
theorem J_HBars_leastSymbol_d8 : decode J_HBars_leastSymbol.2.1 8 = .ok (.iadd, 1) := by decide +kernel
theorem J_HBars_leastSymbol_d9 : decode J_HBars_leastSymbol.2.1 9 = .ok (.iaload, 1) := by decide +kernel
theorem J_HBars_leastSymbol_d10 : decode J_HBars_leastSymbol.2.1 10 = .ok (.istore_n 3, 1) := by decide +kernel
theorem J_HBars_leastSymbol_d11 : decode J_HBars_leastSymbol.2.1 11 = .ok (.aload_n 0, 1) := by decide +kernel
theorem J_HBars_leastSymbol_d12 : decode J_HBars_leastSymbol.2.1 12 = .ok (.iload_n 1, 1) := by decide +kernel
theorem J_HBars_leastSymbol_d13 : decode J_HBars_leastSymbol.2.1 13 = .ok (.iload_n 2, 1) := by decide +kernel
theorem J_HBars_leastSymbol_d14 : decode J_HBars_leastSymbol.2.1 14 = .ok (.invokevirtual 60, 3) := by decide +kernel
theorem J_HBars_leastSymbol_d17 : decode J_HBars_leastSymbol.2.1 17 = .ok (.iload_n 3, 1) := by decide +kernel
theorem J_HBars_leastSymbol_d18 : decode J_HBars_leastSymbol.2.1 18 = .ok (.if_icmp .ne 10, 3) := by decide +kernel
theorem J_HBars_leastSymbol_d21 : decode J_HBars_leastSymbol.2.1 21 = .ok (.aload_n 0, 1) := by decide +kernel
theorem J_HBars_leastSymbol_d22 : decode J_HBars_leastSymbol.2.1 22 = .ok (.iload_n 1, 1) := by decide +kernel
theorem J_HBars_leastSymbol_d23 : decode J_HBars_leastSymbol.2.1 23 = .ok (.iload_n 2, 1) := by decide +kernel
theorem J_HBars_leastSymbol_d24 : decode J_HBars_leastSymbol.2.1 24 = .ok (.invokevirtual 66, 3) := by decide +kernel
theorem J_HBars_leastSymbol_d27 : decode J_HBars_leastSymbol.2.1 27 = .ok (.ireturn, 1) := by decide +kernel
theorem J_HBars_leastSymbol_d28 : decode J_HBars_leastSymbol.2.1 28 = .ok (.aload_n 0, 1) := by decide +kernel
theorem J_HBars_leastSymbol_d29 : decode J_HBars_leastSymbol.2.1 29 = .ok (.iload_n 1, 1) := by decide +kernel
theorem J_HBars_leastSymbol_d30 : decode J_HBars_leastSymbol.2.1 30 = .ok (.iload_n 2, 1) := by decide +kernel
theorem J_HBars_leastSymbol_d31 : decode J_HBars_leastSymbol.2.1 31 = .ok (.invokevirtual 63, 3) := by decide +kernel
theorem J_HBars_leastSymbol_d34 : decode J_HBars_leastSymbol.2.1 34 = .ok (.iload_n 3, 1) := by decide +kernel
theorem J_HBars_leastSymbol_d35 : decode J_HBars_leastSymbol.2.1 35 = .ok (.if_icmp .ne 6, 3) := by decide +kernel
theorem J_HBars_leastSymbol_d38 : decode J_HBars_leastSymbol.2.1 38 = .ok (.bipush 98, 2) := by decide +kernel
theorem J_HBars_leastSymbol_d40 : decode J_HBars_leastSymbol.2.1 40 = .ok (.ireturn, 1) := by decide +kernel
theorem J_HBars_leastSymbol_d41 : decode J_HBars_leastSymbol.2.1 41 = .ok (.bipush 99, 2) := by decide +kernel
theorem J_HBars_leastSymbol_d43 : decode J_HBars_leastSymbol.2.1 43 = .ok (.istore 4, 2) := by decide +kernel
theorem J_HBars_leastSymbol_d45 : decode J_HBars_leastSymbol.2.1 45 = .ok (.iload 4, 2) := by decide +kernel
theorem J_HBars_leastSymbol_d47 : decode J_HBars_leastSymbol.2.1 47 = .ok (.bipush 101, 2) := by decide +kernel
theorem J_HBars_leastSymbol_d49 : decode J_HBars_leastSymbol.2.1 49 = .ok (.if_icmp .gt 42, 3) := by decide +kernel
theorem J_HBars_leastSymbol_d52 : decode J_HBars_leastSymbol.2.1 52 = .ok (.bipush 101, 2) := by decide +kernel
theorem J_HBars_leastSymbol_d54 : decode J_HBars_leastSymbol.2.1 54 = .ok (.iload 4, 2) := by decide +kernel
theorem J_HBars_leastSymbol_d56 : decode J_HBars_leastSymbol.2.1 56 = .ok (.isub, 1) := by decide +kernel
theorem J_HBars_leastSymbol_d57 : decode J_HBars_leastSymbol.2.1 57 = .ok (.istore 5, 2) := by decide +kernel
theorem J_HBars_leastSymbol_d59 : decode J_HBars_leastSymbol.2.1 59 = .ok (.iload 5, 2) := by decide +kernel
theorem J_HBars_leastSymbol_d61 : decode J_HBars_leastSymbol.2.1 61 = .ok (.iload_n 2, 1) := by decide +kernel
theorem J_HBars_leastSymbol_d62 : decode J_HBars_leastSymbol.2.1 62 = .ok (.if_icmp .eq 23, 3) := by decide +kernel
theorem J_HBars_leastSymbol_d65 : decode J_HBars_leastSymbol.2.1 65 = .ok (.iconst 1, 1) := by decide +kernel
theorem J_HBars_leastSymbol_d66 : decode J_HBars_leastSymbol.2.1 66 = .ok (.aload_n 0, 1) := by decide +kernel
theorem J_HBars_leastSymbol_d67 : decode J_HBars_leastSymbol.2.1 67 = .ok (.getfield 23, 3) := by decide +kernel
theorem J_HBars_leastSymbol_d70 : decode J_HBars_leastSymbol.2.1 70 = .ok (.iconst 3, 1) := by decide +kernel
theorem J_HBars_leastSymbol_d71 : decode J_HBars_leastSymbol.2.1 71 = .ok (.iload_n 1, 1) := by decide +kernel
theorem J_HBars_leastSymbol_d72 : decode J_HBars_leastSymbol.2.1 72 = .ok (.imul, 1) := by decide +kernel
theorem J_HBars_leastSymbol_d73 : decode J_HBars_leastSymbol.2.1 73 = .ok (.iload 5, 2) := by decide +kernel
theorem J_HBars_leastSymbol_d75 : decode J_HBars_leastSymbol.2.1 75 = .ok (.iadd, 1) := by decide +kernel
theorem J_HBars_leastSymbol_d76 : decode J_HBars_leastSymbol.2.1 76 = .ok (.iaload, 1) := by decide +kernel
theorem J_HBars_leastSymbol_d77 : decode J_HBars_leastSymbol.2.1 77 = .ok (.iadd, 1) := by decide +kernel
theorem J_HBars_leastSymbol_d78 : decode J_HBars_leastSymbol.2.1 78 = .ok (.iload_n 3, 1) := by decide +kernel
theorem J_HBars_leastSymbol_d79 : decode J_HBars_leastSymbol.2.1 79 = .ok (.if_icmp .ne 6, 3) := by decide +kernel
theorem J_HBars_leastSymbol_d82 : decode J_HBars_leastSymbol.2.1 82 = .ok (.iload 4, 2) := by decide +kernel
theorem J_HBars_leastSymbol_d84 : decode J_HBars_leastSymbol.2.1 84 = .ok (.ireturn, 1) := by decide +kernel
theorem J_HBars_leastSymbol_d85 : decode J_HBars_leastSymbol.2.1 85 = .ok (.iinc 4 1, 3) := by decide +kernel
theorem J_HBars_leastSymbol_d88 : decode J_HBars_leastSymbol.2.1 88 = .ok (.goto (-43), 3) := by decide +kernel
theorem J_HBars_leastSymbol_d91 : decode J_HBars_leastSymbol.2.1 91 = .ok (.bipush 102, 2) := by decide +kernel
theorem J_HBars_leastSymbol_d93 : decode J_HBars_leastSymbol.2.1 93 = .ok (.ireturn, 1) := by decide +kernel
theorem f_HBars_leastSymbol_ok {L : Nat} {xs : Nat → Int32} {dep : Nat} {w : Bool} {p0 : Int32} {p1 : Int32} {M : im_M} {Q : Int32 → Prop} (hM : lw_S w M) (h : ed (f_HBars_leastSymbol p0 p1 M) Q) : ia (tb_G L xs) (dep + 2) J_HBars_leastSymbol (rpI M Q) (0, lv_args 0 [.ref 31, .int p0, .int p1], [], M) := by
  have hS : im_St (tb_G L xs) (dep + 2) J_HBars_leastSymbol (ia (tb_G L xs) (dep + 2) J_HBars_leastSymbol (rpI M Q)) := ia_St
  unfold f_HBars_leastSymbol at h
  have l0 : im_lk (lv_args 0 [.ref 31, .int p0, .int p1]) 0 = some (.ref 31) := rfl
  have l1 : im_lk (lv_args 0 [.ref 31, .int p0, .int p1]) 1 = some (.int p0) := rfl
  have l2 : im_lk (lv_args 0 [.ref 31, .int p0, .int p1]) 2 = some (.int p1) := rfl
  refine iq_aload_n hS 1 J_HBars_leastSymbol_d0 l0 rfl ?_
  refine iq_getR hS 4 J_HBars_leastSymbol_d1 lf_0_23 (Or.inr ⟨_, rfl⟩) (ka_31 hM) (ra_31_7 hM) rfl ?_
  refine iq_iconst hS 5 J_HBars_leastSymbol_d4 (v := 3) (by decide +kernel) rfl ?_
  refine iq_iload_n hS 6 J_HBars_leastSymbol_d5 l1 rfl ?_
  refine iq_imul hS 7 J_HBars_leastSymbol_d6 rfl ?_
  refine iq_iload_n hS 8 J_HBars_leastSymbol_d7 l2 rfl ?_
  refine iq_iadd hS 9 J_HBars_leastSymbol_d8 rfl ?_
  obtain ⟨g9, h⟩ := ed_gd h
  refine iq_iaload hS 10 J_HBars_leastSymbol_d9 ⟨(ka_35 hM).1, (ka_35 hM).2, g9.1, ix_lt (kl_35 hM) g9.2⟩ rfl ?_
  refine iq_istore_n hS 11 J_HBars_leastSymbol_d10 (by decide) rfl ?_
  refine iq_aload_n hS 12 J_HBars_leastSymbol_d11 (lk_1r l0 (by decide)) rfl ?_
  refine iq_iload_n hS 13 J_HBars_leastSymbol_d12 (lk_1i l1 (by decide)) rfl ?_
  refine iq_iload_n hS 14 J_HBars_leastSymbol_d13 (lk_1i l2 (by decide)) rfl ?_
  obtain ⟨Q1, hQ1, h⟩ := bd1_ed h
  refine iq_cpI hS 17 J_HBars_leastSymbol_d14 rfl (pr_inst (vs := [_, _]) lc_0_60 lT_118 rfl rfl (by decide) (by decide) rfl (Nat.le_of_ble_eq_true rfl) (Nat.le_of_ble_eq_true rfl) (fun _ => Or.inl (pr_b (ka_31 hM) (by decide) rfl))) (f_HBars_straight_ok (dep := dep + 0) hM h) rfl ?_
  intro x1 h
  replace h := hQ1 _ h
  refine iq_iload_n hS 18 J_HBars_leastSymbol_d17 lk_1s rfl ?_
  refine iq_icmp_ne hS 21 J_HBars_leastSymbol_d18 (t := 28) rfl (fun q18 => ?_) rfl (fun q18 => ?_)
  · replace h := ed_pos q18 h
    refine iq_aload_n hS 29 J_HBars_leastSymbol_d28 (lk_1r l0 (by decide)) rfl ?_
    refine iq_iload_n hS 30 J_HBars_leastSymbol_d29 (lk_1i l1 (by decide)) rfl ?_
    refine iq_iload_n hS 31 J_HBars_leastSymbol_d30 (lk_1i l2 (by decide)) rfl ?_
    obtain ⟨Q2, hQ2, h⟩ := bd1_ed h
    refine iq_cpI hS 34 J_HBars_leastSymbol_d31 rfl (pr_inst (vs := [_, _]) lc_0_63 lT_121 rfl rfl (by decide) (by decide) rfl (Nat.le_of_ble_eq_true rfl) (Nat.le_of_ble_eq_true rfl) (fun _ => Or.inl (pr_b (ka_31 hM) (by decide) rfl))) (f_HBars_shifted_ok (dep := dep + 0) hM h) rfl ?_
    intro x2 h
    replace h := hQ2 _ h
    refine iq_iload_n hS 35 J_HBars_leastSymbol_d34 lk_1s rfl ?_
    refine iq_icmp_ne hS 38 J_HBars_leastSymbol_d35 (t := 41) rfl (fun q35 => ?_) rfl (fun q35 => ?_)
    · replace h := ed_pos q35 h
      refine iq_bipush hS 43 J_HBars_leastSymbol_d41 (v := 99) (by decide +kernel) rfl ?_
      refine iq_istore hS 45 J_HBars_leastSymbol_d43 (by decide) rfl ?_
      obtain ⟨Q3, hQ3, hR3, h⟩ := bs0_ed h
      have K3 : ∀  (L' : List (Nat × Value)), Q3 (.inl ()) → ia (tb_G L xs) (dep + 2) J_HBars_leastSymbol (rpI M Q) (91, L', [], M) := by
        intro  L'  h
        replace h := hQ3  h
        refine iq_bipush hS 93 J_HBars_leastSymbol_d91 (v := 102) (by decide +kernel) rfl ?_
        exact iq_iret J_HBars_leastSymbol_d93 rfl rfl ⟨_, rfl, rfl, ed_some h⟩
      obtain ⟨r3, hr3, hq3⟩ := h
      obtain ⟨n3, hn3⟩ := lp_n hr3
      have I3 : ∀ (n : Nat) (x4 : Int32) (L' : List (Nat × Value)), im_lk L' 0 = some (.ref 31) → im_lk L' 1 = some (.int p0) → im_lk L' 2 = some (.int p1) → im_lk L' 3 = some (.int (im_i M 35 (Int32.toNatClampNeg (((3 : Int32) * p0) + p1)))) → im_lk L' 4 = some (.int x4) → lpn (uc1 (f_HBars_leastSymbol_L45 p0 p1 (im_i M 35 (Int32.toNatClampNeg (((3 : Int32) * p0) + p1))) M)) n x4 = some r3 → ia (tb_G L xs) (dep + 2) J_HBars_leastSymbol (rpI M Q) (45, L', [], M) := by
        intro n
        induction n with
        | zero => intro x4 L' l5 l6 l7 l8 l9 hn; exact (lpn_0 hn).elim
        | succ n ih =>
          intro x4 L' l5 l6 l7 l8 l9 hn
          have h := lpn_ed1 hn
          unfold f_HBars_leastSymbol_L45 at h
          refine iq_iload hS 47 J_HBars_leastSymbol_d45 l9 rfl ?_
          refine iq_bipush hS 49 J_HBars_leastSymbol_d47 (v := 101) (by decide +kernel) rfl ?_
          refine iq_icmp_gt hS 52 J_HBars_leastSymbol_d49 (t := 91) rfl (fun q49 => ?_) rfl (fun q49 => ?_)
          · replace h := ed_pos q49 h
            exact K3  _  (lq_r h hq3)
          · replace h := ed_neg q49 h
            refine iq_bipush hS 54 J_HBars_leastSymbol_d52 (v := 101) (by decide +kernel) rfl ?_
            refine iq_iload hS 56 J_HBars_leastSymbol_d54 l9 rfl ?_
            refine iq_isub hS 57 J_HBars_leastSymbol_d56 rfl ?_
            refine iq_istore hS 59 J_HBars_leastSymbol_d57 (by decide) rfl ?_
            refine iq_iload hS 61 J_HBars_leastSymbol_d59 lk_1s rfl ?_
            refine iq_iload_n hS 62 J_HBars_leastSymbol_d61 (lk_1i l7 (by decide)) rfl ?_
            obtain ⟨k10, Q10, hQ10, hk10, h⟩ := jn0_ed h
            have J10 : ∀  (L' : List (Nat × Value)), im_lk L' 0 = some (.ref 31) → im_lk L' 1 = some (.int p0) → im_lk L' 2 = some (.int p1) → im_lk L' 3 = some (.int (im_i M 35 (Int32.toNatClampNeg (((3 : Int32) * p0) + p1)))) → im_lk L' 4 = some (.int x4) → Q10 () → ia (tb_G L xs) (dep + 2) J_HBars_leastSymbol (rpI M Q) (85, L', [], M) := by
              intro  L' l11 l12 l13 l14 l15 h
              replace h := hQ10  h
              refine iq_iincv hS 88 J_HBars_leastSymbol_d85 (c := 1) (by decide +kernel) l15 (by decide) rfl ?_
              refine iq_goto hS J_HBars_leastSymbol_d88 (t := 45) rfl ?_
              exact ih _ _ (lk_1r l11 (by decide)) (lk_1i l12 (by decide)) (lk_1i l13 (by decide)) (lk_1i l14 (by decide)) lk_1s (lq_l h)
            refine iq_icmp_eq hS 65 J_HBars_leastSymbol_d62 (t := 85) rfl (fun q62 => ?_) rfl (fun q62 => ?_)
            · replace h := ed_pos q62 h
              exact J10  _ (lk_1r l5 (by decide)) (lk_1i l6 (by decide)) (lk_1i l7 (by decide)) (lk_1i l8 (by decide)) (lk_1i l9 (by decide)) (hk10  h)
            · replace h := ed_neg q62 h
              refine iq_iconst hS 66 J_HBars_leastSymbol_d65 (v := 1) (by decide +kernel) rfl ?_
              refine iq_aload_n hS 67 J_HBars_leastSymbol_d66 (lk_1r l5 (by decide)) rfl ?_
              refine iq_getR hS 70 J_HBars_leastSymbol_d67 lf_0_23 (Or.inr ⟨_, rfl⟩) (ka_31 hM) (ra_31_7 hM) rfl ?_
              refine iq_iconst hS 71 J_HBars_leastSymbol_d70 (v := 3) (by decide +kernel) rfl ?_
              refine iq_iload_n hS 72 J_HBars_leastSymbol_d71 (lk_1i l6 (by decide)) rfl ?_
              refine iq_imul hS 73 J_HBars_leastSymbol_d72 rfl ?_
              refine iq_iload hS 75 J_HBars_leastSymbol_d73 lk_1s rfl ?_
              refine iq_iadd hS 76 J_HBars_leastSymbol_d75 rfl ?_
              obtain ⟨g76, h⟩ := ed_gd h
              refine iq_iaload hS 77 J_HBars_leastSymbol_d76 ⟨(ka_35 hM).1, (ka_35 hM).2, g76.1, ix_lt (kl_35 hM) g76.2⟩ rfl ?_
              refine iq_iadd hS 78 J_HBars_leastSymbol_d77 rfl ?_
              refine iq_iload_n hS 79 J_HBars_leastSymbol_d78 (lk_1i l8 (by decide)) rfl ?_
              refine iq_icmp_ne hS 82 J_HBars_leastSymbol_d79 (t := 85) rfl (fun q79 => ?_) rfl (fun q79 => ?_)
              · replace h := ed_pos q79 h
                exact J10  _ (lk_1r l5 (by decide)) (lk_1i l6 (by decide)) (lk_1i l7 (by decide)) (lk_1i l8 (by decide)) (lk_1i l9 (by decide)) (hk10  h)
              · replace h := ed_neg q79 h
                refine iq_iload hS 84 J_HBars_leastSymbol_d82 (lk_1i l9 (by decide)) rfl ?_
                exact iq_iret J_HBars_leastSymbol_d84 rfl rfl ⟨_, rfl, rfl, ed_some (hR3 _ (lq_r h hq3))⟩
      exact I3 n3 _ _ (lk_1r (lk_1r l0 (by decide)) (by decide)) (lk_1i (lk_1i l1 (by decide)) (by decide)) (lk_1i (lk_1i l2 (by decide)) (by decide)) (lk_1i lk_1s (by decide)) lk_1s hn3
    · replace h := ed_neg q35 h
      refine iq_bipush hS 40 J_HBars_leastSymbol_d38 (v := 98) (by decide +kernel) rfl ?_
      exact iq_iret J_HBars_leastSymbol_d40 rfl rfl ⟨_, rfl, rfl, ed_some h⟩
  · replace h := ed_neg q18 h
    refine iq_aload_n hS 22 J_HBars_leastSymbol_d21 (lk_1r l0 (by decide)) rfl ?_
    refine iq_iload_n hS 23 J_HBars_leastSymbol_d22 (lk_1i l1 (by decide)) rfl ?_
    refine iq_iload_n hS 24 J_HBars_leastSymbol_d23 (lk_1i l2 (by decide)) rfl ?_
    obtain ⟨Q16, hQ16, h⟩ := bd1_ed h
    refine iq_cpI hS 27 J_HBars_leastSymbol_d24 rfl (pr_inst (vs := [_, _]) lc_0_66 lT_119 rfl rfl (by decide) (by decide) rfl (Nat.le_of_ble_eq_true rfl) (Nat.le_of_ble_eq_true rfl) (fun _ => Or.inl (pr_b (ka_31 hM) (by decide) rfl))) (f_HBars_symbolFor_ok (dep := dep + 1) hM h) rfl ?_
    intro x16 h
    replace h := hQ16 _ h
    exact iq_iret J_HBars_leastSymbol_d27 rfl rfl ⟨_, rfl, rfl, ed_some h⟩
noncomputable def f_HBars_addSymbol (p0 : Int32) (M : im_M) : Option (im_M) := if 140 ≤ (im_i M 31 9) then some M else gd (inb (im_i M 31 9) 140) <| some (im_setI (im_setI M 36 (Int32.toNatClampNeg (im_i M 31 9)) p0) 31 9 ((im_i (im_setI M 36 (Int32.toNatClampNeg (im_i M 31 9)) p0) 31 9) + 1))
theorem J_HBars_addSymbol_d0 : decode J_HBars_addSymbol.2.1 0 = .ok (.aload_n 0, 1) := by decide +kernel
theorem J_HBars_addSymbol_d1 : decode J_HBars_addSymbol.2.1 1 = .ok (.getfield 73, 3) := by decide +kernel
theorem J_HBars_addSymbol_d4 : decode J_HBars_addSymbol.2.1 4 = .ok (.aload_n 0, 1) := by decide +kernel
theorem J_HBars_addSymbol_d5 : decode J_HBars_addSymbol.2.1 5 = .ok (.getfield 26, 3) := by decide +kernel
theorem J_HBars_addSymbol_d8 : decode J_HBars_addSymbol.2.1 8 = .ok (.arraylength, 1) := by decide +kernel
theorem J_HBars_addSymbol_d9 : decode J_HBars_addSymbol.2.1 9 = .ok (.if_icmp .ge 23, 3) := by decide +kernel
theorem J_HBars_addSymbol_d12 : decode J_HBars_addSymbol.2.1 12 = .ok (.aload_n 0, 1) := by decide +kernel
theorem J_HBars_addSymbol_d13 : decode J_HBars_addSymbol.2.1 13 = .ok (.getfield 26, 3) := by decide +kernel
theorem J_HBars_addSymbol_d16 : decode J_HBars_addSymbol.2.1 16 = .ok (.aload_n 0, 1) := by decide +kernel
theorem J_HBars_addSymbol_d17 : decode J_HBars_addSymbol.2.1 17 = .ok (.getfield 73, 3) := by decide +kernel
theorem J_HBars_addSymbol_d20 : decode J_HBars_addSymbol.2.1 20 = .ok (.iload_n 1, 1) := by decide +kernel
theorem J_HBars_addSymbol_d21 : decode J_HBars_addSymbol.2.1 21 = .ok (.iastore, 1) := by decide +kernel
theorem J_HBars_addSymbol_d22 : decode J_HBars_addSymbol.2.1 22 = .ok (.aload_n 0, 1) := by decide +kernel
theorem J_HBars_addSymbol_d23 : decode J_HBars_addSymbol.2.1 23 = .ok (.dup, 1) := by decide +kernel
theorem J_HBars_addSymbol_d24 : decode J_HBars_addSymbol.2.1 24 = .ok (.getfield 73, 3) := by decide +kernel
theorem J_HBars_addSymbol_d27 : decode J_HBars_addSymbol.2.1 27 = .ok (.iconst 1, 1) := by decide +kernel
theorem J_HBars_addSymbol_d28 : decode J_HBars_addSymbol.2.1 28 = .ok (.iadd, 1) := by decide +kernel
theorem J_HBars_addSymbol_d29 : decode J_HBars_addSymbol.2.1 29 = .ok (.putfield 73, 3) := by decide +kernel
theorem J_HBars_addSymbol_d32 : decode J_HBars_addSymbol.2.1 32 = .ok (.return_, 1) := by decide +kernel
theorem f_HBars_addSymbol_ok {L : Nat} {xs : Nat → Int32} {dep : Nat} {w : Bool} {p0 : Int32} {M : im_M} {Q : im_M → Prop} (hM : lw_S w M) (h : ed (f_HBars_addSymbol p0 M) Q) : ia (tb_G L xs) dep J_HBars_addSymbol (rwV w Q) (0, lv_args 0 [.ref 31, .int p0], [], M) := by
  have hS : im_St (tb_G L xs) dep J_HBars_addSymbol (ia (tb_G L xs) dep J_HBars_addSymbol (rwV w Q)) := ia_St
  unfold f_HBars_addSymbol at h
  have l0 : im_lk (lv_args 0 [.ref 31, .int p0]) 0 = some (.ref 31) := rfl
  have l1 : im_lk (lv_args 0 [.ref 31, .int p0]) 1 = some (.int p0) := rfl
  refine iq_aload_n hS 1 J_HBars_addSymbol_d0 l0 rfl ?_
  refine iq_getI hS 4 J_HBars_addSymbol_d1 lf_0_73 (Or.inl rfl) (ka_31 hM) rfl ?_
  refine iq_aload_n hS 5 J_HBars_addSymbol_d4 l0 rfl ?_
  refine iq_getR hS 8 J_HBars_addSymbol_d5 lf_0_26 (Or.inr ⟨_, rfl⟩) (ka_31 hM) (ra_31_8 hM) rfl ?_
  refine iq_alenv hS 9 J_HBars_addSymbol_d8 (v := 140) (ka_36 hM) (by decide) (by decide) (kl_36 hM) (by decide +kernel) rfl ?_
  refine iq_icmp_ge hS 12 J_HBars_addSymbol_d9 (t := 32) rfl (fun q9 => ?_) rfl (fun q9 => ?_)
  · replace h := ed_pos q9 h
    exact iq_ret J_HBars_addSymbol_d32 rfl ⟨rfl, hM, ed_some h⟩
  · replace h := ed_neg q9 h
    refine iq_aload_n hS 13 J_HBars_addSymbol_d12 l0 rfl ?_
    refine iq_getR hS 16 J_HBars_addSymbol_d13 lf_0_26 (Or.inr ⟨_, rfl⟩) (ka_31 hM) (ra_31_8 hM) rfl ?_
    refine iq_aload_n hS 17 J_HBars_addSymbol_d16 l0 rfl ?_
    refine iq_getI hS 20 J_HBars_addSymbol_d17 lf_0_73 (Or.inl rfl) (ka_31 hM) rfl ?_
    refine iq_iload_n hS 21 J_HBars_addSymbol_d20 l1 rfl ?_
    obtain ⟨g21, h⟩ := ed_gd h
    refine iq_iastore hS 22 J_HBars_addSymbol_d21 ⟨(ka_36 hM).1, (ka_36 hM).2, g21.1, ix_lt (kl_36 hM) g21.2⟩ rfl ?_
    refine iq_aload_n hS 23 J_HBars_addSymbol_d22 l0 rfl ?_
    refine iq_dup hS 24 J_HBars_addSymbol_d23 rfl rfl ?_
    refine iq_getI hS 27 J_HBars_addSymbol_d24 lf_0_73 (Or.inl rfl) (ka_31 hM) rfl ?_
    refine iq_iconst hS 28 J_HBars_addSymbol_d27 (v := 1) (by decide +kernel) rfl ?_
    refine iq_iadd hS 29 J_HBars_addSymbol_d28 rfl ?_
    refine iq_putI hS 32 J_HBars_addSymbol_d29 lf_0_73 (Or.inl rfl) rfl (ka_31 hM) rfl ?_
    exact iq_ret J_HBars_addSymbol_d32 rfl ⟨rfl, hM, ed_some h⟩
noncomputable def f_HBars_checkSymbol_L9 (v2 : Int32) (M5 : im_M) (x3 : Int32) (x4 : Int32) : Option ((Int32 × Int32) ⊕ (Int32)) := if v2 ≤ x4 then some (.inr x3) else gd (inb x4 140) <| some (.inl ((x3 + (x4 * (im_i M5 36 (Int32.toNatClampNeg x4)))), (x4 + 1)))
noncomputable def f_HBars_checkSymbol (p0 : Int32) (M : im_M) : Option (Int32) := gd (inb 0 140) <| bd1 (lp (uc2 (f_HBars_checkSymbol_L9 p0 M)) ((im_i M 36 (Int32.toNatClampNeg 0)), 1)) fun (y6 : Int32) => some (y6 - y6 / 103 * 103)
theorem J_HBars_checkSymbol_d0 : decode J_HBars_checkSymbol.2.1 0 = .ok (.aload_n 0, 1) := by decide +kernel
theorem J_HBars_checkSymbol_d1 : decode J_HBars_checkSymbol.2.1 1 = .ok (.getfield 26, 3) := by decide +kernel
theorem J_HBars_checkSymbol_d4 : decode J_HBars_checkSymbol.2.1 4 = .ok (.iconst 0, 1) := by decide +kernel
theorem J_HBars_checkSymbol_d5 : decode J_HBars_checkSymbol.2.1 5 = .ok (.iaload, 1) := by decide +kernel
theorem J_HBars_checkSymbol_d6 : decode J_HBars_checkSymbol.2.1 6 = .ok (.istore_n 2, 1) := by decide +kernel
theorem J_HBars_checkSymbol_d7 : decode J_HBars_checkSymbol.2.1 7 = .ok (.iconst 1, 1) := by decide +kernel
theorem J_HBars_checkSymbol_d8 : decode J_HBars_checkSymbol.2.1 8 = .ok (.istore_n 3, 1) := by decide +kernel
theorem J_HBars_checkSymbol_d9 : decode J_HBars_checkSymbol.2.1 9 = .ok (.iload_n 3, 1) := by decide +kernel
theorem J_HBars_checkSymbol_d10 : decode J_HBars_checkSymbol.2.1 10 = .ok (.iload_n 1, 1) := by decide +kernel
theorem J_HBars_checkSymbol_d11 : decode J_HBars_checkSymbol.2.1 11 = .ok (.if_icmp .ge 20, 3) := by decide +kernel
theorem J_HBars_checkSymbol_d14 : decode J_HBars_checkSymbol.2.1 14 = .ok (.iload_n 2, 1) := by decide +kernel
theorem J_HBars_checkSymbol_d15 : decode J_HBars_checkSymbol.2.1 15 = .ok (.iload_n 3, 1) := by decide +kernel
theorem J_HBars_checkSymbol_d16 : decode J_HBars_checkSymbol.2.1 16 = .ok (.aload_n 0, 1) := by decide +kernel
theorem J_HBars_checkSymbol_d17 : decode J_HBars_checkSymbol.2.1 17 = .ok (.getfield 26, 3) := by decide +kernel
theorem J_HBars_checkSymbol_d20 : decode J_HBars_checkSymbol.2.1 20 = .ok (.iload_n 3, 1) := by decide +kernel
theorem J_HBars_checkSymbol_d21 : decode J_HBars_checkSymbol.2.1 21 = .ok (.iaload, 1) := by decide +kernel
theorem J_HBars_checkSymbol_d22 : decode J_HBars_checkSymbol.2.1 22 = .ok (.imul, 1) := by decide +kernel
theorem J_HBars_checkSymbol_d23 : decode J_HBars_checkSymbol.2.1 23 = .ok (.iadd, 1) := by decide +kernel
theorem J_HBars_checkSymbol_d24 : decode J_HBars_checkSymbol.2.1 24 = .ok (.istore_n 2, 1) := by decide +kernel
theorem J_HBars_checkSymbol_d25 : decode J_HBars_checkSymbol.2.1 25 = .ok (.iinc 3 1, 3) := by decide +kernel
theorem J_HBars_checkSymbol_d28 : decode J_HBars_checkSymbol.2.1 28 = .ok (.goto (-19), 3) := by decide +kernel
theorem J_HBars_checkSymbol_d31 : decode J_HBars_checkSymbol.2.1 31 = .ok (.iload_n 2, 1) := by decide +kernel
theorem J_HBars_checkSymbol_d32 : decode J_HBars_checkSymbol.2.1 32 = .ok (.bipush 103, 2) := by decide +kernel
theorem J_HBars_checkSymbol_d34 : decode J_HBars_checkSymbol.2.1 34 = .ok (.irem, 1) := by decide +kernel
theorem J_HBars_checkSymbol_d35 : decode J_HBars_checkSymbol.2.1 35 = .ok (.ireturn, 1) := by decide +kernel
theorem f_HBars_checkSymbol_ok {L : Nat} {xs : Nat → Int32} {dep : Nat} {w : Bool} {p0 : Int32} {M : im_M} {Q : Int32 → Prop} (hM : lw_S w M) (h : ed (f_HBars_checkSymbol p0 M) Q) : ia (tb_G L xs) dep J_HBars_checkSymbol (rpI M Q) (0, lv_args 0 [.ref 31, .int p0], [], M) := by
  have hS : im_St (tb_G L xs) dep J_HBars_checkSymbol (ia (tb_G L xs) dep J_HBars_checkSymbol (rpI M Q)) := ia_St
  unfold f_HBars_checkSymbol at h
  have l0 : im_lk (lv_args 0 [.ref 31, .int p0]) 0 = some (.ref 31) := rfl
  have l1 : im_lk (lv_args 0 [.ref 31, .int p0]) 1 = some (.int p0) := rfl
  refine iq_aload_n hS 1 J_HBars_checkSymbol_d0 l0 rfl ?_
  refine iq_getR hS 4 J_HBars_checkSymbol_d1 lf_0_26 (Or.inr ⟨_, rfl⟩) (ka_31 hM) (ra_31_8 hM) rfl ?_
  refine iq_iconst hS 5 J_HBars_checkSymbol_d4 (v := 0) (by decide +kernel) rfl ?_
  obtain ⟨g5, h⟩ := ed_gd h
  refine iq_iaload hS 6 J_HBars_checkSymbol_d5 ⟨(ka_36 hM).1, (ka_36 hM).2, g5.1, ix_lt (kl_36 hM) g5.2⟩ rfl ?_
  refine iq_istore_n hS 7 J_HBars_checkSymbol_d6 (by decide) rfl ?_
  refine iq_iconst hS 8 J_HBars_checkSymbol_d7 (v := 1) (by decide +kernel) rfl ?_
  refine iq_istore_n hS 9 J_HBars_checkSymbol_d8 (by decide) rfl ?_
  obtain ⟨Q1, hQ1, h⟩ := bd1_ed h
  have K1 : ∀ (y2 : Int32) (L' : List (Nat × Value)), im_lk L' 2 = some (.int y2) → Q1 y2 → ia (tb_G L xs) dep J_HBars_checkSymbol (rpI M Q) (31, L', [], M) := by
    intro y2 L' l3 h
    replace h := hQ1 _ h
    refine iq_iload_n hS 32 J_HBars_checkSymbol_d31 l3 rfl ?_
    refine iq_bipush hS 34 J_HBars_checkSymbol_d32 (v := 103) (by decide +kernel) rfl ?_
    refine iq_irem hS 35 J_HBars_checkSymbol_d34 (by decide) rfl ?_
    exact iq_iret J_HBars_checkSymbol_d35 rfl rfl ⟨_, rfl, rfl, ed_some h⟩
  obtain ⟨r1, hr1, hq1⟩ := h
  obtain ⟨n1, hn1⟩ := lp_n hr1
  have I1 : ∀ (n : Nat) (x4 : Int32) (x5 : Int32) (L' : List (Nat × Value)), im_lk L' 0 = some (.ref 31) → im_lk L' 1 = some (.int p0) → im_lk L' 2 = some (.int x4) → im_lk L' 3 = some (.int x5) → lpn (uc2 (f_HBars_checkSymbol_L9 p0 M)) n (x4, x5) = some r1 → ia (tb_G L xs) dep J_HBars_checkSymbol (rpI M Q) (9, L', [], M) := by
    intro n
    induction n with
    | zero => intro x4 x5 L' l6 l7 l8 l9 hn; exact (lpn_0 hn).elim
    | succ n ih =>
      intro x4 x5 L' l6 l7 l8 l9 hn
      have h := lpn_ed2 hn
      unfold f_HBars_checkSymbol_L9 at h
      refine iq_iload_n hS 10 J_HBars_checkSymbol_d9 l9 rfl ?_
      refine iq_iload_n hS 11 J_HBars_checkSymbol_d10 l7 rfl ?_
      refine iq_icmp_ge hS 14 J_HBars_checkSymbol_d11 (t := 31) rfl (fun q11 => ?_) rfl (fun q11 => ?_)
      · replace h := ed_pos q11 h
        exact K1 _ _ l8 (lq_r h hq1)
      · replace h := ed_neg q11 h
        refine iq_iload_n hS 15 J_HBars_checkSymbol_d14 l8 rfl ?_
        refine iq_iload_n hS 16 J_HBars_checkSymbol_d15 l9 rfl ?_
        refine iq_aload_n hS 17 J_HBars_checkSymbol_d16 l6 rfl ?_
        refine iq_getR hS 20 J_HBars_checkSymbol_d17 lf_0_26 (Or.inr ⟨_, rfl⟩) (ka_31 hM) (ra_31_8 hM) rfl ?_
        refine iq_iload_n hS 21 J_HBars_checkSymbol_d20 l9 rfl ?_
        obtain ⟨g21, h⟩ := ed_gd h
        refine iq_iaload hS 22 J_HBars_checkSymbol_d21 ⟨(ka_36 hM).1, (ka_36 hM).2, g21.1, ix_lt (kl_36 hM) g21.2⟩ rfl ?_
        refine iq_imul hS 23 J_HBars_checkSymbol_d22 rfl ?_
        refine iq_iadd hS 24 J_HBars_checkSymbol_d23 rfl ?_
        refine iq_istore_n hS 25 J_HBars_checkSymbol_d24 (by decide) rfl ?_
        refine iq_iincv hS 28 J_HBars_checkSymbol_d25 (c := 1) (by decide +kernel) (lk_1i l9 (by decide)) (by decide) rfl ?_
        refine iq_goto hS J_HBars_checkSymbol_d28 (t := 9) rfl ?_
        exact ih _ _ _ (lk_1r (lk_1r l6 (by decide)) (by decide)) (lk_1i (lk_1i l7 (by decide)) (by decide)) (lk_1i lk_1s (by decide)) lk_1s (lq_l h)
  exact I1 n1 _ _ _ (lk_1r (lk_1r l0 (by decide)) (by decide)) (lk_1i (lk_1i l1 (by decide)) (by decide)) (lk_1i lk_1s (by decide)) lk_1s hn1
noncomputable def f_HBars_chooseSymbols_L4 (M4 : im_M) (x2 : Int32) (x3 : Int32) : Option ((Int32 × Int32) ⊕ (Int32)) := if 3 ≤ x3 then some (.inr x2) else gd (inb x3 198) <| gd (inb x2 198) <| some (.inl (((if (im_i M4 35 (Int32.toNatClampNeg x2)) ≤ (im_i M4 35 (Int32.toNatClampNeg x3)) then x2 else x3) : Int32), (x3 + 1)))
noncomputable def f_HBars_chooseSymbols_L51 (x8 : Int32) (x9 : Int32) (x10 : Int32) (M11 : im_M) : Option ((Int32 × Int32 × Int32 × im_M) ⊕ (im_M)) := if 128 ≤ x10 then some (.inr M11) else if (im_i M11 31 6) ≤ x9 then some (.inr M11) else bd1 (f_HBars_leastSymbol x9 x8 M11) fun (x12 : Int32) => bd1 (f_HBars_addSymbol x12 M11) fun (M13 : im_M) => bd1 (f_HBars_symbolFor x9 x8 M13) fun (x14 : Int32) => bd3 (if ¬ x12 = x14 then if ¬ x12 = 98 then if ¬ x12 = 102 then some (((101 : Int32) - x12), x9, M13) else some (x8, (x9 + 1), M13) else bd1 (f_HBars_symbolFor x9 ((1 : Int32) - x8) M13) fun (x16 : Int32) => bd1 (f_HBars_addSymbol x16 M13) fun (M17 : im_M) => some (x8, (x9 + 1), M17) else bd1 (f_HBars_signsEach x8 M13) fun (x18 : Int32) => some (x8, (x9 + x18), M13)) fun (y19 : Int32) (y20 : Int32) (M21 : im_M) => some (.inl (y19, y20, (x10 + 1), M21))
noncomputable def f_HBars_chooseSymbols (M : im_M) : Option (im_M) := bd1 (lp (uc2 (f_HBars_chooseSymbols_L4 M)) (0, 1)) fun (y6 : Int32) => gd (inb 0 140) <| bd1 (lp (uc4 (f_HBars_chooseSymbols_L51)) (y6, 0, 0, (im_setI (im_setI M 36 (Int32.toNatClampNeg 0) ((103 : Int32) + y6)) 31 9 1))) fun (M26 : im_M) => bd1 (f_HBars_checkSymbol (im_i M26 31 9) M26) fun (x27 : Int32) => bd1 (f_HBars_addSymbol x27 M26) fun (M28 : im_M) => some M28
theorem J_HBars_chooseSymbols_d0 : decode J_HBars_chooseSymbols.2.1 0 = .ok (.iconst 0, 1) := by decide +kernel
theorem J_HBars_chooseSymbols_d1 : decode J_HBars_chooseSymbols.2.1 1 = .ok (.istore_n 1, 1) := by decide +kernel
theorem J_HBars_chooseSymbols_d2 : decode J_HBars_chooseSymbols.2.1 2 = .ok (.iconst 1, 1) := by decide +kernel
theorem J_HBars_chooseSymbols_d3 : decode J_HBars_chooseSymbols.2.1 3 = .ok (.istore_n 2, 1) := by decide +kernel
theorem J_HBars_chooseSymbols_d4 : decode J_HBars_chooseSymbols.2.1 4 = .ok (.iload_n 2, 1) := by decide +kernel
theorem J_HBars_chooseSymbols_d5 : decode J_HBars_chooseSymbols.2.1 5 = .ok (.iconst 3, 1) := by decide +kernel
theorem J_HBars_chooseSymbols_d6 : decode J_HBars_chooseSymbols.2.1 6 = .ok (.if_icmp .ge 26, 3) := by decide +kernel
theorem J_HBars_chooseSymbols_d9 : decode J_HBars_chooseSymbols.2.1 9 = .ok (.aload_n 0, 1) := by decide +kernel
theorem J_HBars_chooseSymbols_d10 : decode J_HBars_chooseSymbols.2.1 10 = .ok (.getfield 23, 3) := by decide +kernel
theorem J_HBars_chooseSymbols_d13 : decode J_HBars_chooseSymbols.2.1 13 = .ok (.iload_n 2, 1) := by decide +kernel
theorem J_HBars_chooseSymbols_d14 : decode J_HBars_chooseSymbols.2.1 14 = .ok (.iaload, 1) := by decide +kernel
theorem J_HBars_chooseSymbols_d15 : decode J_HBars_chooseSymbols.2.1 15 = .ok (.aload_n 0, 1) := by decide +kernel
theorem J_HBars_chooseSymbols_d16 : decode J_HBars_chooseSymbols.2.1 16 = .ok (.getfield 23, 3) := by decide +kernel
theorem J_HBars_chooseSymbols_d19 : decode J_HBars_chooseSymbols.2.1 19 = .ok (.iload_n 1, 1) := by decide +kernel
theorem J_HBars_chooseSymbols_d20 : decode J_HBars_chooseSymbols.2.1 20 = .ok (.iaload, 1) := by decide +kernel
theorem J_HBars_chooseSymbols_d21 : decode J_HBars_chooseSymbols.2.1 21 = .ok (.if_icmp .ge 5, 3) := by decide +kernel
theorem J_HBars_chooseSymbols_d24 : decode J_HBars_chooseSymbols.2.1 24 = .ok (.iload_n 2, 1) := by decide +kernel
theorem J_HBars_chooseSymbols_d25 : decode J_HBars_chooseSymbols.2.1 25 = .ok (.istore_n 1, 1) := by decide +kernel
theorem J_HBars_chooseSymbols_d26 : decode J_HBars_chooseSymbols.2.1 26 = .ok (.iinc 2 1, 3) := by decide +kernel
theorem J_HBars_chooseSymbols_d29 : decode J_HBars_chooseSymbols.2.1 29 = .ok (.goto (-25), 3) := by decide +kernel
theorem J_HBars_chooseSymbols_d32 : decode J_HBars_chooseSymbols.2.1 32 = .ok (.aload_n 0, 1) := by decide +kernel
theorem J_HBars_chooseSymbols_d33 : decode J_HBars_chooseSymbols.2.1 33 = .ok (.getfield 26, 3) := by decide +kernel
theorem J_HBars_chooseSymbols_d36 : decode J_HBars_chooseSymbols.2.1 36 = .ok (.iconst 0, 1) := by decide +kernel
theorem J_HBars_chooseSymbols_d37 : decode J_HBars_chooseSymbols.2.1 37 = .ok (.bipush 103, 2) := by decide +kernel
theorem J_HBars_chooseSymbols_d39 : decode J_HBars_chooseSymbols.2.1 39 = .ok (.iload_n 1, 1) := by decide +kernel
theorem J_HBars_chooseSymbols_d40 : decode J_HBars_chooseSymbols.2.1 40 = .ok (.iadd, 1) := by decide +kernel
theorem J_HBars_chooseSymbols_d41 : decode J_HBars_chooseSymbols.2.1 41 = .ok (.iastore, 1) := by decide +kernel
theorem J_HBars_chooseSymbols_d42 : decode J_HBars_chooseSymbols.2.1 42 = .ok (.aload_n 0, 1) := by decide +kernel
theorem J_HBars_chooseSymbols_d43 : decode J_HBars_chooseSymbols.2.1 43 = .ok (.iconst 1, 1) := by decide +kernel
theorem J_HBars_chooseSymbols_d44 : decode J_HBars_chooseSymbols.2.1 44 = .ok (.putfield 73, 3) := by decide +kernel
theorem J_HBars_chooseSymbols_d47 : decode J_HBars_chooseSymbols.2.1 47 = .ok (.iconst 0, 1) := by decide +kernel
theorem J_HBars_chooseSymbols_d48 : decode J_HBars_chooseSymbols.2.1 48 = .ok (.istore_n 2, 1) := by decide +kernel
theorem J_HBars_chooseSymbols_d49 : decode J_HBars_chooseSymbols.2.1 49 = .ok (.iconst 0, 1) := by decide +kernel
theorem J_HBars_chooseSymbols_d50 : decode J_HBars_chooseSymbols.2.1 50 = .ok (.istore_n 3, 1) := by decide +kernel
theorem J_HBars_chooseSymbols_d51 : decode J_HBars_chooseSymbols.2.1 51 = .ok (.iload_n 3, 1) := by decide +kernel
theorem J_HBars_chooseSymbols_d52 : decode J_HBars_chooseSymbols.2.1 52 = .ok (.sipush 128, 3) := by decide +kernel
theorem J_HBars_chooseSymbols_d55 : decode J_HBars_chooseSymbols.2.1 55 = .ok (.if_icmp .ge 96, 3) := by decide +kernel
theorem J_HBars_chooseSymbols_d58 : decode J_HBars_chooseSymbols.2.1 58 = .ok (.iload_n 2, 1) := by decide +kernel
theorem J_HBars_chooseSymbols_d59 : decode J_HBars_chooseSymbols.2.1 59 = .ok (.aload_n 0, 1) := by decide +kernel
theorem J_HBars_chooseSymbols_d60 : decode J_HBars_chooseSymbols.2.1 60 = .ok (.getfield 32, 3) := by decide +kernel
theorem J_HBars_chooseSymbols_d63 : decode J_HBars_chooseSymbols.2.1 63 = .ok (.if_icmp .ge 88, 3) := by decide +kernel
theorem J_HBars_chooseSymbols_d66 : decode J_HBars_chooseSymbols.2.1 66 = .ok (.aload_n 0, 1) := by decide +kernel
theorem J_HBars_chooseSymbols_d67 : decode J_HBars_chooseSymbols.2.1 67 = .ok (.iload_n 2, 1) := by decide +kernel
theorem J_HBars_chooseSymbols_d68 : decode J_HBars_chooseSymbols.2.1 68 = .ok (.iload_n 1, 1) := by decide +kernel
theorem J_HBars_chooseSymbols_d69 : decode J_HBars_chooseSymbols.2.1 69 = .ok (.invokevirtual 76, 3) := by decide +kernel
theorem J_HBars_chooseSymbols_d72 : decode J_HBars_chooseSymbols.2.1 72 = .ok (.istore 4, 2) := by decide +kernel
theorem J_HBars_chooseSymbols_d74 : decode J_HBars_chooseSymbols.2.1 74 = .ok (.aload_n 0, 1) := by decide +kernel
theorem J_HBars_chooseSymbols_d75 : decode J_HBars_chooseSymbols.2.1 75 = .ok (.iload 4, 2) := by decide +kernel
theorem J_HBars_chooseSymbols_d77 : decode J_HBars_chooseSymbols.2.1 77 = .ok (.invokevirtual 79, 3) := by decide +kernel
theorem J_HBars_chooseSymbols_d80 : decode J_HBars_chooseSymbols.2.1 80 = .ok (.iload 4, 2) := by decide +kernel
theorem J_HBars_chooseSymbols_d82 : decode J_HBars_chooseSymbols.2.1 82 = .ok (.aload_n 0, 1) := by decide +kernel
theorem J_HBars_chooseSymbols_d83 : decode J_HBars_chooseSymbols.2.1 83 = .ok (.iload_n 2, 1) := by decide +kernel
theorem J_HBars_chooseSymbols_d84 : decode J_HBars_chooseSymbols.2.1 84 = .ok (.iload_n 1, 1) := by decide +kernel
theorem J_HBars_chooseSymbols_d85 : decode J_HBars_chooseSymbols.2.1 85 = .ok (.invokevirtual 66, 3) := by decide +kernel
theorem J_HBars_chooseSymbols_d88 : decode J_HBars_chooseSymbols.2.1 88 = .ok (.if_icmp .ne 13, 3) := by decide +kernel
theorem J_HBars_chooseSymbols_d91 : decode J_HBars_chooseSymbols.2.1 91 = .ok (.iload_n 2, 1) := by decide +kernel
theorem J_HBars_chooseSymbols_d92 : decode J_HBars_chooseSymbols.2.1 92 = .ok (.iload_n 1, 1) := by decide +kernel
theorem J_HBars_chooseSymbols_d93 : decode J_HBars_chooseSymbols.2.1 93 = .ok (.invokestatic 69, 3) := by decide +kernel
theorem J_HBars_chooseSymbols_d96 : decode J_HBars_chooseSymbols.2.1 96 = .ok (.iadd, 1) := by decide +kernel
theorem J_HBars_chooseSymbols_d97 : decode J_HBars_chooseSymbols.2.1 97 = .ok (.istore_n 2, 1) := by decide +kernel
theorem J_HBars_chooseSymbols_d98 : decode J_HBars_chooseSymbols.2.1 98 = .ok (.goto 47, 3) := by decide +kernel
theorem J_HBars_chooseSymbols_d101 : decode J_HBars_chooseSymbols.2.1 101 = .ok (.iload 4, 2) := by decide +kernel
theorem J_HBars_chooseSymbols_d103 : decode J_HBars_chooseSymbols.2.1 103 = .ok (.bipush 98, 2) := by decide +kernel
theorem J_HBars_chooseSymbols_d105 : decode J_HBars_chooseSymbols.2.1 105 = .ok (.if_icmp .ne 21, 3) := by decide +kernel
theorem J_HBars_chooseSymbols_d108 : decode J_HBars_chooseSymbols.2.1 108 = .ok (.aload_n 0, 1) := by decide +kernel
theorem J_HBars_chooseSymbols_d109 : decode J_HBars_chooseSymbols.2.1 109 = .ok (.aload_n 0, 1) := by decide +kernel
theorem J_HBars_chooseSymbols_d110 : decode J_HBars_chooseSymbols.2.1 110 = .ok (.iload_n 2, 1) := by decide +kernel
theorem J_HBars_chooseSymbols_d111 : decode J_HBars_chooseSymbols.2.1 111 = .ok (.iconst 1, 1) := by decide +kernel
theorem J_HBars_chooseSymbols_d112 : decode J_HBars_chooseSymbols.2.1 112 = .ok (.iload_n 1, 1) := by decide +kernel
theorem J_HBars_chooseSymbols_d113 : decode J_HBars_chooseSymbols.2.1 113 = .ok (.isub, 1) := by decide +kernel
theorem J_HBars_chooseSymbols_d114 : decode J_HBars_chooseSymbols.2.1 114 = .ok (.invokevirtual 66, 3) := by decide +kernel
theorem J_HBars_chooseSymbols_d117 : decode J_HBars_chooseSymbols.2.1 117 = .ok (.invokevirtual 79, 3) := by decide +kernel
theorem J_HBars_chooseSymbols_d120 : decode J_HBars_chooseSymbols.2.1 120 = .ok (.iinc 2 1, 3) := by decide +kernel
theorem J_HBars_chooseSymbols_d123 : decode J_HBars_chooseSymbols.2.1 123 = .ok (.goto 22, 3) := by decide +kernel
theorem J_HBars_chooseSymbols_d126 : decode J_HBars_chooseSymbols.2.1 126 = .ok (.iload 4, 2) := by decide +kernel
theorem J_HBars_chooseSymbols_d128 : decode J_HBars_chooseSymbols.2.1 128 = .ok (.bipush 102, 2) := by decide +kernel
theorem J_HBars_chooseSymbols_d130 : decode J_HBars_chooseSymbols.2.1 130 = .ok (.if_icmp .ne 9, 3) := by decide +kernel
theorem J_HBars_chooseSymbols_d133 : decode J_HBars_chooseSymbols.2.1 133 = .ok (.iinc 2 1, 3) := by decide +kernel
theorem J_HBars_chooseSymbols_d136 : decode J_HBars_chooseSymbols.2.1 136 = .ok (.goto 9, 3) := by decide +kernel
theorem J_HBars_chooseSymbols_d139 : decode J_HBars_chooseSymbols.2.1 139 = .ok (.bipush 101, 2) := by decide +kernel
theorem J_HBars_chooseSymbols_d141 : decode J_HBars_chooseSymbols.2.1 141 = .ok (.iload 4, 2) := by decide +kernel
theorem J_HBars_chooseSymbols_d143 : decode J_HBars_chooseSymbols.2.1 143 = .ok (.isub, 1) := by decide +kernel
theorem J_HBars_chooseSymbols_d144 : decode J_HBars_chooseSymbols.2.1 144 = .ok (.istore_n 1, 1) := by decide +kernel
theorem J_HBars_chooseSymbols_d145 : decode J_HBars_chooseSymbols.2.1 145 = .ok (.iinc 3 1, 3) := by decide +kernel
theorem J_HBars_chooseSymbols_d148 : decode J_HBars_chooseSymbols.2.1 148 = .ok (.goto (-97), 3) := by decide +kernel
theorem J_HBars_chooseSymbols_d151 : decode J_HBars_chooseSymbols.2.1 151 = .ok (.aload_n 0, 1) := by decide +kernel
theorem J_HBars_chooseSymbols_d152 : decode J_HBars_chooseSymbols.2.1 152 = .ok (.aload_n 0, 1) := by decide +kernel
theorem J_HBars_chooseSymbols_d153 : decode J_HBars_chooseSymbols.2.1 153 = .ok (.getfield 73, 3) := by decide +kernel
theorem J_HBars_chooseSymbols_d156 : decode J_HBars_chooseSymbols.2.1 156 = .ok (.invokevirtual 83, 3) := by decide +kernel
theorem J_HBars_chooseSymbols_d159 : decode J_HBars_chooseSymbols.2.1 159 = .ok (.istore_n 3, 1) := by decide +kernel
theorem J_HBars_chooseSymbols_d160 : decode J_HBars_chooseSymbols.2.1 160 = .ok (.aload_n 0, 1) := by decide +kernel
theorem J_HBars_chooseSymbols_d161 : decode J_HBars_chooseSymbols.2.1 161 = .ok (.iload_n 3, 1) := by decide +kernel
theorem J_HBars_chooseSymbols_d162 : decode J_HBars_chooseSymbols.2.1 162 = .ok (.invokevirtual 79, 3) := by decide +kernel
theorem J_HBars_chooseSymbols_d165 : decode J_HBars_chooseSymbols.2.1 165 = .ok (.return_, 1) := by decide +kernel
theorem f_HBars_chooseSymbols_ok {L : Nat} {xs : Nat → Int32} {dep : Nat} {w : Bool} {M : im_M} {Q : im_M → Prop} (hM : lw_S w M) (h : ed (f_HBars_chooseSymbols M) Q) : ia (tb_G L xs) (dep + 3) J_HBars_chooseSymbols (rwV w Q) (0, lv_args 0 [.ref 31], [], M) := by
  have hS : im_St (tb_G L xs) (dep + 3) J_HBars_chooseSymbols (ia (tb_G L xs) (dep + 3) J_HBars_chooseSymbols (rwV w Q)) := ia_St
  unfold f_HBars_chooseSymbols at h
  have l0 : im_lk (lv_args 0 [.ref 31]) 0 = some (.ref 31) := rfl
  refine iq_iconst hS 1 J_HBars_chooseSymbols_d0 (v := 0) (by decide +kernel) rfl ?_
  refine iq_istore_n hS 2 J_HBars_chooseSymbols_d1 (by decide) rfl ?_
  refine iq_iconst hS 3 J_HBars_chooseSymbols_d2 (v := 1) (by decide +kernel) rfl ?_
  refine iq_istore_n hS 4 J_HBars_chooseSymbols_d3 (by decide) rfl ?_
  obtain ⟨Q1, hQ1, h⟩ := bd1_ed h
  have K1 : ∀ (y2 : Int32) (L' : List (Nat × Value)), im_lk L' 0 = some (.ref 31) → im_lk L' 1 = some (.int y2) → Q1 y2 → ia (tb_G L xs) (dep + 3) J_HBars_chooseSymbols (rwV w Q) (32, L', [], M) := by
    intro y2 L' l3 l4 h
    replace h := hQ1 _ h
    refine iq_aload_n hS 33 J_HBars_chooseSymbols_d32 l3 rfl ?_
    refine iq_getR hS 36 J_HBars_chooseSymbols_d33 lf_0_26 (Or.inr ⟨_, rfl⟩) (ka_31 hM) (ra_31_8 hM) rfl ?_
    refine iq_iconst hS 37 J_HBars_chooseSymbols_d36 (v := 0) (by decide +kernel) rfl ?_
    refine iq_bipush hS 39 J_HBars_chooseSymbols_d37 (v := 103) (by decide +kernel) rfl ?_
    refine iq_iload_n hS 40 J_HBars_chooseSymbols_d39 l4 rfl ?_
    refine iq_iadd hS 41 J_HBars_chooseSymbols_d40 rfl ?_
    obtain ⟨g41, h⟩ := ed_gd h
    refine iq_iastore hS 42 J_HBars_chooseSymbols_d41 ⟨(ka_36 hM).1, (ka_36 hM).2, g41.1, ix_lt (kl_36 hM) g41.2⟩ rfl ?_
    refine iq_aload_n hS 43 J_HBars_chooseSymbols_d42 l3 rfl ?_
    refine iq_iconst hS 44 J_HBars_chooseSymbols_d43 (v := 1) (by decide +kernel) rfl ?_
    refine iq_putI hS 47 J_HBars_chooseSymbols_d44 lf_0_73 (Or.inl rfl) rfl (ka_31 hM) rfl ?_
    refine iq_iconst hS 48 J_HBars_chooseSymbols_d47 (v := 0) (by decide +kernel) rfl ?_
    refine iq_istore_n hS 49 J_HBars_chooseSymbols_d48 (by decide) rfl ?_
    refine iq_iconst hS 50 J_HBars_chooseSymbols_d49 (v := 0) (by decide +kernel) rfl ?_
    refine iq_istore_n hS 51 J_HBars_chooseSymbols_d50 (by decide) rfl ?_
    obtain ⟨Q5, hQ5, h⟩ := bd1_ed h
    have K5 : ∀ (M6 : im_M) (L' : List (Nat × Value)), lw_S w M6 → im_lk L' 0 = some (.ref 31) → Q5 M6 → ia (tb_G L xs) (dep + 3) J_HBars_chooseSymbols (rwV w Q) (151, L', [], M6) := by
      intro M6 L' hM6 l7 h
      replace h := hQ5 _ h
      refine iq_aload_n hS 152 J_HBars_chooseSymbols_d151 l7 rfl ?_
      refine iq_aload_n hS 153 J_HBars_chooseSymbols_d152 l7 rfl ?_
      refine iq_getI hS 156 J_HBars_chooseSymbols_d153 lf_0_73 (Or.inl rfl) (ka_31 hM6) rfl ?_
      obtain ⟨Q8, hQ8, h⟩ := bd1_ed h
      refine iq_cpI hS 159 J_HBars_chooseSymbols_d156 rfl (pr_inst (vs := [_]) lc_0_83 lT_125 rfl rfl (by decide) (by decide) rfl (Nat.le_of_ble_eq_true rfl) (Nat.le_of_ble_eq_true rfl) (fun _ => Or.inl (pr_b (ka_31 hM6) (by decide) rfl))) (f_HBars_checkSymbol_ok (dep := dep + 2) hM6 h) rfl ?_
      intro x8 h
      replace h := hQ8 _ h
      refine iq_istore_n hS 160 J_HBars_chooseSymbols_d159 (by decide) rfl ?_
      refine iq_aload_n hS 161 J_HBars_chooseSymbols_d160 (lk_1r l7 (by decide)) rfl ?_
      refine iq_iload_n hS 162 J_HBars_chooseSymbols_d161 lk_1s rfl ?_
      obtain ⟨Q9, hQ9, h⟩ := bd1_ed h
      refine iq_cwV hS 165 J_HBars_chooseSymbols_d162 rfl (pr_inst (vs := [_]) lc_0_79 lT_124 rfl rfl (by decide) (by decide) rfl (Nat.le_of_ble_eq_true rfl) (Nat.le_of_ble_eq_true rfl) (fun _ => Or.inl (pr_b (ka_31 hM6) (by decide) rfl))) (f_HBars_addSymbol_ok (dep := dep + 2) hM6 h) rfl ?_
      intro M9 hM9 h
      replace h := hQ9 _ h
      exact iq_ret J_HBars_chooseSymbols_d165 rfl ⟨rfl, hM9, ed_some h⟩
    obtain ⟨r5, hr5, hq5⟩ := h
    obtain ⟨n5, hn5⟩ := lp_n hr5
    have I5 : ∀ (n : Nat) (x10 : Int32) (x11 : Int32) (x12 : Int32) (M13 : im_M) (L' : List (Nat × Value)), lw_S w M13 → im_lk L' 0 = some (.ref 31) → im_lk L' 1 = some (.int x10) → im_lk L' 2 = some (.int x11) → im_lk L' 3 = some (.int x12) → lpn (uc4 (f_HBars_chooseSymbols_L51)) n (x10, x11, x12, M13) = some r5 → ia (tb_G L xs) (dep + 3) J_HBars_chooseSymbols (rwV w Q) (51, L', [], M13) := by
      intro n
      induction n with
      | zero => intro x10 x11 x12 M13 L' hM13 l14 l15 l16 l17 hn; exact (lpn_0 hn).elim
      | succ n ih =>
        intro x10 x11 x12 M13 L' hM13 l14 l15 l16 l17 hn
        have h := lpn_ed4 hn
        unfold f_HBars_chooseSymbols_L51 at h
        refine iq_iload_n hS 52 J_HBars_chooseSymbols_d51 l17 rfl ?_
        refine iq_sipush hS 55 J_HBars_chooseSymbols_d52 (v := 128) (by decide +kernel) rfl ?_
        refine iq_icmp_ge hS 58 J_HBars_chooseSymbols_d55 (t := 151) rfl (fun q55 => ?_) rfl (fun q55 => ?_)
        · replace h := ed_pos q55 h
          exact K5 _ _ hM13 l14 (lq_r h hq5)
        · replace h := ed_neg q55 h
          refine iq_iload_n hS 59 J_HBars_chooseSymbols_d58 l16 rfl ?_
          refine iq_aload_n hS 60 J_HBars_chooseSymbols_d59 l14 rfl ?_
          refine iq_getI hS 63 J_HBars_chooseSymbols_d60 lf_0_32 (Or.inl rfl) (ka_31 hM13) rfl ?_
          refine iq_icmp_ge hS 66 J_HBars_chooseSymbols_d63 (t := 151) rfl (fun q63 => ?_) rfl (fun q63 => ?_)
          · replace h := ed_pos q63 h
            exact K5 _ _ hM13 l14 (lq_r h hq5)
          · replace h := ed_neg q63 h
            refine iq_aload_n hS 67 J_HBars_chooseSymbols_d66 l14 rfl ?_
            refine iq_iload_n hS 68 J_HBars_chooseSymbols_d67 l16 rfl ?_
            refine iq_iload_n hS 69 J_HBars_chooseSymbols_d68 l15 rfl ?_
            obtain ⟨Q18, hQ18, h⟩ := bd1_ed h
            refine iq_cpI hS 72 J_HBars_chooseSymbols_d69 rfl (pr_inst (vs := [_, _]) lc_0_76 lT_123 rfl rfl (by decide) (by decide) rfl (Nat.le_of_ble_eq_true rfl) (Nat.le_of_ble_eq_true rfl) (fun _ => Or.inl (pr_b (ka_31 hM13) (by decide) rfl))) (f_HBars_leastSymbol_ok (dep := dep + 0) hM13 h) rfl ?_
            intro x18 h
            replace h := hQ18 _ h
            refine iq_istore hS 74 J_HBars_chooseSymbols_d72 (by decide) rfl ?_
            refine iq_aload_n hS 75 J_HBars_chooseSymbols_d74 (lk_1r l14 (by decide)) rfl ?_
            refine iq_iload hS 77 J_HBars_chooseSymbols_d75 lk_1s rfl ?_
            obtain ⟨Q19, hQ19, h⟩ := bd1_ed h
            refine iq_cwV hS 80 J_HBars_chooseSymbols_d77 rfl (pr_inst (vs := [_]) lc_0_79 lT_124 rfl rfl (by decide) (by decide) rfl (Nat.le_of_ble_eq_true rfl) (Nat.le_of_ble_eq_true rfl) (fun _ => Or.inl (pr_b (ka_31 hM13) (by decide) rfl))) (f_HBars_addSymbol_ok (dep := dep + 2) hM13 h) rfl ?_
            intro M19 hM19 h
            replace h := hQ19 _ h
            refine iq_iload hS 82 J_HBars_chooseSymbols_d80 lk_1s rfl ?_
            refine iq_aload_n hS 83 J_HBars_chooseSymbols_d82 (lk_1r l14 (by decide)) rfl ?_
            refine iq_iload_n hS 84 J_HBars_chooseSymbols_d83 (lk_1i l16 (by decide)) rfl ?_
            refine iq_iload_n hS 85 J_HBars_chooseSymbols_d84 (lk_1i l15 (by decide)) rfl ?_
            obtain ⟨Q20, hQ20, h⟩ := bd1_ed h
            refine iq_cpI hS 88 J_HBars_chooseSymbols_d85 rfl (pr_inst (vs := [_, _]) lc_0_66 lT_119 rfl rfl (by decide) (by decide) rfl (Nat.le_of_ble_eq_true rfl) (Nat.le_of_ble_eq_true rfl) (fun _ => Or.inl (pr_b (ka_31 hM19) (by decide) rfl))) (f_HBars_symbolFor_ok (dep := dep + 2) hM19 h) rfl ?_
            intro x20 h
            replace h := hQ20 _ h
            obtain ⟨Q21, hQ21, h⟩ := bd3_ed h
            have J21 : ∀ (y25 : Int32) (y26 : Int32) (M27 : im_M) (L' : List (Nat × Value)), lw_S w M27 → im_lk L' 0 = some (.ref 31) → im_lk L' 1 = some (.int y25) → im_lk L' 2 = some (.int y26) → im_lk L' 3 = some (.int x12) → Q21 (y25, y26, M27) → ia (tb_G L xs) (dep + 3) J_HBars_chooseSymbols (rwV w Q) (145, L', [], M27) := by
              intro y25 y26 M27 L' hM27 l28 l29 l30 l31 h
              replace h := hQ21 _ _ _ h
              refine iq_iincv hS 148 J_HBars_chooseSymbols_d145 (c := 1) (by decide +kernel) l31 (by decide) rfl ?_
              refine iq_goto hS J_HBars_chooseSymbols_d148 (t := 51) rfl ?_
              exact ih _ _ _ _ _ hM27 (lk_1r l28 (by decide)) (lk_1i l29 (by decide)) (lk_1i l30 (by decide)) lk_1s (lq_l h)
            refine iq_icmp_ne hS 91 J_HBars_chooseSymbols_d88 (t := 101) rfl (fun q88 => ?_) rfl (fun q88 => ?_)
            · replace h := ed_pos q88 h
              refine iq_iload hS 103 J_HBars_chooseSymbols_d101 lk_1s rfl ?_
              refine iq_bipush hS 105 J_HBars_chooseSymbols_d103 (v := 98) (by decide +kernel) rfl ?_
              refine iq_icmp_ne hS 108 J_HBars_chooseSymbols_d105 (t := 126) rfl (fun q105 => ?_) rfl (fun q105 => ?_)
              · replace h := ed_pos q105 h
                refine iq_iload hS 128 J_HBars_chooseSymbols_d126 lk_1s rfl ?_
                refine iq_bipush hS 130 J_HBars_chooseSymbols_d128 (v := 102) (by decide +kernel) rfl ?_
                refine iq_icmp_ne hS 133 J_HBars_chooseSymbols_d130 (t := 139) rfl (fun q130 => ?_) rfl (fun q130 => ?_)
                · replace h := ed_pos q130 h
                  refine iq_bipush hS 141 J_HBars_chooseSymbols_d139 (v := 101) (by decide +kernel) rfl ?_
                  refine iq_iload hS 143 J_HBars_chooseSymbols_d141 lk_1s rfl ?_
                  refine iq_isub hS 144 J_HBars_chooseSymbols_d143 rfl ?_
                  refine iq_istore_n hS 145 J_HBars_chooseSymbols_d144 (by decide) rfl ?_
                  exact J21 _ _ _ _ hM19 (lk_1r (lk_1r l14 (by decide)) (by decide)) lk_1s (lk_1i (lk_1i l16 (by decide)) (by decide)) (lk_1i (lk_1i l17 (by decide)) (by decide)) (ed_some h)
                · replace h := ed_neg q130 h
                  refine iq_iincv hS 136 J_HBars_chooseSymbols_d133 (c := 1) (by decide +kernel) (lk_1i l16 (by decide)) (by decide) rfl ?_
                  refine iq_goto hS J_HBars_chooseSymbols_d136 (t := 145) rfl ?_
                  exact J21 _ _ _ _ hM19 (lk_1r (lk_1r l14 (by decide)) (by decide)) (lk_1i (lk_1i l15 (by decide)) (by decide)) lk_1s (lk_1i (lk_1i l17 (by decide)) (by decide)) (ed_some h)
              · replace h := ed_neg q105 h
                refine iq_aload_n hS 109 J_HBars_chooseSymbols_d108 (lk_1r l14 (by decide)) rfl ?_
                refine iq_aload_n hS 110 J_HBars_chooseSymbols_d109 (lk_1r l14 (by decide)) rfl ?_
                refine iq_iload_n hS 111 J_HBars_chooseSymbols_d110 (lk_1i l16 (by decide)) rfl ?_
                refine iq_iconst hS 112 J_HBars_chooseSymbols_d111 (v := 1) (by decide +kernel) rfl ?_
                refine iq_iload_n hS 113 J_HBars_chooseSymbols_d112 (lk_1i l15 (by decide)) rfl ?_
                refine iq_isub hS 114 J_HBars_chooseSymbols_d113 rfl ?_
                obtain ⟨Q22, hQ22, h⟩ := bd1_ed h
                refine iq_cpI hS 117 J_HBars_chooseSymbols_d114 rfl (pr_inst (vs := [_, _]) lc_0_66 lT_119 rfl rfl (by decide) (by decide) rfl (Nat.le_of_ble_eq_true rfl) (Nat.le_of_ble_eq_true rfl) (fun _ => Or.inl (pr_b (ka_31 hM19) (by decide) rfl))) (f_HBars_symbolFor_ok (dep := dep + 2) hM19 h) rfl ?_
                intro x22 h
                replace h := hQ22 _ h
                obtain ⟨Q23, hQ23, h⟩ := bd1_ed h
                refine iq_cwV hS 120 J_HBars_chooseSymbols_d117 rfl (pr_inst (vs := [_]) lc_0_79 lT_124 rfl rfl (by decide) (by decide) rfl (Nat.le_of_ble_eq_true rfl) (Nat.le_of_ble_eq_true rfl) (fun _ => Or.inl (pr_b (ka_31 hM19) (by decide) rfl))) (f_HBars_addSymbol_ok (dep := dep + 2) hM19 h) rfl ?_
                intro M23 hM23 h
                replace h := hQ23 _ h
                refine iq_iincv hS 123 J_HBars_chooseSymbols_d120 (c := 1) (by decide +kernel) (lk_1i l16 (by decide)) (by decide) rfl ?_
                refine iq_goto hS J_HBars_chooseSymbols_d123 (t := 145) rfl ?_
                exact J21 _ _ _ _ hM23 (lk_1r (lk_1r l14 (by decide)) (by decide)) (lk_1i (lk_1i l15 (by decide)) (by decide)) lk_1s (lk_1i (lk_1i l17 (by decide)) (by decide)) (ed_some h)
            · replace h := ed_neg q88 h
              refine iq_iload_n hS 92 J_HBars_chooseSymbols_d91 (lk_1i l16 (by decide)) rfl ?_
              refine iq_iload_n hS 93 J_HBars_chooseSymbols_d92 (lk_1i l15 (by decide)) rfl ?_
              obtain ⟨Q24, hQ24, h⟩ := bd1_ed h
              refine iq_cpI hS 96 J_HBars_chooseSymbols_d93 rfl (pr_stat (vs := [_]) lc_0_69 lT_120 rfl rfl (by decide) rfl (Nat.le_of_ble_eq_true rfl) (Nat.le_of_ble_eq_true rfl)) (f_HBars_signsEach_ok (dep := dep + 2) hM19 h) rfl ?_
              intro x24 h
              replace h := hQ24 _ h
              refine iq_iadd hS 97 J_HBars_chooseSymbols_d96 rfl ?_
              refine iq_istore_n hS 98 J_HBars_chooseSymbols_d97 (by decide) rfl ?_
              refine iq_goto hS J_HBars_chooseSymbols_d98 (t := 145) rfl ?_
              exact J21 _ _ _ _ hM19 (lk_1r (lk_1r l14 (by decide)) (by decide)) (lk_1i (lk_1i l15 (by decide)) (by decide)) lk_1s (lk_1i (lk_1i l17 (by decide)) (by decide)) (ed_some h)
    exact I5 n5 _ _ _ _ _ hM (lk_1r (lk_1r l3 (by decide)) (by decide)) (lk_1i (lk_1i l4 (by decide)) (by decide)) (lk_1i lk_1s (by decide)) lk_1s hn5
  obtain ⟨r1, hr1, hq1⟩ := h
  obtain ⟨n1, hn1⟩ := lp_n hr1
  have I1 : ∀ (n : Nat) (x32 : Int32) (x33 : Int32) (L' : List (Nat × Value)), im_lk L' 0 = some (.ref 31) → im_lk L' 1 = some (.int x32) → im_lk L' 2 = some (.int x33) → lpn (uc2 (f_HBars_chooseSymbols_L4 M)) n (x32, x33) = some r1 → ia (tb_G L xs) (dep + 3) J_HBars_chooseSymbols (rwV w Q) (4, L', [], M) := by
    intro n
    induction n with
    | zero => intro x32 x33 L' l34 l35 l36 hn; exact (lpn_0 hn).elim
    | succ n ih =>
      intro x32 x33 L' l34 l35 l36 hn
      have h := lpn_ed2 hn
      unfold f_HBars_chooseSymbols_L4 at h
      refine iq_iload_n hS 5 J_HBars_chooseSymbols_d4 l36 rfl ?_
      refine iq_iconst hS 6 J_HBars_chooseSymbols_d5 (v := 3) (by decide +kernel) rfl ?_
      refine iq_icmp_ge hS 9 J_HBars_chooseSymbols_d6 (t := 32) rfl (fun q6 => ?_) rfl (fun q6 => ?_)
      · replace h := ed_pos q6 h
        exact K1 _ _ l34 l35 (lq_r h hq1)
      · replace h := ed_neg q6 h
        refine iq_aload_n hS 10 J_HBars_chooseSymbols_d9 l34 rfl ?_
        refine iq_getR hS 13 J_HBars_chooseSymbols_d10 lf_0_23 (Or.inr ⟨_, rfl⟩) (ka_31 hM) (ra_31_7 hM) rfl ?_
        refine iq_iload_n hS 14 J_HBars_chooseSymbols_d13 l36 rfl ?_
        obtain ⟨g14, h⟩ := ed_gd h
        refine iq_iaload hS 15 J_HBars_chooseSymbols_d14 ⟨(ka_35 hM).1, (ka_35 hM).2, g14.1, ix_lt (kl_35 hM) g14.2⟩ rfl ?_
        refine iq_aload_n hS 16 J_HBars_chooseSymbols_d15 l34 rfl ?_
        refine iq_getR hS 19 J_HBars_chooseSymbols_d16 lf_0_23 (Or.inr ⟨_, rfl⟩) (ka_31 hM) (ra_31_7 hM) rfl ?_
        refine iq_iload_n hS 20 J_HBars_chooseSymbols_d19 l35 rfl ?_
        obtain ⟨g20, h⟩ := ed_gd h
        refine iq_iaload hS 21 J_HBars_chooseSymbols_d20 ⟨(ka_35 hM).1, (ka_35 hM).2, g20.1, ix_lt (kl_35 hM) g20.2⟩ rfl ?_
        have J37 : ∀ (z38 : Int32) (L' : List (Nat × Value)), z38 = ((if (im_i M 35 (Int32.toNatClampNeg x32)) ≤ (im_i M 35 (Int32.toNatClampNeg x33)) then x32 else x33) : Int32) → im_lk L' 0 = some (.ref 31) → im_lk L' 1 = some (.int z38) → im_lk L' 2 = some (.int x33) → ia (tb_G L xs) (dep + 3) J_HBars_chooseSymbols (rwV w Q) (26, L', [], M) := by
          intro z38 L' e39 l40 l41 l42
          subst e39
          refine iq_iincv hS 29 J_HBars_chooseSymbols_d26 (c := 1) (by decide +kernel) l42 (by decide) rfl ?_
          refine iq_goto hS J_HBars_chooseSymbols_d29 (t := 4) rfl ?_
          exact ih _ _ _ (lk_1r l40 (by decide)) (lk_1i l41 (by decide)) lk_1s (lq_l h)
        refine iq_icmp_ge hS 24 J_HBars_chooseSymbols_d21 (t := 26) rfl (fun q21 => ?_) rfl (fun q21 => ?_)
        · exact J37 _ _ (by rw [if_pos q21]) l34 l35 l36
        · refine iq_iload_n hS 25 J_HBars_chooseSymbols_d24 l36 rfl ?_
          refine iq_istore_n hS 26 J_HBars_chooseSymbols_d25 (by decide) rfl ?_
          exact J37 _ _ (by rw [if_neg q21]) (lk_1r l34 (by decide)) lk_1s (lk_1i l36 (by decide))
  exact I1 n1 _ _ _ (lk_1r (lk_1r l0 (by decide)) (by decide)) (lk_1i lk_1s (by decide)) lk_1s hn1
