/-! METHODS AS FUNCTIONS -/
noncomputable def f_MDotRows_way (p0 : Int32) (M : im_M) : Option (Int32 × im_M) := if (im_i (im_setI M 89 0 ((if p0 < 0 then 1 else (if p0 ≤ 2 then 0 else 1)) : Int32)) 89 0) ≤ 0 then some ((im_i (im_setI M 89 0 ((if p0 < 0 then 1 else (if p0 ≤ 2 then 0 else 1)) : Int32)) 89 3), (im_setI (im_setI M 89 0 ((if p0 < 0 then 1 else (if p0 ≤ 2 then 0 else 1)) : Int32)) 89 3 p0)) else some (0, (im_setI M 89 0 ((if p0 < 0 then 1 else (if p0 ≤ 2 then 0 else 1)) : Int32)))
theorem J_MDotRows_way_d0 : decode J_MDotRows_way.2.1 0 = .ok (.aload_n 0, 1) := by decide +kernel
theorem J_MDotRows_way_d1 : decode J_MDotRows_way.2.1 1 = .ok (.iload_n 1, 1) := by decide +kernel
theorem J_MDotRows_way_d2 : decode J_MDotRows_way.2.1 2 = .ok (.ifCond .lt 8, 3) := by decide +kernel
theorem J_MDotRows_way_d5 : decode J_MDotRows_way.2.1 5 = .ok (.iload_n 1, 1) := by decide +kernel
theorem J_MDotRows_way_d6 : decode J_MDotRows_way.2.1 6 = .ok (.iconst 2, 1) := by decide +kernel
theorem J_MDotRows_way_d7 : decode J_MDotRows_way.2.1 7 = .ok (.if_icmp .le 7, 3) := by decide +kernel
theorem J_MDotRows_way_d10 : decode J_MDotRows_way.2.1 10 = .ok (.iconst 1, 1) := by decide +kernel
theorem J_MDotRows_way_d11 : decode J_MDotRows_way.2.1 11 = .ok (.goto 4, 3) := by decide +kernel
theorem J_MDotRows_way_d14 : decode J_MDotRows_way.2.1 14 = .ok (.iconst 0, 1) := by decide +kernel
theorem J_MDotRows_way_d15 : decode J_MDotRows_way.2.1 15 = .ok (.putfield 37, 3) := by decide +kernel
theorem J_MDotRows_way_d18 : decode J_MDotRows_way.2.1 18 = .ok (.aload_n 0, 1) := by decide +kernel
theorem J_MDotRows_way_d19 : decode J_MDotRows_way.2.1 19 = .ok (.getfield 37, 3) := by decide +kernel
theorem J_MDotRows_way_d22 : decode J_MDotRows_way.2.1 22 = .ok (.ifCond .le 5, 3) := by decide +kernel
theorem J_MDotRows_way_d25 : decode J_MDotRows_way.2.1 25 = .ok (.iconst 0, 1) := by decide +kernel
theorem J_MDotRows_way_d26 : decode J_MDotRows_way.2.1 26 = .ok (.ireturn, 1) := by decide +kernel
theorem J_MDotRows_way_d27 : decode J_MDotRows_way.2.1 27 = .ok (.aload_n 0, 1) := by decide +kernel
theorem J_MDotRows_way_d28 : decode J_MDotRows_way.2.1 28 = .ok (.getfield 44, 3) := by decide +kernel
theorem J_MDotRows_way_d31 : decode J_MDotRows_way.2.1 31 = .ok (.istore_n 2, 1) := by decide +kernel
theorem J_MDotRows_way_d32 : decode J_MDotRows_way.2.1 32 = .ok (.aload_n 0, 1) := by decide +kernel
theorem J_MDotRows_way_d33 : decode J_MDotRows_way.2.1 33 = .ok (.iload_n 1, 1) := by decide +kernel
theorem J_MDotRows_way_d34 : decode J_MDotRows_way.2.1 34 = .ok (.putfield 44, 3) := by decide +kernel
theorem J_MDotRows_way_d37 : decode J_MDotRows_way.2.1 37 = .ok (.iload_n 2, 1) := by decide +kernel
theorem J_MDotRows_way_d38 : decode J_MDotRows_way.2.1 38 = .ok (.ireturn, 1) := by decide +kernel
theorem f_MDotRows_way_ok {L : Nat} {xs : Nat → Int32} {dep : Nat} {w : Bool} {p0 : Int32} {M : im_M} {Q : Int32 × im_M → Prop} (hM : lw_S w M) (h : ed (f_MDotRows_way p0 M) Q) : ia (tb_G L xs) dep J_MDotRows_way (rwI w Q) (0, lv_args 0 [.ref 89, .int p0], [], M) := by
  have hS : im_St (tb_G L xs) dep J_MDotRows_way (ia (tb_G L xs) dep J_MDotRows_way (rwI w Q)) := ia_St
  unfold f_MDotRows_way at h
  have l0 : im_lk (lv_args 0 [.ref 89, .int p0]) 0 = some (.ref 89) := rfl
  have l1 : im_lk (lv_args 0 [.ref 89, .int p0]) 1 = some (.int p0) := rfl
  refine iq_aload_n hS 1 J_MDotRows_way_d0 l0 rfl ?_
  refine iq_iload_n hS 2 J_MDotRows_way_d1 l1 rfl ?_
  have J1 : ∀ (z2 : Int32) (L' : List (Nat × Value)), z2 = ((if p0 < 0 then 1 else (if p0 ≤ 2 then 0 else 1)) : Int32) → im_lk L' 0 = some (.ref 89) → im_lk L' 1 = some (.int p0) → ia (tb_G L xs) dep J_MDotRows_way (rwI w Q) (15, L', [.int z2, .ref 89], M) := by
    intro z2 L' e3 l4 l5
    subst e3
    refine iq_putI hS 18 J_MDotRows_way_d15 lf_12_37 (Or.inl rfl) rfl (ka_89 hM) rfl ?_
    refine iq_aload_n hS 19 J_MDotRows_way_d18 l4 rfl ?_
    refine iq_getI hS 22 J_MDotRows_way_d19 lf_12_37 (Or.inl rfl) (ka_89 (lw_sI hM)) rfl ?_
    refine iq_if_le hS 25 J_MDotRows_way_d22 (t := 27) rfl (fun q22 => ?_) rfl (fun q22 => ?_)
    · replace h := ed_pos q22 h
      refine iq_aload_n hS 28 J_MDotRows_way_d27 l4 rfl ?_
      refine iq_getI hS 31 J_MDotRows_way_d28 lf_12_44 (Or.inl rfl) (ka_89 (lw_sI hM)) rfl ?_
      refine iq_istore_n hS 32 J_MDotRows_way_d31 (by decide) rfl ?_
      refine iq_aload_n hS 33 J_MDotRows_way_d32 (lk_1r l4 (by decide)) rfl ?_
      refine iq_iload_n hS 34 J_MDotRows_way_d33 (lk_1i l5 (by decide)) rfl ?_
      refine iq_putI hS 37 J_MDotRows_way_d34 lf_12_44 (Or.inl rfl) rfl (ka_89 (lw_sI hM)) rfl ?_
      refine iq_iload_n hS 38 J_MDotRows_way_d37 lk_1s rfl ?_
      exact iq_iret J_MDotRows_way_d38 rfl rfl ⟨_, rfl, (lw_sI (lw_sI hM)), ed_some h⟩
    · replace h := ed_neg q22 h
      refine iq_iconst hS 26 J_MDotRows_way_d25 (v := 0) (by decide +kernel) rfl ?_
      exact iq_iret J_MDotRows_way_d26 rfl rfl ⟨_, rfl, (lw_sI hM), ed_some h⟩
  refine iq_if_lt hS 5 J_MDotRows_way_d2 (t := 10) rfl (fun q2 => ?_) rfl (fun q2 => ?_)
  · refine iq_iconst hS 11 J_MDotRows_way_d10 (v := 1) (by decide +kernel) rfl ?_
    refine iq_goto hS J_MDotRows_way_d11 (t := 15) rfl ?_
    exact J1 _ _ (by simp only [if_pos q2]) l0 l1
  · refine iq_iload_n hS 6 J_MDotRows_way_d5 l1 rfl ?_
    refine iq_iconst hS 7 J_MDotRows_way_d6 (v := 2) (by decide +kernel) rfl ?_
    refine iq_icmp_le hS 10 J_MDotRows_way_d7 (t := 14) rfl (fun q7 => ?_) rfl (fun q7 => ?_)
    · refine iq_iconst hS 15 J_MDotRows_way_d14 (v := 0) (by decide +kernel) rfl ?_
      exact J1 _ _ (by simp only [if_neg q2, if_pos q7]) l0 l1
    · refine iq_iconst hS 11 J_MDotRows_way_d10 (v := 1) (by decide +kernel) rfl ?_
      refine iq_goto hS J_MDotRows_way_d11 (t := 15) rfl ?_
      exact J1 _ _ (by simp only [if_neg q2, if_neg q7]) l0 l1
theorem f_MDotRows_way_fr {p0 : Int32} {M : im_M} {r : Int32 × im_M} (h : f_MDotRows_way p0 M = some r) : fr 0 [(89, 0), (89, 3)] M r.2 := by
  replace h : ed (f_MDotRows_way p0 M) (fun x => x = r) := ⟨r, h, rfl⟩
  unfold f_MDotRows_way at h
  by_cases q22 : (im_i (im_setI M 89 0 ((if p0 < 0 then 1 else (if p0 ≤ 2 then 0 else 1)) : Int32)) 89 0) ≤ 0
  · replace h := ed_pos q22 h
    exact fr_ret h (fr_F (by decide) (fr_F (by decide) fr_refl))
  · replace h := ed_neg q22 h
    exact fr_ret h (fr_F (by decide) fr_refl)
noncomputable def f_MDotRows_wipe (M : im_M) : Option (Int32 × im_M) := some ((im_i (im_setI M 89 0 0) 89 7), (im_setI (im_setI M 89 0 0) 89 7 0))
theorem J_MDotRows_wipe_d0 : decode J_MDotRows_wipe.2.1 0 = .ok (.aload_n 0, 1) := by decide +kernel
theorem J_MDotRows_wipe_d1 : decode J_MDotRows_wipe.2.1 1 = .ok (.iconst 0, 1) := by decide +kernel
theorem J_MDotRows_wipe_d2 : decode J_MDotRows_wipe.2.1 2 = .ok (.putfield 37, 3) := by decide +kernel
theorem J_MDotRows_wipe_d5 : decode J_MDotRows_wipe.2.1 5 = .ok (.aload_n 0, 1) := by decide +kernel
theorem J_MDotRows_wipe_d6 : decode J_MDotRows_wipe.2.1 6 = .ok (.getfield 47, 3) := by decide +kernel
theorem J_MDotRows_wipe_d9 : decode J_MDotRows_wipe.2.1 9 = .ok (.istore_n 1, 1) := by decide +kernel
theorem J_MDotRows_wipe_d10 : decode J_MDotRows_wipe.2.1 10 = .ok (.aload_n 0, 1) := by decide +kernel
theorem J_MDotRows_wipe_d11 : decode J_MDotRows_wipe.2.1 11 = .ok (.iconst 0, 1) := by decide +kernel
theorem J_MDotRows_wipe_d12 : decode J_MDotRows_wipe.2.1 12 = .ok (.putfield 47, 3) := by decide +kernel
theorem J_MDotRows_wipe_d15 : decode J_MDotRows_wipe.2.1 15 = .ok (.iload_n 1, 1) := by decide +kernel
theorem J_MDotRows_wipe_d16 : decode J_MDotRows_wipe.2.1 16 = .ok (.ireturn, 1) := by decide +kernel
theorem f_MDotRows_wipe_ok {L : Nat} {xs : Nat → Int32} {dep : Nat} {w : Bool} {M : im_M} {Q : Int32 × im_M → Prop} (hM : lw_S w M) (h : ed (f_MDotRows_wipe M) Q) : ia (tb_G L xs) dep J_MDotRows_wipe (rwI w Q) (0, lv_args 0 [.ref 89], [], M) := by
  have hS : im_St (tb_G L xs) dep J_MDotRows_wipe (ia (tb_G L xs) dep J_MDotRows_wipe (rwI w Q)) := ia_St
  unfold f_MDotRows_wipe at h
  have l0 : im_lk (lv_args 0 [.ref 89]) 0 = some (.ref 89) := rfl
  refine iq_aload_n hS 1 J_MDotRows_wipe_d0 l0 rfl ?_
  refine iq_iconst hS 2 J_MDotRows_wipe_d1 (v := 0) (by decide +kernel) rfl ?_
  refine iq_putI hS 5 J_MDotRows_wipe_d2 lf_12_37 (Or.inl rfl) rfl (ka_89 hM) rfl ?_
  refine iq_aload_n hS 6 J_MDotRows_wipe_d5 l0 rfl ?_
  refine iq_getI hS 9 J_MDotRows_wipe_d6 lf_12_47 (Or.inl rfl) (ka_89 (lw_sI hM)) rfl ?_
  refine iq_istore_n hS 10 J_MDotRows_wipe_d9 (by decide) rfl ?_
  refine iq_aload_n hS 11 J_MDotRows_wipe_d10 (lk_1r l0 (by decide)) rfl ?_
  refine iq_iconst hS 12 J_MDotRows_wipe_d11 (v := 0) (by decide +kernel) rfl ?_
  refine iq_putI hS 15 J_MDotRows_wipe_d12 lf_12_47 (Or.inl rfl) rfl (ka_89 (lw_sI hM)) rfl ?_
  refine iq_iload_n hS 16 J_MDotRows_wipe_d15 lk_1s rfl ?_
  exact iq_iret J_MDotRows_wipe_d16 rfl rfl ⟨_, rfl, (lw_sI (lw_sI hM)), ed_some h⟩
theorem f_MDotRows_wipe_fr {M : im_M} {r : Int32 × im_M} (h : f_MDotRows_wipe M = some r) : fr 0 [(89, 0), (89, 7)] M r.2 := by
  replace h : ed (f_MDotRows_wipe M) (fun x => x = r) := ⟨r, h, rfl⟩
  unfold f_MDotRows_wipe at h
  exact fr_ret h (fr_F (by decide) (fr_F (by decide) fr_refl))
noncomputable def f_M_byteOf (p0 : Int32) (p1 : Int32) (M : im_M) : Option (Int32 × im_M) := bd2 (f_MScriptRows_data p0 p1 M) fun (x1 : Int64) (M1 : im_M) => some ((Int64.toInt32 (x1 &&& 255)), M1)
theorem J_M_byteOf_d0 : decode J_M_byteOf.2.1 0 = .ok (.aload_n 0, 1) := by decide +kernel
theorem J_M_byteOf_d1 : decode J_M_byteOf.2.1 1 = .ok (.getfield 16, 3) := by decide +kernel
theorem J_M_byteOf_d4 : decode J_M_byteOf.2.1 4 = .ok (.iload_n 1, 1) := by decide +kernel
theorem J_M_byteOf_d5 : decode J_M_byteOf.2.1 5 = .ok (.iload_n 2, 1) := by decide +kernel
theorem J_M_byteOf_d6 : decode J_M_byteOf.2.1 6 = .ok (.invokevirtual 100, 3) := by decide +kernel
theorem J_M_byteOf_d9 : decode J_M_byteOf.2.1 9 = .ok (.ldc2_w 64, 3) := by decide +kernel
theorem J_M_byteOf_d12 : decode J_M_byteOf.2.1 12 = .ok (.land, 1) := by decide +kernel
theorem J_M_byteOf_d13 : decode J_M_byteOf.2.1 13 = .ok (.l2i, 1) := by decide +kernel
theorem J_M_byteOf_d14 : decode J_M_byteOf.2.1 14 = .ok (.ireturn, 1) := by decide +kernel
theorem f_M_byteOf_ok {L : Nat} {xs : Nat → Int32} {dep : Nat} {w : Bool} {p0 : Int32} {p1 : Int32} {M : im_M} {Q : Int32 × im_M → Prop} (hM : lw_S w M) (h : ed (f_M_byteOf p0 p1 M) Q) : ia (tb_G L xs) (dep + 1) J_M_byteOf (rwI w Q) (0, lv_args 0 [.ref 69, .int p0, .int p1], [], M) := by
  have hS : im_St (tb_G L xs) (dep + 1) J_M_byteOf (ia (tb_G L xs) (dep + 1) J_M_byteOf (rwI w Q)) := ia_St
  unfold f_M_byteOf at h
  have l0 : im_lk (lv_args 0 [.ref 69, .int p0, .int p1]) 0 = some (.ref 69) := rfl
  have l1 : im_lk (lv_args 0 [.ref 69, .int p0, .int p1]) 1 = some (.int p0) := rfl
  have l2 : im_lk (lv_args 0 [.ref 69, .int p0, .int p1]) 2 = some (.int p1) := rfl
  refine iq_aload_n hS 1 J_M_byteOf_d0 l0 rfl ?_
  refine iq_getR hS 4 J_M_byteOf_d1 lf_17_16 (Or.inl ⟨_, rfl⟩) (ka_69 hM) (ra_69_3 hM) rfl ?_
  refine iq_iload_n hS 5 J_M_byteOf_d4 l1 rfl ?_
  refine iq_iload_n hS 6 J_M_byteOf_d5 l2 rfl ?_
  obtain ⟨Q1, hQ1, h⟩ := bd2_ed h
  refine iq_cwL hS 9 J_M_byteOf_d6 rfl (pr_inst (vs := [_, _]) lc_17_100 lT_329 rfl rfl (by decide) (by decide) rfl (Nat.le_of_ble_eq_true rfl) (Nat.le_of_ble_eq_true rfl) (fun _ => Or.inl (pr_b (ka_71 hM) (by decide) rfl))) (f_MScriptRows_data_ok (dep := dep + 0) hM h) rfl ?_
  intro x1 M1 hM1 h
  replace h := hQ1 _ _ h
  refine iq_ldc2_w hS 12 J_M_byteOf_d9 lk_17_64 rfl ?_
  refine iq_land hS 13 J_M_byteOf_d12 rfl ?_
  refine iq_l2i hS 14 J_M_byteOf_d13 rfl ?_
  exact iq_iret J_M_byteOf_d14 rfl rfl ⟨_, rfl, hM1, ed_some h⟩
theorem f_M_byteOf_fr {p0 : Int32} {p1 : Int32} {M : im_M} {r : Int32 × im_M} (h : f_M_byteOf p0 p1 M = some r) : fr 0 [(71, 0)] M r.2 := by
  replace h : ed (f_M_byteOf p0 p1 M) (fun x => x = r) := ⟨r, h, rfl⟩
  unfold f_M_byteOf at h
  obtain ⟨Q1, hQ1, h⟩ := bd2_ed h
  obtain ⟨⟨x1, M1⟩, e1, h⟩ := h
  replace h := hQ1 _ _ h
  exact fr_ret h (fr_tr (fr_mono (by decide) (by decide +kernel) (f_MScriptRows_data_fr e1)) fr_refl)
noncomputable def f_MDotRows_write_L46 (v3 : Int32) (v4 : Int64) (x5 : Int32) (M6 : im_M) : Option ((Int32 × im_M) ⊕ (im_M)) := if v3 ≤ x5 then some (.inr M6) else gd (inb (im_i M6 89 7) 4096) <| some (.inl ((x5 + 1), (im_setI (im_setI M6 92 (Int32.toNatClampNeg (im_i M6 89 7)) (Int64.toInt32 ((v4 >>> (Int32.toInt64 ((8 : Int32) * x5) &&& 63) : Int64) &&& 255))) 89 7 ((im_i (im_setI M6 92 (Int32.toNatClampNeg (im_i M6 89 7)) (Int64.toInt32 ((v4 >>> (Int32.toInt64 ((8 : Int32) * x5) &&& 63) : Int64) &&& 255))) 89 7) + 1))))
noncomputable def f_MDotRows_write (p0 : Int32) (p1 : Int64) (M : im_M) : Option (Int32 × im_M) := if (im_i (im_setI M 89 0 ((if p0 < 1 then 1 else (if p0 ≤ 8 then 0 else 1)) : Int32)) 89 0) ≤ 0 then if ((im_i (im_setI M 89 0 ((if p0 < 1 then 1 else (if p0 ≤ 8 then 0 else 1)) : Int32)) 89 7) + p0) ≤ 4096 then bd1 (lp (uc2 (f_MDotRows_write_L46 p0 p1)) (0, (im_setI M 89 0 ((if p0 < 1 then 1 else (if p0 ≤ 8 then 0 else 1)) : Int32)))) fun (M7 : im_M) => some ((im_i M7 89 7), M7) else some ((-1), (im_setI M 89 0 ((if p0 < 1 then 1 else (if p0 ≤ 8 then 0 else 1)) : Int32))) else some (0, (im_setI M 89 0 ((if p0 < 1 then 1 else (if p0 ≤ 8 then 0 else 1)) : Int32)))
theorem J_MDotRows_write_d0 : decode J_MDotRows_write.2.1 0 = .ok (.aload_n 0, 1) := by decide +kernel
theorem J_MDotRows_write_d1 : decode J_MDotRows_write.2.1 1 = .ok (.iload_n 1, 1) := by decide +kernel
theorem J_MDotRows_write_d2 : decode J_MDotRows_write.2.1 2 = .ok (.iconst 1, 1) := by decide +kernel
theorem J_MDotRows_write_d3 : decode J_MDotRows_write.2.1 3 = .ok (.if_icmp .lt 9, 3) := by decide +kernel
theorem J_MDotRows_write_d6 : decode J_MDotRows_write.2.1 6 = .ok (.iload_n 1, 1) := by decide +kernel
theorem J_MDotRows_write_d7 : decode J_MDotRows_write.2.1 7 = .ok (.bipush 8, 2) := by decide +kernel
theorem J_MDotRows_write_d9 : decode J_MDotRows_write.2.1 9 = .ok (.if_icmp .le 7, 3) := by decide +kernel
theorem J_MDotRows_write_d12 : decode J_MDotRows_write.2.1 12 = .ok (.iconst 1, 1) := by decide +kernel
theorem J_MDotRows_write_d13 : decode J_MDotRows_write.2.1 13 = .ok (.goto 4, 3) := by decide +kernel
theorem J_MDotRows_write_d16 : decode J_MDotRows_write.2.1 16 = .ok (.iconst 0, 1) := by decide +kernel
theorem J_MDotRows_write_d17 : decode J_MDotRows_write.2.1 17 = .ok (.putfield 37, 3) := by decide +kernel
theorem J_MDotRows_write_d20 : decode J_MDotRows_write.2.1 20 = .ok (.aload_n 0, 1) := by decide +kernel
theorem J_MDotRows_write_d21 : decode J_MDotRows_write.2.1 21 = .ok (.getfield 37, 3) := by decide +kernel
theorem J_MDotRows_write_d24 : decode J_MDotRows_write.2.1 24 = .ok (.ifCond .le 5, 3) := by decide +kernel
theorem J_MDotRows_write_d27 : decode J_MDotRows_write.2.1 27 = .ok (.iconst 0, 1) := by decide +kernel
theorem J_MDotRows_write_d28 : decode J_MDotRows_write.2.1 28 = .ok (.ireturn, 1) := by decide +kernel
theorem J_MDotRows_write_d29 : decode J_MDotRows_write.2.1 29 = .ok (.aload_n 0, 1) := by decide +kernel
theorem J_MDotRows_write_d30 : decode J_MDotRows_write.2.1 30 = .ok (.getfield 47, 3) := by decide +kernel
theorem J_MDotRows_write_d33 : decode J_MDotRows_write.2.1 33 = .ok (.iload_n 1, 1) := by decide +kernel
theorem J_MDotRows_write_d34 : decode J_MDotRows_write.2.1 34 = .ok (.iadd, 1) := by decide +kernel
theorem J_MDotRows_write_d35 : decode J_MDotRows_write.2.1 35 = .ok (.sipush 4096, 3) := by decide +kernel
theorem J_MDotRows_write_d38 : decode J_MDotRows_write.2.1 38 = .ok (.if_icmp .le 5, 3) := by decide +kernel
theorem J_MDotRows_write_d41 : decode J_MDotRows_write.2.1 41 = .ok (.iconst (-1), 1) := by decide +kernel
theorem J_MDotRows_write_d42 : decode J_MDotRows_write.2.1 42 = .ok (.ireturn, 1) := by decide +kernel
theorem J_MDotRows_write_d43 : decode J_MDotRows_write.2.1 43 = .ok (.iconst 0, 1) := by decide +kernel
theorem J_MDotRows_write_d44 : decode J_MDotRows_write.2.1 44 = .ok (.istore 4, 2) := by decide +kernel
theorem J_MDotRows_write_d46 : decode J_MDotRows_write.2.1 46 = .ok (.iload 4, 2) := by decide +kernel
theorem J_MDotRows_write_d48 : decode J_MDotRows_write.2.1 48 = .ok (.iload_n 1, 1) := by decide +kernel
theorem J_MDotRows_write_d49 : decode J_MDotRows_write.2.1 49 = .ok (.if_icmp .ge 40, 3) := by decide +kernel
theorem J_MDotRows_write_d52 : decode J_MDotRows_write.2.1 52 = .ok (.aload_n 0, 1) := by decide +kernel
theorem J_MDotRows_write_d53 : decode J_MDotRows_write.2.1 53 = .ok (.getfield 24, 3) := by decide +kernel
theorem J_MDotRows_write_d56 : decode J_MDotRows_write.2.1 56 = .ok (.aload_n 0, 1) := by decide +kernel
theorem J_MDotRows_write_d57 : decode J_MDotRows_write.2.1 57 = .ok (.getfield 47, 3) := by decide +kernel
theorem J_MDotRows_write_d60 : decode J_MDotRows_write.2.1 60 = .ok (.lload_n 2, 1) := by decide +kernel
theorem J_MDotRows_write_d61 : decode J_MDotRows_write.2.1 61 = .ok (.bipush 8, 2) := by decide +kernel
theorem J_MDotRows_write_d63 : decode J_MDotRows_write.2.1 63 = .ok (.iload 4, 2) := by decide +kernel
theorem J_MDotRows_write_d65 : decode J_MDotRows_write.2.1 65 = .ok (.imul, 1) := by decide +kernel
theorem J_MDotRows_write_d66 : decode J_MDotRows_write.2.1 66 = .ok (.lshr, 1) := by decide +kernel
theorem J_MDotRows_write_d67 : decode J_MDotRows_write.2.1 67 = .ok (.ldc2_w 50, 3) := by decide +kernel
theorem J_MDotRows_write_d70 : decode J_MDotRows_write.2.1 70 = .ok (.land, 1) := by decide +kernel
theorem J_MDotRows_write_d71 : decode J_MDotRows_write.2.1 71 = .ok (.l2i, 1) := by decide +kernel
theorem J_MDotRows_write_d72 : decode J_MDotRows_write.2.1 72 = .ok (.iastore, 1) := by decide +kernel
theorem J_MDotRows_write_d73 : decode J_MDotRows_write.2.1 73 = .ok (.aload_n 0, 1) := by decide +kernel
theorem J_MDotRows_write_d74 : decode J_MDotRows_write.2.1 74 = .ok (.dup, 1) := by decide +kernel
theorem J_MDotRows_write_d75 : decode J_MDotRows_write.2.1 75 = .ok (.getfield 47, 3) := by decide +kernel
theorem J_MDotRows_write_d78 : decode J_MDotRows_write.2.1 78 = .ok (.iconst 1, 1) := by decide +kernel
theorem J_MDotRows_write_d79 : decode J_MDotRows_write.2.1 79 = .ok (.iadd, 1) := by decide +kernel
theorem J_MDotRows_write_d80 : decode J_MDotRows_write.2.1 80 = .ok (.putfield 47, 3) := by decide +kernel
theorem J_MDotRows_write_d83 : decode J_MDotRows_write.2.1 83 = .ok (.iinc 4 1, 3) := by decide +kernel
theorem J_MDotRows_write_d86 : decode J_MDotRows_write.2.1 86 = .ok (.goto (-40), 3) := by decide +kernel
theorem J_MDotRows_write_d89 : decode J_MDotRows_write.2.1 89 = .ok (.aload_n 0, 1) := by decide +kernel
theorem J_MDotRows_write_d90 : decode J_MDotRows_write.2.1 90 = .ok (.getfield 47, 3) := by decide +kernel
theorem J_MDotRows_write_d93 : decode J_MDotRows_write.2.1 93 = .ok (.ireturn, 1) := by decide +kernel
theorem f_MDotRows_write_ok {L : Nat} {xs : Nat → Int32} {dep : Nat} {w : Bool} {p0 : Int32} {p1 : Int64} {M : im_M} {Q : Int32 × im_M → Prop} (hM : lw_S w M) (h : ed (f_MDotRows_write p0 p1 M) Q) : ia (tb_G L xs) dep J_MDotRows_write (rwI w Q) (0, lv_args 0 [.ref 89, .int p0, .long p1], [], M) := by
  have hS : im_St (tb_G L xs) dep J_MDotRows_write (ia (tb_G L xs) dep J_MDotRows_write (rwI w Q)) := ia_St
  unfold f_MDotRows_write at h
  have l0 : im_lk (lv_args 0 [.ref 89, .int p0, .long p1]) 0 = some (.ref 89) := rfl
  have l1 : im_lk (lv_args 0 [.ref 89, .int p0, .long p1]) 1 = some (.int p0) := rfl
  have l2 : im_lk (lv_args 0 [.ref 89, .int p0, .long p1]) 2 = some (.long p1) := rfl
  refine iq_aload_n hS 1 J_MDotRows_write_d0 l0 rfl ?_
  refine iq_iload_n hS 2 J_MDotRows_write_d1 l1 rfl ?_
  refine iq_iconst hS 3 J_MDotRows_write_d2 (v := 1) (by decide +kernel) rfl ?_
  have J1 : ∀ (z2 : Int32) (L' : List (Nat × Value)), z2 = ((if p0 < 1 then 1 else (if p0 ≤ 8 then 0 else 1)) : Int32) → im_lk L' 0 = some (.ref 89) → im_lk L' 1 = some (.int p0) → im_lk L' 2 = some (.long p1) → ia (tb_G L xs) dep J_MDotRows_write (rwI w Q) (17, L', [.int z2, .ref 89], M) := by
    intro z2 L' e3 l4 l5 l6
    subst e3
    refine iq_putI hS 20 J_MDotRows_write_d17 lf_12_37 (Or.inl rfl) rfl (ka_89 hM) rfl ?_
    refine iq_aload_n hS 21 J_MDotRows_write_d20 l4 rfl ?_
    refine iq_getI hS 24 J_MDotRows_write_d21 lf_12_37 (Or.inl rfl) (ka_89 (lw_sI hM)) rfl ?_
    refine iq_if_le hS 27 J_MDotRows_write_d24 (t := 29) rfl (fun q24 => ?_) rfl (fun q24 => ?_)
    · replace h := ed_pos q24 h
      refine iq_aload_n hS 30 J_MDotRows_write_d29 l4 rfl ?_
      refine iq_getI hS 33 J_MDotRows_write_d30 lf_12_47 (Or.inl rfl) (ka_89 (lw_sI hM)) rfl ?_
      refine iq_iload_n hS 34 J_MDotRows_write_d33 l5 rfl ?_
      refine iq_iadd hS 35 J_MDotRows_write_d34 rfl ?_
      refine iq_sipush hS 38 J_MDotRows_write_d35 (v := 4096) (by decide +kernel) rfl ?_
      refine iq_icmp_le hS 41 J_MDotRows_write_d38 (t := 43) rfl (fun q38 => ?_) rfl (fun q38 => ?_)
      · replace h := ed_pos q38 h
        refine iq_iconst hS 44 J_MDotRows_write_d43 (v := 0) (by decide +kernel) rfl ?_
        refine iq_istore hS 46 J_MDotRows_write_d44 (by decide) rfl ?_
        obtain ⟨Q7, hQ7, h⟩ := bd1_ed h
        have K7 : ∀ (M8 : im_M) (L' : List (Nat × Value)), lw_S w M8 → im_lk L' 0 = some (.ref 89) → Q7 M8 → ia (tb_G L xs) dep J_MDotRows_write (rwI w Q) (89, L', [], M8) := by
          intro M8 L' hM8 l9 h
          replace h := hQ7 _ h
          refine iq_aload_n hS 90 J_MDotRows_write_d89 l9 rfl ?_
          refine iq_getI hS 93 J_MDotRows_write_d90 lf_12_47 (Or.inl rfl) (ka_89 hM8) rfl ?_
          exact iq_iret J_MDotRows_write_d93 rfl rfl ⟨_, rfl, hM8, ed_some h⟩
        obtain ⟨r7, hr7, hq7⟩ := h
        obtain ⟨n7, hn7⟩ := lp_n hr7
        have I7 : ∀ (n : Nat) (x10 : Int32) (M11 : im_M) (L' : List (Nat × Value)), lw_S w M11 → im_lk L' 0 = some (.ref 89) → im_lk L' 1 = some (.int p0) → im_lk L' 2 = some (.long p1) → im_lk L' 4 = some (.int x10) → lpn (uc2 (f_MDotRows_write_L46 p0 p1)) n (x10, M11) = some r7 → ia (tb_G L xs) dep J_MDotRows_write (rwI w Q) (46, L', [], M11) := by
          intro n
          induction n with
          | zero => intro x10 M11 L' hM11 l12 l13 l14 l15 hn; exact (lpn_0 hn).elim
          | succ n ih =>
            intro x10 M11 L' hM11 l12 l13 l14 l15 hn
            have h := lpn_ed2 hn
            unfold f_MDotRows_write_L46 at h
            refine iq_iload hS 48 J_MDotRows_write_d46 l15 rfl ?_
            refine iq_iload_n hS 49 J_MDotRows_write_d48 l13 rfl ?_
            refine iq_icmp_ge hS 52 J_MDotRows_write_d49 (t := 89) rfl (fun q49 => ?_) rfl (fun q49 => ?_)
            · replace h := ed_pos q49 h
              exact K7 _ _ hM11 l12 (lq_r h hq7)
            · replace h := ed_neg q49 h
              refine iq_aload_n hS 53 J_MDotRows_write_d52 l12 rfl ?_
              refine iq_getR hS 56 J_MDotRows_write_d53 lf_12_24 (Or.inr ⟨_, rfl⟩) (ka_89 hM11) (ra_89_6 hM11) rfl ?_
              refine iq_aload_n hS 57 J_MDotRows_write_d56 l12 rfl ?_
              refine iq_getI hS 60 J_MDotRows_write_d57 lf_12_47 (Or.inl rfl) (ka_89 hM11) rfl ?_
              refine iq_lload_n hS 61 J_MDotRows_write_d60 l14 rfl ?_
              refine iq_bipush hS 63 J_MDotRows_write_d61 (v := 8) (by decide +kernel) rfl ?_
              refine iq_iload hS 65 J_MDotRows_write_d63 l15 rfl ?_
              refine iq_imul hS 66 J_MDotRows_write_d65 rfl ?_
              refine iq_lshr hS 67 J_MDotRows_write_d66 rfl ?_
              refine iq_ldc2_w hS 70 J_MDotRows_write_d67 lk_12_50 rfl ?_
              refine iq_land hS 71 J_MDotRows_write_d70 rfl ?_
              refine iq_l2i hS 72 J_MDotRows_write_d71 rfl ?_
              obtain ⟨g72, h⟩ := ed_gd h
              refine iq_iastore hS 73 J_MDotRows_write_d72 ⟨(ka_92 hM11).1, (ka_92 hM11).2, g72.1, ix_lt (kl_92 hM11) g72.2⟩ rfl ?_
              refine iq_aload_n hS 74 J_MDotRows_write_d73 l12 rfl ?_
              refine iq_dup hS 75 J_MDotRows_write_d74 rfl rfl ?_
              refine iq_getI hS 78 J_MDotRows_write_d75 lf_12_47 (Or.inl rfl) (ka_89 (lw_sI hM11)) rfl ?_
              refine iq_iconst hS 79 J_MDotRows_write_d78 (v := 1) (by decide +kernel) rfl ?_
              refine iq_iadd hS 80 J_MDotRows_write_d79 rfl ?_
              refine iq_putI hS 83 J_MDotRows_write_d80 lf_12_47 (Or.inl rfl) rfl (ka_89 (lw_sI hM11)) rfl ?_
              refine iq_iincv hS 86 J_MDotRows_write_d83 (c := 1) (by decide +kernel) l15 (by decide) rfl ?_
              refine iq_goto hS J_MDotRows_write_d86 (t := 46) rfl ?_
              exact ih _ _ _ (lw_sI (lw_sI hM11)) (lk_1r l12 (by decide)) (lk_1i l13 (by decide)) (lk_1l l14 (by decide) (by decide)) lk_1s (lq_l h)
        exact I7 n7 _ _ _ (lw_sI hM) (lk_1r l4 (by decide)) (lk_1i l5 (by decide)) (lk_1l l6 (by decide) (by decide)) lk_1s hn7
      · replace h := ed_neg q38 h
        refine iq_iconst hS 42 J_MDotRows_write_d41 (v := (-1)) (by decide +kernel) rfl ?_
        exact iq_iret J_MDotRows_write_d42 rfl rfl ⟨_, rfl, (lw_sI hM), ed_some h⟩
    · replace h := ed_neg q24 h
      refine iq_iconst hS 28 J_MDotRows_write_d27 (v := 0) (by decide +kernel) rfl ?_
      exact iq_iret J_MDotRows_write_d28 rfl rfl ⟨_, rfl, (lw_sI hM), ed_some h⟩
  refine iq_icmp_lt hS 6 J_MDotRows_write_d3 (t := 12) rfl (fun q3 => ?_) rfl (fun q3 => ?_)
  · refine iq_iconst hS 13 J_MDotRows_write_d12 (v := 1) (by decide +kernel) rfl ?_
    refine iq_goto hS J_MDotRows_write_d13 (t := 17) rfl ?_
    exact J1 _ _ (by simp only [if_pos q3]) l0 l1 l2
  · refine iq_iload_n hS 7 J_MDotRows_write_d6 l1 rfl ?_
    refine iq_bipush hS 9 J_MDotRows_write_d7 (v := 8) (by decide +kernel) rfl ?_
    refine iq_icmp_le hS 12 J_MDotRows_write_d9 (t := 16) rfl (fun q9 => ?_) rfl (fun q9 => ?_)
    · refine iq_iconst hS 17 J_MDotRows_write_d16 (v := 0) (by decide +kernel) rfl ?_
      exact J1 _ _ (by simp only [if_neg q3, if_pos q9]) l0 l1 l2
    · refine iq_iconst hS 13 J_MDotRows_write_d12 (v := 1) (by decide +kernel) rfl ?_
      refine iq_goto hS J_MDotRows_write_d13 (t := 17) rfl ?_
      exact J1 _ _ (by simp only [if_neg q3, if_neg q9]) l0 l1 l2
theorem f_MDotRows_write_fr {p0 : Int32} {p1 : Int64} {M : im_M} {r : Int32 × im_M} (h : f_MDotRows_write p0 p1 M = some r) : fr 4951760157141521099596496896 [(89, 0), (89, 7)] M r.2 := by
  replace h : ed (f_MDotRows_write p0 p1 M) (fun x => x = r) := ⟨r, h, rfl⟩
  unfold f_MDotRows_write at h
  by_cases q24 : (im_i (im_setI M 89 0 ((if p0 < 1 then 1 else (if p0 ≤ 8 then 0 else 1)) : Int32)) 89 0) ≤ 0
  · replace h := ed_pos q24 h
    by_cases q38 : ((im_i (im_setI M 89 0 ((if p0 < 1 then 1 else (if p0 ≤ 8 then 0 else 1)) : Int32)) 89 7) + p0) ≤ 4096
    · replace h := ed_pos q38 h
      obtain ⟨Q2, hQ2, h⟩ := bd1_ed h
      have K2 : ∀ (M3 : im_M), fr 4951760157141521099596496896 [(89, 0), (89, 7)] M M3 → Q2 M3 → fr 4951760157141521099596496896 [(89, 0), (89, 7)] M r.2 := by
        intro M3 hM3 h
        replace h := hQ2 _ h
        exact fr_ret h hM3
      obtain ⟨r2, hr2, hq2⟩ := h
      obtain ⟨n2, hn2⟩ := lp_n hr2
      have I2 : ∀ (n : Nat) (x4 : Int32) (M5 : im_M), fr 4951760157141521099596496896 [(89, 0), (89, 7)] M M5 → lpn (uc2 (f_MDotRows_write_L46 p0 p1)) n (x4, M5) = some r2 → fr 4951760157141521099596496896 [(89, 0), (89, 7)] M r.2 := by
        intro n
        induction n with
        | zero => intro x4 M5 hM5 hn; exact (lpn_0 hn).elim
        | succ n ih =>
          intro x4 M5 hM5 hn
          have h := lpn_ed2 hn
          unfold f_MDotRows_write_L46 at h
          by_cases q49 : p0 ≤ x4
          · replace h := ed_pos q49 h
            exact K2 _ hM5 (lq_r h hq2)
          · replace h := ed_neg q49 h
            obtain ⟨g72, h⟩ := ed_gd h
            exact ih _ _ (fr_F (by decide) (fr_I (by decide) hM5)) (lq_l h)
      exact I2 n2 _ _ (fr_F (by decide) fr_refl) hn2
    · replace h := ed_neg q38 h
      exact fr_ret h (fr_F (by decide) fr_refl)
  · replace h := ed_neg q24 h
    exact fr_ret h (fr_F (by decide) fr_refl)
noncomputable def f_M_draft (p0 : Int32) (M : im_M) : Option (im_M) := bd2 (f_MDotRows_write 1 (Int32.toInt64 p0) M) fun (x1 : Int32) (M1 : im_M) => some M1
theorem J_M_draft_d0 : decode J_M_draft.2.1 0 = .ok (.aload_n 0, 1) := by decide +kernel
theorem J_M_draft_d1 : decode J_M_draft.2.1 1 = .ok (.getfield 23, 3) := by decide +kernel
theorem J_M_draft_d4 : decode J_M_draft.2.1 4 = .ok (.iconst 1, 1) := by decide +kernel
theorem J_M_draft_d5 : decode J_M_draft.2.1 5 = .ok (.iload_n 1, 1) := by decide +kernel
theorem J_M_draft_d6 : decode J_M_draft.2.1 6 = .ok (.i2l, 1) := by decide +kernel
theorem J_M_draft_d7 : decode J_M_draft.2.1 7 = .ok (.invokevirtual 104, 3) := by decide +kernel
theorem J_M_draft_d10 : decode J_M_draft.2.1 10 = .ok (.istore_n 2, 1) := by decide +kernel
theorem J_M_draft_d11 : decode J_M_draft.2.1 11 = .ok (.return_, 1) := by decide +kernel
theorem f_M_draft_ok {L : Nat} {xs : Nat → Int32} {dep : Nat} {w : Bool} {p0 : Int32} {M : im_M} {Q : im_M → Prop} (hM : lw_S w M) (h : ed (f_M_draft p0 M) Q) : ia (tb_G L xs) (dep + 1) J_M_draft (rwV w Q) (0, lv_args 0 [.ref 69, .int p0], [], M) := by
  have hS : im_St (tb_G L xs) (dep + 1) J_M_draft (ia (tb_G L xs) (dep + 1) J_M_draft (rwV w Q)) := ia_St
  unfold f_M_draft at h
  have l0 : im_lk (lv_args 0 [.ref 69, .int p0]) 0 = some (.ref 69) := rfl
  have l1 : im_lk (lv_args 0 [.ref 69, .int p0]) 1 = some (.int p0) := rfl
  refine iq_aload_n hS 1 J_M_draft_d0 l0 rfl ?_
  refine iq_getR hS 4 J_M_draft_d1 lf_17_23 (Or.inl ⟨_, rfl⟩) (ka_69 hM) (ra_69_4 hM) rfl ?_
  refine iq_iconst hS 5 J_M_draft_d4 (v := 1) (by decide +kernel) rfl ?_
  refine iq_iload_n hS 6 J_M_draft_d5 l1 rfl ?_
  refine iq_i2l hS 7 J_M_draft_d6 rfl ?_
  obtain ⟨Q1, hQ1, h⟩ := bd2_ed h
  refine iq_cwI hS 10 J_M_draft_d7 rfl (pr_inst (vs := [_, _]) lc_17_104 lT_338 rfl rfl (by decide) (by decide) rfl (Nat.le_of_ble_eq_true rfl) (Nat.le_of_ble_eq_true rfl) (fun _ => Or.inl (pr_b (ka_89 hM) (by decide) rfl))) (f_MDotRows_write_ok (dep := dep + 0) hM h) rfl ?_
  intro x1 M1 hM1 h
  replace h := hQ1 _ _ h
  refine iq_istore_n hS 11 J_M_draft_d10 (by decide) rfl ?_
  exact iq_ret J_M_draft_d11 rfl ⟨rfl, hM1, ed_some h⟩
theorem f_M_draft_fr {p0 : Int32} {M : im_M} {r : im_M} (h : f_M_draft p0 M = some r) : fr 4951760157141521099596496896 [(89, 0), (89, 7)] M r := by
  replace h : ed (f_M_draft p0 M) (fun x => x = r) := ⟨r, h, rfl⟩
  unfold f_M_draft at h
  obtain ⟨Q1, hQ1, h⟩ := bd2_ed h
  obtain ⟨⟨x1, M1⟩, e1, h⟩ := h
  replace h := hQ1 _ _ h
  exact fr_retV h (fr_tr (fr_mono (by decide) (by decide +kernel) (f_MDotRows_write_fr e1)) fr_refl)
noncomputable def f_M_draftData_L13 (v3 : Int32) (v4 : Int32) (x5 : Int32) (M6 : im_M) : Option ((Int32 × im_M) ⊕ (im_M)) := if v4 ≤ x5 then some (.inr M6) else bd2 (f_M_byteOf v3 x5 M6) fun (x7 : Int32) (M7 : im_M) => bd1 (f_M_draft x7 M7) fun (M8 : im_M) => some (.inl ((x5 + 1), M8))
noncomputable def f_M_draftData (p0 : Int32) (M : im_M) : Option (im_M) := bd2 (f_MScriptRows_order p0 8 M) fun (x1 : Int32) (M1 : im_M) => bd1 (lp (uc2 (f_M_draftData_L13 p0 x1)) (0, M1)) fun (M9 : im_M) => some M9
theorem J_M_draftData_d0 : decode J_M_draftData.2.1 0 = .ok (.aload_n 0, 1) := by decide +kernel
theorem J_M_draftData_d1 : decode J_M_draftData.2.1 1 = .ok (.getfield 16, 3) := by decide +kernel
theorem J_M_draftData_d4 : decode J_M_draftData.2.1 4 = .ok (.iload_n 1, 1) := by decide +kernel
theorem J_M_draftData_d5 : decode J_M_draftData.2.1 5 = .ok (.bipush 8, 2) := by decide +kernel
theorem J_M_draftData_d7 : decode J_M_draftData.2.1 7 = .ok (.invokevirtual 97, 3) := by decide +kernel
theorem J_M_draftData_d10 : decode J_M_draftData.2.1 10 = .ok (.istore_n 2, 1) := by decide +kernel
theorem J_M_draftData_d11 : decode J_M_draftData.2.1 11 = .ok (.iconst 0, 1) := by decide +kernel
theorem J_M_draftData_d12 : decode J_M_draftData.2.1 12 = .ok (.istore_n 3, 1) := by decide +kernel
theorem J_M_draftData_d13 : decode J_M_draftData.2.1 13 = .ok (.iload_n 3, 1) := by decide +kernel
theorem J_M_draftData_d14 : decode J_M_draftData.2.1 14 = .ok (.iload_n 2, 1) := by decide +kernel
theorem J_M_draftData_d15 : decode J_M_draftData.2.1 15 = .ok (.if_icmp .ge 19, 3) := by decide +kernel
theorem J_M_draftData_d18 : decode J_M_draftData.2.1 18 = .ok (.aload_n 0, 1) := by decide +kernel
theorem J_M_draftData_d19 : decode J_M_draftData.2.1 19 = .ok (.aload_n 0, 1) := by decide +kernel
theorem J_M_draftData_d20 : decode J_M_draftData.2.1 20 = .ok (.iload_n 1, 1) := by decide +kernel
theorem J_M_draftData_d21 : decode J_M_draftData.2.1 21 = .ok (.iload_n 3, 1) := by decide +kernel
theorem J_M_draftData_d22 : decode J_M_draftData.2.1 22 = .ok (.invokevirtual 105, 3) := by decide +kernel
theorem J_M_draftData_d25 : decode J_M_draftData.2.1 25 = .ok (.invokevirtual 108, 3) := by decide +kernel
theorem J_M_draftData_d28 : decode J_M_draftData.2.1 28 = .ok (.iinc 3 1, 3) := by decide +kernel
theorem J_M_draftData_d31 : decode J_M_draftData.2.1 31 = .ok (.goto (-18), 3) := by decide +kernel
theorem J_M_draftData_d34 : decode J_M_draftData.2.1 34 = .ok (.return_, 1) := by decide +kernel
theorem f_M_draftData_ok {L : Nat} {xs : Nat → Int32} {dep : Nat} {w : Bool} {p0 : Int32} {M : im_M} {Q : im_M → Prop} (hM : lw_S w M) (h : ed (f_M_draftData p0 M) Q) : ia (tb_G L xs) (dep + 2) J_M_draftData (rwV w Q) (0, lv_args 0 [.ref 69, .int p0], [], M) := by
  have hS : im_St (tb_G L xs) (dep + 2) J_M_draftData (ia (tb_G L xs) (dep + 2) J_M_draftData (rwV w Q)) := ia_St
  unfold f_M_draftData at h
  have l0 : im_lk (lv_args 0 [.ref 69, .int p0]) 0 = some (.ref 69) := rfl
  have l1 : im_lk (lv_args 0 [.ref 69, .int p0]) 1 = some (.int p0) := rfl
  refine iq_aload_n hS 1 J_M_draftData_d0 l0 rfl ?_
  refine iq_getR hS 4 J_M_draftData_d1 lf_17_16 (Or.inl ⟨_, rfl⟩) (ka_69 hM) (ra_69_3 hM) rfl ?_
  refine iq_iload_n hS 5 J_M_draftData_d4 l1 rfl ?_
  refine iq_bipush hS 7 J_M_draftData_d5 (v := 8) (by decide +kernel) rfl ?_
  obtain ⟨Q1, hQ1, h⟩ := bd2_ed h
  refine iq_cwI hS 10 J_M_draftData_d7 rfl (pr_inst (vs := [_, _]) lc_17_97 lT_327 rfl rfl (by decide) (by decide) rfl (Nat.le_of_ble_eq_true rfl) (Nat.le_of_ble_eq_true rfl) (fun _ => Or.inl (pr_b (ka_71 hM) (by decide) rfl))) (f_MScriptRows_order_ok (dep := dep + 1) hM h) rfl ?_
  intro x1 M1 hM1 h
  replace h := hQ1 _ _ h
  refine iq_istore_n hS 11 J_M_draftData_d10 (by decide) rfl ?_
  refine iq_iconst hS 12 J_M_draftData_d11 (v := 0) (by decide +kernel) rfl ?_
  refine iq_istore_n hS 13 J_M_draftData_d12 (by decide) rfl ?_
  obtain ⟨Q2, hQ2, h⟩ := bd1_ed h
  have K2 : ∀ (M3 : im_M) (L' : List (Nat × Value)), lw_S w M3 → Q2 M3 → ia (tb_G L xs) (dep + 2) J_M_draftData (rwV w Q) (34, L', [], M3) := by
    intro M3 L' hM3  h
    replace h := hQ2 _ h
    exact iq_ret J_M_draftData_d34 rfl ⟨rfl, hM3, ed_some h⟩
  obtain ⟨r2, hr2, hq2⟩ := h
  obtain ⟨n2, hn2⟩ := lp_n hr2
  have I2 : ∀ (n : Nat) (x4 : Int32) (M5 : im_M) (L' : List (Nat × Value)), lw_S w M5 → im_lk L' 0 = some (.ref 69) → im_lk L' 1 = some (.int p0) → im_lk L' 2 = some (.int x1) → im_lk L' 3 = some (.int x4) → lpn (uc2 (f_M_draftData_L13 p0 x1)) n (x4, M5) = some r2 → ia (tb_G L xs) (dep + 2) J_M_draftData (rwV w Q) (13, L', [], M5) := by
    intro n
    induction n with
    | zero => intro x4 M5 L' hM5 l6 l7 l8 l9 hn; exact (lpn_0 hn).elim
    | succ n ih =>
      intro x4 M5 L' hM5 l6 l7 l8 l9 hn
      have h := lpn_ed2 hn
      unfold f_M_draftData_L13 at h
      refine iq_iload_n hS 14 J_M_draftData_d13 l9 rfl ?_
      refine iq_iload_n hS 15 J_M_draftData_d14 l8 rfl ?_
      refine iq_icmp_ge hS 18 J_M_draftData_d15 (t := 34) rfl (fun q15 => ?_) rfl (fun q15 => ?_)
      · replace h := ed_pos q15 h
        exact K2 _ _ hM5  (lq_r h hq2)
      · replace h := ed_neg q15 h
        refine iq_aload_n hS 19 J_M_draftData_d18 l6 rfl ?_
        refine iq_aload_n hS 20 J_M_draftData_d19 l6 rfl ?_
        refine iq_iload_n hS 21 J_M_draftData_d20 l7 rfl ?_
        refine iq_iload_n hS 22 J_M_draftData_d21 l9 rfl ?_
        obtain ⟨Q10, hQ10, h⟩ := bd2_ed h
        refine iq_cwI hS 25 J_M_draftData_d22 rfl (pr_inst (vs := [_, _]) lc_17_105 lT_336 rfl rfl (by decide) (by decide) rfl (Nat.le_of_ble_eq_true rfl) (Nat.le_of_ble_eq_true rfl) (fun _ => Or.inl (pr_b (ka_69 hM5) (by decide) rfl))) (f_M_byteOf_ok (dep := dep + 0) hM5 h) rfl ?_
        intro x10 M10 hM10 h
        replace h := hQ10 _ _ h
        obtain ⟨Q11, hQ11, h⟩ := bd1_ed h
        refine iq_cwV hS 28 J_M_draftData_d25 rfl (pr_inst (vs := [_]) lc_17_108 lT_337 rfl rfl (by decide) (by decide) rfl (Nat.le_of_ble_eq_true rfl) (Nat.le_of_ble_eq_true rfl) (fun _ => Or.inl (pr_b (ka_69 hM10) (by decide) rfl))) (f_M_draft_ok (dep := dep + 0) hM10 h) rfl ?_
        intro M11 hM11 h
        replace h := hQ11 _ h
        refine iq_iincv hS 31 J_M_draftData_d28 (c := 1) (by decide +kernel) l9 (by decide) rfl ?_
        refine iq_goto hS J_M_draftData_d31 (t := 13) rfl ?_
        exact ih _ _ _ hM11 (lk_1r l6 (by decide)) (lk_1i l7 (by decide)) (lk_1i l8 (by decide)) lk_1s (lq_l h)
  exact I2 n2 _ _ _ hM1 (lk_1r (lk_1r l0 (by decide)) (by decide)) (lk_1i (lk_1i l1 (by decide)) (by decide)) (lk_1i lk_1s (by decide)) lk_1s hn2
theorem f_M_draftData_fr {p0 : Int32} {M : im_M} {r : im_M} (h : f_M_draftData p0 M = some r) : fr 4951760157141521099596496896 [(71, 0), (89, 0), (89, 7)] M r := by
  replace h : ed (f_M_draftData p0 M) (fun x => x = r) := ⟨r, h, rfl⟩
  unfold f_M_draftData at h
  obtain ⟨Q1, hQ1, h⟩ := bd2_ed h
  obtain ⟨⟨x1, M1⟩, e1, h⟩ := h
  replace h := hQ1 _ _ h
  obtain ⟨Q2, hQ2, h⟩ := bd1_ed h
  have K2 : ∀ (M3 : im_M), fr 4951760157141521099596496896 [(71, 0), (89, 0), (89, 7)] M M3 → Q2 M3 → fr 4951760157141521099596496896 [(71, 0), (89, 0), (89, 7)] M r := by
    intro M3 hM3 h
    replace h := hQ2 _ h
    exact fr_retV h hM3
  obtain ⟨r2, hr2, hq2⟩ := h
  obtain ⟨n2, hn2⟩ := lp_n hr2
  have I2 : ∀ (n : Nat) (x4 : Int32) (M5 : im_M), fr 4951760157141521099596496896 [(71, 0), (89, 0), (89, 7)] M M5 → lpn (uc2 (f_M_draftData_L13 p0 x1)) n (x4, M5) = some r2 → fr 4951760157141521099596496896 [(71, 0), (89, 0), (89, 7)] M r := by
    intro n
    induction n with
    | zero => intro x4 M5 hM5 hn; exact (lpn_0 hn).elim
    | succ n ih =>
      intro x4 M5 hM5 hn
      have h := lpn_ed2 hn
      unfold f_M_draftData_L13 at h
      by_cases q15 : x1 ≤ x4
      · replace h := ed_pos q15 h
        exact K2 _ hM5 (lq_r h hq2)
      · replace h := ed_neg q15 h
        obtain ⟨Q6, hQ6, h⟩ := bd2_ed h
        obtain ⟨⟨x6, M6⟩, e6, h⟩ := h
        replace h := hQ6 _ _ h
        obtain ⟨Q7, hQ7, h⟩ := bd1_ed h
        obtain ⟨M7, e7, h⟩ := h
        replace h := hQ7 _ h
        exact ih _ _ (fr_tr (fr_mono (by decide) (by decide +kernel) (f_M_draft_fr e7)) (fr_tr (fr_mono (by decide) (by decide +kernel) (f_M_byteOf_fr e6)) hM5)) (lq_l h)
  exact I2 n2 _ _ (fr_tr (fr_mono (by decide) (by decide +kernel) (f_MScriptRows_order_fr e1)) fr_refl) hn2
noncomputable def f_MDotRows_noPlace (p0 : Int32) (p1 : Int32) (M : im_M) : Option (Int32) := jn0 (fun (_ : Unit) => some 1) fun k1 => if p0 < (-4096) then k1 () else if 4096 < p0 then k1 () else if p1 < (-4096) then k1 () else if p1 ≤ 4096 then some 0 else k1 ()
theorem J_MDotRows_noPlace_d0 : decode J_MDotRows_noPlace.2.1 0 = .ok (.iload_n 0, 1) := by decide +kernel
theorem J_MDotRows_noPlace_d1 : decode J_MDotRows_noPlace.2.1 1 = .ok (.sipush (-4096), 3) := by decide +kernel
theorem J_MDotRows_noPlace_d4 : decode J_MDotRows_noPlace.2.1 4 = .ok (.if_icmp .lt 24, 3) := by decide +kernel
theorem J_MDotRows_noPlace_d7 : decode J_MDotRows_noPlace.2.1 7 = .ok (.iload_n 0, 1) := by decide +kernel
theorem J_MDotRows_noPlace_d8 : decode J_MDotRows_noPlace.2.1 8 = .ok (.sipush 4096, 3) := by decide +kernel
theorem J_MDotRows_noPlace_d11 : decode J_MDotRows_noPlace.2.1 11 = .ok (.if_icmp .gt 17, 3) := by decide +kernel
theorem J_MDotRows_noPlace_d14 : decode J_MDotRows_noPlace.2.1 14 = .ok (.iload_n 1, 1) := by decide +kernel
theorem J_MDotRows_noPlace_d15 : decode J_MDotRows_noPlace.2.1 15 = .ok (.sipush (-4096), 3) := by decide +kernel
theorem J_MDotRows_noPlace_d18 : decode J_MDotRows_noPlace.2.1 18 = .ok (.if_icmp .lt 10, 3) := by decide +kernel
theorem J_MDotRows_noPlace_d21 : decode J_MDotRows_noPlace.2.1 21 = .ok (.iload_n 1, 1) := by decide +kernel
theorem J_MDotRows_noPlace_d22 : decode J_MDotRows_noPlace.2.1 22 = .ok (.sipush 4096, 3) := by decide +kernel
theorem J_MDotRows_noPlace_d25 : decode J_MDotRows_noPlace.2.1 25 = .ok (.if_icmp .le 7, 3) := by decide +kernel
theorem J_MDotRows_noPlace_d28 : decode J_MDotRows_noPlace.2.1 28 = .ok (.iconst 1, 1) := by decide +kernel
theorem J_MDotRows_noPlace_d29 : decode J_MDotRows_noPlace.2.1 29 = .ok (.goto 4, 3) := by decide +kernel
theorem J_MDotRows_noPlace_d32 : decode J_MDotRows_noPlace.2.1 32 = .ok (.iconst 0, 1) := by decide +kernel
theorem J_MDotRows_noPlace_d33 : decode J_MDotRows_noPlace.2.1 33 = .ok (.ireturn, 1) := by decide +kernel
theorem f_MDotRows_noPlace_ok {L : Nat} {xs : Nat → Int32} {dep : Nat} {w : Bool} {p0 : Int32} {p1 : Int32} {M : im_M} {Q : Int32 → Prop} (hM : lw_S w M) (h : ed (f_MDotRows_noPlace p0 p1 M) Q) : ia (tb_G L xs) dep J_MDotRows_noPlace (rpI M Q) (0, lv_args 0 [.int p0, .int p1], [], M) := by
  have hS : im_St (tb_G L xs) dep J_MDotRows_noPlace (ia (tb_G L xs) dep J_MDotRows_noPlace (rpI M Q)) := ia_St
  unfold f_MDotRows_noPlace at h
  have l0 : im_lk (lv_args 0 [.int p0, .int p1]) 0 = some (.int p0) := rfl
  have l1 : im_lk (lv_args 0 [.int p0, .int p1]) 1 = some (.int p1) := rfl
  refine iq_iload_n hS 1 J_MDotRows_noPlace_d0 l0 rfl ?_
  refine iq_sipush hS 4 J_MDotRows_noPlace_d1 (v := (-4096)) (by decide +kernel) rfl ?_
  obtain ⟨k1, Q1, hQ1, hk1, h⟩ := jn0_ed h
  have J1 : ∀  (L' : List (Nat × Value)), Q1 () → ia (tb_G L xs) dep J_MDotRows_noPlace (rpI M Q) (28, L', [], M) := by
    intro  L'  h
    replace h := hQ1  h
    refine iq_iconst hS 29 J_MDotRows_noPlace_d28 (v := 1) (by decide +kernel) rfl ?_
    refine iq_goto hS J_MDotRows_noPlace_d29 (t := 33) rfl ?_
    exact iq_iret J_MDotRows_noPlace_d33 rfl rfl ⟨_, rfl, rfl, ed_some h⟩
  refine iq_icmp_lt hS 7 J_MDotRows_noPlace_d4 (t := 28) rfl (fun q4 => ?_) rfl (fun q4 => ?_)
  · replace h := ed_pos q4 h
    exact J1  _  (hk1  h)
  · replace h := ed_neg q4 h
    refine iq_iload_n hS 8 J_MDotRows_noPlace_d7 l0 rfl ?_
    refine iq_sipush hS 11 J_MDotRows_noPlace_d8 (v := 4096) (by decide +kernel) rfl ?_
    refine iq_icmp_gt hS 14 J_MDotRows_noPlace_d11 (t := 28) rfl (fun q11 => ?_) rfl (fun q11 => ?_)
    · replace h := ed_pos q11 h
      exact J1  _  (hk1  h)
    · replace h := ed_neg q11 h
      refine iq_iload_n hS 15 J_MDotRows_noPlace_d14 l1 rfl ?_
      refine iq_sipush hS 18 J_MDotRows_noPlace_d15 (v := (-4096)) (by decide +kernel) rfl ?_
      refine iq_icmp_lt hS 21 J_MDotRows_noPlace_d18 (t := 28) rfl (fun q18 => ?_) rfl (fun q18 => ?_)
      · replace h := ed_pos q18 h
        exact J1  _  (hk1  h)
      · replace h := ed_neg q18 h
        refine iq_iload_n hS 22 J_MDotRows_noPlace_d21 l1 rfl ?_
        refine iq_sipush hS 25 J_MDotRows_noPlace_d22 (v := 4096) (by decide +kernel) rfl ?_
        refine iq_icmp_le hS 28 J_MDotRows_noPlace_d25 (t := 32) rfl (fun q25 => ?_) rfl (fun q25 => ?_)
        · replace h := ed_pos q25 h
          refine iq_iconst hS 33 J_MDotRows_noPlace_d32 (v := 0) (by decide +kernel) rfl ?_
          exact iq_iret J_MDotRows_noPlace_d33 rfl rfl ⟨_, rfl, rfl, ed_some h⟩
        · replace h := ed_neg q25 h
          exact J1  _  (hk1  h)
noncomputable def f_MDotRows_at (p0 : Int32) (p1 : Int32) (p2 : Int32) (p3 : Int32) (p4 : Int32) (M : im_M) : Option (im_M) := some (im_setI (im_setI (im_setI (im_setI (im_setI M 89 10 p0) 89 11 p1) 89 12 p2) 89 13 p3) 89 14 p4)
theorem J_MDotRows_at_d0 : decode J_MDotRows_at.2.1 0 = .ok (.aload_n 0, 1) := by decide +kernel
theorem J_MDotRows_at_d1 : decode J_MDotRows_at.2.1 1 = .ok (.iload_n 1, 1) := by decide +kernel
theorem J_MDotRows_at_d2 : decode J_MDotRows_at.2.1 2 = .ok (.putfield 52, 3) := by decide +kernel
theorem J_MDotRows_at_d5 : decode J_MDotRows_at.2.1 5 = .ok (.aload_n 0, 1) := by decide +kernel
theorem J_MDotRows_at_d6 : decode J_MDotRows_at.2.1 6 = .ok (.iload_n 2, 1) := by decide +kernel
theorem J_MDotRows_at_d7 : decode J_MDotRows_at.2.1 7 = .ok (.putfield 58, 3) := by decide +kernel
theorem J_MDotRows_at_d10 : decode J_MDotRows_at.2.1 10 = .ok (.aload_n 0, 1) := by decide +kernel
theorem J_MDotRows_at_d11 : decode J_MDotRows_at.2.1 11 = .ok (.iload_n 3, 1) := by decide +kernel
theorem J_MDotRows_at_d12 : decode J_MDotRows_at.2.1 12 = .ok (.putfield 55, 3) := by decide +kernel
theorem J_MDotRows_at_d15 : decode J_MDotRows_at.2.1 15 = .ok (.aload_n 0, 1) := by decide +kernel
theorem J_MDotRows_at_d16 : decode J_MDotRows_at.2.1 16 = .ok (.iload 4, 2) := by decide +kernel
theorem J_MDotRows_at_d18 : decode J_MDotRows_at.2.1 18 = .ok (.putfield 61, 3) := by decide +kernel
theorem J_MDotRows_at_d21 : decode J_MDotRows_at.2.1 21 = .ok (.aload_n 0, 1) := by decide +kernel
theorem J_MDotRows_at_d22 : decode J_MDotRows_at.2.1 22 = .ok (.iload 5, 2) := by decide +kernel
theorem J_MDotRows_at_d24 : decode J_MDotRows_at.2.1 24 = .ok (.putfield 64, 3) := by decide +kernel
theorem J_MDotRows_at_d27 : decode J_MDotRows_at.2.1 27 = .ok (.return_, 1) := by decide +kernel
theorem f_MDotRows_at_ok {L : Nat} {xs : Nat → Int32} {dep : Nat} {w : Bool} {p0 : Int32} {p1 : Int32} {p2 : Int32} {p3 : Int32} {p4 : Int32} {M : im_M} {Q : im_M → Prop} (hM : lw_S w M) (h : ed (f_MDotRows_at p0 p1 p2 p3 p4 M) Q) : ia (tb_G L xs) dep J_MDotRows_at (rwV w Q) (0, lv_args 0 [.ref 89, .int p0, .int p1, .int p2, .int p3, .int p4], [], M) := by
  have hS : im_St (tb_G L xs) dep J_MDotRows_at (ia (tb_G L xs) dep J_MDotRows_at (rwV w Q)) := ia_St
  unfold f_MDotRows_at at h
  have l0 : im_lk (lv_args 0 [.ref 89, .int p0, .int p1, .int p2, .int p3, .int p4]) 0 = some (.ref 89) := rfl
  have l1 : im_lk (lv_args 0 [.ref 89, .int p0, .int p1, .int p2, .int p3, .int p4]) 1 = some (.int p0) := rfl
  have l2 : im_lk (lv_args 0 [.ref 89, .int p0, .int p1, .int p2, .int p3, .int p4]) 2 = some (.int p1) := rfl
  have l3 : im_lk (lv_args 0 [.ref 89, .int p0, .int p1, .int p2, .int p3, .int p4]) 3 = some (.int p2) := rfl
  have l4 : im_lk (lv_args 0 [.ref 89, .int p0, .int p1, .int p2, .int p3, .int p4]) 4 = some (.int p3) := rfl
  have l5 : im_lk (lv_args 0 [.ref 89, .int p0, .int p1, .int p2, .int p3, .int p4]) 5 = some (.int p4) := rfl
  refine iq_aload_n hS 1 J_MDotRows_at_d0 l0 rfl ?_
  refine iq_iload_n hS 2 J_MDotRows_at_d1 l1 rfl ?_
  refine iq_putI hS 5 J_MDotRows_at_d2 lf_12_52 (Or.inl rfl) rfl (ka_89 hM) rfl ?_
  refine iq_aload_n hS 6 J_MDotRows_at_d5 l0 rfl ?_
  refine iq_iload_n hS 7 J_MDotRows_at_d6 l2 rfl ?_
  refine iq_putI hS 10 J_MDotRows_at_d7 lf_12_58 (Or.inl rfl) rfl (ka_89 (lw_sI hM)) rfl ?_
  refine iq_aload_n hS 11 J_MDotRows_at_d10 l0 rfl ?_
  refine iq_iload_n hS 12 J_MDotRows_at_d11 l3 rfl ?_
  refine iq_putI hS 15 J_MDotRows_at_d12 lf_12_55 (Or.inl rfl) rfl (ka_89 (lw_sI (lw_sI hM))) rfl ?_
  refine iq_aload_n hS 16 J_MDotRows_at_d15 l0 rfl ?_
  refine iq_iload hS 18 J_MDotRows_at_d16 l4 rfl ?_
  refine iq_putI hS 21 J_MDotRows_at_d18 lf_12_61 (Or.inl rfl) rfl (ka_89 (lw_sI (lw_sI (lw_sI hM)))) rfl ?_
  refine iq_aload_n hS 22 J_MDotRows_at_d21 l0 rfl ?_
  refine iq_iload hS 24 J_MDotRows_at_d22 l5 rfl ?_
  refine iq_putI hS 27 J_MDotRows_at_d24 lf_12_64 (Or.inl rfl) rfl (ka_89 (lw_sI (lw_sI (lw_sI (lw_sI hM))))) rfl ?_
  exact iq_ret J_MDotRows_at_d27 rfl ⟨rfl, (lw_sI (lw_sI (lw_sI (lw_sI (lw_sI hM))))), ed_some h⟩
theorem f_MDotRows_at_fr {p0 : Int32} {p1 : Int32} {p2 : Int32} {p3 : Int32} {p4 : Int32} {M : im_M} {r : im_M} (h : f_MDotRows_at p0 p1 p2 p3 p4 M = some r) : fr 0 [(89, 10), (89, 11), (89, 12), (89, 13), (89, 14)] M r := by
  replace h : ed (f_MDotRows_at p0 p1 p2 p3 p4 M) (fun x => x = r) := ⟨r, h, rfl⟩
  unfold f_MDotRows_at at h
  exact fr_retV h (fr_F (by decide) (fr_F (by decide) (fr_F (by decide) (fr_F (by decide) (fr_F (by decide) fr_refl)))))
noncomputable def f_MDotRows_along (p0 : Int32) (p1 : Int32) (M : im_M) : Option (Int32) := if ¬ (im_i M 89 15) = 0 then if ¬ (im_i M 89 15) = 1 then if ¬ (im_i M 89 15) = 2 then some ((im_i M 89 11) - p1) else some ((im_i M 89 10) - p0) else some (p1 - (im_i M 89 11)) else some (p0 - (im_i M 89 10))
theorem J_MDotRows_along_d0 : decode J_MDotRows_along.2.1 0 = .ok (.aload_n 0, 1) := by decide +kernel
theorem J_MDotRows_along_d1 : decode J_MDotRows_along.2.1 1 = .ok (.getfield 75, 3) := by decide +kernel
theorem J_MDotRows_along_d4 : decode J_MDotRows_along.2.1 4 = .ok (.ifCond .ne 12, 3) := by decide +kernel
theorem J_MDotRows_along_d7 : decode J_MDotRows_along.2.1 7 = .ok (.iload_n 1, 1) := by decide +kernel
theorem J_MDotRows_along_d8 : decode J_MDotRows_along.2.1 8 = .ok (.aload_n 0, 1) := by decide +kernel
theorem J_MDotRows_along_d9 : decode J_MDotRows_along.2.1 9 = .ok (.getfield 52, 3) := by decide +kernel
theorem J_MDotRows_along_d12 : decode J_MDotRows_along.2.1 12 = .ok (.isub, 1) := by decide +kernel
theorem J_MDotRows_along_d13 : decode J_MDotRows_along.2.1 13 = .ok (.goto 43, 3) := by decide +kernel
theorem J_MDotRows_along_d16 : decode J_MDotRows_along.2.1 16 = .ok (.aload_n 0, 1) := by decide +kernel
theorem J_MDotRows_along_d17 : decode J_MDotRows_along.2.1 17 = .ok (.getfield 75, 3) := by decide +kernel
theorem J_MDotRows_along_d20 : decode J_MDotRows_along.2.1 20 = .ok (.iconst 1, 1) := by decide +kernel
theorem J_MDotRows_along_d21 : decode J_MDotRows_along.2.1 21 = .ok (.if_icmp .ne 12, 3) := by decide +kernel
theorem J_MDotRows_along_d24 : decode J_MDotRows_along.2.1 24 = .ok (.iload_n 2, 1) := by decide +kernel
theorem J_MDotRows_along_d25 : decode J_MDotRows_along.2.1 25 = .ok (.aload_n 0, 1) := by decide +kernel
theorem J_MDotRows_along_d26 : decode J_MDotRows_along.2.1 26 = .ok (.getfield 58, 3) := by decide +kernel
theorem J_MDotRows_along_d29 : decode J_MDotRows_along.2.1 29 = .ok (.isub, 1) := by decide +kernel
theorem J_MDotRows_along_d30 : decode J_MDotRows_along.2.1 30 = .ok (.goto 26, 3) := by decide +kernel
theorem J_MDotRows_along_d33 : decode J_MDotRows_along.2.1 33 = .ok (.aload_n 0, 1) := by decide +kernel
theorem J_MDotRows_along_d34 : decode J_MDotRows_along.2.1 34 = .ok (.getfield 75, 3) := by decide +kernel
theorem J_MDotRows_along_d37 : decode J_MDotRows_along.2.1 37 = .ok (.iconst 2, 1) := by decide +kernel
theorem J_MDotRows_along_d38 : decode J_MDotRows_along.2.1 38 = .ok (.if_icmp .ne 12, 3) := by decide +kernel
theorem J_MDotRows_along_d41 : decode J_MDotRows_along.2.1 41 = .ok (.aload_n 0, 1) := by decide +kernel
theorem J_MDotRows_along_d42 : decode J_MDotRows_along.2.1 42 = .ok (.getfield 52, 3) := by decide +kernel
theorem J_MDotRows_along_d45 : decode J_MDotRows_along.2.1 45 = .ok (.iload_n 1, 1) := by decide +kernel
theorem J_MDotRows_along_d46 : decode J_MDotRows_along.2.1 46 = .ok (.isub, 1) := by decide +kernel
theorem J_MDotRows_along_d47 : decode J_MDotRows_along.2.1 47 = .ok (.goto 9, 3) := by decide +kernel
theorem J_MDotRows_along_d50 : decode J_MDotRows_along.2.1 50 = .ok (.aload_n 0, 1) := by decide +kernel
theorem J_MDotRows_along_d51 : decode J_MDotRows_along.2.1 51 = .ok (.getfield 58, 3) := by decide +kernel
theorem J_MDotRows_along_d54 : decode J_MDotRows_along.2.1 54 = .ok (.iload_n 2, 1) := by decide +kernel
theorem J_MDotRows_along_d55 : decode J_MDotRows_along.2.1 55 = .ok (.isub, 1) := by decide +kernel
theorem J_MDotRows_along_d56 : decode J_MDotRows_along.2.1 56 = .ok (.ireturn, 1) := by decide +kernel
theorem f_MDotRows_along_ok {L : Nat} {xs : Nat → Int32} {dep : Nat} {w : Bool} {p0 : Int32} {p1 : Int32} {M : im_M} {Q : Int32 → Prop} (hM : lw_S w M) (h : ed (f_MDotRows_along p0 p1 M) Q) : ia (tb_G L xs) dep J_MDotRows_along (rpI M Q) (0, lv_args 0 [.ref 89, .int p0, .int p1], [], M) := by
  have hS : im_St (tb_G L xs) dep J_MDotRows_along (ia (tb_G L xs) dep J_MDotRows_along (rpI M Q)) := ia_St
  unfold f_MDotRows_along at h
  have l0 : im_lk (lv_args 0 [.ref 89, .int p0, .int p1]) 0 = some (.ref 89) := rfl
  have l1 : im_lk (lv_args 0 [.ref 89, .int p0, .int p1]) 1 = some (.int p0) := rfl
  have l2 : im_lk (lv_args 0 [.ref 89, .int p0, .int p1]) 2 = some (.int p1) := rfl
  refine iq_aload_n hS 1 J_MDotRows_along_d0 l0 rfl ?_
  refine iq_getI hS 4 J_MDotRows_along_d1 lf_12_75 (Or.inl rfl) (ka_89 hM) rfl ?_
  refine iq_if_ne hS 7 J_MDotRows_along_d4 (t := 16) rfl (fun q4 => ?_) rfl (fun q4 => ?_)
  · replace h := ed_pos q4 h
    refine iq_aload_n hS 17 J_MDotRows_along_d16 l0 rfl ?_
    refine iq_getI hS 20 J_MDotRows_along_d17 lf_12_75 (Or.inl rfl) (ka_89 hM) rfl ?_
    refine iq_iconst hS 21 J_MDotRows_along_d20 (v := 1) (by decide +kernel) rfl ?_
    refine iq_icmp_ne hS 24 J_MDotRows_along_d21 (t := 33) rfl (fun q21 => ?_) rfl (fun q21 => ?_)
    · replace h := ed_pos q21 h
      refine iq_aload_n hS 34 J_MDotRows_along_d33 l0 rfl ?_
      refine iq_getI hS 37 J_MDotRows_along_d34 lf_12_75 (Or.inl rfl) (ka_89 hM) rfl ?_
      refine iq_iconst hS 38 J_MDotRows_along_d37 (v := 2) (by decide +kernel) rfl ?_
      refine iq_icmp_ne hS 41 J_MDotRows_along_d38 (t := 50) rfl (fun q38 => ?_) rfl (fun q38 => ?_)
      · replace h := ed_pos q38 h
        refine iq_aload_n hS 51 J_MDotRows_along_d50 l0 rfl ?_
        refine iq_getI hS 54 J_MDotRows_along_d51 lf_12_58 (Or.inl rfl) (ka_89 hM) rfl ?_
        refine iq_iload_n hS 55 J_MDotRows_along_d54 l2 rfl ?_
        refine iq_isub hS 56 J_MDotRows_along_d55 rfl ?_
        exact iq_iret J_MDotRows_along_d56 rfl rfl ⟨_, rfl, rfl, ed_some h⟩
      · replace h := ed_neg q38 h
        refine iq_aload_n hS 42 J_MDotRows_along_d41 l0 rfl ?_
        refine iq_getI hS 45 J_MDotRows_along_d42 lf_12_52 (Or.inl rfl) (ka_89 hM) rfl ?_
        refine iq_iload_n hS 46 J_MDotRows_along_d45 l1 rfl ?_
        refine iq_isub hS 47 J_MDotRows_along_d46 rfl ?_
        refine iq_goto hS J_MDotRows_along_d47 (t := 56) rfl ?_
        exact iq_iret J_MDotRows_along_d56 rfl rfl ⟨_, rfl, rfl, ed_some h⟩
    · replace h := ed_neg q21 h
      refine iq_iload_n hS 25 J_MDotRows_along_d24 l2 rfl ?_
      refine iq_aload_n hS 26 J_MDotRows_along_d25 l0 rfl ?_
      refine iq_getI hS 29 J_MDotRows_along_d26 lf_12_58 (Or.inl rfl) (ka_89 hM) rfl ?_
      refine iq_isub hS 30 J_MDotRows_along_d29 rfl ?_
      refine iq_goto hS J_MDotRows_along_d30 (t := 56) rfl ?_
      exact iq_iret J_MDotRows_along_d56 rfl rfl ⟨_, rfl, rfl, ed_some h⟩
  · replace h := ed_neg q4 h
    refine iq_iload_n hS 8 J_MDotRows_along_d7 l1 rfl ?_
    refine iq_aload_n hS 9 J_MDotRows_along_d8 l0 rfl ?_
    refine iq_getI hS 12 J_MDotRows_along_d9 lf_12_52 (Or.inl rfl) (ka_89 hM) rfl ?_
    refine iq_isub hS 13 J_MDotRows_along_d12 rfl ?_
    refine iq_goto hS J_MDotRows_along_d13 (t := 56) rfl ?_
    exact iq_iret J_MDotRows_along_d56 rfl rfl ⟨_, rfl, rfl, ed_some h⟩
noncomputable def f_MDotRows_across (p0 : Int32) (p1 : Int32) (M : im_M) : Option (Int32) := if ¬ (im_i M 89 15) = 0 then if ¬ (im_i M 89 15) = 1 then if ¬ (im_i M 89 15) = 2 then some (p0 - (im_i M 89 10)) else some ((im_i M 89 11) - p1) else some ((im_i M 89 10) - p0) else some (p1 - (im_i M 89 11))
theorem J_MDotRows_across_d0 : decode J_MDotRows_across.2.1 0 = .ok (.aload_n 0, 1) := by decide +kernel
theorem J_MDotRows_across_d1 : decode J_MDotRows_across.2.1 1 = .ok (.getfield 75, 3) := by decide +kernel
theorem J_MDotRows_across_d4 : decode J_MDotRows_across.2.1 4 = .ok (.ifCond .ne 12, 3) := by decide +kernel
theorem J_MDotRows_across_d7 : decode J_MDotRows_across.2.1 7 = .ok (.iload_n 2, 1) := by decide +kernel
theorem J_MDotRows_across_d8 : decode J_MDotRows_across.2.1 8 = .ok (.aload_n 0, 1) := by decide +kernel
theorem J_MDotRows_across_d9 : decode J_MDotRows_across.2.1 9 = .ok (.getfield 58, 3) := by decide +kernel
theorem J_MDotRows_across_d12 : decode J_MDotRows_across.2.1 12 = .ok (.isub, 1) := by decide +kernel
theorem J_MDotRows_across_d13 : decode J_MDotRows_across.2.1 13 = .ok (.goto 43, 3) := by decide +kernel
theorem J_MDotRows_across_d16 : decode J_MDotRows_across.2.1 16 = .ok (.aload_n 0, 1) := by decide +kernel
theorem J_MDotRows_across_d17 : decode J_MDotRows_across.2.1 17 = .ok (.getfield 75, 3) := by decide +kernel
theorem J_MDotRows_across_d20 : decode J_MDotRows_across.2.1 20 = .ok (.iconst 1, 1) := by decide +kernel
theorem J_MDotRows_across_d21 : decode J_MDotRows_across.2.1 21 = .ok (.if_icmp .ne 12, 3) := by decide +kernel
theorem J_MDotRows_across_d24 : decode J_MDotRows_across.2.1 24 = .ok (.aload_n 0, 1) := by decide +kernel
theorem J_MDotRows_across_d25 : decode J_MDotRows_across.2.1 25 = .ok (.getfield 52, 3) := by decide +kernel
theorem J_MDotRows_across_d28 : decode J_MDotRows_across.2.1 28 = .ok (.iload_n 1, 1) := by decide +kernel
theorem J_MDotRows_across_d29 : decode J_MDotRows_across.2.1 29 = .ok (.isub, 1) := by decide +kernel
theorem J_MDotRows_across_d30 : decode J_MDotRows_across.2.1 30 = .ok (.goto 26, 3) := by decide +kernel
theorem J_MDotRows_across_d33 : decode J_MDotRows_across.2.1 33 = .ok (.aload_n 0, 1) := by decide +kernel
theorem J_MDotRows_across_d34 : decode J_MDotRows_across.2.1 34 = .ok (.getfield 75, 3) := by decide +kernel
theorem J_MDotRows_across_d37 : decode J_MDotRows_across.2.1 37 = .ok (.iconst 2, 1) := by decide +kernel
theorem J_MDotRows_across_d38 : decode J_MDotRows_across.2.1 38 = .ok (.if_icmp .ne 12, 3) := by decide +kernel
theorem J_MDotRows_across_d41 : decode J_MDotRows_across.2.1 41 = .ok (.aload_n 0, 1) := by decide +kernel
theorem J_MDotRows_across_d42 : decode J_MDotRows_across.2.1 42 = .ok (.getfield 58, 3) := by decide +kernel
theorem J_MDotRows_across_d45 : decode J_MDotRows_across.2.1 45 = .ok (.iload_n 2, 1) := by decide +kernel
theorem J_MDotRows_across_d46 : decode J_MDotRows_across.2.1 46 = .ok (.isub, 1) := by decide +kernel
theorem J_MDotRows_across_d47 : decode J_MDotRows_across.2.1 47 = .ok (.goto 9, 3) := by decide +kernel
theorem J_MDotRows_across_d50 : decode J_MDotRows_across.2.1 50 = .ok (.iload_n 1, 1) := by decide +kernel
theorem J_MDotRows_across_d51 : decode J_MDotRows_across.2.1 51 = .ok (.aload_n 0, 1) := by decide +kernel
theorem J_MDotRows_across_d52 : decode J_MDotRows_across.2.1 52 = .ok (.getfield 52, 3) := by decide +kernel
theorem J_MDotRows_across_d55 : decode J_MDotRows_across.2.1 55 = .ok (.isub, 1) := by decide +kernel
theorem J_MDotRows_across_d56 : decode J_MDotRows_across.2.1 56 = .ok (.ireturn, 1) := by decide +kernel
theorem f_MDotRows_across_ok {L : Nat} {xs : Nat → Int32} {dep : Nat} {w : Bool} {p0 : Int32} {p1 : Int32} {M : im_M} {Q : Int32 → Prop} (hM : lw_S w M) (h : ed (f_MDotRows_across p0 p1 M) Q) : ia (tb_G L xs) dep J_MDotRows_across (rpI M Q) (0, lv_args 0 [.ref 89, .int p0, .int p1], [], M) := by
  have hS : im_St (tb_G L xs) dep J_MDotRows_across (ia (tb_G L xs) dep J_MDotRows_across (rpI M Q)) := ia_St
  unfold f_MDotRows_across at h
  have l0 : im_lk (lv_args 0 [.ref 89, .int p0, .int p1]) 0 = some (.ref 89) := rfl
  have l1 : im_lk (lv_args 0 [.ref 89, .int p0, .int p1]) 1 = some (.int p0) := rfl
  have l2 : im_lk (lv_args 0 [.ref 89, .int p0, .int p1]) 2 = some (.int p1) := rfl
  refine iq_aload_n hS 1 J_MDotRows_across_d0 l0 rfl ?_
  refine iq_getI hS 4 J_MDotRows_across_d1 lf_12_75 (Or.inl rfl) (ka_89 hM) rfl ?_
  refine iq_if_ne hS 7 J_MDotRows_across_d4 (t := 16) rfl (fun q4 => ?_) rfl (fun q4 => ?_)
  · replace h := ed_pos q4 h
    refine iq_aload_n hS 17 J_MDotRows_across_d16 l0 rfl ?_
    refine iq_getI hS 20 J_MDotRows_across_d17 lf_12_75 (Or.inl rfl) (ka_89 hM) rfl ?_
    refine iq_iconst hS 21 J_MDotRows_across_d20 (v := 1) (by decide +kernel) rfl ?_
    refine iq_icmp_ne hS 24 J_MDotRows_across_d21 (t := 33) rfl (fun q21 => ?_) rfl (fun q21 => ?_)
    · replace h := ed_pos q21 h
      refine iq_aload_n hS 34 J_MDotRows_across_d33 l0 rfl ?_
      refine iq_getI hS 37 J_MDotRows_across_d34 lf_12_75 (Or.inl rfl) (ka_89 hM) rfl ?_
      refine iq_iconst hS 38 J_MDotRows_across_d37 (v := 2) (by decide +kernel) rfl ?_
      refine iq_icmp_ne hS 41 J_MDotRows_across_d38 (t := 50) rfl (fun q38 => ?_) rfl (fun q38 => ?_)
      · replace h := ed_pos q38 h
        refine iq_iload_n hS 51 J_MDotRows_across_d50 l1 rfl ?_
        refine iq_aload_n hS 52 J_MDotRows_across_d51 l0 rfl ?_
        refine iq_getI hS 55 J_MDotRows_across_d52 lf_12_52 (Or.inl rfl) (ka_89 hM) rfl ?_
        refine iq_isub hS 56 J_MDotRows_across_d55 rfl ?_
        exact iq_iret J_MDotRows_across_d56 rfl rfl ⟨_, rfl, rfl, ed_some h⟩
      · replace h := ed_neg q38 h
        refine iq_aload_n hS 42 J_MDotRows_across_d41 l0 rfl ?_
        refine iq_getI hS 45 J_MDotRows_across_d42 lf_12_58 (Or.inl rfl) (ka_89 hM) rfl ?_
        refine iq_iload_n hS 46 J_MDotRows_across_d45 l2 rfl ?_
        refine iq_isub hS 47 J_MDotRows_across_d46 rfl ?_
        refine iq_goto hS J_MDotRows_across_d47 (t := 56) rfl ?_
        exact iq_iret J_MDotRows_across_d56 rfl rfl ⟨_, rfl, rfl, ed_some h⟩
    · replace h := ed_neg q21 h
      refine iq_aload_n hS 25 J_MDotRows_across_d24 l0 rfl ?_
      refine iq_getI hS 28 J_MDotRows_across_d25 lf_12_52 (Or.inl rfl) (ka_89 hM) rfl ?_
      refine iq_iload_n hS 29 J_MDotRows_across_d28 l1 rfl ?_
      refine iq_isub hS 30 J_MDotRows_across_d29 rfl ?_
      refine iq_goto hS J_MDotRows_across_d30 (t := 56) rfl ?_
      exact iq_iret J_MDotRows_across_d56 rfl rfl ⟨_, rfl, rfl, ed_some h⟩
  · replace h := ed_neg q4 h
    refine iq_iload_n hS 8 J_MDotRows_across_d7 l2 rfl ?_
    refine iq_aload_n hS 9 J_MDotRows_across_d8 l0 rfl ?_
    refine iq_getI hS 12 J_MDotRows_across_d9 lf_12_58 (Or.inl rfl) (ka_89 hM) rfl ?_
    refine iq_isub hS 13 J_MDotRows_across_d12 rfl ?_
    refine iq_goto hS J_MDotRows_across_d13 (t := 56) rfl ?_
    exact iq_iret J_MDotRows_across_d56 rfl rfl ⟨_, rfl, rfl, ed_some h⟩
noncomputable def f_MDotRows_bit (p0 : Int32) (M : im_M) : Option (Int32) := gd (inb (p0 / 8) 4096) <| if ¬ (((im_i M 92 (Int32.toNatClampNeg (p0 / 8))) >>> (((7 : Int32) - (p0 - p0 / 8 * 8)) &&& 31 : Int32) : Int32) &&& 1) = 1 then some 0 else some 1
theorem J_MDotRows_bit_d0 : decode J_MDotRows_bit.2.1 0 = .ok (.aload_n 0, 1) := by decide +kernel
theorem J_MDotRows_bit_d1 : decode J_MDotRows_bit.2.1 1 = .ok (.getfield 24, 3) := by decide +kernel
theorem J_MDotRows_bit_d4 : decode J_MDotRows_bit.2.1 4 = .ok (.iload_n 1, 1) := by decide +kernel
theorem J_MDotRows_bit_d5 : decode J_MDotRows_bit.2.1 5 = .ok (.bipush 8, 2) := by decide +kernel
theorem J_MDotRows_bit_d7 : decode J_MDotRows_bit.2.1 7 = .ok (.idiv, 1) := by decide +kernel
theorem J_MDotRows_bit_d8 : decode J_MDotRows_bit.2.1 8 = .ok (.iaload, 1) := by decide +kernel
theorem J_MDotRows_bit_d9 : decode J_MDotRows_bit.2.1 9 = .ok (.bipush 7, 2) := by decide +kernel
theorem J_MDotRows_bit_d11 : decode J_MDotRows_bit.2.1 11 = .ok (.iload_n 1, 1) := by decide +kernel
theorem J_MDotRows_bit_d12 : decode J_MDotRows_bit.2.1 12 = .ok (.bipush 8, 2) := by decide +kernel
theorem J_MDotRows_bit_d14 : decode J_MDotRows_bit.2.1 14 = .ok (.irem, 1) := by decide +kernel
theorem J_MDotRows_bit_d15 : decode J_MDotRows_bit.2.1 15 = .ok (.isub, 1) := by decide +kernel
theorem J_MDotRows_bit_d16 : decode J_MDotRows_bit.2.1 16 = .ok (.ishr, 1) := by decide +kernel
theorem J_MDotRows_bit_d17 : decode J_MDotRows_bit.2.1 17 = .ok (.iconst 1, 1) := by decide +kernel
theorem J_MDotRows_bit_d18 : decode J_MDotRows_bit.2.1 18 = .ok (.iand, 1) := by decide +kernel
theorem J_MDotRows_bit_d19 : decode J_MDotRows_bit.2.1 19 = .ok (.iconst 1, 1) := by decide +kernel
theorem J_MDotRows_bit_d20 : decode J_MDotRows_bit.2.1 20 = .ok (.if_icmp .ne 7, 3) := by decide +kernel
theorem J_MDotRows_bit_d23 : decode J_MDotRows_bit.2.1 23 = .ok (.iconst 1, 1) := by decide +kernel
theorem J_MDotRows_bit_d24 : decode J_MDotRows_bit.2.1 24 = .ok (.goto 4, 3) := by decide +kernel
theorem J_MDotRows_bit_d27 : decode J_MDotRows_bit.2.1 27 = .ok (.iconst 0, 1) := by decide +kernel
theorem J_MDotRows_bit_d28 : decode J_MDotRows_bit.2.1 28 = .ok (.ireturn, 1) := by decide +kernel
theorem f_MDotRows_bit_ok {L : Nat} {xs : Nat → Int32} {dep : Nat} {w : Bool} {p0 : Int32} {M : im_M} {Q : Int32 → Prop} (hM : lw_S w M) (h : ed (f_MDotRows_bit p0 M) Q) : ia (tb_G L xs) dep J_MDotRows_bit (rpI M Q) (0, lv_args 0 [.ref 89, .int p0], [], M) := by
  have hS : im_St (tb_G L xs) dep J_MDotRows_bit (ia (tb_G L xs) dep J_MDotRows_bit (rpI M Q)) := ia_St
  unfold f_MDotRows_bit at h
  have l0 : im_lk (lv_args 0 [.ref 89, .int p0]) 0 = some (.ref 89) := rfl
  have l1 : im_lk (lv_args 0 [.ref 89, .int p0]) 1 = some (.int p0) := rfl
  refine iq_aload_n hS 1 J_MDotRows_bit_d0 l0 rfl ?_
  refine iq_getR hS 4 J_MDotRows_bit_d1 lf_12_24 (Or.inr ⟨_, rfl⟩) (ka_89 hM) (ra_89_6 hM) rfl ?_
  refine iq_iload_n hS 5 J_MDotRows_bit_d4 l1 rfl ?_
  refine iq_bipush hS 7 J_MDotRows_bit_d5 (v := 8) (by decide +kernel) rfl ?_
  refine iq_idiv hS 8 J_MDotRows_bit_d7 (by decide) rfl ?_
  obtain ⟨g8, h⟩ := ed_gd h
  refine iq_iaload hS 9 J_MDotRows_bit_d8 ⟨(ka_92 hM).1, (ka_92 hM).2, g8.1, ix_lt (kl_92 hM) g8.2⟩ rfl ?_
  refine iq_bipush hS 11 J_MDotRows_bit_d9 (v := 7) (by decide +kernel) rfl ?_
  refine iq_iload_n hS 12 J_MDotRows_bit_d11 l1 rfl ?_
  refine iq_bipush hS 14 J_MDotRows_bit_d12 (v := 8) (by decide +kernel) rfl ?_
  refine iq_irem hS 15 J_MDotRows_bit_d14 (by decide) rfl ?_
  refine iq_isub hS 16 J_MDotRows_bit_d15 rfl ?_
  refine iq_ishr hS 17 J_MDotRows_bit_d16 rfl ?_
  refine iq_iconst hS 18 J_MDotRows_bit_d17 (v := 1) (by decide +kernel) rfl ?_
  refine iq_iand hS 19 J_MDotRows_bit_d18 rfl ?_
  refine iq_iconst hS 20 J_MDotRows_bit_d19 (v := 1) (by decide +kernel) rfl ?_
  refine iq_icmp_ne hS 23 J_MDotRows_bit_d20 (t := 27) rfl (fun q20 => ?_) rfl (fun q20 => ?_)
  · replace h := ed_pos q20 h
    refine iq_iconst hS 28 J_MDotRows_bit_d27 (v := 0) (by decide +kernel) rfl ?_
    exact iq_iret J_MDotRows_bit_d28 rfl rfl ⟨_, rfl, rfl, ed_some h⟩
  · replace h := ed_neg q20 h
    refine iq_iconst hS 24 J_MDotRows_bit_d23 (v := 1) (by decide +kernel) rfl ?_
    refine iq_goto hS J_MDotRows_bit_d24 (t := 28) rfl ?_
    exact iq_iret J_MDotRows_bit_d28 rfl rfl ⟨_, rfl, rfl, ed_some h⟩
noncomputable def f_MDotRows_inSquare (p0 : Int32) (p1 : Int32) (M : im_M) : Option (Int32) := gd (¬ (im_i M 89 13) = (0 : Int32)) <| gd (¬ (im_i M 89 13) = (0 : Int32)) <| if (im_i M 89 12) ≤ (p0 / (im_i M 89 13)) then some 0 else if (im_i M 89 12) ≤ (p1 / (im_i M 89 13)) then some 0 else bd1 (f_MDotRows_bit (((im_i M 89 12) * (p1 / (im_i M 89 13))) + (p0 / (im_i M 89 13))) M) fun (x1 : Int32) => if x1 = 0 then some 0 else some 1
theorem J_MDotRows_inSquare_d0 : decode J_MDotRows_inSquare.2.1 0 = .ok (.iload_n 1, 1) := by decide +kernel
theorem J_MDotRows_inSquare_d1 : decode J_MDotRows_inSquare.2.1 1 = .ok (.aload_n 0, 1) := by decide +kernel
theorem J_MDotRows_inSquare_d2 : decode J_MDotRows_inSquare.2.1 2 = .ok (.getfield 61, 3) := by decide +kernel
theorem J_MDotRows_inSquare_d5 : decode J_MDotRows_inSquare.2.1 5 = .ok (.idiv, 1) := by decide +kernel
theorem J_MDotRows_inSquare_d6 : decode J_MDotRows_inSquare.2.1 6 = .ok (.istore_n 3, 1) := by decide +kernel
theorem J_MDotRows_inSquare_d7 : decode J_MDotRows_inSquare.2.1 7 = .ok (.iload_n 2, 1) := by decide +kernel
theorem J_MDotRows_inSquare_d8 : decode J_MDotRows_inSquare.2.1 8 = .ok (.aload_n 0, 1) := by decide +kernel
theorem J_MDotRows_inSquare_d9 : decode J_MDotRows_inSquare.2.1 9 = .ok (.getfield 61, 3) := by decide +kernel
theorem J_MDotRows_inSquare_d12 : decode J_MDotRows_inSquare.2.1 12 = .ok (.idiv, 1) := by decide +kernel
theorem J_MDotRows_inSquare_d13 : decode J_MDotRows_inSquare.2.1 13 = .ok (.istore 4, 2) := by decide +kernel
theorem J_MDotRows_inSquare_d15 : decode J_MDotRows_inSquare.2.1 15 = .ok (.iload_n 3, 1) := by decide +kernel
theorem J_MDotRows_inSquare_d16 : decode J_MDotRows_inSquare.2.1 16 = .ok (.aload_n 0, 1) := by decide +kernel
theorem J_MDotRows_inSquare_d17 : decode J_MDotRows_inSquare.2.1 17 = .ok (.getfield 55, 3) := by decide +kernel
theorem J_MDotRows_inSquare_d20 : decode J_MDotRows_inSquare.2.1 20 = .ok (.if_icmp .ge 32, 3) := by decide +kernel
theorem J_MDotRows_inSquare_d23 : decode J_MDotRows_inSquare.2.1 23 = .ok (.iload 4, 2) := by decide +kernel
theorem J_MDotRows_inSquare_d25 : decode J_MDotRows_inSquare.2.1 25 = .ok (.aload_n 0, 1) := by decide +kernel
theorem J_MDotRows_inSquare_d26 : decode J_MDotRows_inSquare.2.1 26 = .ok (.getfield 55, 3) := by decide +kernel
theorem J_MDotRows_inSquare_d29 : decode J_MDotRows_inSquare.2.1 29 = .ok (.if_icmp .ge 23, 3) := by decide +kernel
theorem J_MDotRows_inSquare_d32 : decode J_MDotRows_inSquare.2.1 32 = .ok (.aload_n 0, 1) := by decide +kernel
theorem J_MDotRows_inSquare_d33 : decode J_MDotRows_inSquare.2.1 33 = .ok (.aload_n 0, 1) := by decide +kernel
theorem J_MDotRows_inSquare_d34 : decode J_MDotRows_inSquare.2.1 34 = .ok (.getfield 55, 3) := by decide +kernel
theorem J_MDotRows_inSquare_d37 : decode J_MDotRows_inSquare.2.1 37 = .ok (.iload 4, 2) := by decide +kernel
theorem J_MDotRows_inSquare_d39 : decode J_MDotRows_inSquare.2.1 39 = .ok (.imul, 1) := by decide +kernel
theorem J_MDotRows_inSquare_d40 : decode J_MDotRows_inSquare.2.1 40 = .ok (.iload_n 3, 1) := by decide +kernel
theorem J_MDotRows_inSquare_d41 : decode J_MDotRows_inSquare.2.1 41 = .ok (.iadd, 1) := by decide +kernel
theorem J_MDotRows_inSquare_d42 : decode J_MDotRows_inSquare.2.1 42 = .ok (.invokevirtual 81, 3) := by decide +kernel
theorem J_MDotRows_inSquare_d45 : decode J_MDotRows_inSquare.2.1 45 = .ok (.ifCond .eq 7, 3) := by decide +kernel
theorem J_MDotRows_inSquare_d48 : decode J_MDotRows_inSquare.2.1 48 = .ok (.iconst 1, 1) := by decide +kernel
theorem J_MDotRows_inSquare_d49 : decode J_MDotRows_inSquare.2.1 49 = .ok (.goto 4, 3) := by decide +kernel
theorem J_MDotRows_inSquare_d52 : decode J_MDotRows_inSquare.2.1 52 = .ok (.iconst 0, 1) := by decide +kernel
theorem J_MDotRows_inSquare_d53 : decode J_MDotRows_inSquare.2.1 53 = .ok (.ireturn, 1) := by decide +kernel
theorem f_MDotRows_inSquare_ok {L : Nat} {xs : Nat → Int32} {dep : Nat} {w : Bool} {p0 : Int32} {p1 : Int32} {M : im_M} {Q : Int32 → Prop} (hM : lw_S w M) (h : ed (f_MDotRows_inSquare p0 p1 M) Q) : ia (tb_G L xs) (dep + 1) J_MDotRows_inSquare (rpI M Q) (0, lv_args 0 [.ref 89, .int p0, .int p1], [], M) := by
  have hS : im_St (tb_G L xs) (dep + 1) J_MDotRows_inSquare (ia (tb_G L xs) (dep + 1) J_MDotRows_inSquare (rpI M Q)) := ia_St
  unfold f_MDotRows_inSquare at h
  have l0 : im_lk (lv_args 0 [.ref 89, .int p0, .int p1]) 0 = some (.ref 89) := rfl
  have l1 : im_lk (lv_args 0 [.ref 89, .int p0, .int p1]) 1 = some (.int p0) := rfl
  have l2 : im_lk (lv_args 0 [.ref 89, .int p0, .int p1]) 2 = some (.int p1) := rfl
  refine iq_iload_n hS 1 J_MDotRows_inSquare_d0 l1 rfl ?_
  refine iq_aload_n hS 2 J_MDotRows_inSquare_d1 l0 rfl ?_
  refine iq_getI hS 5 J_MDotRows_inSquare_d2 lf_12_61 (Or.inl rfl) (ka_89 hM) rfl ?_
  obtain ⟨g5, h⟩ := ed_gd h
  refine iq_idiv hS 6 J_MDotRows_inSquare_d5 g5 rfl ?_
  refine iq_istore_n hS 7 J_MDotRows_inSquare_d6 (by decide) rfl ?_
  refine iq_iload_n hS 8 J_MDotRows_inSquare_d7 (lk_1i l2 (by decide)) rfl ?_
  refine iq_aload_n hS 9 J_MDotRows_inSquare_d8 (lk_1r l0 (by decide)) rfl ?_
  refine iq_getI hS 12 J_MDotRows_inSquare_d9 lf_12_61 (Or.inl rfl) (ka_89 hM) rfl ?_
  obtain ⟨g12, h⟩ := ed_gd h
  refine iq_idiv hS 13 J_MDotRows_inSquare_d12 g12 rfl ?_
  refine iq_istore hS 15 J_MDotRows_inSquare_d13 (by decide) rfl ?_
  refine iq_iload_n hS 16 J_MDotRows_inSquare_d15 (lk_1i lk_1s (by decide)) rfl ?_
  refine iq_aload_n hS 17 J_MDotRows_inSquare_d16 (lk_1r (lk_1r l0 (by decide)) (by decide)) rfl ?_
  refine iq_getI hS 20 J_MDotRows_inSquare_d17 lf_12_55 (Or.inl rfl) (ka_89 hM) rfl ?_
  refine iq_icmp_ge hS 23 J_MDotRows_inSquare_d20 (t := 52) rfl (fun q20 => ?_) rfl (fun q20 => ?_)
  · replace h := ed_pos q20 h
    refine iq_iconst hS 53 J_MDotRows_inSquare_d52 (v := 0) (by decide +kernel) rfl ?_
    exact iq_iret J_MDotRows_inSquare_d53 rfl rfl ⟨_, rfl, rfl, ed_some h⟩
  · replace h := ed_neg q20 h
    refine iq_iload hS 25 J_MDotRows_inSquare_d23 lk_1s rfl ?_
    refine iq_aload_n hS 26 J_MDotRows_inSquare_d25 (lk_1r (lk_1r l0 (by decide)) (by decide)) rfl ?_
    refine iq_getI hS 29 J_MDotRows_inSquare_d26 lf_12_55 (Or.inl rfl) (ka_89 hM) rfl ?_
    refine iq_icmp_ge hS 32 J_MDotRows_inSquare_d29 (t := 52) rfl (fun q29 => ?_) rfl (fun q29 => ?_)
    · replace h := ed_pos q29 h
      refine iq_iconst hS 53 J_MDotRows_inSquare_d52 (v := 0) (by decide +kernel) rfl ?_
      exact iq_iret J_MDotRows_inSquare_d53 rfl rfl ⟨_, rfl, rfl, ed_some h⟩
    · replace h := ed_neg q29 h
      refine iq_aload_n hS 33 J_MDotRows_inSquare_d32 (lk_1r (lk_1r l0 (by decide)) (by decide)) rfl ?_
      refine iq_aload_n hS 34 J_MDotRows_inSquare_d33 (lk_1r (lk_1r l0 (by decide)) (by decide)) rfl ?_
      refine iq_getI hS 37 J_MDotRows_inSquare_d34 lf_12_55 (Or.inl rfl) (ka_89 hM) rfl ?_
      refine iq_iload hS 39 J_MDotRows_inSquare_d37 lk_1s rfl ?_
      refine iq_imul hS 40 J_MDotRows_inSquare_d39 rfl ?_
      refine iq_iload_n hS 41 J_MDotRows_inSquare_d40 (lk_1i lk_1s (by decide)) rfl ?_
      refine iq_iadd hS 42 J_MDotRows_inSquare_d41 rfl ?_
      obtain ⟨Q1, hQ1, h⟩ := bd1_ed h
      refine iq_cpI hS 45 J_MDotRows_inSquare_d42 rfl (pr_inst (vs := [_]) lc_12_81 lT_349 rfl rfl (by decide) (by decide) rfl (Nat.le_of_ble_eq_true rfl) (Nat.le_of_ble_eq_true rfl) (fun _ => Or.inl (pr_b (ka_89 hM) (by decide) rfl))) (f_MDotRows_bit_ok (dep := dep + 0) hM h) rfl ?_
      intro x1 h
      replace h := hQ1 _ h
      refine iq_if_eq hS 48 J_MDotRows_inSquare_d45 (t := 52) rfl (fun q45 => ?_) rfl (fun q45 => ?_)
      · replace h := ed_pos q45 h
        refine iq_iconst hS 53 J_MDotRows_inSquare_d52 (v := 0) (by decide +kernel) rfl ?_
        exact iq_iret J_MDotRows_inSquare_d53 rfl rfl ⟨_, rfl, rfl, ed_some h⟩
      · replace h := ed_neg q45 h
        refine iq_iconst hS 49 J_MDotRows_inSquare_d48 (v := 1) (by decide +kernel) rfl ?_
        refine iq_goto hS J_MDotRows_inSquare_d49 (t := 53) rfl ?_
        exact iq_iret J_MDotRows_inSquare_d53 rfl rfl ⟨_, rfl, rfl, ed_some h⟩
noncomputable def f_MDotRows_inText (p0 : Int32) (p1 : Int32) (M : im_M) : Option (Int32) := gd (inb ((3 : Int32) * (im_i M 89 16)) 12) <| gd (¬ (im_i M 89 12) = (0 : Int32)) <| gd (¬ (im_i M 89 13) = (0 : Int32)) <| gd (inb (((3 : Int32) * (im_i M 89 16)) + 2) 12) <| gd (¬ ((im_i M 93 (Int32.toNatClampNeg ((3 : Int32) * (im_i M 89 16)))) + (im_i M 93 (Int32.toNatClampNeg (((3 : Int32) * (im_i M 89 16)) + 2)))) = (0 : Int32)) <| gd (inb (((3 : Int32) * (im_i M 89 16)) + 2) 12) <| gd (¬ ((im_i M 93 (Int32.toNatClampNeg ((3 : Int32) * (im_i M 89 16)))) + (im_i M 93 (Int32.toNatClampNeg (((3 : Int32) * (im_i M 89 16)) + 2)))) = (0 : Int32)) <| if (im_i M 89 7) ≤ ((p0 / (im_i M 89 12)) / ((im_i M 93 (Int32.toNatClampNeg ((3 : Int32) * (im_i M 89 16)))) + (im_i M 93 (Int32.toNatClampNeg (((3 : Int32) * (im_i M 89 16)) + 2))))) then some 0 else if (im_i M 93 (Int32.toNatClampNeg ((3 : Int32) * (im_i M 89 16)))) ≤ ((p0 / (im_i M 89 12)) - (p0 / (im_i M 89 12)) / ((im_i M 93 (Int32.toNatClampNeg ((3 : Int32) * (im_i M 89 16)))) + (im_i M 93 (Int32.toNatClampNeg (((3 : Int32) * (im_i M 89 16)) + 2)))) * ((im_i M 93 (Int32.toNatClampNeg ((3 : Int32) * (im_i M 89 16)))) + (im_i M 93 (Int32.toNatClampNeg (((3 : Int32) * (im_i M 89 16)) + 2))))) then some 0 else gd (inb (((3 : Int32) * (im_i M 89 16)) + 1) 12) <| if (im_i M 93 (Int32.toNatClampNeg (((3 : Int32) * (im_i M 89 16)) + 1))) ≤ (p1 / (im_i M 89 13)) then some 0 else gd (inb ((p0 / (im_i M 89 12)) / ((im_i M 93 (Int32.toNatClampNeg ((3 : Int32) * (im_i M 89 16)))) + (im_i M 93 (Int32.toNatClampNeg (((3 : Int32) * (im_i M 89 16)) + 2))))) 4096) <| gd (inb ((((8192 : Int32) * (im_i M 89 16)) + ((32 : Int32) * (im_i M 92 (Int32.toNatClampNeg ((p0 / (im_i M 89 12)) / ((im_i M 93 (Int32.toNatClampNeg ((3 : Int32) * (im_i M 89 16)))) + (im_i M 93 (Int32.toNatClampNeg (((3 : Int32) * (im_i M 89 16)) + 2))))))))) + (p1 / (im_i M 89 13))) 32768) <| if ¬ (((im_i M 94 (Int32.toNatClampNeg ((((8192 : Int32) * (im_i M 89 16)) + ((32 : Int32) * (im_i M 92 (Int32.toNatClampNeg ((p0 / (im_i M 89 12)) / ((im_i M 93 (Int32.toNatClampNeg ((3 : Int32) * (im_i M 89 16)))) + (im_i M 93 (Int32.toNatClampNeg (((3 : Int32) * (im_i M 89 16)) + 2))))))))) + (p1 / (im_i M 89 13))))) >>> ((((im_i M 93 (Int32.toNatClampNeg ((3 : Int32) * (im_i M 89 16)))) - 1) - ((p0 / (im_i M 89 12)) - (p0 / (im_i M 89 12)) / ((im_i M 93 (Int32.toNatClampNeg ((3 : Int32) * (im_i M 89 16)))) + (im_i M 93 (Int32.toNatClampNeg (((3 : Int32) * (im_i M 89 16)) + 2)))) * ((im_i M 93 (Int32.toNatClampNeg ((3 : Int32) * (im_i M 89 16)))) + (im_i M 93 (Int32.toNatClampNeg (((3 : Int32) * (im_i M 89 16)) + 2)))))) &&& 31 : Int32) : Int32) &&& 1) = 1 then some 0 else some 1
theorem J_MDotRows_inText_d0 : decode J_MDotRows_inText.2.1 0 = .ok (.aload_n 0, 1) := by decide +kernel
theorem J_MDotRows_inText_d1 : decode J_MDotRows_inText.2.1 1 = .ok (.getfield 27, 3) := by decide +kernel
theorem J_MDotRows_inText_d4 : decode J_MDotRows_inText.2.1 4 = .ok (.iconst 3, 1) := by decide +kernel
theorem J_MDotRows_inText_d5 : decode J_MDotRows_inText.2.1 5 = .ok (.aload_n 0, 1) := by decide +kernel
theorem J_MDotRows_inText_d6 : decode J_MDotRows_inText.2.1 6 = .ok (.getfield 78, 3) := by decide +kernel
theorem J_MDotRows_inText_d9 : decode J_MDotRows_inText.2.1 9 = .ok (.imul, 1) := by decide +kernel
theorem J_MDotRows_inText_d10 : decode J_MDotRows_inText.2.1 10 = .ok (.iaload, 1) := by decide +kernel
theorem J_MDotRows_inText_d11 : decode J_MDotRows_inText.2.1 11 = .ok (.istore_n 3, 1) := by decide +kernel
theorem J_MDotRows_inText_d12 : decode J_MDotRows_inText.2.1 12 = .ok (.iload_n 1, 1) := by decide +kernel
theorem J_MDotRows_inText_d13 : decode J_MDotRows_inText.2.1 13 = .ok (.aload_n 0, 1) := by decide +kernel
theorem J_MDotRows_inText_d14 : decode J_MDotRows_inText.2.1 14 = .ok (.getfield 55, 3) := by decide +kernel
theorem J_MDotRows_inText_d17 : decode J_MDotRows_inText.2.1 17 = .ok (.idiv, 1) := by decide +kernel
theorem J_MDotRows_inText_d18 : decode J_MDotRows_inText.2.1 18 = .ok (.istore 4, 2) := by decide +kernel
theorem J_MDotRows_inText_d20 : decode J_MDotRows_inText.2.1 20 = .ok (.iload_n 2, 1) := by decide +kernel
theorem J_MDotRows_inText_d21 : decode J_MDotRows_inText.2.1 21 = .ok (.aload_n 0, 1) := by decide +kernel
theorem J_MDotRows_inText_d22 : decode J_MDotRows_inText.2.1 22 = .ok (.getfield 61, 3) := by decide +kernel
theorem J_MDotRows_inText_d25 : decode J_MDotRows_inText.2.1 25 = .ok (.idiv, 1) := by decide +kernel
theorem J_MDotRows_inText_d26 : decode J_MDotRows_inText.2.1 26 = .ok (.istore 5, 2) := by decide +kernel
theorem J_MDotRows_inText_d28 : decode J_MDotRows_inText.2.1 28 = .ok (.iload 4, 2) := by decide +kernel
theorem J_MDotRows_inText_d30 : decode J_MDotRows_inText.2.1 30 = .ok (.iload_n 3, 1) := by decide +kernel
theorem J_MDotRows_inText_d31 : decode J_MDotRows_inText.2.1 31 = .ok (.aload_n 0, 1) := by decide +kernel
theorem J_MDotRows_inText_d32 : decode J_MDotRows_inText.2.1 32 = .ok (.getfield 27, 3) := by decide +kernel
theorem J_MDotRows_inText_d35 : decode J_MDotRows_inText.2.1 35 = .ok (.iconst 3, 1) := by decide +kernel
theorem J_MDotRows_inText_d36 : decode J_MDotRows_inText.2.1 36 = .ok (.aload_n 0, 1) := by decide +kernel
theorem J_MDotRows_inText_d37 : decode J_MDotRows_inText.2.1 37 = .ok (.getfield 78, 3) := by decide +kernel
theorem J_MDotRows_inText_d40 : decode J_MDotRows_inText.2.1 40 = .ok (.imul, 1) := by decide +kernel
theorem J_MDotRows_inText_d41 : decode J_MDotRows_inText.2.1 41 = .ok (.iconst 2, 1) := by decide +kernel
theorem J_MDotRows_inText_d42 : decode J_MDotRows_inText.2.1 42 = .ok (.iadd, 1) := by decide +kernel
theorem J_MDotRows_inText_d43 : decode J_MDotRows_inText.2.1 43 = .ok (.iaload, 1) := by decide +kernel
theorem J_MDotRows_inText_d44 : decode J_MDotRows_inText.2.1 44 = .ok (.iadd, 1) := by decide +kernel
theorem J_MDotRows_inText_d45 : decode J_MDotRows_inText.2.1 45 = .ok (.idiv, 1) := by decide +kernel
theorem J_MDotRows_inText_d46 : decode J_MDotRows_inText.2.1 46 = .ok (.istore 6, 2) := by decide +kernel
theorem J_MDotRows_inText_d48 : decode J_MDotRows_inText.2.1 48 = .ok (.iload 4, 2) := by decide +kernel
theorem J_MDotRows_inText_d50 : decode J_MDotRows_inText.2.1 50 = .ok (.iload_n 3, 1) := by decide +kernel
theorem J_MDotRows_inText_d51 : decode J_MDotRows_inText.2.1 51 = .ok (.aload_n 0, 1) := by decide +kernel
theorem J_MDotRows_inText_d52 : decode J_MDotRows_inText.2.1 52 = .ok (.getfield 27, 3) := by decide +kernel
theorem J_MDotRows_inText_d55 : decode J_MDotRows_inText.2.1 55 = .ok (.iconst 3, 1) := by decide +kernel
theorem J_MDotRows_inText_d56 : decode J_MDotRows_inText.2.1 56 = .ok (.aload_n 0, 1) := by decide +kernel
theorem J_MDotRows_inText_d57 : decode J_MDotRows_inText.2.1 57 = .ok (.getfield 78, 3) := by decide +kernel
theorem J_MDotRows_inText_d60 : decode J_MDotRows_inText.2.1 60 = .ok (.imul, 1) := by decide +kernel
theorem J_MDotRows_inText_d61 : decode J_MDotRows_inText.2.1 61 = .ok (.iconst 2, 1) := by decide +kernel
theorem J_MDotRows_inText_d62 : decode J_MDotRows_inText.2.1 62 = .ok (.iadd, 1) := by decide +kernel
theorem J_MDotRows_inText_d63 : decode J_MDotRows_inText.2.1 63 = .ok (.iaload, 1) := by decide +kernel
theorem J_MDotRows_inText_d64 : decode J_MDotRows_inText.2.1 64 = .ok (.iadd, 1) := by decide +kernel
theorem J_MDotRows_inText_d65 : decode J_MDotRows_inText.2.1 65 = .ok (.irem, 1) := by decide +kernel
theorem J_MDotRows_inText_d66 : decode J_MDotRows_inText.2.1 66 = .ok (.istore 4, 2) := by decide +kernel
theorem J_MDotRows_inText_d68 : decode J_MDotRows_inText.2.1 68 = .ok (.iload 6, 2) := by decide +kernel
theorem J_MDotRows_inText_d70 : decode J_MDotRows_inText.2.1 70 = .ok (.aload_n 0, 1) := by decide +kernel
theorem J_MDotRows_inText_d71 : decode J_MDotRows_inText.2.1 71 = .ok (.getfield 47, 3) := by decide +kernel
theorem J_MDotRows_inText_d74 : decode J_MDotRows_inText.2.1 74 = .ok (.if_icmp .ge 71, 3) := by decide +kernel
theorem J_MDotRows_inText_d77 : decode J_MDotRows_inText.2.1 77 = .ok (.iload 4, 2) := by decide +kernel
theorem J_MDotRows_inText_d79 : decode J_MDotRows_inText.2.1 79 = .ok (.iload_n 3, 1) := by decide +kernel
theorem J_MDotRows_inText_d80 : decode J_MDotRows_inText.2.1 80 = .ok (.if_icmp .ge 65, 3) := by decide +kernel
theorem J_MDotRows_inText_d83 : decode J_MDotRows_inText.2.1 83 = .ok (.iload 5, 2) := by decide +kernel
theorem J_MDotRows_inText_d85 : decode J_MDotRows_inText.2.1 85 = .ok (.aload_n 0, 1) := by decide +kernel
theorem J_MDotRows_inText_d86 : decode J_MDotRows_inText.2.1 86 = .ok (.getfield 27, 3) := by decide +kernel
theorem J_MDotRows_inText_d89 : decode J_MDotRows_inText.2.1 89 = .ok (.iconst 3, 1) := by decide +kernel
theorem J_MDotRows_inText_d90 : decode J_MDotRows_inText.2.1 90 = .ok (.aload_n 0, 1) := by decide +kernel
theorem J_MDotRows_inText_d91 : decode J_MDotRows_inText.2.1 91 = .ok (.getfield 78, 3) := by decide +kernel
theorem J_MDotRows_inText_d94 : decode J_MDotRows_inText.2.1 94 = .ok (.imul, 1) := by decide +kernel
theorem J_MDotRows_inText_d95 : decode J_MDotRows_inText.2.1 95 = .ok (.iconst 1, 1) := by decide +kernel
theorem J_MDotRows_inText_d96 : decode J_MDotRows_inText.2.1 96 = .ok (.iadd, 1) := by decide +kernel
theorem J_MDotRows_inText_d97 : decode J_MDotRows_inText.2.1 97 = .ok (.iaload, 1) := by decide +kernel
theorem J_MDotRows_inText_d98 : decode J_MDotRows_inText.2.1 98 = .ok (.if_icmp .ge 47, 3) := by decide +kernel
theorem J_MDotRows_inText_d101 : decode J_MDotRows_inText.2.1 101 = .ok (.aload_n 0, 1) := by decide +kernel
theorem J_MDotRows_inText_d102 : decode J_MDotRows_inText.2.1 102 = .ok (.getfield 30, 3) := by decide +kernel
theorem J_MDotRows_inText_d105 : decode J_MDotRows_inText.2.1 105 = .ok (.sipush 8192, 3) := by decide +kernel
theorem J_MDotRows_inText_d108 : decode J_MDotRows_inText.2.1 108 = .ok (.aload_n 0, 1) := by decide +kernel
theorem J_MDotRows_inText_d109 : decode J_MDotRows_inText.2.1 109 = .ok (.getfield 78, 3) := by decide +kernel
theorem J_MDotRows_inText_d112 : decode J_MDotRows_inText.2.1 112 = .ok (.imul, 1) := by decide +kernel
theorem J_MDotRows_inText_d113 : decode J_MDotRows_inText.2.1 113 = .ok (.bipush 32, 2) := by decide +kernel
theorem J_MDotRows_inText_d115 : decode J_MDotRows_inText.2.1 115 = .ok (.aload_n 0, 1) := by decide +kernel
theorem J_MDotRows_inText_d116 : decode J_MDotRows_inText.2.1 116 = .ok (.getfield 24, 3) := by decide +kernel
theorem J_MDotRows_inText_d119 : decode J_MDotRows_inText.2.1 119 = .ok (.iload 6, 2) := by decide +kernel
theorem J_MDotRows_inText_d121 : decode J_MDotRows_inText.2.1 121 = .ok (.iaload, 1) := by decide +kernel
theorem J_MDotRows_inText_d122 : decode J_MDotRows_inText.2.1 122 = .ok (.imul, 1) := by decide +kernel
theorem J_MDotRows_inText_d123 : decode J_MDotRows_inText.2.1 123 = .ok (.iadd, 1) := by decide +kernel
theorem J_MDotRows_inText_d124 : decode J_MDotRows_inText.2.1 124 = .ok (.iload 5, 2) := by decide +kernel
theorem J_MDotRows_inText_d126 : decode J_MDotRows_inText.2.1 126 = .ok (.iadd, 1) := by decide +kernel
theorem J_MDotRows_inText_d127 : decode J_MDotRows_inText.2.1 127 = .ok (.iaload, 1) := by decide +kernel
theorem J_MDotRows_inText_d128 : decode J_MDotRows_inText.2.1 128 = .ok (.iload_n 3, 1) := by decide +kernel
theorem J_MDotRows_inText_d129 : decode J_MDotRows_inText.2.1 129 = .ok (.iconst 1, 1) := by decide +kernel
theorem J_MDotRows_inText_d130 : decode J_MDotRows_inText.2.1 130 = .ok (.isub, 1) := by decide +kernel
theorem J_MDotRows_inText_d131 : decode J_MDotRows_inText.2.1 131 = .ok (.iload 4, 2) := by decide +kernel
theorem J_MDotRows_inText_d133 : decode J_MDotRows_inText.2.1 133 = .ok (.isub, 1) := by decide +kernel
theorem J_MDotRows_inText_d134 : decode J_MDotRows_inText.2.1 134 = .ok (.ishr, 1) := by decide +kernel
theorem J_MDotRows_inText_d135 : decode J_MDotRows_inText.2.1 135 = .ok (.iconst 1, 1) := by decide +kernel
theorem J_MDotRows_inText_d136 : decode J_MDotRows_inText.2.1 136 = .ok (.iand, 1) := by decide +kernel
theorem J_MDotRows_inText_d137 : decode J_MDotRows_inText.2.1 137 = .ok (.iconst 1, 1) := by decide +kernel
theorem J_MDotRows_inText_d138 : decode J_MDotRows_inText.2.1 138 = .ok (.if_icmp .ne 7, 3) := by decide +kernel
theorem J_MDotRows_inText_d141 : decode J_MDotRows_inText.2.1 141 = .ok (.iconst 1, 1) := by decide +kernel
theorem J_MDotRows_inText_d142 : decode J_MDotRows_inText.2.1 142 = .ok (.goto 4, 3) := by decide +kernel
theorem J_MDotRows_inText_d145 : decode J_MDotRows_inText.2.1 145 = .ok (.iconst 0, 1) := by decide +kernel
theorem J_MDotRows_inText_d146 : decode J_MDotRows_inText.2.1 146 = .ok (.ireturn, 1) := by decide +kernel
theorem f_MDotRows_inText_ok {L : Nat} {xs : Nat → Int32} {dep : Nat} {w : Bool} {p0 : Int32} {p1 : Int32} {M : im_M} {Q : Int32 → Prop} (hM : lw_S w M) (h : ed (f_MDotRows_inText p0 p1 M) Q) : ia (tb_G L xs) dep J_MDotRows_inText (rpI M Q) (0, lv_args 0 [.ref 89, .int p0, .int p1], [], M) := by
  have hS : im_St (tb_G L xs) dep J_MDotRows_inText (ia (tb_G L xs) dep J_MDotRows_inText (rpI M Q)) := ia_St
  unfold f_MDotRows_inText at h
  have l0 : im_lk (lv_args 0 [.ref 89, .int p0, .int p1]) 0 = some (.ref 89) := rfl
  have l1 : im_lk (lv_args 0 [.ref 89, .int p0, .int p1]) 1 = some (.int p0) := rfl
  have l2 : im_lk (lv_args 0 [.ref 89, .int p0, .int p1]) 2 = some (.int p1) := rfl
  refine iq_aload_n hS 1 J_MDotRows_inText_d0 l0 rfl ?_
  refine iq_getR hS 4 J_MDotRows_inText_d1 lf_12_27 (Or.inr ⟨_, rfl⟩) (ka_89 hM) (ra_89_8 hM) rfl ?_
  refine iq_iconst hS 5 J_MDotRows_inText_d4 (v := 3) (by decide +kernel) rfl ?_
  refine iq_aload_n hS 6 J_MDotRows_inText_d5 l0 rfl ?_
  refine iq_getI hS 9 J_MDotRows_inText_d6 lf_12_78 (Or.inl rfl) (ka_89 hM) rfl ?_
  refine iq_imul hS 10 J_MDotRows_inText_d9 rfl ?_
  obtain ⟨g10, h⟩ := ed_gd h
  refine iq_iaload hS 11 J_MDotRows_inText_d10 ⟨(ka_93 hM).1, (ka_93 hM).2, g10.1, ix_lt (kl_93 hM) g10.2⟩ rfl ?_
  refine iq_istore_n hS 12 J_MDotRows_inText_d11 (by decide) rfl ?_
  refine iq_iload_n hS 13 J_MDotRows_inText_d12 (lk_1i l1 (by decide)) rfl ?_
  refine iq_aload_n hS 14 J_MDotRows_inText_d13 (lk_1r l0 (by decide)) rfl ?_
  refine iq_getI hS 17 J_MDotRows_inText_d14 lf_12_55 (Or.inl rfl) (ka_89 hM) rfl ?_
  obtain ⟨g17, h⟩ := ed_gd h
  refine iq_idiv hS 18 J_MDotRows_inText_d17 g17 rfl ?_
  refine iq_istore hS 20 J_MDotRows_inText_d18 (by decide) rfl ?_
  refine iq_iload_n hS 21 J_MDotRows_inText_d20 (lk_1i (lk_1i l2 (by decide)) (by decide)) rfl ?_
  refine iq_aload_n hS 22 J_MDotRows_inText_d21 (lk_1r (lk_1r l0 (by decide)) (by decide)) rfl ?_
  refine iq_getI hS 25 J_MDotRows_inText_d22 lf_12_61 (Or.inl rfl) (ka_89 hM) rfl ?_
  obtain ⟨g25, h⟩ := ed_gd h
  refine iq_idiv hS 26 J_MDotRows_inText_d25 g25 rfl ?_
  refine iq_istore hS 28 J_MDotRows_inText_d26 (by decide) rfl ?_
  refine iq_iload hS 30 J_MDotRows_inText_d28 (lk_1i lk_1s (by decide)) rfl ?_
  refine iq_iload_n hS 31 J_MDotRows_inText_d30 (lk_1i (lk_1i lk_1s (by decide)) (by decide)) rfl ?_
  refine iq_aload_n hS 32 J_MDotRows_inText_d31 (lk_1r (lk_1r (lk_1r l0 (by decide)) (by decide)) (by decide)) rfl ?_
  refine iq_getR hS 35 J_MDotRows_inText_d32 lf_12_27 (Or.inr ⟨_, rfl⟩) (ka_89 hM) (ra_89_8 hM) rfl ?_
  refine iq_iconst hS 36 J_MDotRows_inText_d35 (v := 3) (by decide +kernel) rfl ?_
  refine iq_aload_n hS 37 J_MDotRows_inText_d36 (lk_1r (lk_1r (lk_1r l0 (by decide)) (by decide)) (by decide)) rfl ?_
  refine iq_getI hS 40 J_MDotRows_inText_d37 lf_12_78 (Or.inl rfl) (ka_89 hM) rfl ?_
  refine iq_imul hS 41 J_MDotRows_inText_d40 rfl ?_
  refine iq_iconst hS 42 J_MDotRows_inText_d41 (v := 2) (by decide +kernel) rfl ?_
  refine iq_iadd hS 43 J_MDotRows_inText_d42 rfl ?_
  obtain ⟨g43, h⟩ := ed_gd h
  refine iq_iaload hS 44 J_MDotRows_inText_d43 ⟨(ka_93 hM).1, (ka_93 hM).2, g43.1, ix_lt (kl_93 hM) g43.2⟩ rfl ?_
  refine iq_iadd hS 45 J_MDotRows_inText_d44 rfl ?_
  obtain ⟨g45, h⟩ := ed_gd h
  refine iq_idiv hS 46 J_MDotRows_inText_d45 g45 rfl ?_
  refine iq_istore hS 48 J_MDotRows_inText_d46 (by decide) rfl ?_
  refine iq_iload hS 50 J_MDotRows_inText_d48 (lk_1i (lk_1i lk_1s (by decide)) (by decide)) rfl ?_
  refine iq_iload_n hS 51 J_MDotRows_inText_d50 (lk_1i (lk_1i (lk_1i lk_1s (by decide)) (by decide)) (by decide)) rfl ?_
  refine iq_aload_n hS 52 J_MDotRows_inText_d51 (lk_1r (lk_1r (lk_1r (lk_1r l0 (by decide)) (by decide)) (by decide)) (by decide)) rfl ?_
  refine iq_getR hS 55 J_MDotRows_inText_d52 lf_12_27 (Or.inr ⟨_, rfl⟩) (ka_89 hM) (ra_89_8 hM) rfl ?_
  refine iq_iconst hS 56 J_MDotRows_inText_d55 (v := 3) (by decide +kernel) rfl ?_
  refine iq_aload_n hS 57 J_MDotRows_inText_d56 (lk_1r (lk_1r (lk_1r (lk_1r l0 (by decide)) (by decide)) (by decide)) (by decide)) rfl ?_
  refine iq_getI hS 60 J_MDotRows_inText_d57 lf_12_78 (Or.inl rfl) (ka_89 hM) rfl ?_
  refine iq_imul hS 61 J_MDotRows_inText_d60 rfl ?_
  refine iq_iconst hS 62 J_MDotRows_inText_d61 (v := 2) (by decide +kernel) rfl ?_
  refine iq_iadd hS 63 J_MDotRows_inText_d62 rfl ?_
  obtain ⟨g63, h⟩ := ed_gd h
  refine iq_iaload hS 64 J_MDotRows_inText_d63 ⟨(ka_93 hM).1, (ka_93 hM).2, g63.1, ix_lt (kl_93 hM) g63.2⟩ rfl ?_
  refine iq_iadd hS 65 J_MDotRows_inText_d64 rfl ?_
  obtain ⟨g65, h⟩ := ed_gd h
  refine iq_irem hS 66 J_MDotRows_inText_d65 g65 rfl ?_
  refine iq_istore hS 68 J_MDotRows_inText_d66 (by decide) rfl ?_
  refine iq_iload hS 70 J_MDotRows_inText_d68 (lk_1i lk_1s (by decide)) rfl ?_
  refine iq_aload_n hS 71 J_MDotRows_inText_d70 (lk_1r (lk_1r (lk_1r (lk_1r (lk_1r l0 (by decide)) (by decide)) (by decide)) (by decide)) (by decide)) rfl ?_
  refine iq_getI hS 74 J_MDotRows_inText_d71 lf_12_47 (Or.inl rfl) (ka_89 hM) rfl ?_
  refine iq_icmp_ge hS 77 J_MDotRows_inText_d74 (t := 145) rfl (fun q74 => ?_) rfl (fun q74 => ?_)
  · replace h := ed_pos q74 h
    refine iq_iconst hS 146 J_MDotRows_inText_d145 (v := 0) (by decide +kernel) rfl ?_
    exact iq_iret J_MDotRows_inText_d146 rfl rfl ⟨_, rfl, rfl, ed_some h⟩
  · replace h := ed_neg q74 h
    refine iq_iload hS 79 J_MDotRows_inText_d77 lk_1s rfl ?_
    refine iq_iload_n hS 80 J_MDotRows_inText_d79 (lk_1i (lk_1i (lk_1i (lk_1i lk_1s (by decide)) (by decide)) (by decide)) (by decide)) rfl ?_
    refine iq_icmp_ge hS 83 J_MDotRows_inText_d80 (t := 145) rfl (fun q80 => ?_) rfl (fun q80 => ?_)
    · replace h := ed_pos q80 h
      refine iq_iconst hS 146 J_MDotRows_inText_d145 (v := 0) (by decide +kernel) rfl ?_
      exact iq_iret J_MDotRows_inText_d146 rfl rfl ⟨_, rfl, rfl, ed_some h⟩
    · replace h := ed_neg q80 h
      refine iq_iload hS 85 J_MDotRows_inText_d83 (lk_1i (lk_1i lk_1s (by decide)) (by decide)) rfl ?_
      refine iq_aload_n hS 86 J_MDotRows_inText_d85 (lk_1r (lk_1r (lk_1r (lk_1r (lk_1r l0 (by decide)) (by decide)) (by decide)) (by decide)) (by decide)) rfl ?_
      refine iq_getR hS 89 J_MDotRows_inText_d86 lf_12_27 (Or.inr ⟨_, rfl⟩) (ka_89 hM) (ra_89_8 hM) rfl ?_
      refine iq_iconst hS 90 J_MDotRows_inText_d89 (v := 3) (by decide +kernel) rfl ?_
      refine iq_aload_n hS 91 J_MDotRows_inText_d90 (lk_1r (lk_1r (lk_1r (lk_1r (lk_1r l0 (by decide)) (by decide)) (by decide)) (by decide)) (by decide)) rfl ?_
      refine iq_getI hS 94 J_MDotRows_inText_d91 lf_12_78 (Or.inl rfl) (ka_89 hM) rfl ?_
      refine iq_imul hS 95 J_MDotRows_inText_d94 rfl ?_
      refine iq_iconst hS 96 J_MDotRows_inText_d95 (v := 1) (by decide +kernel) rfl ?_
      refine iq_iadd hS 97 J_MDotRows_inText_d96 rfl ?_
      obtain ⟨g97, h⟩ := ed_gd h
      refine iq_iaload hS 98 J_MDotRows_inText_d97 ⟨(ka_93 hM).1, (ka_93 hM).2, g97.1, ix_lt (kl_93 hM) g97.2⟩ rfl ?_
      refine iq_icmp_ge hS 101 J_MDotRows_inText_d98 (t := 145) rfl (fun q98 => ?_) rfl (fun q98 => ?_)
      · replace h := ed_pos q98 h
        refine iq_iconst hS 146 J_MDotRows_inText_d145 (v := 0) (by decide +kernel) rfl ?_
        exact iq_iret J_MDotRows_inText_d146 rfl rfl ⟨_, rfl, rfl, ed_some h⟩
      · replace h := ed_neg q98 h
        refine iq_aload_n hS 102 J_MDotRows_inText_d101 (lk_1r (lk_1r (lk_1r (lk_1r (lk_1r l0 (by decide)) (by decide)) (by decide)) (by decide)) (by decide)) rfl ?_
        refine iq_getR hS 105 J_MDotRows_inText_d102 lf_12_30 (Or.inr ⟨_, rfl⟩) (ka_89 hM) (ra_89_9 hM) rfl ?_
        refine iq_sipush hS 108 J_MDotRows_inText_d105 (v := 8192) (by decide +kernel) rfl ?_
        refine iq_aload_n hS 109 J_MDotRows_inText_d108 (lk_1r (lk_1r (lk_1r (lk_1r (lk_1r l0 (by decide)) (by decide)) (by decide)) (by decide)) (by decide)) rfl ?_
        refine iq_getI hS 112 J_MDotRows_inText_d109 lf_12_78 (Or.inl rfl) (ka_89 hM) rfl ?_
        refine iq_imul hS 113 J_MDotRows_inText_d112 rfl ?_
        refine iq_bipush hS 115 J_MDotRows_inText_d113 (v := 32) (by decide +kernel) rfl ?_
        refine iq_aload_n hS 116 J_MDotRows_inText_d115 (lk_1r (lk_1r (lk_1r (lk_1r (lk_1r l0 (by decide)) (by decide)) (by decide)) (by decide)) (by decide)) rfl ?_
        refine iq_getR hS 119 J_MDotRows_inText_d116 lf_12_24 (Or.inr ⟨_, rfl⟩) (ka_89 hM) (ra_89_6 hM) rfl ?_
        refine iq_iload hS 121 J_MDotRows_inText_d119 (lk_1i lk_1s (by decide)) rfl ?_
        obtain ⟨g121, h⟩ := ed_gd h
        refine iq_iaload hS 122 J_MDotRows_inText_d121 ⟨(ka_92 hM).1, (ka_92 hM).2, g121.1, ix_lt (kl_92 hM) g121.2⟩ rfl ?_
        refine iq_imul hS 123 J_MDotRows_inText_d122 rfl ?_
        refine iq_iadd hS 124 J_MDotRows_inText_d123 rfl ?_
        refine iq_iload hS 126 J_MDotRows_inText_d124 (lk_1i (lk_1i lk_1s (by decide)) (by decide)) rfl ?_
        refine iq_iadd hS 127 J_MDotRows_inText_d126 rfl ?_
        obtain ⟨g127, h⟩ := ed_gd h
        refine iq_iaload hS 128 J_MDotRows_inText_d127 ⟨(ka_94 hM).1, (ka_94 hM).2, g127.1, ix_lt (kl_94 hM) g127.2⟩ rfl ?_
        refine iq_iload_n hS 129 J_MDotRows_inText_d128 (lk_1i (lk_1i (lk_1i (lk_1i lk_1s (by decide)) (by decide)) (by decide)) (by decide)) rfl ?_
        refine iq_iconst hS 130 J_MDotRows_inText_d129 (v := 1) (by decide +kernel) rfl ?_
        refine iq_isub hS 131 J_MDotRows_inText_d130 rfl ?_
        refine iq_iload hS 133 J_MDotRows_inText_d131 lk_1s rfl ?_
        refine iq_isub hS 134 J_MDotRows_inText_d133 rfl ?_
        refine iq_ishr hS 135 J_MDotRows_inText_d134 rfl ?_
        refine iq_iconst hS 136 J_MDotRows_inText_d135 (v := 1) (by decide +kernel) rfl ?_
        refine iq_iand hS 137 J_MDotRows_inText_d136 rfl ?_
        refine iq_iconst hS 138 J_MDotRows_inText_d137 (v := 1) (by decide +kernel) rfl ?_
        refine iq_icmp_ne hS 141 J_MDotRows_inText_d138 (t := 145) rfl (fun q138 => ?_) rfl (fun q138 => ?_)
        · replace h := ed_pos q138 h
          refine iq_iconst hS 146 J_MDotRows_inText_d145 (v := 0) (by decide +kernel) rfl ?_
          exact iq_iret J_MDotRows_inText_d146 rfl rfl ⟨_, rfl, rfl, ed_some h⟩
        · replace h := ed_neg q138 h
          refine iq_iconst hS 142 J_MDotRows_inText_d141 (v := 1) (by decide +kernel) rfl ?_
          refine iq_goto hS J_MDotRows_inText_d142 (t := 146) rfl ?_
          exact iq_iret J_MDotRows_inText_d146 rfl rfl ⟨_, rfl, rfl, ed_some h⟩
noncomputable def f_MDotRows_inPicture (p0 : Int32) (p1 : Int32) (M : im_M) : Option (Int32) := if (p0 - (im_i M 89 10)) < 0 then some 0 else if (im_i M 89 12) ≤ (p0 - (im_i M 89 10)) then some 0 else if (p1 - (im_i M 89 11)) < 0 then some 0 else gd (¬ (((im_i M 89 12) + 7) / 8) = (0 : Int32)) <| if ((im_i M 89 7) / (((im_i M 89 12) + 7) / 8)) ≤ (p1 - (im_i M 89 11)) then some 0 else bd1 (f_MDotRows_bit ((((8 : Int32) * (((im_i M 89 12) + 7) / 8)) * (p1 - (im_i M 89 11))) + (p0 - (im_i M 89 10))) M) fun (x1 : Int32) => if x1 = 0 then some 0 else some 1
theorem J_MDotRows_inPicture_d0 : decode J_MDotRows_inPicture.2.1 0 = .ok (.iload_n 1, 1) := by decide +kernel
theorem J_MDotRows_inPicture_d1 : decode J_MDotRows_inPicture.2.1 1 = .ok (.aload_n 0, 1) := by decide +kernel
theorem J_MDotRows_inPicture_d2 : decode J_MDotRows_inPicture.2.1 2 = .ok (.getfield 52, 3) := by decide +kernel
theorem J_MDotRows_inPicture_d5 : decode J_MDotRows_inPicture.2.1 5 = .ok (.isub, 1) := by decide +kernel
theorem J_MDotRows_inPicture_d6 : decode J_MDotRows_inPicture.2.1 6 = .ok (.istore_n 3, 1) := by decide +kernel
theorem J_MDotRows_inPicture_d7 : decode J_MDotRows_inPicture.2.1 7 = .ok (.iload_n 2, 1) := by decide +kernel
theorem J_MDotRows_inPicture_d8 : decode J_MDotRows_inPicture.2.1 8 = .ok (.aload_n 0, 1) := by decide +kernel
theorem J_MDotRows_inPicture_d9 : decode J_MDotRows_inPicture.2.1 9 = .ok (.getfield 58, 3) := by decide +kernel
theorem J_MDotRows_inPicture_d12 : decode J_MDotRows_inPicture.2.1 12 = .ok (.isub, 1) := by decide +kernel
theorem J_MDotRows_inPicture_d13 : decode J_MDotRows_inPicture.2.1 13 = .ok (.istore 4, 2) := by decide +kernel
theorem J_MDotRows_inPicture_d15 : decode J_MDotRows_inPicture.2.1 15 = .ok (.aload_n 0, 1) := by decide +kernel
theorem J_MDotRows_inPicture_d16 : decode J_MDotRows_inPicture.2.1 16 = .ok (.getfield 55, 3) := by decide +kernel
theorem J_MDotRows_inPicture_d19 : decode J_MDotRows_inPicture.2.1 19 = .ok (.bipush 7, 2) := by decide +kernel
theorem J_MDotRows_inPicture_d21 : decode J_MDotRows_inPicture.2.1 21 = .ok (.iadd, 1) := by decide +kernel
theorem J_MDotRows_inPicture_d22 : decode J_MDotRows_inPicture.2.1 22 = .ok (.bipush 8, 2) := by decide +kernel
theorem J_MDotRows_inPicture_d24 : decode J_MDotRows_inPicture.2.1 24 = .ok (.idiv, 1) := by decide +kernel
theorem J_MDotRows_inPicture_d25 : decode J_MDotRows_inPicture.2.1 25 = .ok (.istore 5, 2) := by decide +kernel
theorem J_MDotRows_inPicture_d27 : decode J_MDotRows_inPicture.2.1 27 = .ok (.iload_n 3, 1) := by decide +kernel
theorem J_MDotRows_inPicture_d28 : decode J_MDotRows_inPicture.2.1 28 = .ok (.ifCond .lt 49, 3) := by decide +kernel
theorem J_MDotRows_inPicture_d31 : decode J_MDotRows_inPicture.2.1 31 = .ok (.iload_n 3, 1) := by decide +kernel
theorem J_MDotRows_inPicture_d32 : decode J_MDotRows_inPicture.2.1 32 = .ok (.aload_n 0, 1) := by decide +kernel
theorem J_MDotRows_inPicture_d33 : decode J_MDotRows_inPicture.2.1 33 = .ok (.getfield 55, 3) := by decide +kernel
theorem J_MDotRows_inPicture_d36 : decode J_MDotRows_inPicture.2.1 36 = .ok (.if_icmp .ge 41, 3) := by decide +kernel
theorem J_MDotRows_inPicture_d39 : decode J_MDotRows_inPicture.2.1 39 = .ok (.iload 4, 2) := by decide +kernel
theorem J_MDotRows_inPicture_d41 : decode J_MDotRows_inPicture.2.1 41 = .ok (.ifCond .lt 36, 3) := by decide +kernel
theorem J_MDotRows_inPicture_d44 : decode J_MDotRows_inPicture.2.1 44 = .ok (.iload 4, 2) := by decide +kernel
theorem J_MDotRows_inPicture_d46 : decode J_MDotRows_inPicture.2.1 46 = .ok (.aload_n 0, 1) := by decide +kernel
theorem J_MDotRows_inPicture_d47 : decode J_MDotRows_inPicture.2.1 47 = .ok (.getfield 47, 3) := by decide +kernel
theorem J_MDotRows_inPicture_d50 : decode J_MDotRows_inPicture.2.1 50 = .ok (.iload 5, 2) := by decide +kernel
theorem J_MDotRows_inPicture_d52 : decode J_MDotRows_inPicture.2.1 52 = .ok (.idiv, 1) := by decide +kernel
theorem J_MDotRows_inPicture_d53 : decode J_MDotRows_inPicture.2.1 53 = .ok (.if_icmp .ge 24, 3) := by decide +kernel
theorem J_MDotRows_inPicture_d56 : decode J_MDotRows_inPicture.2.1 56 = .ok (.aload_n 0, 1) := by decide +kernel
theorem J_MDotRows_inPicture_d57 : decode J_MDotRows_inPicture.2.1 57 = .ok (.bipush 8, 2) := by decide +kernel
theorem J_MDotRows_inPicture_d59 : decode J_MDotRows_inPicture.2.1 59 = .ok (.iload 5, 2) := by decide +kernel
theorem J_MDotRows_inPicture_d61 : decode J_MDotRows_inPicture.2.1 61 = .ok (.imul, 1) := by decide +kernel
theorem J_MDotRows_inPicture_d62 : decode J_MDotRows_inPicture.2.1 62 = .ok (.iload 4, 2) := by decide +kernel
theorem J_MDotRows_inPicture_d64 : decode J_MDotRows_inPicture.2.1 64 = .ok (.imul, 1) := by decide +kernel
theorem J_MDotRows_inPicture_d65 : decode J_MDotRows_inPicture.2.1 65 = .ok (.iload_n 3, 1) := by decide +kernel
theorem J_MDotRows_inPicture_d66 : decode J_MDotRows_inPicture.2.1 66 = .ok (.iadd, 1) := by decide +kernel
theorem J_MDotRows_inPicture_d67 : decode J_MDotRows_inPicture.2.1 67 = .ok (.invokevirtual 81, 3) := by decide +kernel
theorem J_MDotRows_inPicture_d70 : decode J_MDotRows_inPicture.2.1 70 = .ok (.ifCond .eq 7, 3) := by decide +kernel
theorem J_MDotRows_inPicture_d73 : decode J_MDotRows_inPicture.2.1 73 = .ok (.iconst 1, 1) := by decide +kernel
theorem J_MDotRows_inPicture_d74 : decode J_MDotRows_inPicture.2.1 74 = .ok (.goto 4, 3) := by decide +kernel
theorem J_MDotRows_inPicture_d77 : decode J_MDotRows_inPicture.2.1 77 = .ok (.iconst 0, 1) := by decide +kernel
theorem J_MDotRows_inPicture_d78 : decode J_MDotRows_inPicture.2.1 78 = .ok (.ireturn, 1) := by decide +kernel
theorem f_MDotRows_inPicture_ok {L : Nat} {xs : Nat → Int32} {dep : Nat} {w : Bool} {p0 : Int32} {p1 : Int32} {M : im_M} {Q : Int32 → Prop} (hM : lw_S w M) (h : ed (f_MDotRows_inPicture p0 p1 M) Q) : ia (tb_G L xs) (dep + 1) J_MDotRows_inPicture (rpI M Q) (0, lv_args 0 [.ref 89, .int p0, .int p1], [], M) := by
  have hS : im_St (tb_G L xs) (dep + 1) J_MDotRows_inPicture (ia (tb_G L xs) (dep + 1) J_MDotRows_inPicture (rpI M Q)) := ia_St
  unfold f_MDotRows_inPicture at h
  have l0 : im_lk (lv_args 0 [.ref 89, .int p0, .int p1]) 0 = some (.ref 89) := rfl
  have l1 : im_lk (lv_args 0 [.ref 89, .int p0, .int p1]) 1 = some (.int p0) := rfl
  have l2 : im_lk (lv_args 0 [.ref 89, .int p0, .int p1]) 2 = some (.int p1) := rfl
  refine iq_iload_n hS 1 J_MDotRows_inPicture_d0 l1 rfl ?_
  refine iq_aload_n hS 2 J_MDotRows_inPicture_d1 l0 rfl ?_
  refine iq_getI hS 5 J_MDotRows_inPicture_d2 lf_12_52 (Or.inl rfl) (ka_89 hM) rfl ?_
  refine iq_isub hS 6 J_MDotRows_inPicture_d5 rfl ?_
  refine iq_istore_n hS 7 J_MDotRows_inPicture_d6 (by decide) rfl ?_
  refine iq_iload_n hS 8 J_MDotRows_inPicture_d7 (lk_1i l2 (by decide)) rfl ?_
  refine iq_aload_n hS 9 J_MDotRows_inPicture_d8 (lk_1r l0 (by decide)) rfl ?_
  refine iq_getI hS 12 J_MDotRows_inPicture_d9 lf_12_58 (Or.inl rfl) (ka_89 hM) rfl ?_
  refine iq_isub hS 13 J_MDotRows_inPicture_d12 rfl ?_
  refine iq_istore hS 15 J_MDotRows_inPicture_d13 (by decide) rfl ?_
  refine iq_aload_n hS 16 J_MDotRows_inPicture_d15 (lk_1r (lk_1r l0 (by decide)) (by decide)) rfl ?_
  refine iq_getI hS 19 J_MDotRows_inPicture_d16 lf_12_55 (Or.inl rfl) (ka_89 hM) rfl ?_
  refine iq_bipush hS 21 J_MDotRows_inPicture_d19 (v := 7) (by decide +kernel) rfl ?_
  refine iq_iadd hS 22 J_MDotRows_inPicture_d21 rfl ?_
  refine iq_bipush hS 24 J_MDotRows_inPicture_d22 (v := 8) (by decide +kernel) rfl ?_
  refine iq_idiv hS 25 J_MDotRows_inPicture_d24 (by decide) rfl ?_
  refine iq_istore hS 27 J_MDotRows_inPicture_d25 (by decide) rfl ?_
  refine iq_iload_n hS 28 J_MDotRows_inPicture_d27 (lk_1i (lk_1i lk_1s (by decide)) (by decide)) rfl ?_
  refine iq_if_lt hS 31 J_MDotRows_inPicture_d28 (t := 77) rfl (fun q28 => ?_) rfl (fun q28 => ?_)
  · replace h := ed_pos q28 h
    refine iq_iconst hS 78 J_MDotRows_inPicture_d77 (v := 0) (by decide +kernel) rfl ?_
    exact iq_iret J_MDotRows_inPicture_d78 rfl rfl ⟨_, rfl, rfl, ed_some h⟩
  · replace h := ed_neg q28 h
    refine iq_iload_n hS 32 J_MDotRows_inPicture_d31 (lk_1i (lk_1i lk_1s (by decide)) (by decide)) rfl ?_
    refine iq_aload_n hS 33 J_MDotRows_inPicture_d32 (lk_1r (lk_1r (lk_1r l0 (by decide)) (by decide)) (by decide)) rfl ?_
    refine iq_getI hS 36 J_MDotRows_inPicture_d33 lf_12_55 (Or.inl rfl) (ka_89 hM) rfl ?_
    refine iq_icmp_ge hS 39 J_MDotRows_inPicture_d36 (t := 77) rfl (fun q36 => ?_) rfl (fun q36 => ?_)
    · replace h := ed_pos q36 h
      refine iq_iconst hS 78 J_MDotRows_inPicture_d77 (v := 0) (by decide +kernel) rfl ?_
      exact iq_iret J_MDotRows_inPicture_d78 rfl rfl ⟨_, rfl, rfl, ed_some h⟩
    · replace h := ed_neg q36 h
      refine iq_iload hS 41 J_MDotRows_inPicture_d39 (lk_1i lk_1s (by decide)) rfl ?_
      refine iq_if_lt hS 44 J_MDotRows_inPicture_d41 (t := 77) rfl (fun q41 => ?_) rfl (fun q41 => ?_)
      · replace h := ed_pos q41 h
        refine iq_iconst hS 78 J_MDotRows_inPicture_d77 (v := 0) (by decide +kernel) rfl ?_
        exact iq_iret J_MDotRows_inPicture_d78 rfl rfl ⟨_, rfl, rfl, ed_some h⟩
      · replace h := ed_neg q41 h
        refine iq_iload hS 46 J_MDotRows_inPicture_d44 (lk_1i lk_1s (by decide)) rfl ?_
        refine iq_aload_n hS 47 J_MDotRows_inPicture_d46 (lk_1r (lk_1r (lk_1r l0 (by decide)) (by decide)) (by decide)) rfl ?_
        refine iq_getI hS 50 J_MDotRows_inPicture_d47 lf_12_47 (Or.inl rfl) (ka_89 hM) rfl ?_
        refine iq_iload hS 52 J_MDotRows_inPicture_d50 lk_1s rfl ?_
        obtain ⟨g52, h⟩ := ed_gd h
        refine iq_idiv hS 53 J_MDotRows_inPicture_d52 g52 rfl ?_
        refine iq_icmp_ge hS 56 J_MDotRows_inPicture_d53 (t := 77) rfl (fun q53 => ?_) rfl (fun q53 => ?_)
        · replace h := ed_pos q53 h
          refine iq_iconst hS 78 J_MDotRows_inPicture_d77 (v := 0) (by decide +kernel) rfl ?_
          exact iq_iret J_MDotRows_inPicture_d78 rfl rfl ⟨_, rfl, rfl, ed_some h⟩
        · replace h := ed_neg q53 h
          refine iq_aload_n hS 57 J_MDotRows_inPicture_d56 (lk_1r (lk_1r (lk_1r l0 (by decide)) (by decide)) (by decide)) rfl ?_
          refine iq_bipush hS 59 J_MDotRows_inPicture_d57 (v := 8) (by decide +kernel) rfl ?_
          refine iq_iload hS 61 J_MDotRows_inPicture_d59 lk_1s rfl ?_
          refine iq_imul hS 62 J_MDotRows_inPicture_d61 rfl ?_
          refine iq_iload hS 64 J_MDotRows_inPicture_d62 (lk_1i lk_1s (by decide)) rfl ?_
          refine iq_imul hS 65 J_MDotRows_inPicture_d64 rfl ?_
          refine iq_iload_n hS 66 J_MDotRows_inPicture_d65 (lk_1i (lk_1i lk_1s (by decide)) (by decide)) rfl ?_
          refine iq_iadd hS 67 J_MDotRows_inPicture_d66 rfl ?_
          obtain ⟨Q1, hQ1, h⟩ := bd1_ed h
          refine iq_cpI hS 70 J_MDotRows_inPicture_d67 rfl (pr_inst (vs := [_]) lc_12_81 lT_349 rfl rfl (by decide) (by decide) rfl (Nat.le_of_ble_eq_true rfl) (Nat.le_of_ble_eq_true rfl) (fun _ => Or.inl (pr_b (ka_89 hM) (by decide) rfl))) (f_MDotRows_bit_ok (dep := dep + 0) hM h) rfl ?_
          intro x1 h
          replace h := hQ1 _ h
          refine iq_if_eq hS 73 J_MDotRows_inPicture_d70 (t := 77) rfl (fun q70 => ?_) rfl (fun q70 => ?_)
          · replace h := ed_pos q70 h
            refine iq_iconst hS 78 J_MDotRows_inPicture_d77 (v := 0) (by decide +kernel) rfl ?_
            exact iq_iret J_MDotRows_inPicture_d78 rfl rfl ⟨_, rfl, rfl, ed_some h⟩
          · replace h := ed_neg q70 h
            refine iq_iconst hS 74 J_MDotRows_inPicture_d73 (v := 1) (by decide +kernel) rfl ?_
            refine iq_goto hS J_MDotRows_inPicture_d74 (t := 78) rfl ?_
            exact iq_iret J_MDotRows_inPicture_d78 rfl rfl ⟨_, rfl, rfl, ed_some h⟩
noncomputable def f_MDotRows_inOval (p0 : Int64) (p1 : Int64) (p2 : Int64) (p3 : Int64) (M : im_M) : Option (Int32) := if 0 < (lg_cmp (((p0 * p3) * (p0 * p3)) + ((p1 * p2) * (p1 * p2))) ((p2 * p3) * (p2 * p3))) then some 0 else some 1
theorem J_MDotRows_inOval_d0 : decode J_MDotRows_inOval.2.1 0 = .ok (.lload_n 0, 1) := by decide +kernel
theorem J_MDotRows_inOval_d1 : decode J_MDotRows_inOval.2.1 1 = .ok (.lload 6, 2) := by decide +kernel
theorem J_MDotRows_inOval_d3 : decode J_MDotRows_inOval.2.1 3 = .ok (.lmul, 1) := by decide +kernel
theorem J_MDotRows_inOval_d4 : decode J_MDotRows_inOval.2.1 4 = .ok (.lload_n 0, 1) := by decide +kernel
theorem J_MDotRows_inOval_d5 : decode J_MDotRows_inOval.2.1 5 = .ok (.lload 6, 2) := by decide +kernel
theorem J_MDotRows_inOval_d7 : decode J_MDotRows_inOval.2.1 7 = .ok (.lmul, 1) := by decide +kernel
theorem J_MDotRows_inOval_d8 : decode J_MDotRows_inOval.2.1 8 = .ok (.lmul, 1) := by decide +kernel
theorem J_MDotRows_inOval_d9 : decode J_MDotRows_inOval.2.1 9 = .ok (.lload_n 2, 1) := by decide +kernel
theorem J_MDotRows_inOval_d10 : decode J_MDotRows_inOval.2.1 10 = .ok (.lload 4, 2) := by decide +kernel
theorem J_MDotRows_inOval_d12 : decode J_MDotRows_inOval.2.1 12 = .ok (.lmul, 1) := by decide +kernel
theorem J_MDotRows_inOval_d13 : decode J_MDotRows_inOval.2.1 13 = .ok (.lload_n 2, 1) := by decide +kernel
theorem J_MDotRows_inOval_d14 : decode J_MDotRows_inOval.2.1 14 = .ok (.lload 4, 2) := by decide +kernel
theorem J_MDotRows_inOval_d16 : decode J_MDotRows_inOval.2.1 16 = .ok (.lmul, 1) := by decide +kernel
theorem J_MDotRows_inOval_d17 : decode J_MDotRows_inOval.2.1 17 = .ok (.lmul, 1) := by decide +kernel
theorem J_MDotRows_inOval_d18 : decode J_MDotRows_inOval.2.1 18 = .ok (.ladd, 1) := by decide +kernel
theorem J_MDotRows_inOval_d19 : decode J_MDotRows_inOval.2.1 19 = .ok (.lload 4, 2) := by decide +kernel
theorem J_MDotRows_inOval_d21 : decode J_MDotRows_inOval.2.1 21 = .ok (.lload 6, 2) := by decide +kernel
theorem J_MDotRows_inOval_d23 : decode J_MDotRows_inOval.2.1 23 = .ok (.lmul, 1) := by decide +kernel
theorem J_MDotRows_inOval_d24 : decode J_MDotRows_inOval.2.1 24 = .ok (.lload 4, 2) := by decide +kernel
theorem J_MDotRows_inOval_d26 : decode J_MDotRows_inOval.2.1 26 = .ok (.lload 6, 2) := by decide +kernel
theorem J_MDotRows_inOval_d28 : decode J_MDotRows_inOval.2.1 28 = .ok (.lmul, 1) := by decide +kernel
theorem J_MDotRows_inOval_d29 : decode J_MDotRows_inOval.2.1 29 = .ok (.lmul, 1) := by decide +kernel
theorem J_MDotRows_inOval_d30 : decode J_MDotRows_inOval.2.1 30 = .ok (.lcmp, 1) := by decide +kernel
theorem J_MDotRows_inOval_d31 : decode J_MDotRows_inOval.2.1 31 = .ok (.ifCond .gt 7, 3) := by decide +kernel
theorem J_MDotRows_inOval_d34 : decode J_MDotRows_inOval.2.1 34 = .ok (.iconst 1, 1) := by decide +kernel
theorem J_MDotRows_inOval_d35 : decode J_MDotRows_inOval.2.1 35 = .ok (.goto 4, 3) := by decide +kernel
theorem J_MDotRows_inOval_d38 : decode J_MDotRows_inOval.2.1 38 = .ok (.iconst 0, 1) := by decide +kernel
theorem J_MDotRows_inOval_d39 : decode J_MDotRows_inOval.2.1 39 = .ok (.ireturn, 1) := by decide +kernel
theorem f_MDotRows_inOval_ok {L : Nat} {xs : Nat → Int32} {dep : Nat} {w : Bool} {p0 : Int64} {p1 : Int64} {p2 : Int64} {p3 : Int64} {M : im_M} {Q : Int32 → Prop} (hM : lw_S w M) (h : ed (f_MDotRows_inOval p0 p1 p2 p3 M) Q) : ia (tb_G L xs) dep J_MDotRows_inOval (rpI M Q) (0, lv_args 0 [.long p0, .long p1, .long p2, .long p3], [], M) := by
  have hS : im_St (tb_G L xs) dep J_MDotRows_inOval (ia (tb_G L xs) dep J_MDotRows_inOval (rpI M Q)) := ia_St
  unfold f_MDotRows_inOval at h
  have l0 : im_lk (lv_args 0 [.long p0, .long p1, .long p2, .long p3]) 0 = some (.long p0) := rfl
  have l2 : im_lk (lv_args 0 [.long p0, .long p1, .long p2, .long p3]) 2 = some (.long p1) := rfl
  have l4 : im_lk (lv_args 0 [.long p0, .long p1, .long p2, .long p3]) 4 = some (.long p2) := rfl
  have l6 : im_lk (lv_args 0 [.long p0, .long p1, .long p2, .long p3]) 6 = some (.long p3) := rfl
  refine iq_lload_n hS 1 J_MDotRows_inOval_d0 l0 rfl ?_
  refine iq_lload hS 3 J_MDotRows_inOval_d1 l6 rfl ?_
  refine iq_lmul hS 4 J_MDotRows_inOval_d3 rfl ?_
  refine iq_lload_n hS 5 J_MDotRows_inOval_d4 l0 rfl ?_
  refine iq_lload hS 7 J_MDotRows_inOval_d5 l6 rfl ?_
  refine iq_lmul hS 8 J_MDotRows_inOval_d7 rfl ?_
  refine iq_lmul hS 9 J_MDotRows_inOval_d8 rfl ?_
  refine iq_lload_n hS 10 J_MDotRows_inOval_d9 l2 rfl ?_
  refine iq_lload hS 12 J_MDotRows_inOval_d10 l4 rfl ?_
  refine iq_lmul hS 13 J_MDotRows_inOval_d12 rfl ?_
  refine iq_lload_n hS 14 J_MDotRows_inOval_d13 l2 rfl ?_
  refine iq_lload hS 16 J_MDotRows_inOval_d14 l4 rfl ?_
  refine iq_lmul hS 17 J_MDotRows_inOval_d16 rfl ?_
  refine iq_lmul hS 18 J_MDotRows_inOval_d17 rfl ?_
  refine iq_ladd hS 19 J_MDotRows_inOval_d18 rfl ?_
  refine iq_lload hS 21 J_MDotRows_inOval_d19 l4 rfl ?_
  refine iq_lload hS 23 J_MDotRows_inOval_d21 l6 rfl ?_
  refine iq_lmul hS 24 J_MDotRows_inOval_d23 rfl ?_
  refine iq_lload hS 26 J_MDotRows_inOval_d24 l4 rfl ?_
  refine iq_lload hS 28 J_MDotRows_inOval_d26 l6 rfl ?_
  refine iq_lmul hS 29 J_MDotRows_inOval_d28 rfl ?_
  refine iq_lmul hS 30 J_MDotRows_inOval_d29 rfl ?_
  refine iq_lcmp hS 31 J_MDotRows_inOval_d30 rfl ?_
  refine iq_if_gt hS 34 J_MDotRows_inOval_d31 (t := 38) rfl (fun q31 => ?_) rfl (fun q31 => ?_)
  · replace h := ed_pos q31 h
    refine iq_iconst hS 39 J_MDotRows_inOval_d38 (v := 0) (by decide +kernel) rfl ?_
    exact iq_iret J_MDotRows_inOval_d39 rfl rfl ⟨_, rfl, rfl, ed_some h⟩
  · replace h := ed_neg q31 h
    refine iq_iconst hS 35 J_MDotRows_inOval_d34 (v := 1) (by decide +kernel) rfl ?_
    refine iq_goto hS J_MDotRows_inOval_d35 (t := 39) rfl ?_
    exact iq_iret J_MDotRows_inOval_d39 rfl rfl ⟨_, rfl, rfl, ed_some h⟩
noncomputable def f_MDotRows_inEllipse (p0 : Int32) (p1 : Int32) (M : im_M) : Option (Int32) := bd1 (f_MDotRows_inOval (((2 : Int64) * (Int32.toInt64 (p0 - (im_i M 89 10)))) - (Int32.toInt64 ((im_i M 89 12) - 1))) (((2 : Int64) * (Int32.toInt64 (p1 - (im_i M 89 11)))) - (Int32.toInt64 ((im_i M 89 13) - 1))) (Int32.toInt64 (im_i M 89 12)) (Int32.toInt64 (im_i M 89 13)) M) fun (x1 : Int32) => if x1 = 0 then some 0 else jn0 (fun (_ : Unit) => some 1) fun k2 => if (lg_cmp ((Int32.toInt64 (im_i M 89 12)) - ((2 : Int64) * (Int32.toInt64 (im_i M 89 14)))) 0) ≤ 0 then k2 () else if (lg_cmp ((Int32.toInt64 (im_i M 89 13)) - ((2 : Int64) * (Int32.toInt64 (im_i M 89 14)))) 0) ≤ 0 then k2 () else bd1 (f_MDotRows_inOval (((2 : Int64) * (Int32.toInt64 (p0 - (im_i M 89 10)))) - (Int32.toInt64 ((im_i M 89 12) - 1))) (((2 : Int64) * (Int32.toInt64 (p1 - (im_i M 89 11)))) - (Int32.toInt64 ((im_i M 89 13) - 1))) ((Int32.toInt64 (im_i M 89 12)) - ((2 : Int64) * (Int32.toInt64 (im_i M 89 14)))) ((Int32.toInt64 (im_i M 89 13)) - ((2 : Int64) * (Int32.toInt64 (im_i M 89 14)))) M) fun (x3 : Int32) => if ¬ x3 = 0 then some 0 else k2 ()
theorem J_MDotRows_inEllipse_d0 : decode J_MDotRows_inEllipse.2.1 0 = .ok (.ldc2_w 69, 3) := by decide +kernel
theorem J_MDotRows_inEllipse_d3 : decode J_MDotRows_inEllipse.2.1 3 = .ok (.iload_n 1, 1) := by decide +kernel
theorem J_MDotRows_inEllipse_d4 : decode J_MDotRows_inEllipse.2.1 4 = .ok (.aload_n 0, 1) := by decide +kernel
theorem J_MDotRows_inEllipse_d5 : decode J_MDotRows_inEllipse.2.1 5 = .ok (.getfield 52, 3) := by decide +kernel
theorem J_MDotRows_inEllipse_d8 : decode J_MDotRows_inEllipse.2.1 8 = .ok (.isub, 1) := by decide +kernel
theorem J_MDotRows_inEllipse_d9 : decode J_MDotRows_inEllipse.2.1 9 = .ok (.i2l, 1) := by decide +kernel
theorem J_MDotRows_inEllipse_d10 : decode J_MDotRows_inEllipse.2.1 10 = .ok (.lmul, 1) := by decide +kernel
theorem J_MDotRows_inEllipse_d11 : decode J_MDotRows_inEllipse.2.1 11 = .ok (.aload_n 0, 1) := by decide +kernel
theorem J_MDotRows_inEllipse_d12 : decode J_MDotRows_inEllipse.2.1 12 = .ok (.getfield 55, 3) := by decide +kernel
theorem J_MDotRows_inEllipse_d15 : decode J_MDotRows_inEllipse.2.1 15 = .ok (.iconst 1, 1) := by decide +kernel
theorem J_MDotRows_inEllipse_d16 : decode J_MDotRows_inEllipse.2.1 16 = .ok (.isub, 1) := by decide +kernel
theorem J_MDotRows_inEllipse_d17 : decode J_MDotRows_inEllipse.2.1 17 = .ok (.i2l, 1) := by decide +kernel
theorem J_MDotRows_inEllipse_d18 : decode J_MDotRows_inEllipse.2.1 18 = .ok (.lsub, 1) := by decide +kernel
theorem J_MDotRows_inEllipse_d19 : decode J_MDotRows_inEllipse.2.1 19 = .ok (.lstore_n 3, 1) := by decide +kernel
theorem J_MDotRows_inEllipse_d20 : decode J_MDotRows_inEllipse.2.1 20 = .ok (.ldc2_w 69, 3) := by decide +kernel
theorem J_MDotRows_inEllipse_d23 : decode J_MDotRows_inEllipse.2.1 23 = .ok (.iload_n 2, 1) := by decide +kernel
theorem J_MDotRows_inEllipse_d24 : decode J_MDotRows_inEllipse.2.1 24 = .ok (.aload_n 0, 1) := by decide +kernel
theorem J_MDotRows_inEllipse_d25 : decode J_MDotRows_inEllipse.2.1 25 = .ok (.getfield 58, 3) := by decide +kernel
theorem J_MDotRows_inEllipse_d28 : decode J_MDotRows_inEllipse.2.1 28 = .ok (.isub, 1) := by decide +kernel
theorem J_MDotRows_inEllipse_d29 : decode J_MDotRows_inEllipse.2.1 29 = .ok (.i2l, 1) := by decide +kernel
theorem J_MDotRows_inEllipse_d30 : decode J_MDotRows_inEllipse.2.1 30 = .ok (.lmul, 1) := by decide +kernel
theorem J_MDotRows_inEllipse_d31 : decode J_MDotRows_inEllipse.2.1 31 = .ok (.aload_n 0, 1) := by decide +kernel
theorem J_MDotRows_inEllipse_d32 : decode J_MDotRows_inEllipse.2.1 32 = .ok (.getfield 61, 3) := by decide +kernel
theorem J_MDotRows_inEllipse_d35 : decode J_MDotRows_inEllipse.2.1 35 = .ok (.iconst 1, 1) := by decide +kernel
theorem J_MDotRows_inEllipse_d36 : decode J_MDotRows_inEllipse.2.1 36 = .ok (.isub, 1) := by decide +kernel
theorem J_MDotRows_inEllipse_d37 : decode J_MDotRows_inEllipse.2.1 37 = .ok (.i2l, 1) := by decide +kernel
theorem J_MDotRows_inEllipse_d38 : decode J_MDotRows_inEllipse.2.1 38 = .ok (.lsub, 1) := by decide +kernel
theorem J_MDotRows_inEllipse_d39 : decode J_MDotRows_inEllipse.2.1 39 = .ok (.lstore 5, 2) := by decide +kernel
theorem J_MDotRows_inEllipse_d41 : decode J_MDotRows_inEllipse.2.1 41 = .ok (.aload_n 0, 1) := by decide +kernel
theorem J_MDotRows_inEllipse_d42 : decode J_MDotRows_inEllipse.2.1 42 = .ok (.getfield 55, 3) := by decide +kernel
theorem J_MDotRows_inEllipse_d45 : decode J_MDotRows_inEllipse.2.1 45 = .ok (.i2l, 1) := by decide +kernel
theorem J_MDotRows_inEllipse_d46 : decode J_MDotRows_inEllipse.2.1 46 = .ok (.ldc2_w 69, 3) := by decide +kernel
theorem J_MDotRows_inEllipse_d49 : decode J_MDotRows_inEllipse.2.1 49 = .ok (.aload_n 0, 1) := by decide +kernel
theorem J_MDotRows_inEllipse_d50 : decode J_MDotRows_inEllipse.2.1 50 = .ok (.getfield 64, 3) := by decide +kernel
theorem J_MDotRows_inEllipse_d53 : decode J_MDotRows_inEllipse.2.1 53 = .ok (.i2l, 1) := by decide +kernel
theorem J_MDotRows_inEllipse_d54 : decode J_MDotRows_inEllipse.2.1 54 = .ok (.lmul, 1) := by decide +kernel
theorem J_MDotRows_inEllipse_d55 : decode J_MDotRows_inEllipse.2.1 55 = .ok (.lsub, 1) := by decide +kernel
theorem J_MDotRows_inEllipse_d56 : decode J_MDotRows_inEllipse.2.1 56 = .ok (.lstore 7, 2) := by decide +kernel
theorem J_MDotRows_inEllipse_d58 : decode J_MDotRows_inEllipse.2.1 58 = .ok (.aload_n 0, 1) := by decide +kernel
theorem J_MDotRows_inEllipse_d59 : decode J_MDotRows_inEllipse.2.1 59 = .ok (.getfield 61, 3) := by decide +kernel
theorem J_MDotRows_inEllipse_d62 : decode J_MDotRows_inEllipse.2.1 62 = .ok (.i2l, 1) := by decide +kernel
theorem J_MDotRows_inEllipse_d63 : decode J_MDotRows_inEllipse.2.1 63 = .ok (.ldc2_w 69, 3) := by decide +kernel
theorem J_MDotRows_inEllipse_d66 : decode J_MDotRows_inEllipse.2.1 66 = .ok (.aload_n 0, 1) := by decide +kernel
theorem J_MDotRows_inEllipse_d67 : decode J_MDotRows_inEllipse.2.1 67 = .ok (.getfield 64, 3) := by decide +kernel
theorem J_MDotRows_inEllipse_d70 : decode J_MDotRows_inEllipse.2.1 70 = .ok (.i2l, 1) := by decide +kernel
theorem J_MDotRows_inEllipse_d71 : decode J_MDotRows_inEllipse.2.1 71 = .ok (.lmul, 1) := by decide +kernel
theorem J_MDotRows_inEllipse_d72 : decode J_MDotRows_inEllipse.2.1 72 = .ok (.lsub, 1) := by decide +kernel
theorem J_MDotRows_inEllipse_d73 : decode J_MDotRows_inEllipse.2.1 73 = .ok (.lstore 9, 2) := by decide +kernel
theorem J_MDotRows_inEllipse_d75 : decode J_MDotRows_inEllipse.2.1 75 = .ok (.lload_n 3, 1) := by decide +kernel
theorem J_MDotRows_inEllipse_d76 : decode J_MDotRows_inEllipse.2.1 76 = .ok (.lload 5, 2) := by decide +kernel
theorem J_MDotRows_inEllipse_d78 : decode J_MDotRows_inEllipse.2.1 78 = .ok (.aload_n 0, 1) := by decide +kernel
theorem J_MDotRows_inEllipse_d79 : decode J_MDotRows_inEllipse.2.1 79 = .ok (.getfield 55, 3) := by decide +kernel
theorem J_MDotRows_inEllipse_d82 : decode J_MDotRows_inEllipse.2.1 82 = .ok (.i2l, 1) := by decide +kernel
theorem J_MDotRows_inEllipse_d83 : decode J_MDotRows_inEllipse.2.1 83 = .ok (.aload_n 0, 1) := by decide +kernel
theorem J_MDotRows_inEllipse_d84 : decode J_MDotRows_inEllipse.2.1 84 = .ok (.getfield 61, 3) := by decide +kernel
theorem J_MDotRows_inEllipse_d87 : decode J_MDotRows_inEllipse.2.1 87 = .ok (.i2l, 1) := by decide +kernel
theorem J_MDotRows_inEllipse_d88 : decode J_MDotRows_inEllipse.2.1 88 = .ok (.invokestatic 71, 3) := by decide +kernel
theorem J_MDotRows_inEllipse_d91 : decode J_MDotRows_inEllipse.2.1 91 = .ok (.ifCond .eq 34, 3) := by decide +kernel
theorem J_MDotRows_inEllipse_d94 : decode J_MDotRows_inEllipse.2.1 94 = .ok (.lload 7, 2) := by decide +kernel
theorem J_MDotRows_inEllipse_d96 : decode J_MDotRows_inEllipse.2.1 96 = .ok (.lconst 0, 1) := by decide +kernel
theorem J_MDotRows_inEllipse_d97 : decode J_MDotRows_inEllipse.2.1 97 = .ok (.lcmp, 1) := by decide +kernel
theorem J_MDotRows_inEllipse_d98 : decode J_MDotRows_inEllipse.2.1 98 = .ok (.ifCond .le 23, 3) := by decide +kernel
theorem J_MDotRows_inEllipse_d101 : decode J_MDotRows_inEllipse.2.1 101 = .ok (.lload 9, 2) := by decide +kernel
theorem J_MDotRows_inEllipse_d103 : decode J_MDotRows_inEllipse.2.1 103 = .ok (.lconst 0, 1) := by decide +kernel
theorem J_MDotRows_inEllipse_d104 : decode J_MDotRows_inEllipse.2.1 104 = .ok (.lcmp, 1) := by decide +kernel
theorem J_MDotRows_inEllipse_d105 : decode J_MDotRows_inEllipse.2.1 105 = .ok (.ifCond .le 16, 3) := by decide +kernel
theorem J_MDotRows_inEllipse_d108 : decode J_MDotRows_inEllipse.2.1 108 = .ok (.lload_n 3, 1) := by decide +kernel
theorem J_MDotRows_inEllipse_d109 : decode J_MDotRows_inEllipse.2.1 109 = .ok (.lload 5, 2) := by decide +kernel
theorem J_MDotRows_inEllipse_d111 : decode J_MDotRows_inEllipse.2.1 111 = .ok (.lload 7, 2) := by decide +kernel
theorem J_MDotRows_inEllipse_d113 : decode J_MDotRows_inEllipse.2.1 113 = .ok (.lload 9, 2) := by decide +kernel
theorem J_MDotRows_inEllipse_d115 : decode J_MDotRows_inEllipse.2.1 115 = .ok (.invokestatic 71, 3) := by decide +kernel
theorem J_MDotRows_inEllipse_d118 : decode J_MDotRows_inEllipse.2.1 118 = .ok (.ifCond .ne 7, 3) := by decide +kernel
theorem J_MDotRows_inEllipse_d121 : decode J_MDotRows_inEllipse.2.1 121 = .ok (.iconst 1, 1) := by decide +kernel
theorem J_MDotRows_inEllipse_d122 : decode J_MDotRows_inEllipse.2.1 122 = .ok (.goto 4, 3) := by decide +kernel
theorem J_MDotRows_inEllipse_d125 : decode J_MDotRows_inEllipse.2.1 125 = .ok (.iconst 0, 1) := by decide +kernel
theorem J_MDotRows_inEllipse_d126 : decode J_MDotRows_inEllipse.2.1 126 = .ok (.ireturn, 1) := by decide +kernel
theorem f_MDotRows_inEllipse_ok {L : Nat} {xs : Nat → Int32} {dep : Nat} {w : Bool} {p0 : Int32} {p1 : Int32} {M : im_M} {Q : Int32 → Prop} (hM : lw_S w M) (h : ed (f_MDotRows_inEllipse p0 p1 M) Q) : ia (tb_G L xs) (dep + 1) J_MDotRows_inEllipse (rpI M Q) (0, lv_args 0 [.ref 89, .int p0, .int p1], [], M) := by
  have hS : im_St (tb_G L xs) (dep + 1) J_MDotRows_inEllipse (ia (tb_G L xs) (dep + 1) J_MDotRows_inEllipse (rpI M Q)) := ia_St
  unfold f_MDotRows_inEllipse at h
  have l0 : im_lk (lv_args 0 [.ref 89, .int p0, .int p1]) 0 = some (.ref 89) := rfl
  have l1 : im_lk (lv_args 0 [.ref 89, .int p0, .int p1]) 1 = some (.int p0) := rfl
  have l2 : im_lk (lv_args 0 [.ref 89, .int p0, .int p1]) 2 = some (.int p1) := rfl
  refine iq_ldc2_w hS 3 J_MDotRows_inEllipse_d0 lk_12_69 rfl ?_
  refine iq_iload_n hS 4 J_MDotRows_inEllipse_d3 l1 rfl ?_
  refine iq_aload_n hS 5 J_MDotRows_inEllipse_d4 l0 rfl ?_
  refine iq_getI hS 8 J_MDotRows_inEllipse_d5 lf_12_52 (Or.inl rfl) (ka_89 hM) rfl ?_
  refine iq_isub hS 9 J_MDotRows_inEllipse_d8 rfl ?_
  refine iq_i2l hS 10 J_MDotRows_inEllipse_d9 rfl ?_
  refine iq_lmul hS 11 J_MDotRows_inEllipse_d10 rfl ?_
  refine iq_aload_n hS 12 J_MDotRows_inEllipse_d11 l0 rfl ?_
  refine iq_getI hS 15 J_MDotRows_inEllipse_d12 lf_12_55 (Or.inl rfl) (ka_89 hM) rfl ?_
  refine iq_iconst hS 16 J_MDotRows_inEllipse_d15 (v := 1) (by decide +kernel) rfl ?_
  refine iq_isub hS 17 J_MDotRows_inEllipse_d16 rfl ?_
  refine iq_i2l hS 18 J_MDotRows_inEllipse_d17 rfl ?_
  refine iq_lsub hS 19 J_MDotRows_inEllipse_d18 rfl ?_
  refine iq_lstore_n hS 20 J_MDotRows_inEllipse_d19 (by decide) rfl ?_
  refine iq_ldc2_w hS 23 J_MDotRows_inEllipse_d20 lk_12_69 rfl ?_
  refine iq_iload_n hS 24 J_MDotRows_inEllipse_d23 (lk_2i l2 (by decide) (by decide)) rfl ?_
  refine iq_aload_n hS 25 J_MDotRows_inEllipse_d24 (lk_2r l0 (by decide) (by decide)) rfl ?_
  refine iq_getI hS 28 J_MDotRows_inEllipse_d25 lf_12_58 (Or.inl rfl) (ka_89 hM) rfl ?_
  refine iq_isub hS 29 J_MDotRows_inEllipse_d28 rfl ?_
  refine iq_i2l hS 30 J_MDotRows_inEllipse_d29 rfl ?_
  refine iq_lmul hS 31 J_MDotRows_inEllipse_d30 rfl ?_
  refine iq_aload_n hS 32 J_MDotRows_inEllipse_d31 (lk_2r l0 (by decide) (by decide)) rfl ?_
  refine iq_getI hS 35 J_MDotRows_inEllipse_d32 lf_12_61 (Or.inl rfl) (ka_89 hM) rfl ?_
  refine iq_iconst hS 36 J_MDotRows_inEllipse_d35 (v := 1) (by decide +kernel) rfl ?_
  refine iq_isub hS 37 J_MDotRows_inEllipse_d36 rfl ?_
  refine iq_i2l hS 38 J_MDotRows_inEllipse_d37 rfl ?_
  refine iq_lsub hS 39 J_MDotRows_inEllipse_d38 rfl ?_
  refine iq_lstore hS 41 J_MDotRows_inEllipse_d39 (by decide) rfl ?_
  refine iq_aload_n hS 42 J_MDotRows_inEllipse_d41 (lk_2r (lk_2r l0 (by decide) (by decide)) (by decide) (by decide)) rfl ?_
  refine iq_getI hS 45 J_MDotRows_inEllipse_d42 lf_12_55 (Or.inl rfl) (ka_89 hM) rfl ?_
  refine iq_i2l hS 46 J_MDotRows_inEllipse_d45 rfl ?_
  refine iq_ldc2_w hS 49 J_MDotRows_inEllipse_d46 lk_12_69 rfl ?_
  refine iq_aload_n hS 50 J_MDotRows_inEllipse_d49 (lk_2r (lk_2r l0 (by decide) (by decide)) (by decide) (by decide)) rfl ?_
  refine iq_getI hS 53 J_MDotRows_inEllipse_d50 lf_12_64 (Or.inl rfl) (ka_89 hM) rfl ?_
  refine iq_i2l hS 54 J_MDotRows_inEllipse_d53 rfl ?_
  refine iq_lmul hS 55 J_MDotRows_inEllipse_d54 rfl ?_
  refine iq_lsub hS 56 J_MDotRows_inEllipse_d55 rfl ?_
  refine iq_lstore hS 58 J_MDotRows_inEllipse_d56 (by decide) rfl ?_
  refine iq_aload_n hS 59 J_MDotRows_inEllipse_d58 (lk_2r (lk_2r (lk_2r l0 (by decide) (by decide)) (by decide) (by decide)) (by decide) (by decide)) rfl ?_
  refine iq_getI hS 62 J_MDotRows_inEllipse_d59 lf_12_61 (Or.inl rfl) (ka_89 hM) rfl ?_
  refine iq_i2l hS 63 J_MDotRows_inEllipse_d62 rfl ?_
  refine iq_ldc2_w hS 66 J_MDotRows_inEllipse_d63 lk_12_69 rfl ?_
  refine iq_aload_n hS 67 J_MDotRows_inEllipse_d66 (lk_2r (lk_2r (lk_2r l0 (by decide) (by decide)) (by decide) (by decide)) (by decide) (by decide)) rfl ?_
  refine iq_getI hS 70 J_MDotRows_inEllipse_d67 lf_12_64 (Or.inl rfl) (ka_89 hM) rfl ?_
  refine iq_i2l hS 71 J_MDotRows_inEllipse_d70 rfl ?_
  refine iq_lmul hS 72 J_MDotRows_inEllipse_d71 rfl ?_
  refine iq_lsub hS 73 J_MDotRows_inEllipse_d72 rfl ?_
  refine iq_lstore hS 75 J_MDotRows_inEllipse_d73 (by decide) rfl ?_
  refine iq_lload_n hS 76 J_MDotRows_inEllipse_d75 (lk_2l (lk_2l (lk_2l lk_2s (by decide) (by decide) (by decide)) (by decide) (by decide) (by decide)) (by decide) (by decide) (by decide)) rfl ?_
  refine iq_lload hS 78 J_MDotRows_inEllipse_d76 (lk_2l (lk_2l lk_2s (by decide) (by decide) (by decide)) (by decide) (by decide) (by decide)) rfl ?_
  refine iq_aload_n hS 79 J_MDotRows_inEllipse_d78 (lk_2r (lk_2r (lk_2r (lk_2r l0 (by decide) (by decide)) (by decide) (by decide)) (by decide) (by decide)) (by decide) (by decide)) rfl ?_
  refine iq_getI hS 82 J_MDotRows_inEllipse_d79 lf_12_55 (Or.inl rfl) (ka_89 hM) rfl ?_
  refine iq_i2l hS 83 J_MDotRows_inEllipse_d82 rfl ?_
  refine iq_aload_n hS 84 J_MDotRows_inEllipse_d83 (lk_2r (lk_2r (lk_2r (lk_2r l0 (by decide) (by decide)) (by decide) (by decide)) (by decide) (by decide)) (by decide) (by decide)) rfl ?_
  refine iq_getI hS 87 J_MDotRows_inEllipse_d84 lf_12_61 (Or.inl rfl) (ka_89 hM) rfl ?_
  refine iq_i2l hS 88 J_MDotRows_inEllipse_d87 rfl ?_
  obtain ⟨Q1, hQ1, h⟩ := bd1_ed h
  refine iq_cpI hS 91 J_MDotRows_inEllipse_d88 rfl (pr_stat (vs := [_, _, _, _]) lc_12_71 lT_347 rfl rfl (by decide) rfl (Nat.le_of_ble_eq_true rfl) (Nat.le_of_ble_eq_true rfl)) (f_MDotRows_inOval_ok (dep := dep + 0) hM h) rfl ?_
  intro x1 h
  replace h := hQ1 _ h
  refine iq_if_eq hS 94 J_MDotRows_inEllipse_d91 (t := 125) rfl (fun q91 => ?_) rfl (fun q91 => ?_)
  · replace h := ed_pos q91 h
    refine iq_iconst hS 126 J_MDotRows_inEllipse_d125 (v := 0) (by decide +kernel) rfl ?_
    exact iq_iret J_MDotRows_inEllipse_d126 rfl rfl ⟨_, rfl, rfl, ed_some h⟩
  · replace h := ed_neg q91 h
    refine iq_lload hS 96 J_MDotRows_inEllipse_d94 (lk_2l lk_2s (by decide) (by decide) (by decide)) rfl ?_
    refine iq_lconst hS 97 J_MDotRows_inEllipse_d96 (v := 0) (by decide +kernel) rfl ?_
    refine iq_lcmp hS 98 J_MDotRows_inEllipse_d97 rfl ?_
    obtain ⟨k2, Q2, hQ2, hk2, h⟩ := jn0_ed h
    have J2 : ∀  (L' : List (Nat × Value)), Q2 () → ia (tb_G L xs) (dep + 1) J_MDotRows_inEllipse (rpI M Q) (121, L', [], M) := by
      intro  L'  h
      replace h := hQ2  h
      refine iq_iconst hS 122 J_MDotRows_inEllipse_d121 (v := 1) (by decide +kernel) rfl ?_
      refine iq_goto hS J_MDotRows_inEllipse_d122 (t := 126) rfl ?_
      exact iq_iret J_MDotRows_inEllipse_d126 rfl rfl ⟨_, rfl, rfl, ed_some h⟩
    refine iq_if_le hS 101 J_MDotRows_inEllipse_d98 (t := 121) rfl (fun q98 => ?_) rfl (fun q98 => ?_)
    · replace h := ed_pos q98 h
      exact J2  _  (hk2  h)
    · replace h := ed_neg q98 h
      refine iq_lload hS 103 J_MDotRows_inEllipse_d101 lk_2s rfl ?_
      refine iq_lconst hS 104 J_MDotRows_inEllipse_d103 (v := 0) (by decide +kernel) rfl ?_
      refine iq_lcmp hS 105 J_MDotRows_inEllipse_d104 rfl ?_
      refine iq_if_le hS 108 J_MDotRows_inEllipse_d105 (t := 121) rfl (fun q105 => ?_) rfl (fun q105 => ?_)
      · replace h := ed_pos q105 h
        exact J2  _  (hk2  h)
      · replace h := ed_neg q105 h
        refine iq_lload_n hS 109 J_MDotRows_inEllipse_d108 (lk_2l (lk_2l (lk_2l lk_2s (by decide) (by decide) (by decide)) (by decide) (by decide) (by decide)) (by decide) (by decide) (by decide)) rfl ?_
        refine iq_lload hS 111 J_MDotRows_inEllipse_d109 (lk_2l (lk_2l lk_2s (by decide) (by decide) (by decide)) (by decide) (by decide) (by decide)) rfl ?_
        refine iq_lload hS 113 J_MDotRows_inEllipse_d111 (lk_2l lk_2s (by decide) (by decide) (by decide)) rfl ?_
        refine iq_lload hS 115 J_MDotRows_inEllipse_d113 lk_2s rfl ?_
        obtain ⟨Q3, hQ3, h⟩ := bd1_ed h
        refine iq_cpI hS 118 J_MDotRows_inEllipse_d115 rfl (pr_stat (vs := [_, _, _, _]) lc_12_71 lT_347 rfl rfl (by decide) rfl (Nat.le_of_ble_eq_true rfl) (Nat.le_of_ble_eq_true rfl)) (f_MDotRows_inOval_ok (dep := dep + 0) hM h) rfl ?_
        intro x3 h
        replace h := hQ3 _ h
        refine iq_if_ne hS 121 J_MDotRows_inEllipse_d118 (t := 125) rfl (fun q118 => ?_) rfl (fun q118 => ?_)
        · replace h := ed_pos q118 h
          refine iq_iconst hS 126 J_MDotRows_inEllipse_d125 (v := 0) (by decide +kernel) rfl ?_
          exact iq_iret J_MDotRows_inEllipse_d126 rfl rfl ⟨_, rfl, rfl, ed_some h⟩
        · replace h := ed_neg q118 h
          exact J2  _  (hk2  h)
noncomputable def f_MDotRows_inLine (p0 : Int32) (p1 : Int32) (M : im_M) : Option (Int32) := if 0 < (lg_cmp (((Int32.toInt64 ((im_i M 89 12) - (im_i M 89 10))) * (Int32.toInt64 (p0 - (im_i M 89 10)))) + ((Int32.toInt64 ((im_i M 89 13) - (im_i M 89 11))) * (Int32.toInt64 (p1 - (im_i M 89 11))))) 0) then if (lg_cmp (((Int32.toInt64 ((im_i M 89 12) - (im_i M 89 10))) * (Int32.toInt64 (p0 - (im_i M 89 10)))) + ((Int32.toInt64 ((im_i M 89 13) - (im_i M 89 11))) * (Int32.toInt64 (p1 - (im_i M 89 11))))) (((Int32.toInt64 ((im_i M 89 12) - (im_i M 89 10))) * (Int32.toInt64 ((im_i M 89 12) - (im_i M 89 10)))) + ((Int32.toInt64 ((im_i M 89 13) - (im_i M 89 11))) * (Int32.toInt64 ((im_i M 89 13) - (im_i M 89 11)))))) < 0 then if 0 < (lg_cmp (((4 : Int64) * (((Int32.toInt64 ((im_i M 89 12) - (im_i M 89 10))) * (Int32.toInt64 (p1 - (im_i M 89 11)))) - ((Int32.toInt64 ((im_i M 89 13) - (im_i M 89 11))) * (Int32.toInt64 (p0 - (im_i M 89 10)))))) * (((Int32.toInt64 ((im_i M 89 12) - (im_i M 89 10))) * (Int32.toInt64 (p1 - (im_i M 89 11)))) - ((Int32.toInt64 ((im_i M 89 13) - (im_i M 89 11))) * (Int32.toInt64 (p0 - (im_i M 89 10)))))) (((Int32.toInt64 (im_i M 89 14)) * (Int32.toInt64 (im_i M 89 14))) * (((Int32.toInt64 ((im_i M 89 12) - (im_i M 89 10))) * (Int32.toInt64 ((im_i M 89 12) - (im_i M 89 10)))) + ((Int32.toInt64 ((im_i M 89 13) - (im_i M 89 11))) * (Int32.toInt64 ((im_i M 89 13) - (im_i M 89 11))))))) then some 0 else some 1 else if 0 < (lg_cmp ((4 : Int64) * ((((Int32.toInt64 (p0 - (im_i M 89 10))) - (Int32.toInt64 ((im_i M 89 12) - (im_i M 89 10)))) * ((Int32.toInt64 (p0 - (im_i M 89 10))) - (Int32.toInt64 ((im_i M 89 12) - (im_i M 89 10))))) + (((Int32.toInt64 (p1 - (im_i M 89 11))) - (Int32.toInt64 ((im_i M 89 13) - (im_i M 89 11)))) * ((Int32.toInt64 (p1 - (im_i M 89 11))) - (Int32.toInt64 ((im_i M 89 13) - (im_i M 89 11))))))) ((Int32.toInt64 (im_i M 89 14)) * (Int32.toInt64 (im_i M 89 14)))) then some 0 else some 1 else if 0 < (lg_cmp ((4 : Int64) * (((Int32.toInt64 (p0 - (im_i M 89 10))) * (Int32.toInt64 (p0 - (im_i M 89 10)))) + ((Int32.toInt64 (p1 - (im_i M 89 11))) * (Int32.toInt64 (p1 - (im_i M 89 11)))))) ((Int32.toInt64 (im_i M 89 14)) * (Int32.toInt64 (im_i M 89 14)))) then some 0 else some 1
theorem J_MDotRows_inLine_d0 : decode J_MDotRows_inLine.2.1 0 = .ok (.aload_n 0, 1) := by decide +kernel
theorem J_MDotRows_inLine_d1 : decode J_MDotRows_inLine.2.1 1 = .ok (.getfield 55, 3) := by decide +kernel
theorem J_MDotRows_inLine_d4 : decode J_MDotRows_inLine.2.1 4 = .ok (.aload_n 0, 1) := by decide +kernel
theorem J_MDotRows_inLine_d5 : decode J_MDotRows_inLine.2.1 5 = .ok (.getfield 52, 3) := by decide +kernel
theorem J_MDotRows_inLine_d8 : decode J_MDotRows_inLine.2.1 8 = .ok (.isub, 1) := by decide +kernel
theorem J_MDotRows_inLine_d9 : decode J_MDotRows_inLine.2.1 9 = .ok (.i2l, 1) := by decide +kernel
theorem J_MDotRows_inLine_d10 : decode J_MDotRows_inLine.2.1 10 = .ok (.lstore_n 3, 1) := by decide +kernel
theorem J_MDotRows_inLine_d11 : decode J_MDotRows_inLine.2.1 11 = .ok (.aload_n 0, 1) := by decide +kernel
theorem J_MDotRows_inLine_d12 : decode J_MDotRows_inLine.2.1 12 = .ok (.getfield 61, 3) := by decide +kernel
theorem J_MDotRows_inLine_d15 : decode J_MDotRows_inLine.2.1 15 = .ok (.aload_n 0, 1) := by decide +kernel
theorem J_MDotRows_inLine_d16 : decode J_MDotRows_inLine.2.1 16 = .ok (.getfield 58, 3) := by decide +kernel
theorem J_MDotRows_inLine_d19 : decode J_MDotRows_inLine.2.1 19 = .ok (.isub, 1) := by decide +kernel
theorem J_MDotRows_inLine_d20 : decode J_MDotRows_inLine.2.1 20 = .ok (.i2l, 1) := by decide +kernel
theorem J_MDotRows_inLine_d21 : decode J_MDotRows_inLine.2.1 21 = .ok (.lstore 5, 2) := by decide +kernel
theorem J_MDotRows_inLine_d23 : decode J_MDotRows_inLine.2.1 23 = .ok (.iload_n 1, 1) := by decide +kernel
theorem J_MDotRows_inLine_d24 : decode J_MDotRows_inLine.2.1 24 = .ok (.aload_n 0, 1) := by decide +kernel
theorem J_MDotRows_inLine_d25 : decode J_MDotRows_inLine.2.1 25 = .ok (.getfield 52, 3) := by decide +kernel
theorem J_MDotRows_inLine_d28 : decode J_MDotRows_inLine.2.1 28 = .ok (.isub, 1) := by decide +kernel
theorem J_MDotRows_inLine_d29 : decode J_MDotRows_inLine.2.1 29 = .ok (.i2l, 1) := by decide +kernel
theorem J_MDotRows_inLine_d30 : decode J_MDotRows_inLine.2.1 30 = .ok (.lstore 7, 2) := by decide +kernel
theorem J_MDotRows_inLine_d32 : decode J_MDotRows_inLine.2.1 32 = .ok (.iload_n 2, 1) := by decide +kernel
theorem J_MDotRows_inLine_d33 : decode J_MDotRows_inLine.2.1 33 = .ok (.aload_n 0, 1) := by decide +kernel
theorem J_MDotRows_inLine_d34 : decode J_MDotRows_inLine.2.1 34 = .ok (.getfield 58, 3) := by decide +kernel
theorem J_MDotRows_inLine_d37 : decode J_MDotRows_inLine.2.1 37 = .ok (.isub, 1) := by decide +kernel
theorem J_MDotRows_inLine_d38 : decode J_MDotRows_inLine.2.1 38 = .ok (.i2l, 1) := by decide +kernel
theorem J_MDotRows_inLine_d39 : decode J_MDotRows_inLine.2.1 39 = .ok (.lstore 9, 2) := by decide +kernel
theorem J_MDotRows_inLine_d41 : decode J_MDotRows_inLine.2.1 41 = .ok (.aload_n 0, 1) := by decide +kernel
theorem J_MDotRows_inLine_d42 : decode J_MDotRows_inLine.2.1 42 = .ok (.getfield 64, 3) := by decide +kernel
theorem J_MDotRows_inLine_d45 : decode J_MDotRows_inLine.2.1 45 = .ok (.i2l, 1) := by decide +kernel
theorem J_MDotRows_inLine_d46 : decode J_MDotRows_inLine.2.1 46 = .ok (.aload_n 0, 1) := by decide +kernel
theorem J_MDotRows_inLine_d47 : decode J_MDotRows_inLine.2.1 47 = .ok (.getfield 64, 3) := by decide +kernel
theorem J_MDotRows_inLine_d50 : decode J_MDotRows_inLine.2.1 50 = .ok (.i2l, 1) := by decide +kernel
theorem J_MDotRows_inLine_d51 : decode J_MDotRows_inLine.2.1 51 = .ok (.lmul, 1) := by decide +kernel
theorem J_MDotRows_inLine_d52 : decode J_MDotRows_inLine.2.1 52 = .ok (.lstore 11, 2) := by decide +kernel
theorem J_MDotRows_inLine_d54 : decode J_MDotRows_inLine.2.1 54 = .ok (.lload_n 3, 1) := by decide +kernel
theorem J_MDotRows_inLine_d55 : decode J_MDotRows_inLine.2.1 55 = .ok (.lload_n 3, 1) := by decide +kernel
theorem J_MDotRows_inLine_d56 : decode J_MDotRows_inLine.2.1 56 = .ok (.lmul, 1) := by decide +kernel
theorem J_MDotRows_inLine_d57 : decode J_MDotRows_inLine.2.1 57 = .ok (.lload 5, 2) := by decide +kernel
theorem J_MDotRows_inLine_d59 : decode J_MDotRows_inLine.2.1 59 = .ok (.lload 5, 2) := by decide +kernel
theorem J_MDotRows_inLine_d61 : decode J_MDotRows_inLine.2.1 61 = .ok (.lmul, 1) := by decide +kernel
theorem J_MDotRows_inLine_d62 : decode J_MDotRows_inLine.2.1 62 = .ok (.ladd, 1) := by decide +kernel
theorem J_MDotRows_inLine_d63 : decode J_MDotRows_inLine.2.1 63 = .ok (.lstore 13, 2) := by decide +kernel
theorem J_MDotRows_inLine_d65 : decode J_MDotRows_inLine.2.1 65 = .ok (.lload_n 3, 1) := by decide +kernel
theorem J_MDotRows_inLine_d66 : decode J_MDotRows_inLine.2.1 66 = .ok (.lload 7, 2) := by decide +kernel
theorem J_MDotRows_inLine_d68 : decode J_MDotRows_inLine.2.1 68 = .ok (.lmul, 1) := by decide +kernel
theorem J_MDotRows_inLine_d69 : decode J_MDotRows_inLine.2.1 69 = .ok (.lload 5, 2) := by decide +kernel
theorem J_MDotRows_inLine_d71 : decode J_MDotRows_inLine.2.1 71 = .ok (.lload 9, 2) := by decide +kernel
theorem J_MDotRows_inLine_d73 : decode J_MDotRows_inLine.2.1 73 = .ok (.lmul, 1) := by decide +kernel
theorem J_MDotRows_inLine_d74 : decode J_MDotRows_inLine.2.1 74 = .ok (.ladd, 1) := by decide +kernel
theorem J_MDotRows_inLine_d75 : decode J_MDotRows_inLine.2.1 75 = .ok (.lstore 15, 2) := by decide +kernel
theorem J_MDotRows_inLine_d77 : decode J_MDotRows_inLine.2.1 77 = .ok (.lload 15, 2) := by decide +kernel
theorem J_MDotRows_inLine_d79 : decode J_MDotRows_inLine.2.1 79 = .ok (.lconst 0, 1) := by decide +kernel
theorem J_MDotRows_inLine_d80 : decode J_MDotRows_inLine.2.1 80 = .ok (.lcmp, 1) := by decide +kernel
theorem J_MDotRows_inLine_d81 : decode J_MDotRows_inLine.2.1 81 = .ok (.ifCond .gt 30, 3) := by decide +kernel
theorem J_MDotRows_inLine_d84 : decode J_MDotRows_inLine.2.1 84 = .ok (.ldc2_w 67, 3) := by decide +kernel
theorem J_MDotRows_inLine_d87 : decode J_MDotRows_inLine.2.1 87 = .ok (.lload 7, 2) := by decide +kernel
theorem J_MDotRows_inLine_d89 : decode J_MDotRows_inLine.2.1 89 = .ok (.lload 7, 2) := by decide +kernel
theorem J_MDotRows_inLine_d91 : decode J_MDotRows_inLine.2.1 91 = .ok (.lmul, 1) := by decide +kernel
theorem J_MDotRows_inLine_d92 : decode J_MDotRows_inLine.2.1 92 = .ok (.lload 9, 2) := by decide +kernel
theorem J_MDotRows_inLine_d94 : decode J_MDotRows_inLine.2.1 94 = .ok (.lload 9, 2) := by decide +kernel
theorem J_MDotRows_inLine_d96 : decode J_MDotRows_inLine.2.1 96 = .ok (.lmul, 1) := by decide +kernel
theorem J_MDotRows_inLine_d97 : decode J_MDotRows_inLine.2.1 97 = .ok (.ladd, 1) := by decide +kernel
theorem J_MDotRows_inLine_d98 : decode J_MDotRows_inLine.2.1 98 = .ok (.lmul, 1) := by decide +kernel
theorem J_MDotRows_inLine_d99 : decode J_MDotRows_inLine.2.1 99 = .ok (.lload 11, 2) := by decide +kernel
theorem J_MDotRows_inLine_d101 : decode J_MDotRows_inLine.2.1 101 = .ok (.lcmp, 1) := by decide +kernel
theorem J_MDotRows_inLine_d102 : decode J_MDotRows_inLine.2.1 102 = .ok (.ifCond .gt 7, 3) := by decide +kernel
theorem J_MDotRows_inLine_d105 : decode J_MDotRows_inLine.2.1 105 = .ok (.iconst 1, 1) := by decide +kernel
theorem J_MDotRows_inLine_d106 : decode J_MDotRows_inLine.2.1 106 = .ok (.goto 4, 3) := by decide +kernel
theorem J_MDotRows_inLine_d109 : decode J_MDotRows_inLine.2.1 109 = .ok (.iconst 0, 1) := by decide +kernel
theorem J_MDotRows_inLine_d110 : decode J_MDotRows_inLine.2.1 110 = .ok (.ireturn, 1) := by decide +kernel
theorem J_MDotRows_inLine_d111 : decode J_MDotRows_inLine.2.1 111 = .ok (.lload 15, 2) := by decide +kernel
theorem J_MDotRows_inLine_d113 : decode J_MDotRows_inLine.2.1 113 = .ok (.lload 13, 2) := by decide +kernel
theorem J_MDotRows_inLine_d115 : decode J_MDotRows_inLine.2.1 115 = .ok (.lcmp, 1) := by decide +kernel
theorem J_MDotRows_inLine_d116 : decode J_MDotRows_inLine.2.1 116 = .ok (.ifCond .lt 40, 3) := by decide +kernel
theorem J_MDotRows_inLine_d119 : decode J_MDotRows_inLine.2.1 119 = .ok (.ldc2_w 67, 3) := by decide +kernel
theorem J_MDotRows_inLine_d122 : decode J_MDotRows_inLine.2.1 122 = .ok (.lload 7, 2) := by decide +kernel
theorem J_MDotRows_inLine_d124 : decode J_MDotRows_inLine.2.1 124 = .ok (.lload_n 3, 1) := by decide +kernel
theorem J_MDotRows_inLine_d125 : decode J_MDotRows_inLine.2.1 125 = .ok (.lsub, 1) := by decide +kernel
theorem J_MDotRows_inLine_d126 : decode J_MDotRows_inLine.2.1 126 = .ok (.lload 7, 2) := by decide +kernel
theorem J_MDotRows_inLine_d128 : decode J_MDotRows_inLine.2.1 128 = .ok (.lload_n 3, 1) := by decide +kernel
theorem J_MDotRows_inLine_d129 : decode J_MDotRows_inLine.2.1 129 = .ok (.lsub, 1) := by decide +kernel
theorem J_MDotRows_inLine_d130 : decode J_MDotRows_inLine.2.1 130 = .ok (.lmul, 1) := by decide +kernel
theorem J_MDotRows_inLine_d131 : decode J_MDotRows_inLine.2.1 131 = .ok (.lload 9, 2) := by decide +kernel
theorem J_MDotRows_inLine_d133 : decode J_MDotRows_inLine.2.1 133 = .ok (.lload 5, 2) := by decide +kernel
theorem J_MDotRows_inLine_d135 : decode J_MDotRows_inLine.2.1 135 = .ok (.lsub, 1) := by decide +kernel
theorem J_MDotRows_inLine_d136 : decode J_MDotRows_inLine.2.1 136 = .ok (.lload 9, 2) := by decide +kernel
theorem J_MDotRows_inLine_d138 : decode J_MDotRows_inLine.2.1 138 = .ok (.lload 5, 2) := by decide +kernel
theorem J_MDotRows_inLine_d140 : decode J_MDotRows_inLine.2.1 140 = .ok (.lsub, 1) := by decide +kernel
theorem J_MDotRows_inLine_d141 : decode J_MDotRows_inLine.2.1 141 = .ok (.lmul, 1) := by decide +kernel
theorem J_MDotRows_inLine_d142 : decode J_MDotRows_inLine.2.1 142 = .ok (.ladd, 1) := by decide +kernel
theorem J_MDotRows_inLine_d143 : decode J_MDotRows_inLine.2.1 143 = .ok (.lmul, 1) := by decide +kernel
theorem J_MDotRows_inLine_d144 : decode J_MDotRows_inLine.2.1 144 = .ok (.lload 11, 2) := by decide +kernel
theorem J_MDotRows_inLine_d146 : decode J_MDotRows_inLine.2.1 146 = .ok (.lcmp, 1) := by decide +kernel
theorem J_MDotRows_inLine_d147 : decode J_MDotRows_inLine.2.1 147 = .ok (.ifCond .gt 7, 3) := by decide +kernel
theorem J_MDotRows_inLine_d150 : decode J_MDotRows_inLine.2.1 150 = .ok (.iconst 1, 1) := by decide +kernel
theorem J_MDotRows_inLine_d151 : decode J_MDotRows_inLine.2.1 151 = .ok (.goto 4, 3) := by decide +kernel
theorem J_MDotRows_inLine_d154 : decode J_MDotRows_inLine.2.1 154 = .ok (.iconst 0, 1) := by decide +kernel
theorem J_MDotRows_inLine_d155 : decode J_MDotRows_inLine.2.1 155 = .ok (.ireturn, 1) := by decide +kernel
theorem J_MDotRows_inLine_d156 : decode J_MDotRows_inLine.2.1 156 = .ok (.lload_n 3, 1) := by decide +kernel
theorem J_MDotRows_inLine_d157 : decode J_MDotRows_inLine.2.1 157 = .ok (.lload 9, 2) := by decide +kernel
theorem J_MDotRows_inLine_d159 : decode J_MDotRows_inLine.2.1 159 = .ok (.lmul, 1) := by decide +kernel
theorem J_MDotRows_inLine_d160 : decode J_MDotRows_inLine.2.1 160 = .ok (.lload 5, 2) := by decide +kernel
theorem J_MDotRows_inLine_d162 : decode J_MDotRows_inLine.2.1 162 = .ok (.lload 7, 2) := by decide +kernel
theorem J_MDotRows_inLine_d164 : decode J_MDotRows_inLine.2.1 164 = .ok (.lmul, 1) := by decide +kernel
theorem J_MDotRows_inLine_d165 : decode J_MDotRows_inLine.2.1 165 = .ok (.lsub, 1) := by decide +kernel
theorem J_MDotRows_inLine_d166 : decode J_MDotRows_inLine.2.1 166 = .ok (.lstore 17, 2) := by decide +kernel
theorem J_MDotRows_inLine_d168 : decode J_MDotRows_inLine.2.1 168 = .ok (.ldc2_w 67, 3) := by decide +kernel
theorem J_MDotRows_inLine_d171 : decode J_MDotRows_inLine.2.1 171 = .ok (.lload 17, 2) := by decide +kernel
theorem J_MDotRows_inLine_d173 : decode J_MDotRows_inLine.2.1 173 = .ok (.lmul, 1) := by decide +kernel
theorem J_MDotRows_inLine_d174 : decode J_MDotRows_inLine.2.1 174 = .ok (.lload 17, 2) := by decide +kernel
theorem J_MDotRows_inLine_d176 : decode J_MDotRows_inLine.2.1 176 = .ok (.lmul, 1) := by decide +kernel
theorem J_MDotRows_inLine_d177 : decode J_MDotRows_inLine.2.1 177 = .ok (.lload 11, 2) := by decide +kernel
theorem J_MDotRows_inLine_d179 : decode J_MDotRows_inLine.2.1 179 = .ok (.lload 13, 2) := by decide +kernel
theorem J_MDotRows_inLine_d181 : decode J_MDotRows_inLine.2.1 181 = .ok (.lmul, 1) := by decide +kernel
theorem J_MDotRows_inLine_d182 : decode J_MDotRows_inLine.2.1 182 = .ok (.lcmp, 1) := by decide +kernel
theorem J_MDotRows_inLine_d183 : decode J_MDotRows_inLine.2.1 183 = .ok (.ifCond .gt 7, 3) := by decide +kernel
theorem J_MDotRows_inLine_d186 : decode J_MDotRows_inLine.2.1 186 = .ok (.iconst 1, 1) := by decide +kernel
theorem J_MDotRows_inLine_d187 : decode J_MDotRows_inLine.2.1 187 = .ok (.goto 4, 3) := by decide +kernel
theorem J_MDotRows_inLine_d190 : decode J_MDotRows_inLine.2.1 190 = .ok (.iconst 0, 1) := by decide +kernel
theorem J_MDotRows_inLine_d191 : decode J_MDotRows_inLine.2.1 191 = .ok (.ireturn, 1) := by decide +kernel
theorem f_MDotRows_inLine_ok {L : Nat} {xs : Nat → Int32} {dep : Nat} {w : Bool} {p0 : Int32} {p1 : Int32} {M : im_M} {Q : Int32 → Prop} (hM : lw_S w M) (h : ed (f_MDotRows_inLine p0 p1 M) Q) : ia (tb_G L xs) dep J_MDotRows_inLine (rpI M Q) (0, lv_args 0 [.ref 89, .int p0, .int p1], [], M) := by
  have hS : im_St (tb_G L xs) dep J_MDotRows_inLine (ia (tb_G L xs) dep J_MDotRows_inLine (rpI M Q)) := ia_St
  unfold f_MDotRows_inLine at h
  have l0 : im_lk (lv_args 0 [.ref 89, .int p0, .int p1]) 0 = some (.ref 89) := rfl
  have l1 : im_lk (lv_args 0 [.ref 89, .int p0, .int p1]) 1 = some (.int p0) := rfl
  have l2 : im_lk (lv_args 0 [.ref 89, .int p0, .int p1]) 2 = some (.int p1) := rfl
  refine iq_aload_n hS 1 J_MDotRows_inLine_d0 l0 rfl ?_
  refine iq_getI hS 4 J_MDotRows_inLine_d1 lf_12_55 (Or.inl rfl) (ka_89 hM) rfl ?_
  refine iq_aload_n hS 5 J_MDotRows_inLine_d4 l0 rfl ?_
  refine iq_getI hS 8 J_MDotRows_inLine_d5 lf_12_52 (Or.inl rfl) (ka_89 hM) rfl ?_
  refine iq_isub hS 9 J_MDotRows_inLine_d8 rfl ?_
  refine iq_i2l hS 10 J_MDotRows_inLine_d9 rfl ?_
  refine iq_lstore_n hS 11 J_MDotRows_inLine_d10 (by decide) rfl ?_
  refine iq_aload_n hS 12 J_MDotRows_inLine_d11 (lk_2r l0 (by decide) (by decide)) rfl ?_
  refine iq_getI hS 15 J_MDotRows_inLine_d12 lf_12_61 (Or.inl rfl) (ka_89 hM) rfl ?_
  refine iq_aload_n hS 16 J_MDotRows_inLine_d15 (lk_2r l0 (by decide) (by decide)) rfl ?_
  refine iq_getI hS 19 J_MDotRows_inLine_d16 lf_12_58 (Or.inl rfl) (ka_89 hM) rfl ?_
  refine iq_isub hS 20 J_MDotRows_inLine_d19 rfl ?_
  refine iq_i2l hS 21 J_MDotRows_inLine_d20 rfl ?_
  refine iq_lstore hS 23 J_MDotRows_inLine_d21 (by decide) rfl ?_
  refine iq_iload_n hS 24 J_MDotRows_inLine_d23 (lk_2i (lk_2i l1 (by decide) (by decide)) (by decide) (by decide)) rfl ?_
  refine iq_aload_n hS 25 J_MDotRows_inLine_d24 (lk_2r (lk_2r l0 (by decide) (by decide)) (by decide) (by decide)) rfl ?_
  refine iq_getI hS 28 J_MDotRows_inLine_d25 lf_12_52 (Or.inl rfl) (ka_89 hM) rfl ?_
  refine iq_isub hS 29 J_MDotRows_inLine_d28 rfl ?_
  refine iq_i2l hS 30 J_MDotRows_inLine_d29 rfl ?_
  refine iq_lstore hS 32 J_MDotRows_inLine_d30 (by decide) rfl ?_
  refine iq_iload_n hS 33 J_MDotRows_inLine_d32 (lk_2i (lk_2i (lk_2i l2 (by decide) (by decide)) (by decide) (by decide)) (by decide) (by decide)) rfl ?_
  refine iq_aload_n hS 34 J_MDotRows_inLine_d33 (lk_2r (lk_2r (lk_2r l0 (by decide) (by decide)) (by decide) (by decide)) (by decide) (by decide)) rfl ?_
  refine iq_getI hS 37 J_MDotRows_inLine_d34 lf_12_58 (Or.inl rfl) (ka_89 hM) rfl ?_
  refine iq_isub hS 38 J_MDotRows_inLine_d37 rfl ?_
  refine iq_i2l hS 39 J_MDotRows_inLine_d38 rfl ?_
  refine iq_lstore hS 41 J_MDotRows_inLine_d39 (by decide) rfl ?_
  refine iq_aload_n hS 42 J_MDotRows_inLine_d41 (lk_2r (lk_2r (lk_2r (lk_2r l0 (by decide) (by decide)) (by decide) (by decide)) (by decide) (by decide)) (by decide) (by decide)) rfl ?_
  refine iq_getI hS 45 J_MDotRows_inLine_d42 lf_12_64 (Or.inl rfl) (ka_89 hM) rfl ?_
  refine iq_i2l hS 46 J_MDotRows_inLine_d45 rfl ?_
  refine iq_aload_n hS 47 J_MDotRows_inLine_d46 (lk_2r (lk_2r (lk_2r (lk_2r l0 (by decide) (by decide)) (by decide) (by decide)) (by decide) (by decide)) (by decide) (by decide)) rfl ?_
  refine iq_getI hS 50 J_MDotRows_inLine_d47 lf_12_64 (Or.inl rfl) (ka_89 hM) rfl ?_
  refine iq_i2l hS 51 J_MDotRows_inLine_d50 rfl ?_
  refine iq_lmul hS 52 J_MDotRows_inLine_d51 rfl ?_
  refine iq_lstore hS 54 J_MDotRows_inLine_d52 (by decide) rfl ?_
  refine iq_lload_n hS 55 J_MDotRows_inLine_d54 (lk_2l (lk_2l (lk_2l (lk_2l lk_2s (by decide) (by decide) (by decide)) (by decide) (by decide) (by decide)) (by decide) (by decide) (by decide)) (by decide) (by decide) (by decide)) rfl ?_
  refine iq_lload_n hS 56 J_MDotRows_inLine_d55 (lk_2l (lk_2l (lk_2l (lk_2l lk_2s (by decide) (by decide) (by decide)) (by decide) (by decide) (by decide)) (by decide) (by decide) (by decide)) (by decide) (by decide) (by decide)) rfl ?_
  refine iq_lmul hS 57 J_MDotRows_inLine_d56 rfl ?_
  refine iq_lload hS 59 J_MDotRows_inLine_d57 (lk_2l (lk_2l (lk_2l lk_2s (by decide) (by decide) (by decide)) (by decide) (by decide) (by decide)) (by decide) (by decide) (by decide)) rfl ?_
  refine iq_lload hS 61 J_MDotRows_inLine_d59 (lk_2l (lk_2l (lk_2l lk_2s (by decide) (by decide) (by decide)) (by decide) (by decide) (by decide)) (by decide) (by decide) (by decide)) rfl ?_
  refine iq_lmul hS 62 J_MDotRows_inLine_d61 rfl ?_
  refine iq_ladd hS 63 J_MDotRows_inLine_d62 rfl ?_
  refine iq_lstore hS 65 J_MDotRows_inLine_d63 (by decide) rfl ?_
  refine iq_lload_n hS 66 J_MDotRows_inLine_d65 (lk_2l (lk_2l (lk_2l (lk_2l (lk_2l lk_2s (by decide) (by decide) (by decide)) (by decide) (by decide) (by decide)) (by decide) (by decide) (by decide)) (by decide) (by decide) (by decide)) (by decide) (by decide) (by decide)) rfl ?_
  refine iq_lload hS 68 J_MDotRows_inLine_d66 (lk_2l (lk_2l (lk_2l lk_2s (by decide) (by decide) (by decide)) (by decide) (by decide) (by decide)) (by decide) (by decide) (by decide)) rfl ?_
  refine iq_lmul hS 69 J_MDotRows_inLine_d68 rfl ?_
  refine iq_lload hS 71 J_MDotRows_inLine_d69 (lk_2l (lk_2l (lk_2l (lk_2l lk_2s (by decide) (by decide) (by decide)) (by decide) (by decide) (by decide)) (by decide) (by decide) (by decide)) (by decide) (by decide) (by decide)) rfl ?_
  refine iq_lload hS 73 J_MDotRows_inLine_d71 (lk_2l (lk_2l lk_2s (by decide) (by decide) (by decide)) (by decide) (by decide) (by decide)) rfl ?_
  refine iq_lmul hS 74 J_MDotRows_inLine_d73 rfl ?_
  refine iq_ladd hS 75 J_MDotRows_inLine_d74 rfl ?_
  refine iq_lstore hS 77 J_MDotRows_inLine_d75 (by decide) rfl ?_
  refine iq_lload hS 79 J_MDotRows_inLine_d77 lk_2s rfl ?_
  refine iq_lconst hS 80 J_MDotRows_inLine_d79 (v := 0) (by decide +kernel) rfl ?_
  refine iq_lcmp hS 81 J_MDotRows_inLine_d80 rfl ?_
  refine iq_if_gt hS 84 J_MDotRows_inLine_d81 (t := 111) rfl (fun q81 => ?_) rfl (fun q81 => ?_)
  · replace h := ed_pos q81 h
    refine iq_lload hS 113 J_MDotRows_inLine_d111 lk_2s rfl ?_
    refine iq_lload hS 115 J_MDotRows_inLine_d113 (lk_2l lk_2s (by decide) (by decide) (by decide)) rfl ?_
    refine iq_lcmp hS 116 J_MDotRows_inLine_d115 rfl ?_
    refine iq_if_lt hS 119 J_MDotRows_inLine_d116 (t := 156) rfl (fun q116 => ?_) rfl (fun q116 => ?_)
    · replace h := ed_pos q116 h
      refine iq_lload_n hS 157 J_MDotRows_inLine_d156 (lk_2l (lk_2l (lk_2l (lk_2l (lk_2l (lk_2l lk_2s (by decide) (by decide) (by decide)) (by decide) (by decide) (by decide)) (by decide) (by decide) (by decide)) (by decide) (by decide) (by decide)) (by decide) (by decide) (by decide)) (by decide) (by decide) (by decide)) rfl ?_
      refine iq_lload hS 159 J_MDotRows_inLine_d157 (lk_2l (lk_2l (lk_2l lk_2s (by decide) (by decide) (by decide)) (by decide) (by decide) (by decide)) (by decide) (by decide) (by decide)) rfl ?_
      refine iq_lmul hS 160 J_MDotRows_inLine_d159 rfl ?_
      refine iq_lload hS 162 J_MDotRows_inLine_d160 (lk_2l (lk_2l (lk_2l (lk_2l (lk_2l lk_2s (by decide) (by decide) (by decide)) (by decide) (by decide) (by decide)) (by decide) (by decide) (by decide)) (by decide) (by decide) (by decide)) (by decide) (by decide) (by decide)) rfl ?_
      refine iq_lload hS 164 J_MDotRows_inLine_d162 (lk_2l (lk_2l (lk_2l (lk_2l lk_2s (by decide) (by decide) (by decide)) (by decide) (by decide) (by decide)) (by decide) (by decide) (by decide)) (by decide) (by decide) (by decide)) rfl ?_
      refine iq_lmul hS 165 J_MDotRows_inLine_d164 rfl ?_
      refine iq_lsub hS 166 J_MDotRows_inLine_d165 rfl ?_
      refine iq_lstore hS 168 J_MDotRows_inLine_d166 (by decide) rfl ?_
      refine iq_ldc2_w hS 171 J_MDotRows_inLine_d168 lk_12_67 rfl ?_
      refine iq_lload hS 173 J_MDotRows_inLine_d171 lk_2s rfl ?_
      refine iq_lmul hS 174 J_MDotRows_inLine_d173 rfl ?_
      refine iq_lload hS 176 J_MDotRows_inLine_d174 lk_2s rfl ?_
      refine iq_lmul hS 177 J_MDotRows_inLine_d176 rfl ?_
      refine iq_lload hS 179 J_MDotRows_inLine_d177 (lk_2l (lk_2l (lk_2l lk_2s (by decide) (by decide) (by decide)) (by decide) (by decide) (by decide)) (by decide) (by decide) (by decide)) rfl ?_
      refine iq_lload hS 181 J_MDotRows_inLine_d179 (lk_2l (lk_2l lk_2s (by decide) (by decide) (by decide)) (by decide) (by decide) (by decide)) rfl ?_
      refine iq_lmul hS 182 J_MDotRows_inLine_d181 rfl ?_
      refine iq_lcmp hS 183 J_MDotRows_inLine_d182 rfl ?_
      refine iq_if_gt hS 186 J_MDotRows_inLine_d183 (t := 190) rfl (fun q183 => ?_) rfl (fun q183 => ?_)
      · replace h := ed_pos q183 h
        refine iq_iconst hS 191 J_MDotRows_inLine_d190 (v := 0) (by decide +kernel) rfl ?_
        exact iq_iret J_MDotRows_inLine_d191 rfl rfl ⟨_, rfl, rfl, ed_some h⟩
      · replace h := ed_neg q183 h
        refine iq_iconst hS 187 J_MDotRows_inLine_d186 (v := 1) (by decide +kernel) rfl ?_
        refine iq_goto hS J_MDotRows_inLine_d187 (t := 191) rfl ?_
        exact iq_iret J_MDotRows_inLine_d191 rfl rfl ⟨_, rfl, rfl, ed_some h⟩
    · replace h := ed_neg q116 h
      refine iq_ldc2_w hS 122 J_MDotRows_inLine_d119 lk_12_67 rfl ?_
      refine iq_lload hS 124 J_MDotRows_inLine_d122 (lk_2l (lk_2l (lk_2l (lk_2l lk_2s (by decide) (by decide) (by decide)) (by decide) (by decide) (by decide)) (by decide) (by decide) (by decide)) (by decide) (by decide) (by decide)) rfl ?_
      refine iq_lload_n hS 125 J_MDotRows_inLine_d124 (lk_2l (lk_2l (lk_2l (lk_2l (lk_2l (lk_2l lk_2s (by decide) (by decide) (by decide)) (by decide) (by decide) (by decide)) (by decide) (by decide) (by decide)) (by decide) (by decide) (by decide)) (by decide) (by decide) (by decide)) (by decide) (by decide) (by decide)) rfl ?_
      refine iq_lsub hS 126 J_MDotRows_inLine_d125 rfl ?_
      refine iq_lload hS 128 J_MDotRows_inLine_d126 (lk_2l (lk_2l (lk_2l (lk_2l lk_2s (by decide) (by decide) (by decide)) (by decide) (by decide) (by decide)) (by decide) (by decide) (by decide)) (by decide) (by decide) (by decide)) rfl ?_
      refine iq_lload_n hS 129 J_MDotRows_inLine_d128 (lk_2l (lk_2l (lk_2l (lk_2l (lk_2l (lk_2l lk_2s (by decide) (by decide) (by decide)) (by decide) (by decide) (by decide)) (by decide) (by decide) (by decide)) (by decide) (by decide) (by decide)) (by decide) (by decide) (by decide)) (by decide) (by decide) (by decide)) rfl ?_
      refine iq_lsub hS 130 J_MDotRows_inLine_d129 rfl ?_
      refine iq_lmul hS 131 J_MDotRows_inLine_d130 rfl ?_
      refine iq_lload hS 133 J_MDotRows_inLine_d131 (lk_2l (lk_2l (lk_2l lk_2s (by decide) (by decide) (by decide)) (by decide) (by decide) (by decide)) (by decide) (by decide) (by decide)) rfl ?_
      refine iq_lload hS 135 J_MDotRows_inLine_d133 (lk_2l (lk_2l (lk_2l (lk_2l (lk_2l lk_2s (by decide) (by decide) (by decide)) (by decide) (by decide) (by decide)) (by decide) (by decide) (by decide)) (by decide) (by decide) (by decide)) (by decide) (by decide) (by decide)) rfl ?_
      refine iq_lsub hS 136 J_MDotRows_inLine_d135 rfl ?_
      refine iq_lload hS 138 J_MDotRows_inLine_d136 (lk_2l (lk_2l (lk_2l lk_2s (by decide) (by decide) (by decide)) (by decide) (by decide) (by decide)) (by decide) (by decide) (by decide)) rfl ?_
      refine iq_lload hS 140 J_MDotRows_inLine_d138 (lk_2l (lk_2l (lk_2l (lk_2l (lk_2l lk_2s (by decide) (by decide) (by decide)) (by decide) (by decide) (by decide)) (by decide) (by decide) (by decide)) (by decide) (by decide) (by decide)) (by decide) (by decide) (by decide)) rfl ?_
      refine iq_lsub hS 141 J_MDotRows_inLine_d140 rfl ?_
      refine iq_lmul hS 142 J_MDotRows_inLine_d141 rfl ?_
      refine iq_ladd hS 143 J_MDotRows_inLine_d142 rfl ?_
      refine iq_lmul hS 144 J_MDotRows_inLine_d143 rfl ?_
      refine iq_lload hS 146 J_MDotRows_inLine_d144 (lk_2l (lk_2l lk_2s (by decide) (by decide) (by decide)) (by decide) (by decide) (by decide)) rfl ?_
      refine iq_lcmp hS 147 J_MDotRows_inLine_d146 rfl ?_
      refine iq_if_gt hS 150 J_MDotRows_inLine_d147 (t := 154) rfl (fun q147 => ?_) rfl (fun q147 => ?_)
      · replace h := ed_pos q147 h
        refine iq_iconst hS 155 J_MDotRows_inLine_d154 (v := 0) (by decide +kernel) rfl ?_
        exact iq_iret J_MDotRows_inLine_d155 rfl rfl ⟨_, rfl, rfl, ed_some h⟩
      · replace h := ed_neg q147 h
        refine iq_iconst hS 151 J_MDotRows_inLine_d150 (v := 1) (by decide +kernel) rfl ?_
        refine iq_goto hS J_MDotRows_inLine_d151 (t := 155) rfl ?_
        exact iq_iret J_MDotRows_inLine_d155 rfl rfl ⟨_, rfl, rfl, ed_some h⟩
  · replace h := ed_neg q81 h
    refine iq_ldc2_w hS 87 J_MDotRows_inLine_d84 lk_12_67 rfl ?_
    refine iq_lload hS 89 J_MDotRows_inLine_d87 (lk_2l (lk_2l (lk_2l (lk_2l lk_2s (by decide) (by decide) (by decide)) (by decide) (by decide) (by decide)) (by decide) (by decide) (by decide)) (by decide) (by decide) (by decide)) rfl ?_
    refine iq_lload hS 91 J_MDotRows_inLine_d89 (lk_2l (lk_2l (lk_2l (lk_2l lk_2s (by decide) (by decide) (by decide)) (by decide) (by decide) (by decide)) (by decide) (by decide) (by decide)) (by decide) (by decide) (by decide)) rfl ?_
    refine iq_lmul hS 92 J_MDotRows_inLine_d91 rfl ?_
    refine iq_lload hS 94 J_MDotRows_inLine_d92 (lk_2l (lk_2l (lk_2l lk_2s (by decide) (by decide) (by decide)) (by decide) (by decide) (by decide)) (by decide) (by decide) (by decide)) rfl ?_
    refine iq_lload hS 96 J_MDotRows_inLine_d94 (lk_2l (lk_2l (lk_2l lk_2s (by decide) (by decide) (by decide)) (by decide) (by decide) (by decide)) (by decide) (by decide) (by decide)) rfl ?_
    refine iq_lmul hS 97 J_MDotRows_inLine_d96 rfl ?_
    refine iq_ladd hS 98 J_MDotRows_inLine_d97 rfl ?_
    refine iq_lmul hS 99 J_MDotRows_inLine_d98 rfl ?_
    refine iq_lload hS 101 J_MDotRows_inLine_d99 (lk_2l (lk_2l lk_2s (by decide) (by decide) (by decide)) (by decide) (by decide) (by decide)) rfl ?_
    refine iq_lcmp hS 102 J_MDotRows_inLine_d101 rfl ?_
    refine iq_if_gt hS 105 J_MDotRows_inLine_d102 (t := 109) rfl (fun q102 => ?_) rfl (fun q102 => ?_)
    · replace h := ed_pos q102 h
      refine iq_iconst hS 110 J_MDotRows_inLine_d109 (v := 0) (by decide +kernel) rfl ?_
      exact iq_iret J_MDotRows_inLine_d110 rfl rfl ⟨_, rfl, rfl, ed_some h⟩
    · replace h := ed_neg q102 h
      refine iq_iconst hS 106 J_MDotRows_inLine_d105 (v := 1) (by decide +kernel) rfl ?_
      refine iq_goto hS J_MDotRows_inLine_d106 (t := 110) rfl ?_
      exact iq_iret J_MDotRows_inLine_d110 rfl rfl ⟨_, rfl, rfl, ed_some h⟩
noncomputable def f_MDotRows_inFrame (p0 : Int32) (p1 : Int32) (M : im_M) : Option (Int32) := if ((if p0 < (im_i M 89 10) then 0 else (if (((im_i M 89 10) + (im_i M 89 12)) - 1) < p0 then 0 else (if p1 < (im_i M 89 11) then 0 else (if (((im_i M 89 11) + (im_i M 89 13)) - 1) < p1 then 0 else 1)))) : Int32) = 0 then some 0 else jn0 (fun (_ : Unit) => some 1) fun k2 => if p0 < ((im_i M 89 10) + (im_i M 89 14)) then k2 () else if ((((im_i M 89 10) + (im_i M 89 12)) - 1) - (im_i M 89 14)) < p0 then k2 () else if p1 < ((im_i M 89 11) + (im_i M 89 14)) then k2 () else if p1 ≤ ((((im_i M 89 11) + (im_i M 89 13)) - 1) - (im_i M 89 14)) then some 0 else k2 ()
theorem J_MDotRows_inFrame_d0 : decode J_MDotRows_inFrame.2.1 0 = .ok (.aload_n 0, 1) := by decide +kernel
theorem J_MDotRows_inFrame_d1 : decode J_MDotRows_inFrame.2.1 1 = .ok (.getfield 52, 3) := by decide +kernel
theorem J_MDotRows_inFrame_d4 : decode J_MDotRows_inFrame.2.1 4 = .ok (.aload_n 0, 1) := by decide +kernel
theorem J_MDotRows_inFrame_d5 : decode J_MDotRows_inFrame.2.1 5 = .ok (.getfield 55, 3) := by decide +kernel
theorem J_MDotRows_inFrame_d8 : decode J_MDotRows_inFrame.2.1 8 = .ok (.iadd, 1) := by decide +kernel
theorem J_MDotRows_inFrame_d9 : decode J_MDotRows_inFrame.2.1 9 = .ok (.iconst 1, 1) := by decide +kernel
theorem J_MDotRows_inFrame_d10 : decode J_MDotRows_inFrame.2.1 10 = .ok (.isub, 1) := by decide +kernel
theorem J_MDotRows_inFrame_d11 : decode J_MDotRows_inFrame.2.1 11 = .ok (.istore_n 3, 1) := by decide +kernel
theorem J_MDotRows_inFrame_d12 : decode J_MDotRows_inFrame.2.1 12 = .ok (.aload_n 0, 1) := by decide +kernel
theorem J_MDotRows_inFrame_d13 : decode J_MDotRows_inFrame.2.1 13 = .ok (.getfield 58, 3) := by decide +kernel
theorem J_MDotRows_inFrame_d16 : decode J_MDotRows_inFrame.2.1 16 = .ok (.aload_n 0, 1) := by decide +kernel
theorem J_MDotRows_inFrame_d17 : decode J_MDotRows_inFrame.2.1 17 = .ok (.getfield 61, 3) := by decide +kernel
theorem J_MDotRows_inFrame_d20 : decode J_MDotRows_inFrame.2.1 20 = .ok (.iadd, 1) := by decide +kernel
theorem J_MDotRows_inFrame_d21 : decode J_MDotRows_inFrame.2.1 21 = .ok (.iconst 1, 1) := by decide +kernel
theorem J_MDotRows_inFrame_d22 : decode J_MDotRows_inFrame.2.1 22 = .ok (.isub, 1) := by decide +kernel
theorem J_MDotRows_inFrame_d23 : decode J_MDotRows_inFrame.2.1 23 = .ok (.istore 4, 2) := by decide +kernel
theorem J_MDotRows_inFrame_d25 : decode J_MDotRows_inFrame.2.1 25 = .ok (.iload_n 1, 1) := by decide +kernel
theorem J_MDotRows_inFrame_d26 : decode J_MDotRows_inFrame.2.1 26 = .ok (.aload_n 0, 1) := by decide +kernel
theorem J_MDotRows_inFrame_d27 : decode J_MDotRows_inFrame.2.1 27 = .ok (.getfield 52, 3) := by decide +kernel
theorem J_MDotRows_inFrame_d30 : decode J_MDotRows_inFrame.2.1 30 = .ok (.if_icmp .lt 26, 3) := by decide +kernel
theorem J_MDotRows_inFrame_d33 : decode J_MDotRows_inFrame.2.1 33 = .ok (.iload_n 1, 1) := by decide +kernel
theorem J_MDotRows_inFrame_d34 : decode J_MDotRows_inFrame.2.1 34 = .ok (.iload_n 3, 1) := by decide +kernel
theorem J_MDotRows_inFrame_d35 : decode J_MDotRows_inFrame.2.1 35 = .ok (.if_icmp .gt 21, 3) := by decide +kernel
theorem J_MDotRows_inFrame_d38 : decode J_MDotRows_inFrame.2.1 38 = .ok (.iload_n 2, 1) := by decide +kernel
theorem J_MDotRows_inFrame_d39 : decode J_MDotRows_inFrame.2.1 39 = .ok (.aload_n 0, 1) := by decide +kernel
theorem J_MDotRows_inFrame_d40 : decode J_MDotRows_inFrame.2.1 40 = .ok (.getfield 58, 3) := by decide +kernel
theorem J_MDotRows_inFrame_d43 : decode J_MDotRows_inFrame.2.1 43 = .ok (.if_icmp .lt 13, 3) := by decide +kernel
theorem J_MDotRows_inFrame_d46 : decode J_MDotRows_inFrame.2.1 46 = .ok (.iload_n 2, 1) := by decide +kernel
theorem J_MDotRows_inFrame_d47 : decode J_MDotRows_inFrame.2.1 47 = .ok (.iload 4, 2) := by decide +kernel
theorem J_MDotRows_inFrame_d49 : decode J_MDotRows_inFrame.2.1 49 = .ok (.if_icmp .gt 7, 3) := by decide +kernel
theorem J_MDotRows_inFrame_d52 : decode J_MDotRows_inFrame.2.1 52 = .ok (.iconst 1, 1) := by decide +kernel
theorem J_MDotRows_inFrame_d53 : decode J_MDotRows_inFrame.2.1 53 = .ok (.goto 4, 3) := by decide +kernel
theorem J_MDotRows_inFrame_d56 : decode J_MDotRows_inFrame.2.1 56 = .ok (.iconst 0, 1) := by decide +kernel
theorem J_MDotRows_inFrame_d57 : decode J_MDotRows_inFrame.2.1 57 = .ok (.istore 5, 2) := by decide +kernel
theorem J_MDotRows_inFrame_d59 : decode J_MDotRows_inFrame.2.1 59 = .ok (.iload 5, 2) := by decide +kernel
theorem J_MDotRows_inFrame_d61 : decode J_MDotRows_inFrame.2.1 61 = .ok (.ifCond .eq 54, 3) := by decide +kernel
theorem J_MDotRows_inFrame_d64 : decode J_MDotRows_inFrame.2.1 64 = .ok (.iload_n 1, 1) := by decide +kernel
theorem J_MDotRows_inFrame_d65 : decode J_MDotRows_inFrame.2.1 65 = .ok (.aload_n 0, 1) := by decide +kernel
theorem J_MDotRows_inFrame_d66 : decode J_MDotRows_inFrame.2.1 66 = .ok (.getfield 52, 3) := by decide +kernel
theorem J_MDotRows_inFrame_d69 : decode J_MDotRows_inFrame.2.1 69 = .ok (.aload_n 0, 1) := by decide +kernel
theorem J_MDotRows_inFrame_d70 : decode J_MDotRows_inFrame.2.1 70 = .ok (.getfield 64, 3) := by decide +kernel
theorem J_MDotRows_inFrame_d73 : decode J_MDotRows_inFrame.2.1 73 = .ok (.iadd, 1) := by decide +kernel
theorem J_MDotRows_inFrame_d74 : decode J_MDotRows_inFrame.2.1 74 = .ok (.if_icmp .lt 37, 3) := by decide +kernel
theorem J_MDotRows_inFrame_d77 : decode J_MDotRows_inFrame.2.1 77 = .ok (.iload_n 1, 1) := by decide +kernel
theorem J_MDotRows_inFrame_d78 : decode J_MDotRows_inFrame.2.1 78 = .ok (.iload_n 3, 1) := by decide +kernel
theorem J_MDotRows_inFrame_d79 : decode J_MDotRows_inFrame.2.1 79 = .ok (.aload_n 0, 1) := by decide +kernel
theorem J_MDotRows_inFrame_d80 : decode J_MDotRows_inFrame.2.1 80 = .ok (.getfield 64, 3) := by decide +kernel
theorem J_MDotRows_inFrame_d83 : decode J_MDotRows_inFrame.2.1 83 = .ok (.isub, 1) := by decide +kernel
theorem J_MDotRows_inFrame_d84 : decode J_MDotRows_inFrame.2.1 84 = .ok (.if_icmp .gt 27, 3) := by decide +kernel
theorem J_MDotRows_inFrame_d87 : decode J_MDotRows_inFrame.2.1 87 = .ok (.iload_n 2, 1) := by decide +kernel
theorem J_MDotRows_inFrame_d88 : decode J_MDotRows_inFrame.2.1 88 = .ok (.aload_n 0, 1) := by decide +kernel
theorem J_MDotRows_inFrame_d89 : decode J_MDotRows_inFrame.2.1 89 = .ok (.getfield 58, 3) := by decide +kernel
theorem J_MDotRows_inFrame_d92 : decode J_MDotRows_inFrame.2.1 92 = .ok (.aload_n 0, 1) := by decide +kernel
theorem J_MDotRows_inFrame_d93 : decode J_MDotRows_inFrame.2.1 93 = .ok (.getfield 64, 3) := by decide +kernel
theorem J_MDotRows_inFrame_d96 : decode J_MDotRows_inFrame.2.1 96 = .ok (.iadd, 1) := by decide +kernel
theorem J_MDotRows_inFrame_d97 : decode J_MDotRows_inFrame.2.1 97 = .ok (.if_icmp .lt 14, 3) := by decide +kernel
theorem J_MDotRows_inFrame_d100 : decode J_MDotRows_inFrame.2.1 100 = .ok (.iload_n 2, 1) := by decide +kernel
theorem J_MDotRows_inFrame_d101 : decode J_MDotRows_inFrame.2.1 101 = .ok (.iload 4, 2) := by decide +kernel
theorem J_MDotRows_inFrame_d103 : decode J_MDotRows_inFrame.2.1 103 = .ok (.aload_n 0, 1) := by decide +kernel
theorem J_MDotRows_inFrame_d104 : decode J_MDotRows_inFrame.2.1 104 = .ok (.getfield 64, 3) := by decide +kernel
theorem J_MDotRows_inFrame_d107 : decode J_MDotRows_inFrame.2.1 107 = .ok (.isub, 1) := by decide +kernel
theorem J_MDotRows_inFrame_d108 : decode J_MDotRows_inFrame.2.1 108 = .ok (.if_icmp .le 7, 3) := by decide +kernel
theorem J_MDotRows_inFrame_d111 : decode J_MDotRows_inFrame.2.1 111 = .ok (.iconst 1, 1) := by decide +kernel
theorem J_MDotRows_inFrame_d112 : decode J_MDotRows_inFrame.2.1 112 = .ok (.goto 4, 3) := by decide +kernel
theorem J_MDotRows_inFrame_d115 : decode J_MDotRows_inFrame.2.1 115 = .ok (.iconst 0, 1) := by decide +kernel
theorem J_MDotRows_inFrame_d116 : decode J_MDotRows_inFrame.2.1 116 = .ok (.ireturn, 1) := by decide +kernel
theorem f_MDotRows_inFrame_ok {L : Nat} {xs : Nat → Int32} {dep : Nat} {w : Bool} {p0 : Int32} {p1 : Int32} {M : im_M} {Q : Int32 → Prop} (hM : lw_S w M) (h : ed (f_MDotRows_inFrame p0 p1 M) Q) : ia (tb_G L xs) dep J_MDotRows_inFrame (rpI M Q) (0, lv_args 0 [.ref 89, .int p0, .int p1], [], M) := by
  have hS : im_St (tb_G L xs) dep J_MDotRows_inFrame (ia (tb_G L xs) dep J_MDotRows_inFrame (rpI M Q)) := ia_St
  unfold f_MDotRows_inFrame at h
  have l0 : im_lk (lv_args 0 [.ref 89, .int p0, .int p1]) 0 = some (.ref 89) := rfl
  have l1 : im_lk (lv_args 0 [.ref 89, .int p0, .int p1]) 1 = some (.int p0) := rfl
  have l2 : im_lk (lv_args 0 [.ref 89, .int p0, .int p1]) 2 = some (.int p1) := rfl
  refine iq_aload_n hS 1 J_MDotRows_inFrame_d0 l0 rfl ?_
  refine iq_getI hS 4 J_MDotRows_inFrame_d1 lf_12_52 (Or.inl rfl) (ka_89 hM) rfl ?_
  refine iq_aload_n hS 5 J_MDotRows_inFrame_d4 l0 rfl ?_
  refine iq_getI hS 8 J_MDotRows_inFrame_d5 lf_12_55 (Or.inl rfl) (ka_89 hM) rfl ?_
  refine iq_iadd hS 9 J_MDotRows_inFrame_d8 rfl ?_
  refine iq_iconst hS 10 J_MDotRows_inFrame_d9 (v := 1) (by decide +kernel) rfl ?_
  refine iq_isub hS 11 J_MDotRows_inFrame_d10 rfl ?_
  refine iq_istore_n hS 12 J_MDotRows_inFrame_d11 (by decide) rfl ?_
  refine iq_aload_n hS 13 J_MDotRows_inFrame_d12 (lk_1r l0 (by decide)) rfl ?_
  refine iq_getI hS 16 J_MDotRows_inFrame_d13 lf_12_58 (Or.inl rfl) (ka_89 hM) rfl ?_
  refine iq_aload_n hS 17 J_MDotRows_inFrame_d16 (lk_1r l0 (by decide)) rfl ?_
  refine iq_getI hS 20 J_MDotRows_inFrame_d17 lf_12_61 (Or.inl rfl) (ka_89 hM) rfl ?_
  refine iq_iadd hS 21 J_MDotRows_inFrame_d20 rfl ?_
  refine iq_iconst hS 22 J_MDotRows_inFrame_d21 (v := 1) (by decide +kernel) rfl ?_
  refine iq_isub hS 23 J_MDotRows_inFrame_d22 rfl ?_
  refine iq_istore hS 25 J_MDotRows_inFrame_d23 (by decide) rfl ?_
  refine iq_iload_n hS 26 J_MDotRows_inFrame_d25 (lk_1i (lk_1i l1 (by decide)) (by decide)) rfl ?_
  refine iq_aload_n hS 27 J_MDotRows_inFrame_d26 (lk_1r (lk_1r l0 (by decide)) (by decide)) rfl ?_
  refine iq_getI hS 30 J_MDotRows_inFrame_d27 lf_12_52 (Or.inl rfl) (ka_89 hM) rfl ?_
  have J1 : ∀ (z2 : Int32) (L' : List (Nat × Value)), z2 = ((if p0 < (im_i M 89 10) then 0 else (if (((im_i M 89 10) + (im_i M 89 12)) - 1) < p0 then 0 else (if p1 < (im_i M 89 11) then 0 else (if (((im_i M 89 11) + (im_i M 89 13)) - 1) < p1 then 0 else 1)))) : Int32) → im_lk L' 0 = some (.ref 89) → im_lk L' 1 = some (.int p0) → im_lk L' 2 = some (.int p1) → im_lk L' 3 = some (.int (((im_i M 89 10) + (im_i M 89 12)) - 1)) → im_lk L' 4 = some (.int (((im_i M 89 11) + (im_i M 89 13)) - 1)) → ia (tb_G L xs) dep J_MDotRows_inFrame (rpI M Q) (57, L', [.int z2], M) := by
    intro z2 L' e3 l4 l5 l6 l7 l8
    subst e3
    refine iq_istore hS 59 J_MDotRows_inFrame_d57 (by decide) rfl ?_
    refine iq_iload hS 61 J_MDotRows_inFrame_d59 lk_1s rfl ?_
    refine iq_if_eq hS 64 J_MDotRows_inFrame_d61 (t := 115) rfl (fun q61 => ?_) rfl (fun q61 => ?_)
    · replace h := ed_pos q61 h
      refine iq_iconst hS 116 J_MDotRows_inFrame_d115 (v := 0) (by decide +kernel) rfl ?_
      exact iq_iret J_MDotRows_inFrame_d116 rfl rfl ⟨_, rfl, rfl, ed_some h⟩
    · replace h := ed_neg q61 h
      refine iq_iload_n hS 65 J_MDotRows_inFrame_d64 (lk_1i l5 (by decide)) rfl ?_
      refine iq_aload_n hS 66 J_MDotRows_inFrame_d65 (lk_1r l4 (by decide)) rfl ?_
      refine iq_getI hS 69 J_MDotRows_inFrame_d66 lf_12_52 (Or.inl rfl) (ka_89 hM) rfl ?_
      refine iq_aload_n hS 70 J_MDotRows_inFrame_d69 (lk_1r l4 (by decide)) rfl ?_
      refine iq_getI hS 73 J_MDotRows_inFrame_d70 lf_12_64 (Or.inl rfl) (ka_89 hM) rfl ?_
      refine iq_iadd hS 74 J_MDotRows_inFrame_d73 rfl ?_
      obtain ⟨k9, Q9, hQ9, hk9, h⟩ := jn0_ed h
      have J9 : ∀  (L' : List (Nat × Value)), Q9 () → ia (tb_G L xs) dep J_MDotRows_inFrame (rpI M Q) (111, L', [], M) := by
        intro  L'  h
        replace h := hQ9  h
        refine iq_iconst hS 112 J_MDotRows_inFrame_d111 (v := 1) (by decide +kernel) rfl ?_
        refine iq_goto hS J_MDotRows_inFrame_d112 (t := 116) rfl ?_
        exact iq_iret J_MDotRows_inFrame_d116 rfl rfl ⟨_, rfl, rfl, ed_some h⟩
      refine iq_icmp_lt hS 77 J_MDotRows_inFrame_d74 (t := 111) rfl (fun q74 => ?_) rfl (fun q74 => ?_)
      · replace h := ed_pos q74 h
        exact J9  _  (hk9  h)
      · replace h := ed_neg q74 h
        refine iq_iload_n hS 78 J_MDotRows_inFrame_d77 (lk_1i l5 (by decide)) rfl ?_
        refine iq_iload_n hS 79 J_MDotRows_inFrame_d78 (lk_1i l7 (by decide)) rfl ?_
        refine iq_aload_n hS 80 J_MDotRows_inFrame_d79 (lk_1r l4 (by decide)) rfl ?_
        refine iq_getI hS 83 J_MDotRows_inFrame_d80 lf_12_64 (Or.inl rfl) (ka_89 hM) rfl ?_
        refine iq_isub hS 84 J_MDotRows_inFrame_d83 rfl ?_
        refine iq_icmp_gt hS 87 J_MDotRows_inFrame_d84 (t := 111) rfl (fun q84 => ?_) rfl (fun q84 => ?_)
        · replace h := ed_pos q84 h
          exact J9  _  (hk9  h)
        · replace h := ed_neg q84 h
          refine iq_iload_n hS 88 J_MDotRows_inFrame_d87 (lk_1i l6 (by decide)) rfl ?_
          refine iq_aload_n hS 89 J_MDotRows_inFrame_d88 (lk_1r l4 (by decide)) rfl ?_
          refine iq_getI hS 92 J_MDotRows_inFrame_d89 lf_12_58 (Or.inl rfl) (ka_89 hM) rfl ?_
          refine iq_aload_n hS 93 J_MDotRows_inFrame_d92 (lk_1r l4 (by decide)) rfl ?_
          refine iq_getI hS 96 J_MDotRows_inFrame_d93 lf_12_64 (Or.inl rfl) (ka_89 hM) rfl ?_
          refine iq_iadd hS 97 J_MDotRows_inFrame_d96 rfl ?_
          refine iq_icmp_lt hS 100 J_MDotRows_inFrame_d97 (t := 111) rfl (fun q97 => ?_) rfl (fun q97 => ?_)
          · replace h := ed_pos q97 h
            exact J9  _  (hk9  h)
          · replace h := ed_neg q97 h
            refine iq_iload_n hS 101 J_MDotRows_inFrame_d100 (lk_1i l6 (by decide)) rfl ?_
            refine iq_iload hS 103 J_MDotRows_inFrame_d101 (lk_1i l8 (by decide)) rfl ?_
            refine iq_aload_n hS 104 J_MDotRows_inFrame_d103 (lk_1r l4 (by decide)) rfl ?_
            refine iq_getI hS 107 J_MDotRows_inFrame_d104 lf_12_64 (Or.inl rfl) (ka_89 hM) rfl ?_
            refine iq_isub hS 108 J_MDotRows_inFrame_d107 rfl ?_
            refine iq_icmp_le hS 111 J_MDotRows_inFrame_d108 (t := 115) rfl (fun q108 => ?_) rfl (fun q108 => ?_)
            · replace h := ed_pos q108 h
              refine iq_iconst hS 116 J_MDotRows_inFrame_d115 (v := 0) (by decide +kernel) rfl ?_
              exact iq_iret J_MDotRows_inFrame_d116 rfl rfl ⟨_, rfl, rfl, ed_some h⟩
            · replace h := ed_neg q108 h
              exact J9  _  (hk9  h)
  refine iq_icmp_lt hS 33 J_MDotRows_inFrame_d30 (t := 56) rfl (fun q30 => ?_) rfl (fun q30 => ?_)
  · refine iq_iconst hS 57 J_MDotRows_inFrame_d56 (v := 0) (by decide +kernel) rfl ?_
    exact J1 _ _ (by simp only [if_pos q30]) (lk_1r (lk_1r l0 (by decide)) (by decide)) (lk_1i (lk_1i l1 (by decide)) (by decide)) (lk_1i (lk_1i l2 (by decide)) (by decide)) (lk_1i lk_1s (by decide)) lk_1s
  · refine iq_iload_n hS 34 J_MDotRows_inFrame_d33 (lk_1i (lk_1i l1 (by decide)) (by decide)) rfl ?_
    refine iq_iload_n hS 35 J_MDotRows_inFrame_d34 (lk_1i lk_1s (by decide)) rfl ?_
    refine iq_icmp_gt hS 38 J_MDotRows_inFrame_d35 (t := 56) rfl (fun q35 => ?_) rfl (fun q35 => ?_)
    · refine iq_iconst hS 57 J_MDotRows_inFrame_d56 (v := 0) (by decide +kernel) rfl ?_
      exact J1 _ _ (by simp only [if_neg q30, if_pos q35]) (lk_1r (lk_1r l0 (by decide)) (by decide)) (lk_1i (lk_1i l1 (by decide)) (by decide)) (lk_1i (lk_1i l2 (by decide)) (by decide)) (lk_1i lk_1s (by decide)) lk_1s
    · refine iq_iload_n hS 39 J_MDotRows_inFrame_d38 (lk_1i (lk_1i l2 (by decide)) (by decide)) rfl ?_
      refine iq_aload_n hS 40 J_MDotRows_inFrame_d39 (lk_1r (lk_1r l0 (by decide)) (by decide)) rfl ?_
      refine iq_getI hS 43 J_MDotRows_inFrame_d40 lf_12_58 (Or.inl rfl) (ka_89 hM) rfl ?_
      refine iq_icmp_lt hS 46 J_MDotRows_inFrame_d43 (t := 56) rfl (fun q43 => ?_) rfl (fun q43 => ?_)
      · refine iq_iconst hS 57 J_MDotRows_inFrame_d56 (v := 0) (by decide +kernel) rfl ?_
        exact J1 _ _ (by simp only [if_neg q30, if_neg q35, if_pos q43]) (lk_1r (lk_1r l0 (by decide)) (by decide)) (lk_1i (lk_1i l1 (by decide)) (by decide)) (lk_1i (lk_1i l2 (by decide)) (by decide)) (lk_1i lk_1s (by decide)) lk_1s
      · refine iq_iload_n hS 47 J_MDotRows_inFrame_d46 (lk_1i (lk_1i l2 (by decide)) (by decide)) rfl ?_
        refine iq_iload hS 49 J_MDotRows_inFrame_d47 lk_1s rfl ?_
        refine iq_icmp_gt hS 52 J_MDotRows_inFrame_d49 (t := 56) rfl (fun q49 => ?_) rfl (fun q49 => ?_)
        · refine iq_iconst hS 57 J_MDotRows_inFrame_d56 (v := 0) (by decide +kernel) rfl ?_
          exact J1 _ _ (by simp only [if_neg q30, if_neg q35, if_neg q43, if_pos q49]) (lk_1r (lk_1r l0 (by decide)) (by decide)) (lk_1i (lk_1i l1 (by decide)) (by decide)) (lk_1i (lk_1i l2 (by decide)) (by decide)) (lk_1i lk_1s (by decide)) lk_1s
        · refine iq_iconst hS 53 J_MDotRows_inFrame_d52 (v := 1) (by decide +kernel) rfl ?_
          refine iq_goto hS J_MDotRows_inFrame_d53 (t := 57) rfl ?_
          exact J1 _ _ (by simp only [if_neg q30, if_neg q35, if_neg q43, if_neg q49]) (lk_1r (lk_1r l0 (by decide)) (by decide)) (lk_1i (lk_1i l1 (by decide)) (by decide)) (lk_1i (lk_1i l2 (by decide)) (by decide)) (lk_1i lk_1s (by decide)) lk_1s
noncomputable def f_MDotRows_belongs (p0 : Int32) (p1 : Int32) (p2 : Int32) (M : im_M) : Option (Int32) := if ¬ p0 = 0 then if ¬ p0 = 1 then if ¬ p0 = 2 then if ¬ p0 = 6 then bd1 (f_MDotRows_along p1 p2 M) fun (x1 : Int32) => bd1 (f_MDotRows_across p1 p2 M) fun (x2 : Int32) => if x1 < 0 then some 0 else if 0 ≤ x2 then if ¬ p0 = 3 then if ¬ p0 = 4 then bd1 (f_MDotRows_inSquare x1 x2 M) fun (x3 : Int32) => gd (x3 = 0 ∨ x3 = 1) <| some x3 else gd (inb x1 5200) <| jn0 (fun (_ : Unit) => some 0) fun k4 => if (im_i M 95 (Int32.toNatClampNeg x1)) = 0 then k4 () else if (im_i M 89 13) ≤ x2 then k4 () else some 1 else bd1 (f_MDotRows_inText x1 x2 M) fun (x5 : Int32) => gd (x5 = 0 ∨ x5 = 1) <| some x5 else some 0 else bd1 (f_MDotRows_inPicture p1 p2 M) fun (x6 : Int32) => gd (x6 = 0 ∨ x6 = 1) <| some x6 else bd1 (f_MDotRows_inEllipse p1 p2 M) fun (x7 : Int32) => gd (x7 = 0 ∨ x7 = 1) <| some x7 else bd1 (f_MDotRows_inLine p1 p2 M) fun (x8 : Int32) => gd (x8 = 0 ∨ x8 = 1) <| some x8 else bd1 (f_MDotRows_inFrame p1 p2 M) fun (x9 : Int32) => gd (x9 = 0 ∨ x9 = 1) <| some x9
theorem J_MDotRows_belongs_d0 : decode J_MDotRows_belongs.2.1 0 = .ok (.iload_n 1, 1) := by decide +kernel
theorem J_MDotRows_belongs_d1 : decode J_MDotRows_belongs.2.1 1 = .ok (.ifCond .ne 10, 3) := by decide +kernel
theorem J_MDotRows_belongs_d4 : decode J_MDotRows_belongs.2.1 4 = .ok (.aload_n 0, 1) := by decide +kernel
theorem J_MDotRows_belongs_d5 : decode J_MDotRows_belongs.2.1 5 = .ok (.iload_n 2, 1) := by decide +kernel
theorem J_MDotRows_belongs_d6 : decode J_MDotRows_belongs.2.1 6 = .ok (.iload_n 3, 1) := by decide +kernel
theorem J_MDotRows_belongs_d7 : decode J_MDotRows_belongs.2.1 7 = .ok (.invokevirtual 85, 3) := by decide +kernel
theorem J_MDotRows_belongs_d10 : decode J_MDotRows_belongs.2.1 10 = .ok (.ireturn, 1) := by decide +kernel
theorem J_MDotRows_belongs_d11 : decode J_MDotRows_belongs.2.1 11 = .ok (.iload_n 1, 1) := by decide +kernel
theorem J_MDotRows_belongs_d12 : decode J_MDotRows_belongs.2.1 12 = .ok (.iconst 1, 1) := by decide +kernel
theorem J_MDotRows_belongs_d13 : decode J_MDotRows_belongs.2.1 13 = .ok (.if_icmp .ne 10, 3) := by decide +kernel
theorem J_MDotRows_belongs_d16 : decode J_MDotRows_belongs.2.1 16 = .ok (.aload_n 0, 1) := by decide +kernel
theorem J_MDotRows_belongs_d17 : decode J_MDotRows_belongs.2.1 17 = .ok (.iload_n 2, 1) := by decide +kernel
theorem J_MDotRows_belongs_d18 : decode J_MDotRows_belongs.2.1 18 = .ok (.iload_n 3, 1) := by decide +kernel
theorem J_MDotRows_belongs_d19 : decode J_MDotRows_belongs.2.1 19 = .ok (.invokevirtual 88, 3) := by decide +kernel
theorem J_MDotRows_belongs_d22 : decode J_MDotRows_belongs.2.1 22 = .ok (.ireturn, 1) := by decide +kernel
theorem J_MDotRows_belongs_d23 : decode J_MDotRows_belongs.2.1 23 = .ok (.iload_n 1, 1) := by decide +kernel
theorem J_MDotRows_belongs_d24 : decode J_MDotRows_belongs.2.1 24 = .ok (.iconst 2, 1) := by decide +kernel
theorem J_MDotRows_belongs_d25 : decode J_MDotRows_belongs.2.1 25 = .ok (.if_icmp .ne 10, 3) := by decide +kernel
theorem J_MDotRows_belongs_d28 : decode J_MDotRows_belongs.2.1 28 = .ok (.aload_n 0, 1) := by decide +kernel
theorem J_MDotRows_belongs_d29 : decode J_MDotRows_belongs.2.1 29 = .ok (.iload_n 2, 1) := by decide +kernel
theorem J_MDotRows_belongs_d30 : decode J_MDotRows_belongs.2.1 30 = .ok (.iload_n 3, 1) := by decide +kernel
theorem J_MDotRows_belongs_d31 : decode J_MDotRows_belongs.2.1 31 = .ok (.invokevirtual 91, 3) := by decide +kernel
theorem J_MDotRows_belongs_d34 : decode J_MDotRows_belongs.2.1 34 = .ok (.ireturn, 1) := by decide +kernel
theorem J_MDotRows_belongs_d35 : decode J_MDotRows_belongs.2.1 35 = .ok (.iload_n 1, 1) := by decide +kernel
theorem J_MDotRows_belongs_d36 : decode J_MDotRows_belongs.2.1 36 = .ok (.bipush 6, 2) := by decide +kernel
theorem J_MDotRows_belongs_d38 : decode J_MDotRows_belongs.2.1 38 = .ok (.if_icmp .ne 10, 3) := by decide +kernel
theorem J_MDotRows_belongs_d41 : decode J_MDotRows_belongs.2.1 41 = .ok (.aload_n 0, 1) := by decide +kernel
theorem J_MDotRows_belongs_d42 : decode J_MDotRows_belongs.2.1 42 = .ok (.iload_n 2, 1) := by decide +kernel
theorem J_MDotRows_belongs_d43 : decode J_MDotRows_belongs.2.1 43 = .ok (.iload_n 3, 1) := by decide +kernel
theorem J_MDotRows_belongs_d44 : decode J_MDotRows_belongs.2.1 44 = .ok (.invokevirtual 94, 3) := by decide +kernel
theorem J_MDotRows_belongs_d47 : decode J_MDotRows_belongs.2.1 47 = .ok (.ireturn, 1) := by decide +kernel
theorem J_MDotRows_belongs_d48 : decode J_MDotRows_belongs.2.1 48 = .ok (.aload_n 0, 1) := by decide +kernel
theorem J_MDotRows_belongs_d49 : decode J_MDotRows_belongs.2.1 49 = .ok (.iload_n 2, 1) := by decide +kernel
theorem J_MDotRows_belongs_d50 : decode J_MDotRows_belongs.2.1 50 = .ok (.iload_n 3, 1) := by decide +kernel
theorem J_MDotRows_belongs_d51 : decode J_MDotRows_belongs.2.1 51 = .ok (.invokevirtual 97, 3) := by decide +kernel
theorem J_MDotRows_belongs_d54 : decode J_MDotRows_belongs.2.1 54 = .ok (.istore 4, 2) := by decide +kernel
theorem J_MDotRows_belongs_d56 : decode J_MDotRows_belongs.2.1 56 = .ok (.aload_n 0, 1) := by decide +kernel
theorem J_MDotRows_belongs_d57 : decode J_MDotRows_belongs.2.1 57 = .ok (.iload_n 2, 1) := by decide +kernel
theorem J_MDotRows_belongs_d58 : decode J_MDotRows_belongs.2.1 58 = .ok (.iload_n 3, 1) := by decide +kernel
theorem J_MDotRows_belongs_d59 : decode J_MDotRows_belongs.2.1 59 = .ok (.invokevirtual 101, 3) := by decide +kernel
theorem J_MDotRows_belongs_d62 : decode J_MDotRows_belongs.2.1 62 = .ok (.istore 5, 2) := by decide +kernel
theorem J_MDotRows_belongs_d64 : decode J_MDotRows_belongs.2.1 64 = .ok (.iload 4, 2) := by decide +kernel
theorem J_MDotRows_belongs_d66 : decode J_MDotRows_belongs.2.1 66 = .ok (.ifCond .lt 8, 3) := by decide +kernel
theorem J_MDotRows_belongs_d69 : decode J_MDotRows_belongs.2.1 69 = .ok (.iload 5, 2) := by decide +kernel
theorem J_MDotRows_belongs_d71 : decode J_MDotRows_belongs.2.1 71 = .ok (.ifCond .ge 5, 3) := by decide +kernel
theorem J_MDotRows_belongs_d74 : decode J_MDotRows_belongs.2.1 74 = .ok (.iconst 0, 1) := by decide +kernel
theorem J_MDotRows_belongs_d75 : decode J_MDotRows_belongs.2.1 75 = .ok (.ireturn, 1) := by decide +kernel
theorem J_MDotRows_belongs_d76 : decode J_MDotRows_belongs.2.1 76 = .ok (.iload_n 1, 1) := by decide +kernel
theorem J_MDotRows_belongs_d77 : decode J_MDotRows_belongs.2.1 77 = .ok (.iconst 3, 1) := by decide +kernel
theorem J_MDotRows_belongs_d78 : decode J_MDotRows_belongs.2.1 78 = .ok (.if_icmp .ne 14, 3) := by decide +kernel
theorem J_MDotRows_belongs_d81 : decode J_MDotRows_belongs.2.1 81 = .ok (.aload_n 0, 1) := by decide +kernel
theorem J_MDotRows_belongs_d82 : decode J_MDotRows_belongs.2.1 82 = .ok (.iload 4, 2) := by decide +kernel
theorem J_MDotRows_belongs_d84 : decode J_MDotRows_belongs.2.1 84 = .ok (.iload 5, 2) := by decide +kernel
theorem J_MDotRows_belongs_d86 : decode J_MDotRows_belongs.2.1 86 = .ok (.invokevirtual 104, 3) := by decide +kernel
theorem J_MDotRows_belongs_d89 : decode J_MDotRows_belongs.2.1 89 = .ok (.goto 43, 3) := by decide +kernel
theorem J_MDotRows_belongs_d92 : decode J_MDotRows_belongs.2.1 92 = .ok (.iload_n 1, 1) := by decide +kernel
theorem J_MDotRows_belongs_d93 : decode J_MDotRows_belongs.2.1 93 = .ok (.iconst 4, 1) := by decide +kernel
theorem J_MDotRows_belongs_d94 : decode J_MDotRows_belongs.2.1 94 = .ok (.if_icmp .ne 30, 3) := by decide +kernel
theorem J_MDotRows_belongs_d97 : decode J_MDotRows_belongs.2.1 97 = .ok (.aload_n 0, 1) := by decide +kernel
theorem J_MDotRows_belongs_d98 : decode J_MDotRows_belongs.2.1 98 = .ok (.getfield 33, 3) := by decide +kernel
theorem J_MDotRows_belongs_d101 : decode J_MDotRows_belongs.2.1 101 = .ok (.iload 4, 2) := by decide +kernel
theorem J_MDotRows_belongs_d103 : decode J_MDotRows_belongs.2.1 103 = .ok (.baload, 1) := by decide +kernel
theorem J_MDotRows_belongs_d104 : decode J_MDotRows_belongs.2.1 104 = .ok (.ifCond .eq 16, 3) := by decide +kernel
theorem J_MDotRows_belongs_d107 : decode J_MDotRows_belongs.2.1 107 = .ok (.iload 5, 2) := by decide +kernel
theorem J_MDotRows_belongs_d109 : decode J_MDotRows_belongs.2.1 109 = .ok (.aload_n 0, 1) := by decide +kernel
theorem J_MDotRows_belongs_d110 : decode J_MDotRows_belongs.2.1 110 = .ok (.getfield 61, 3) := by decide +kernel
theorem J_MDotRows_belongs_d113 : decode J_MDotRows_belongs.2.1 113 = .ok (.if_icmp .ge 7, 3) := by decide +kernel
theorem J_MDotRows_belongs_d116 : decode J_MDotRows_belongs.2.1 116 = .ok (.iconst 1, 1) := by decide +kernel
theorem J_MDotRows_belongs_d117 : decode J_MDotRows_belongs.2.1 117 = .ok (.goto 15, 3) := by decide +kernel
theorem J_MDotRows_belongs_d120 : decode J_MDotRows_belongs.2.1 120 = .ok (.iconst 0, 1) := by decide +kernel
theorem J_MDotRows_belongs_d121 : decode J_MDotRows_belongs.2.1 121 = .ok (.goto 11, 3) := by decide +kernel
theorem J_MDotRows_belongs_d124 : decode J_MDotRows_belongs.2.1 124 = .ok (.aload_n 0, 1) := by decide +kernel
theorem J_MDotRows_belongs_d125 : decode J_MDotRows_belongs.2.1 125 = .ok (.iload 4, 2) := by decide +kernel
theorem J_MDotRows_belongs_d127 : decode J_MDotRows_belongs.2.1 127 = .ok (.iload 5, 2) := by decide +kernel
theorem J_MDotRows_belongs_d129 : decode J_MDotRows_belongs.2.1 129 = .ok (.invokevirtual 107, 3) := by decide +kernel
theorem J_MDotRows_belongs_d132 : decode J_MDotRows_belongs.2.1 132 = .ok (.ireturn, 1) := by decide +kernel
theorem f_MDotRows_belongs_ok {L : Nat} {xs : Nat → Int32} {dep : Nat} {w : Bool} {p0 : Int32} {p1 : Int32} {p2 : Int32} {M : im_M} {Q : Int32 → Prop} (hM : lw_S w M) (h : ed (f_MDotRows_belongs p0 p1 p2 M) Q) : ia (tb_G L xs) (dep + 2) J_MDotRows_belongs (rpI M Q) (0, lv_args 0 [.ref 89, .int p0, .int p1, .int p2], [], M) := by
  have hS : im_St (tb_G L xs) (dep + 2) J_MDotRows_belongs (ia (tb_G L xs) (dep + 2) J_MDotRows_belongs (rpI M Q)) := ia_St
  unfold f_MDotRows_belongs at h
  have l0 : im_lk (lv_args 0 [.ref 89, .int p0, .int p1, .int p2]) 0 = some (.ref 89) := rfl
  have l1 : im_lk (lv_args 0 [.ref 89, .int p0, .int p1, .int p2]) 1 = some (.int p0) := rfl
  have l2 : im_lk (lv_args 0 [.ref 89, .int p0, .int p1, .int p2]) 2 = some (.int p1) := rfl
  have l3 : im_lk (lv_args 0 [.ref 89, .int p0, .int p1, .int p2]) 3 = some (.int p2) := rfl
  refine iq_iload_n hS 1 J_MDotRows_belongs_d0 l1 rfl ?_
  refine iq_if_ne hS 4 J_MDotRows_belongs_d1 (t := 11) rfl (fun q1 => ?_) rfl (fun q1 => ?_)
  · replace h := ed_pos q1 h
    refine iq_iload_n hS 12 J_MDotRows_belongs_d11 l1 rfl ?_
    refine iq_iconst hS 13 J_MDotRows_belongs_d12 (v := 1) (by decide +kernel) rfl ?_
    refine iq_icmp_ne hS 16 J_MDotRows_belongs_d13 (t := 23) rfl (fun q13 => ?_) rfl (fun q13 => ?_)
    · replace h := ed_pos q13 h
      refine iq_iload_n hS 24 J_MDotRows_belongs_d23 l1 rfl ?_
      refine iq_iconst hS 25 J_MDotRows_belongs_d24 (v := 2) (by decide +kernel) rfl ?_
      refine iq_icmp_ne hS 28 J_MDotRows_belongs_d25 (t := 35) rfl (fun q25 => ?_) rfl (fun q25 => ?_)
      · replace h := ed_pos q25 h
        refine iq_iload_n hS 36 J_MDotRows_belongs_d35 l1 rfl ?_
        refine iq_bipush hS 38 J_MDotRows_belongs_d36 (v := 6) (by decide +kernel) rfl ?_
        refine iq_icmp_ne hS 41 J_MDotRows_belongs_d38 (t := 48) rfl (fun q38 => ?_) rfl (fun q38 => ?_)
        · replace h := ed_pos q38 h
          refine iq_aload_n hS 49 J_MDotRows_belongs_d48 l0 rfl ?_
          refine iq_iload_n hS 50 J_MDotRows_belongs_d49 l2 rfl ?_
          refine iq_iload_n hS 51 J_MDotRows_belongs_d50 l3 rfl ?_
          obtain ⟨Q1, hQ1, h⟩ := bd1_ed h
          refine iq_cpI hS 54 J_MDotRows_belongs_d51 rfl (pr_inst (vs := [_, _]) lc_12_97 lT_350 rfl rfl (by decide) (by decide) rfl (Nat.le_of_ble_eq_true rfl) (Nat.le_of_ble_eq_true rfl) (fun _ => Or.inl (pr_b (ka_89 hM) (by decide) rfl))) (f_MDotRows_along_ok (dep := dep + 1) hM h) rfl ?_
          intro x1 h
          replace h := hQ1 _ h
          refine iq_istore hS 56 J_MDotRows_belongs_d54 (by decide) rfl ?_
          refine iq_aload_n hS 57 J_MDotRows_belongs_d56 (lk_1r l0 (by decide)) rfl ?_
          refine iq_iload_n hS 58 J_MDotRows_belongs_d57 (lk_1i l2 (by decide)) rfl ?_
          refine iq_iload_n hS 59 J_MDotRows_belongs_d58 (lk_1i l3 (by decide)) rfl ?_
          obtain ⟨Q2, hQ2, h⟩ := bd1_ed h
          refine iq_cpI hS 62 J_MDotRows_belongs_d59 rfl (pr_inst (vs := [_, _]) lc_12_101 lT_351 rfl rfl (by decide) (by decide) rfl (Nat.le_of_ble_eq_true rfl) (Nat.le_of_ble_eq_true rfl) (fun _ => Or.inl (pr_b (ka_89 hM) (by decide) rfl))) (f_MDotRows_across_ok (dep := dep + 1) hM h) rfl ?_
          intro x2 h
          replace h := hQ2 _ h
          refine iq_istore hS 64 J_MDotRows_belongs_d62 (by decide) rfl ?_
          refine iq_iload hS 66 J_MDotRows_belongs_d64 (lk_1i lk_1s (by decide)) rfl ?_
          refine iq_if_lt hS 69 J_MDotRows_belongs_d66 (t := 74) rfl (fun q66 => ?_) rfl (fun q66 => ?_)
          · replace h := ed_pos q66 h
            refine iq_iconst hS 75 J_MDotRows_belongs_d74 (v := 0) (by decide +kernel) rfl ?_
            exact iq_iret J_MDotRows_belongs_d75 rfl rfl ⟨_, rfl, rfl, ed_some h⟩
          · replace h := ed_neg q66 h
            refine iq_iload hS 71 J_MDotRows_belongs_d69 lk_1s rfl ?_
            refine iq_if_ge hS 74 J_MDotRows_belongs_d71 (t := 76) rfl (fun q71 => ?_) rfl (fun q71 => ?_)
            · replace h := ed_pos q71 h
              refine iq_iload_n hS 77 J_MDotRows_belongs_d76 (lk_1i (lk_1i l1 (by decide)) (by decide)) rfl ?_
              refine iq_iconst hS 78 J_MDotRows_belongs_d77 (v := 3) (by decide +kernel) rfl ?_
              refine iq_icmp_ne hS 81 J_MDotRows_belongs_d78 (t := 92) rfl (fun q78 => ?_) rfl (fun q78 => ?_)
              · replace h := ed_pos q78 h
                refine iq_iload_n hS 93 J_MDotRows_belongs_d92 (lk_1i (lk_1i l1 (by decide)) (by decide)) rfl ?_
                refine iq_iconst hS 94 J_MDotRows_belongs_d93 (v := 4) (by decide +kernel) rfl ?_
                refine iq_icmp_ne hS 97 J_MDotRows_belongs_d94 (t := 124) rfl (fun q94 => ?_) rfl (fun q94 => ?_)
                · replace h := ed_pos q94 h
                  refine iq_aload_n hS 125 J_MDotRows_belongs_d124 (lk_1r (lk_1r l0 (by decide)) (by decide)) rfl ?_
                  refine iq_iload hS 127 J_MDotRows_belongs_d125 (lk_1i lk_1s (by decide)) rfl ?_
                  refine iq_iload hS 129 J_MDotRows_belongs_d127 lk_1s rfl ?_
                  obtain ⟨Q3, hQ3, h⟩ := bd1_ed h
                  refine iq_cpI hS 132 J_MDotRows_belongs_d129 rfl (pr_inst (vs := [_, _]) lc_12_107 lT_353 rfl rfl (by decide) (by decide) rfl (Nat.le_of_ble_eq_true rfl) (Nat.le_of_ble_eq_true rfl) (fun _ => Or.inl (pr_b (ka_89 hM) (by decide) rfl))) (f_MDotRows_inSquare_ok (dep := dep + 0) hM h) rfl ?_
                  intro x3 h
                  replace h := hQ3 _ h
                  obtain ⟨g132, h⟩ := ed_gd h
                  exact iq_iret J_MDotRows_belongs_d132 rfl (nar_z g132) ⟨_, rfl, rfl, ed_some h⟩
                · replace h := ed_neg q94 h
                  refine iq_aload_n hS 98 J_MDotRows_belongs_d97 (lk_1r (lk_1r l0 (by decide)) (by decide)) rfl ?_
                  refine iq_getR hS 101 J_MDotRows_belongs_d98 lf_12_33 (Or.inr ⟨_, rfl⟩) (ka_89 hM) (ra_89_17 hM) rfl ?_
                  refine iq_iload hS 103 J_MDotRows_belongs_d101 (lk_1i lk_1s (by decide)) rfl ?_
                  obtain ⟨g103, h⟩ := ed_gd h
                  refine iq_zaload hS 104 J_MDotRows_belongs_d103 ⟨(ka_95 hM).1, (ka_95 hM).2, g103.1, ix_lt (kl_95 hM) g103.2⟩ rfl ?_
                  obtain ⟨k4, Q4, hQ4, hk4, h⟩ := jn0_ed h
                  have J4 : ∀  (L' : List (Nat × Value)), Q4 () → ia (tb_G L xs) (dep + 2) J_MDotRows_belongs (rpI M Q) (120, L', [], M) := by
                    intro  L'  h
                    replace h := hQ4  h
                    refine iq_iconst hS 121 J_MDotRows_belongs_d120 (v := 0) (by decide +kernel) rfl ?_
                    refine iq_goto hS J_MDotRows_belongs_d121 (t := 132) rfl ?_
                    exact iq_iret J_MDotRows_belongs_d132 rfl rfl ⟨_, rfl, rfl, ed_some h⟩
                  refine iq_if_eq hS 107 J_MDotRows_belongs_d104 (t := 120) rfl (fun q104 => ?_) rfl (fun q104 => ?_)
                  · replace h := ed_pos q104 h
                    exact J4  _  (hk4  h)
                  · replace h := ed_neg q104 h
                    refine iq_iload hS 109 J_MDotRows_belongs_d107 lk_1s rfl ?_
                    refine iq_aload_n hS 110 J_MDotRows_belongs_d109 (lk_1r (lk_1r l0 (by decide)) (by decide)) rfl ?_
                    refine iq_getI hS 113 J_MDotRows_belongs_d110 lf_12_61 (Or.inl rfl) (ka_89 hM) rfl ?_
                    refine iq_icmp_ge hS 116 J_MDotRows_belongs_d113 (t := 120) rfl (fun q113 => ?_) rfl (fun q113 => ?_)
                    · replace h := ed_pos q113 h
                      exact J4  _  (hk4  h)
                    · replace h := ed_neg q113 h
                      refine iq_iconst hS 117 J_MDotRows_belongs_d116 (v := 1) (by decide +kernel) rfl ?_
                      refine iq_goto hS J_MDotRows_belongs_d117 (t := 132) rfl ?_
                      exact iq_iret J_MDotRows_belongs_d132 rfl rfl ⟨_, rfl, rfl, ed_some h⟩
              · replace h := ed_neg q78 h
                refine iq_aload_n hS 82 J_MDotRows_belongs_d81 (lk_1r (lk_1r l0 (by decide)) (by decide)) rfl ?_
                refine iq_iload hS 84 J_MDotRows_belongs_d82 (lk_1i lk_1s (by decide)) rfl ?_
                refine iq_iload hS 86 J_MDotRows_belongs_d84 lk_1s rfl ?_
                obtain ⟨Q5, hQ5, h⟩ := bd1_ed h
                refine iq_cpI hS 89 J_MDotRows_belongs_d86 rfl (pr_inst (vs := [_, _]) lc_12_104 lT_352 rfl rfl (by decide) (by decide) rfl (Nat.le_of_ble_eq_true rfl) (Nat.le_of_ble_eq_true rfl) (fun _ => Or.inl (pr_b (ka_89 hM) (by decide) rfl))) (f_MDotRows_inText_ok (dep := dep + 1) hM h) rfl ?_
                intro x5 h
                replace h := hQ5 _ h
                refine iq_goto hS J_MDotRows_belongs_d89 (t := 132) rfl ?_
                obtain ⟨g132, h⟩ := ed_gd h
                exact iq_iret J_MDotRows_belongs_d132 rfl (nar_z g132) ⟨_, rfl, rfl, ed_some h⟩
            · replace h := ed_neg q71 h
              refine iq_iconst hS 75 J_MDotRows_belongs_d74 (v := 0) (by decide +kernel) rfl ?_
              exact iq_iret J_MDotRows_belongs_d75 rfl rfl ⟨_, rfl, rfl, ed_some h⟩
        · replace h := ed_neg q38 h
          refine iq_aload_n hS 42 J_MDotRows_belongs_d41 l0 rfl ?_
          refine iq_iload_n hS 43 J_MDotRows_belongs_d42 l2 rfl ?_
          refine iq_iload_n hS 44 J_MDotRows_belongs_d43 l3 rfl ?_
          obtain ⟨Q6, hQ6, h⟩ := bd1_ed h
          refine iq_cpI hS 47 J_MDotRows_belongs_d44 rfl (pr_inst (vs := [_, _]) lc_12_94 lT_348 rfl rfl (by decide) (by decide) rfl (Nat.le_of_ble_eq_true rfl) (Nat.le_of_ble_eq_true rfl) (fun _ => Or.inl (pr_b (ka_89 hM) (by decide) rfl))) (f_MDotRows_inPicture_ok (dep := dep + 0) hM h) rfl ?_
          intro x6 h
          replace h := hQ6 _ h
          obtain ⟨g47, h⟩ := ed_gd h
          exact iq_iret J_MDotRows_belongs_d47 rfl (nar_z g47) ⟨_, rfl, rfl, ed_some h⟩
      · replace h := ed_neg q25 h
        refine iq_aload_n hS 29 J_MDotRows_belongs_d28 l0 rfl ?_
        refine iq_iload_n hS 30 J_MDotRows_belongs_d29 l2 rfl ?_
        refine iq_iload_n hS 31 J_MDotRows_belongs_d30 l3 rfl ?_
        obtain ⟨Q7, hQ7, h⟩ := bd1_ed h
        refine iq_cpI hS 34 J_MDotRows_belongs_d31 rfl (pr_inst (vs := [_, _]) lc_12_91 lT_346 rfl rfl (by decide) (by decide) rfl (Nat.le_of_ble_eq_true rfl) (Nat.le_of_ble_eq_true rfl) (fun _ => Or.inl (pr_b (ka_89 hM) (by decide) rfl))) (f_MDotRows_inEllipse_ok (dep := dep + 0) hM h) rfl ?_
        intro x7 h
        replace h := hQ7 _ h
        obtain ⟨g34, h⟩ := ed_gd h
        exact iq_iret J_MDotRows_belongs_d34 rfl (nar_z g34) ⟨_, rfl, rfl, ed_some h⟩
    · replace h := ed_neg q13 h
      refine iq_aload_n hS 17 J_MDotRows_belongs_d16 l0 rfl ?_
      refine iq_iload_n hS 18 J_MDotRows_belongs_d17 l2 rfl ?_
      refine iq_iload_n hS 19 J_MDotRows_belongs_d18 l3 rfl ?_
      obtain ⟨Q8, hQ8, h⟩ := bd1_ed h
      refine iq_cpI hS 22 J_MDotRows_belongs_d19 rfl (pr_inst (vs := [_, _]) lc_12_88 lT_345 rfl rfl (by decide) (by decide) rfl (Nat.le_of_ble_eq_true rfl) (Nat.le_of_ble_eq_true rfl) (fun _ => Or.inl (pr_b (ka_89 hM) (by decide) rfl))) (f_MDotRows_inLine_ok (dep := dep + 1) hM h) rfl ?_
      intro x8 h
      replace h := hQ8 _ h
      obtain ⟨g22, h⟩ := ed_gd h
      exact iq_iret J_MDotRows_belongs_d22 rfl (nar_z g22) ⟨_, rfl, rfl, ed_some h⟩
  · replace h := ed_neg q1 h
    refine iq_aload_n hS 5 J_MDotRows_belongs_d4 l0 rfl ?_
    refine iq_iload_n hS 6 J_MDotRows_belongs_d5 l2 rfl ?_
    refine iq_iload_n hS 7 J_MDotRows_belongs_d6 l3 rfl ?_
    obtain ⟨Q9, hQ9, h⟩ := bd1_ed h
    refine iq_cpI hS 10 J_MDotRows_belongs_d7 rfl (pr_inst (vs := [_, _]) lc_12_85 lT_344 rfl rfl (by decide) (by decide) rfl (Nat.le_of_ble_eq_true rfl) (Nat.le_of_ble_eq_true rfl) (fun _ => Or.inl (pr_b (ka_89 hM) (by decide) rfl))) (f_MDotRows_inFrame_ok (dep := dep + 1) hM h) rfl ?_
    intro x9 h
    replace h := hQ9 _ h
    obtain ⟨g10, h⟩ := ed_gd h
    exact iq_iret J_MDotRows_belongs_d10 rfl (nar_z g10) ⟨_, rfl, rfl, ed_some h⟩
noncomputable def f_MDotRows_isOn (p0 : Int32) (p1 : Int32) (M : im_M) : Option (Int32) := if p0 < 0 then some 0 else if (im_i M 89 1) ≤ p0 then some 0 else if p1 < 0 then some 0 else if (im_i M 89 2) ≤ p1 then some 0 else some 1
theorem J_MDotRows_isOn_d0 : decode J_MDotRows_isOn.2.1 0 = .ok (.iload_n 1, 1) := by decide +kernel
theorem J_MDotRows_isOn_d1 : decode J_MDotRows_isOn.2.1 1 = .ok (.ifCond .lt 27, 3) := by decide +kernel
theorem J_MDotRows_isOn_d4 : decode J_MDotRows_isOn.2.1 4 = .ok (.iload_n 1, 1) := by decide +kernel
theorem J_MDotRows_isOn_d5 : decode J_MDotRows_isOn.2.1 5 = .ok (.aload_n 0, 1) := by decide +kernel
theorem J_MDotRows_isOn_d6 : decode J_MDotRows_isOn.2.1 6 = .ok (.getfield 7, 3) := by decide +kernel
theorem J_MDotRows_isOn_d9 : decode J_MDotRows_isOn.2.1 9 = .ok (.if_icmp .ge 19, 3) := by decide +kernel
theorem J_MDotRows_isOn_d12 : decode J_MDotRows_isOn.2.1 12 = .ok (.iload_n 2, 1) := by decide +kernel
theorem J_MDotRows_isOn_d13 : decode J_MDotRows_isOn.2.1 13 = .ok (.ifCond .lt 15, 3) := by decide +kernel
theorem J_MDotRows_isOn_d16 : decode J_MDotRows_isOn.2.1 16 = .ok (.iload_n 2, 1) := by decide +kernel
theorem J_MDotRows_isOn_d17 : decode J_MDotRows_isOn.2.1 17 = .ok (.aload_n 0, 1) := by decide +kernel
theorem J_MDotRows_isOn_d18 : decode J_MDotRows_isOn.2.1 18 = .ok (.getfield 13, 3) := by decide +kernel
theorem J_MDotRows_isOn_d21 : decode J_MDotRows_isOn.2.1 21 = .ok (.if_icmp .ge 7, 3) := by decide +kernel
theorem J_MDotRows_isOn_d24 : decode J_MDotRows_isOn.2.1 24 = .ok (.iconst 1, 1) := by decide +kernel
theorem J_MDotRows_isOn_d25 : decode J_MDotRows_isOn.2.1 25 = .ok (.goto 4, 3) := by decide +kernel
theorem J_MDotRows_isOn_d28 : decode J_MDotRows_isOn.2.1 28 = .ok (.iconst 0, 1) := by decide +kernel
theorem J_MDotRows_isOn_d29 : decode J_MDotRows_isOn.2.1 29 = .ok (.ireturn, 1) := by decide +kernel
theorem f_MDotRows_isOn_ok {L : Nat} {xs : Nat → Int32} {dep : Nat} {w : Bool} {p0 : Int32} {p1 : Int32} {M : im_M} {Q : Int32 → Prop} (hM : lw_S w M) (h : ed (f_MDotRows_isOn p0 p1 M) Q) : ia (tb_G L xs) dep J_MDotRows_isOn (rpI M Q) (0, lv_args 0 [.ref 89, .int p0, .int p1], [], M) := by
  have hS : im_St (tb_G L xs) dep J_MDotRows_isOn (ia (tb_G L xs) dep J_MDotRows_isOn (rpI M Q)) := ia_St
  unfold f_MDotRows_isOn at h
  have l0 : im_lk (lv_args 0 [.ref 89, .int p0, .int p1]) 0 = some (.ref 89) := rfl
  have l1 : im_lk (lv_args 0 [.ref 89, .int p0, .int p1]) 1 = some (.int p0) := rfl
  have l2 : im_lk (lv_args 0 [.ref 89, .int p0, .int p1]) 2 = some (.int p1) := rfl
  refine iq_iload_n hS 1 J_MDotRows_isOn_d0 l1 rfl ?_
  refine iq_if_lt hS 4 J_MDotRows_isOn_d1 (t := 28) rfl (fun q1 => ?_) rfl (fun q1 => ?_)
  · replace h := ed_pos q1 h
    refine iq_iconst hS 29 J_MDotRows_isOn_d28 (v := 0) (by decide +kernel) rfl ?_
    exact iq_iret J_MDotRows_isOn_d29 rfl rfl ⟨_, rfl, rfl, ed_some h⟩
  · replace h := ed_neg q1 h
    refine iq_iload_n hS 5 J_MDotRows_isOn_d4 l1 rfl ?_
    refine iq_aload_n hS 6 J_MDotRows_isOn_d5 l0 rfl ?_
    refine iq_getI hS 9 J_MDotRows_isOn_d6 lf_12_7 (Or.inl rfl) (ka_89 hM) rfl ?_
    refine iq_icmp_ge hS 12 J_MDotRows_isOn_d9 (t := 28) rfl (fun q9 => ?_) rfl (fun q9 => ?_)
    · replace h := ed_pos q9 h
      refine iq_iconst hS 29 J_MDotRows_isOn_d28 (v := 0) (by decide +kernel) rfl ?_
      exact iq_iret J_MDotRows_isOn_d29 rfl rfl ⟨_, rfl, rfl, ed_some h⟩
    · replace h := ed_neg q9 h
      refine iq_iload_n hS 13 J_MDotRows_isOn_d12 l2 rfl ?_
      refine iq_if_lt hS 16 J_MDotRows_isOn_d13 (t := 28) rfl (fun q13 => ?_) rfl (fun q13 => ?_)
      · replace h := ed_pos q13 h
        refine iq_iconst hS 29 J_MDotRows_isOn_d28 (v := 0) (by decide +kernel) rfl ?_
        exact iq_iret J_MDotRows_isOn_d29 rfl rfl ⟨_, rfl, rfl, ed_some h⟩
      · replace h := ed_neg q13 h
        refine iq_iload_n hS 17 J_MDotRows_isOn_d16 l2 rfl ?_
        refine iq_aload_n hS 18 J_MDotRows_isOn_d17 l0 rfl ?_
        refine iq_getI hS 21 J_MDotRows_isOn_d18 lf_12_13 (Or.inl rfl) (ka_89 hM) rfl ?_
        refine iq_icmp_ge hS 24 J_MDotRows_isOn_d21 (t := 28) rfl (fun q21 => ?_) rfl (fun q21 => ?_)
        · replace h := ed_pos q21 h
          refine iq_iconst hS 29 J_MDotRows_isOn_d28 (v := 0) (by decide +kernel) rfl ?_
          exact iq_iret J_MDotRows_isOn_d29 rfl rfl ⟨_, rfl, rfl, ed_some h⟩
        · replace h := ed_neg q21 h
          refine iq_iconst hS 25 J_MDotRows_isOn_d24 (v := 1) (by decide +kernel) rfl ?_
          refine iq_goto hS J_MDotRows_isOn_d25 (t := 29) rfl ?_
          exact iq_iret J_MDotRows_isOn_d29 rfl rfl ⟨_, rfl, rfl, ed_some h⟩
noncomputable def f_MDotRows_isDark (p0 : Int32) (p1 : Int32) (M : im_M) : Option (Int32) := bd1 (f_MDotRows_isOn p0 p1 M) fun (x1 : Int32) => if x1 = 0 then some 0 else gd (inb (((32 : Int32) * p1) + (p0 / 32)) 32768) <| if ¬ (((im_i M 90 (Int32.toNatClampNeg (((32 : Int32) * p1) + (p0 / 32)))) >>> ((p0 - p0 / 32 * 32) &&& 31 : Int32) : Int32) &&& 1) = 1 then some 0 else some 1
theorem J_MDotRows_isDark_d0 : decode J_MDotRows_isDark.2.1 0 = .ok (.aload_n 0, 1) := by decide +kernel
theorem J_MDotRows_isDark_d1 : decode J_MDotRows_isDark.2.1 1 = .ok (.iload_n 1, 1) := by decide +kernel
theorem J_MDotRows_isDark_d2 : decode J_MDotRows_isDark.2.1 2 = .ok (.iload_n 2, 1) := by decide +kernel
theorem J_MDotRows_isDark_d3 : decode J_MDotRows_isDark.2.1 3 = .ok (.invokevirtual 40, 3) := by decide +kernel
theorem J_MDotRows_isDark_d6 : decode J_MDotRows_isDark.2.1 6 = .ok (.ifCond .eq 32, 3) := by decide +kernel
theorem J_MDotRows_isDark_d9 : decode J_MDotRows_isDark.2.1 9 = .ok (.aload_n 0, 1) := by decide +kernel
theorem J_MDotRows_isDark_d10 : decode J_MDotRows_isDark.2.1 10 = .ok (.getfield 17, 3) := by decide +kernel
theorem J_MDotRows_isDark_d13 : decode J_MDotRows_isDark.2.1 13 = .ok (.bipush 32, 2) := by decide +kernel
theorem J_MDotRows_isDark_d15 : decode J_MDotRows_isDark.2.1 15 = .ok (.iload_n 2, 1) := by decide +kernel
theorem J_MDotRows_isDark_d16 : decode J_MDotRows_isDark.2.1 16 = .ok (.imul, 1) := by decide +kernel
theorem J_MDotRows_isDark_d17 : decode J_MDotRows_isDark.2.1 17 = .ok (.iload_n 1, 1) := by decide +kernel
theorem J_MDotRows_isDark_d18 : decode J_MDotRows_isDark.2.1 18 = .ok (.bipush 32, 2) := by decide +kernel
theorem J_MDotRows_isDark_d20 : decode J_MDotRows_isDark.2.1 20 = .ok (.idiv, 1) := by decide +kernel
theorem J_MDotRows_isDark_d21 : decode J_MDotRows_isDark.2.1 21 = .ok (.iadd, 1) := by decide +kernel
theorem J_MDotRows_isDark_d22 : decode J_MDotRows_isDark.2.1 22 = .ok (.iaload, 1) := by decide +kernel
theorem J_MDotRows_isDark_d23 : decode J_MDotRows_isDark.2.1 23 = .ok (.iload_n 1, 1) := by decide +kernel
theorem J_MDotRows_isDark_d24 : decode J_MDotRows_isDark.2.1 24 = .ok (.bipush 32, 2) := by decide +kernel
theorem J_MDotRows_isDark_d26 : decode J_MDotRows_isDark.2.1 26 = .ok (.irem, 1) := by decide +kernel
theorem J_MDotRows_isDark_d27 : decode J_MDotRows_isDark.2.1 27 = .ok (.ishr, 1) := by decide +kernel
theorem J_MDotRows_isDark_d28 : decode J_MDotRows_isDark.2.1 28 = .ok (.iconst 1, 1) := by decide +kernel
theorem J_MDotRows_isDark_d29 : decode J_MDotRows_isDark.2.1 29 = .ok (.iand, 1) := by decide +kernel
theorem J_MDotRows_isDark_d30 : decode J_MDotRows_isDark.2.1 30 = .ok (.iconst 1, 1) := by decide +kernel
theorem J_MDotRows_isDark_d31 : decode J_MDotRows_isDark.2.1 31 = .ok (.if_icmp .ne 7, 3) := by decide +kernel
theorem J_MDotRows_isDark_d34 : decode J_MDotRows_isDark.2.1 34 = .ok (.iconst 1, 1) := by decide +kernel
theorem J_MDotRows_isDark_d35 : decode J_MDotRows_isDark.2.1 35 = .ok (.goto 4, 3) := by decide +kernel
theorem J_MDotRows_isDark_d38 : decode J_MDotRows_isDark.2.1 38 = .ok (.iconst 0, 1) := by decide +kernel
theorem J_MDotRows_isDark_d39 : decode J_MDotRows_isDark.2.1 39 = .ok (.ireturn, 1) := by decide +kernel
theorem f_MDotRows_isDark_ok {L : Nat} {xs : Nat → Int32} {dep : Nat} {w : Bool} {p0 : Int32} {p1 : Int32} {M : im_M} {Q : Int32 → Prop} (hM : lw_S w M) (h : ed (f_MDotRows_isDark p0 p1 M) Q) : ia (tb_G L xs) (dep + 1) J_MDotRows_isDark (rpI M Q) (0, lv_args 0 [.ref 89, .int p0, .int p1], [], M) := by
  have hS : im_St (tb_G L xs) (dep + 1) J_MDotRows_isDark (ia (tb_G L xs) (dep + 1) J_MDotRows_isDark (rpI M Q)) := ia_St
  unfold f_MDotRows_isDark at h
  have l0 : im_lk (lv_args 0 [.ref 89, .int p0, .int p1]) 0 = some (.ref 89) := rfl
  have l1 : im_lk (lv_args 0 [.ref 89, .int p0, .int p1]) 1 = some (.int p0) := rfl
  have l2 : im_lk (lv_args 0 [.ref 89, .int p0, .int p1]) 2 = some (.int p1) := rfl
  refine iq_aload_n hS 1 J_MDotRows_isDark_d0 l0 rfl ?_
  refine iq_iload_n hS 2 J_MDotRows_isDark_d1 l1 rfl ?_
  refine iq_iload_n hS 3 J_MDotRows_isDark_d2 l2 rfl ?_
  obtain ⟨Q1, hQ1, h⟩ := bd1_ed h
  refine iq_cpI hS 6 J_MDotRows_isDark_d3 rfl (pr_inst (vs := [_, _]) lc_12_40 lT_355 rfl rfl (by decide) (by decide) rfl (Nat.le_of_ble_eq_true rfl) (Nat.le_of_ble_eq_true rfl) (fun _ => Or.inl (pr_b (ka_89 hM) (by decide) rfl))) (f_MDotRows_isOn_ok (dep := dep + 0) hM h) rfl ?_
  intro x1 h
  replace h := hQ1 _ h
  refine iq_if_eq hS 9 J_MDotRows_isDark_d6 (t := 38) rfl (fun q6 => ?_) rfl (fun q6 => ?_)
  · replace h := ed_pos q6 h
    refine iq_iconst hS 39 J_MDotRows_isDark_d38 (v := 0) (by decide +kernel) rfl ?_
    exact iq_iret J_MDotRows_isDark_d39 rfl rfl ⟨_, rfl, rfl, ed_some h⟩
  · replace h := ed_neg q6 h
    refine iq_aload_n hS 10 J_MDotRows_isDark_d9 l0 rfl ?_
    refine iq_getR hS 13 J_MDotRows_isDark_d10 lf_12_17 (Or.inr ⟨_, rfl⟩) (ka_89 hM) (ra_89_4 hM) rfl ?_
    refine iq_bipush hS 15 J_MDotRows_isDark_d13 (v := 32) (by decide +kernel) rfl ?_
    refine iq_iload_n hS 16 J_MDotRows_isDark_d15 l2 rfl ?_
    refine iq_imul hS 17 J_MDotRows_isDark_d16 rfl ?_
    refine iq_iload_n hS 18 J_MDotRows_isDark_d17 l1 rfl ?_
    refine iq_bipush hS 20 J_MDotRows_isDark_d18 (v := 32) (by decide +kernel) rfl ?_
    refine iq_idiv hS 21 J_MDotRows_isDark_d20 (by decide) rfl ?_
    refine iq_iadd hS 22 J_MDotRows_isDark_d21 rfl ?_
    obtain ⟨g22, h⟩ := ed_gd h
    refine iq_iaload hS 23 J_MDotRows_isDark_d22 ⟨(ka_90 hM).1, (ka_90 hM).2, g22.1, ix_lt (kl_90 hM) g22.2⟩ rfl ?_
    refine iq_iload_n hS 24 J_MDotRows_isDark_d23 l1 rfl ?_
    refine iq_bipush hS 26 J_MDotRows_isDark_d24 (v := 32) (by decide +kernel) rfl ?_
    refine iq_irem hS 27 J_MDotRows_isDark_d26 (by decide) rfl ?_
    refine iq_ishr hS 28 J_MDotRows_isDark_d27 rfl ?_
    refine iq_iconst hS 29 J_MDotRows_isDark_d28 (v := 1) (by decide +kernel) rfl ?_
    refine iq_iand hS 30 J_MDotRows_isDark_d29 rfl ?_
    refine iq_iconst hS 31 J_MDotRows_isDark_d30 (v := 1) (by decide +kernel) rfl ?_
    refine iq_icmp_ne hS 34 J_MDotRows_isDark_d31 (t := 38) rfl (fun q31 => ?_) rfl (fun q31 => ?_)
    · replace h := ed_pos q31 h
      refine iq_iconst hS 39 J_MDotRows_isDark_d38 (v := 0) (by decide +kernel) rfl ?_
      exact iq_iret J_MDotRows_isDark_d39 rfl rfl ⟨_, rfl, rfl, ed_some h⟩
    · replace h := ed_neg q31 h
      refine iq_iconst hS 35 J_MDotRows_isDark_d34 (v := 1) (by decide +kernel) rfl ?_
      refine iq_goto hS J_MDotRows_isDark_d35 (t := 39) rfl ?_
      exact iq_iret J_MDotRows_isDark_d39 rfl rfl ⟨_, rfl, rfl, ed_some h⟩
noncomputable def f_MDotRows_other (p0 : Int32) (p1 : Int32) (M : im_M) : Option (im_M) := gd (inb (((32 : Int32) * p1) + (p0 / 32)) 32768) <| gd (inb (((32 : Int32) * p1) + (p0 / 32)) 32768) <| some (im_setI M 90 (Int32.toNatClampNeg (((32 : Int32) * p1) + (p0 / 32))) ((im_i M 90 (Int32.toNatClampNeg (((32 : Int32) * p1) + (p0 / 32)))) ^^^ ((1 : Int32) <<< ((p0 - p0 / 32 * 32) &&& 31 : Int32) : Int32)))
theorem J_MDotRows_other_d0 : decode J_MDotRows_other.2.1 0 = .ok (.aload_n 0, 1) := by decide +kernel
theorem J_MDotRows_other_d1 : decode J_MDotRows_other.2.1 1 = .ok (.getfield 17, 3) := by decide +kernel
theorem J_MDotRows_other_d4 : decode J_MDotRows_other.2.1 4 = .ok (.bipush 32, 2) := by decide +kernel
theorem J_MDotRows_other_d6 : decode J_MDotRows_other.2.1 6 = .ok (.iload_n 2, 1) := by decide +kernel
theorem J_MDotRows_other_d7 : decode J_MDotRows_other.2.1 7 = .ok (.imul, 1) := by decide +kernel
theorem J_MDotRows_other_d8 : decode J_MDotRows_other.2.1 8 = .ok (.iload_n 1, 1) := by decide +kernel
theorem J_MDotRows_other_d9 : decode J_MDotRows_other.2.1 9 = .ok (.bipush 32, 2) := by decide +kernel
theorem J_MDotRows_other_d11 : decode J_MDotRows_other.2.1 11 = .ok (.idiv, 1) := by decide +kernel
theorem J_MDotRows_other_d12 : decode J_MDotRows_other.2.1 12 = .ok (.iadd, 1) := by decide +kernel
theorem J_MDotRows_other_d13 : decode J_MDotRows_other.2.1 13 = .ok (.aload_n 0, 1) := by decide +kernel
theorem J_MDotRows_other_d14 : decode J_MDotRows_other.2.1 14 = .ok (.getfield 17, 3) := by decide +kernel
theorem J_MDotRows_other_d17 : decode J_MDotRows_other.2.1 17 = .ok (.bipush 32, 2) := by decide +kernel
theorem J_MDotRows_other_d19 : decode J_MDotRows_other.2.1 19 = .ok (.iload_n 2, 1) := by decide +kernel
theorem J_MDotRows_other_d20 : decode J_MDotRows_other.2.1 20 = .ok (.imul, 1) := by decide +kernel
theorem J_MDotRows_other_d21 : decode J_MDotRows_other.2.1 21 = .ok (.iload_n 1, 1) := by decide +kernel
theorem J_MDotRows_other_d22 : decode J_MDotRows_other.2.1 22 = .ok (.bipush 32, 2) := by decide +kernel
theorem J_MDotRows_other_d24 : decode J_MDotRows_other.2.1 24 = .ok (.idiv, 1) := by decide +kernel
theorem J_MDotRows_other_d25 : decode J_MDotRows_other.2.1 25 = .ok (.iadd, 1) := by decide +kernel
theorem J_MDotRows_other_d26 : decode J_MDotRows_other.2.1 26 = .ok (.iaload, 1) := by decide +kernel
theorem J_MDotRows_other_d27 : decode J_MDotRows_other.2.1 27 = .ok (.iconst 1, 1) := by decide +kernel
theorem J_MDotRows_other_d28 : decode J_MDotRows_other.2.1 28 = .ok (.iload_n 1, 1) := by decide +kernel
theorem J_MDotRows_other_d29 : decode J_MDotRows_other.2.1 29 = .ok (.bipush 32, 2) := by decide +kernel
theorem J_MDotRows_other_d31 : decode J_MDotRows_other.2.1 31 = .ok (.irem, 1) := by decide +kernel
theorem J_MDotRows_other_d32 : decode J_MDotRows_other.2.1 32 = .ok (.ishl, 1) := by decide +kernel
theorem J_MDotRows_other_d33 : decode J_MDotRows_other.2.1 33 = .ok (.ixor, 1) := by decide +kernel
theorem J_MDotRows_other_d34 : decode J_MDotRows_other.2.1 34 = .ok (.iastore, 1) := by decide +kernel
theorem J_MDotRows_other_d35 : decode J_MDotRows_other.2.1 35 = .ok (.return_, 1) := by decide +kernel
theorem f_MDotRows_other_ok {L : Nat} {xs : Nat → Int32} {dep : Nat} {w : Bool} {p0 : Int32} {p1 : Int32} {M : im_M} {Q : im_M → Prop} (hM : lw_S w M) (h : ed (f_MDotRows_other p0 p1 M) Q) : ia (tb_G L xs) dep J_MDotRows_other (rwV w Q) (0, lv_args 0 [.ref 89, .int p0, .int p1], [], M) := by
  have hS : im_St (tb_G L xs) dep J_MDotRows_other (ia (tb_G L xs) dep J_MDotRows_other (rwV w Q)) := ia_St
  unfold f_MDotRows_other at h
  have l0 : im_lk (lv_args 0 [.ref 89, .int p0, .int p1]) 0 = some (.ref 89) := rfl
  have l1 : im_lk (lv_args 0 [.ref 89, .int p0, .int p1]) 1 = some (.int p0) := rfl
  have l2 : im_lk (lv_args 0 [.ref 89, .int p0, .int p1]) 2 = some (.int p1) := rfl
  refine iq_aload_n hS 1 J_MDotRows_other_d0 l0 rfl ?_
  refine iq_getR hS 4 J_MDotRows_other_d1 lf_12_17 (Or.inr ⟨_, rfl⟩) (ka_89 hM) (ra_89_4 hM) rfl ?_
  refine iq_bipush hS 6 J_MDotRows_other_d4 (v := 32) (by decide +kernel) rfl ?_
  refine iq_iload_n hS 7 J_MDotRows_other_d6 l2 rfl ?_
  refine iq_imul hS 8 J_MDotRows_other_d7 rfl ?_
  refine iq_iload_n hS 9 J_MDotRows_other_d8 l1 rfl ?_
  refine iq_bipush hS 11 J_MDotRows_other_d9 (v := 32) (by decide +kernel) rfl ?_
  refine iq_idiv hS 12 J_MDotRows_other_d11 (by decide) rfl ?_
  refine iq_iadd hS 13 J_MDotRows_other_d12 rfl ?_
  refine iq_aload_n hS 14 J_MDotRows_other_d13 l0 rfl ?_
  refine iq_getR hS 17 J_MDotRows_other_d14 lf_12_17 (Or.inr ⟨_, rfl⟩) (ka_89 hM) (ra_89_4 hM) rfl ?_
  refine iq_bipush hS 19 J_MDotRows_other_d17 (v := 32) (by decide +kernel) rfl ?_
  refine iq_iload_n hS 20 J_MDotRows_other_d19 l2 rfl ?_
  refine iq_imul hS 21 J_MDotRows_other_d20 rfl ?_
  refine iq_iload_n hS 22 J_MDotRows_other_d21 l1 rfl ?_
  refine iq_bipush hS 24 J_MDotRows_other_d22 (v := 32) (by decide +kernel) rfl ?_
  refine iq_idiv hS 25 J_MDotRows_other_d24 (by decide) rfl ?_
  refine iq_iadd hS 26 J_MDotRows_other_d25 rfl ?_
  obtain ⟨g26, h⟩ := ed_gd h
  refine iq_iaload hS 27 J_MDotRows_other_d26 ⟨(ka_90 hM).1, (ka_90 hM).2, g26.1, ix_lt (kl_90 hM) g26.2⟩ rfl ?_
  refine iq_iconst hS 28 J_MDotRows_other_d27 (v := 1) (by decide +kernel) rfl ?_
  refine iq_iload_n hS 29 J_MDotRows_other_d28 l1 rfl ?_
  refine iq_bipush hS 31 J_MDotRows_other_d29 (v := 32) (by decide +kernel) rfl ?_
  refine iq_irem hS 32 J_MDotRows_other_d31 (by decide) rfl ?_
  refine iq_ishl hS 33 J_MDotRows_other_d32 rfl ?_
  refine iq_ixor hS 34 J_MDotRows_other_d33 rfl ?_
  obtain ⟨g34, h⟩ := ed_gd h
  refine iq_iastore hS 35 J_MDotRows_other_d34 ⟨(ka_90 hM).1, (ka_90 hM).2, g34.1, ix_lt (kl_90 hM) g34.2⟩ rfl ?_
  exact iq_ret J_MDotRows_other_d35 rfl ⟨rfl, (lw_sI hM), ed_some h⟩
theorem f_MDotRows_other_fr {p0 : Int32} {p1 : Int32} {M : im_M} {r : im_M} (h : f_MDotRows_other p0 p1 M = some r) : fr 1237940039285380274899124224 [] M r := by
  replace h : ed (f_MDotRows_other p0 p1 M) (fun x => x = r) := ⟨r, h, rfl⟩
  unfold f_MDotRows_other at h
  obtain ⟨g26, h⟩ := ed_gd h
  obtain ⟨g34, h⟩ := ed_gd h
  exact fr_retV h (fr_I (by decide) fr_refl)
noncomputable def f_MDotRows_draw_L15 (v7 : Int32) (v8 : Int32) (x9 : Int32) (x10 : Int32) (M11 : im_M) : Option ((Int32 × Int32 × im_M) ⊕ (Int32 × im_M)) := if (im_i M11 89 1) ≤ x10 then some (.inr (x9, M11)) else bd1 (f_MDotRows_belongs v7 x10 v8 M11) fun (x12 : Int32) => bd2 (if x12 = 0 then some (x9, M11) else jn0 (fun (_ : Unit) => bd1 (f_MDotRows_other x10 v8 M11) fun (M22 : im_M) => some ((x9 + 1), M22)) fun k14 => if (im_i M11 89 3) = 2 then k14 () else bd1 (f_MDotRows_isDark x10 v8 M11) fun (x15 : Int32) => if ¬ x15 = ((if ¬ (im_i M11 89 3) = 1 then 0 else 1) : Int32) then some ((x9 + 1), M11) else k14 ()) fun (y23 : Int32) (M24 : im_M) => some (.inl (y23, (x10 + 1), M24))
noncomputable def f_MDotRows_draw_L4 (v2 : Int32) (x3 : Int32) (x4 : Int32) (M5 : im_M) : Option ((Int32 × Int32 × im_M) ⊕ (Int32 × im_M)) := if (im_i M5 89 2) ≤ x4 then some (.inr (x3, M5)) else bd2 (lp (uc3 (f_MDotRows_draw_L15 v2 x4)) (x3, 0, M5)) fun (y30 : Int32) (M31 : im_M) => some (.inl (y30, (x4 + 1), M31))
noncomputable def f_MDotRows_draw (p0 : Int32) (M : im_M) : Option (Int32 × im_M) := bd2 (lp (uc3 (f_MDotRows_draw_L4 p0)) (0, 0, M)) fun (y32 : Int32) (M33 : im_M) => some (y32, M33)
theorem J_MDotRows_draw_d0 : decode J_MDotRows_draw.2.1 0 = .ok (.iconst 0, 1) := by decide +kernel
theorem J_MDotRows_draw_d1 : decode J_MDotRows_draw.2.1 1 = .ok (.istore_n 2, 1) := by decide +kernel
theorem J_MDotRows_draw_d2 : decode J_MDotRows_draw.2.1 2 = .ok (.iconst 0, 1) := by decide +kernel
theorem J_MDotRows_draw_d3 : decode J_MDotRows_draw.2.1 3 = .ok (.istore_n 3, 1) := by decide +kernel
theorem J_MDotRows_draw_d4 : decode J_MDotRows_draw.2.1 4 = .ok (.iload_n 3, 1) := by decide +kernel
theorem J_MDotRows_draw_d5 : decode J_MDotRows_draw.2.1 5 = .ok (.aload_n 0, 1) := by decide +kernel
theorem J_MDotRows_draw_d6 : decode J_MDotRows_draw.2.1 6 = .ok (.getfield 13, 3) := by decide +kernel
theorem J_MDotRows_draw_d9 : decode J_MDotRows_draw.2.1 9 = .ok (.if_icmp .ge 79, 3) := by decide +kernel
theorem J_MDotRows_draw_d12 : decode J_MDotRows_draw.2.1 12 = .ok (.iconst 0, 1) := by decide +kernel
theorem J_MDotRows_draw_d13 : decode J_MDotRows_draw.2.1 13 = .ok (.istore 4, 2) := by decide +kernel
theorem J_MDotRows_draw_d15 : decode J_MDotRows_draw.2.1 15 = .ok (.iload 4, 2) := by decide +kernel
theorem J_MDotRows_draw_d17 : decode J_MDotRows_draw.2.1 17 = .ok (.aload_n 0, 1) := by decide +kernel
theorem J_MDotRows_draw_d18 : decode J_MDotRows_draw.2.1 18 = .ok (.getfield 7, 3) := by decide +kernel
theorem J_MDotRows_draw_d21 : decode J_MDotRows_draw.2.1 21 = .ok (.if_icmp .ge 61, 3) := by decide +kernel
theorem J_MDotRows_draw_d24 : decode J_MDotRows_draw.2.1 24 = .ok (.aload_n 0, 1) := by decide +kernel
theorem J_MDotRows_draw_d25 : decode J_MDotRows_draw.2.1 25 = .ok (.iload_n 1, 1) := by decide +kernel
theorem J_MDotRows_draw_d26 : decode J_MDotRows_draw.2.1 26 = .ok (.iload 4, 2) := by decide +kernel
theorem J_MDotRows_draw_d28 : decode J_MDotRows_draw.2.1 28 = .ok (.iload_n 3, 1) := by decide +kernel
theorem J_MDotRows_draw_d29 : decode J_MDotRows_draw.2.1 29 = .ok (.invokevirtual 110, 3) := by decide +kernel
theorem J_MDotRows_draw_d32 : decode J_MDotRows_draw.2.1 32 = .ok (.ifCond .eq 44, 3) := by decide +kernel
theorem J_MDotRows_draw_d35 : decode J_MDotRows_draw.2.1 35 = .ok (.iinc 2 1, 3) := by decide +kernel
theorem J_MDotRows_draw_d38 : decode J_MDotRows_draw.2.1 38 = .ok (.aload_n 0, 1) := by decide +kernel
theorem J_MDotRows_draw_d39 : decode J_MDotRows_draw.2.1 39 = .ok (.getfield 44, 3) := by decide +kernel
theorem J_MDotRows_draw_d42 : decode J_MDotRows_draw.2.1 42 = .ok (.iconst 2, 1) := by decide +kernel
theorem J_MDotRows_draw_d43 : decode J_MDotRows_draw.2.1 43 = .ok (.if_icmp .eq 26, 3) := by decide +kernel
theorem J_MDotRows_draw_d46 : decode J_MDotRows_draw.2.1 46 = .ok (.aload_n 0, 1) := by decide +kernel
theorem J_MDotRows_draw_d47 : decode J_MDotRows_draw.2.1 47 = .ok (.iload 4, 2) := by decide +kernel
theorem J_MDotRows_draw_d49 : decode J_MDotRows_draw.2.1 49 = .ok (.iload_n 3, 1) := by decide +kernel
theorem J_MDotRows_draw_d50 : decode J_MDotRows_draw.2.1 50 = .ok (.invokevirtual 114, 3) := by decide +kernel
theorem J_MDotRows_draw_d53 : decode J_MDotRows_draw.2.1 53 = .ok (.aload_n 0, 1) := by decide +kernel
theorem J_MDotRows_draw_d54 : decode J_MDotRows_draw.2.1 54 = .ok (.getfield 44, 3) := by decide +kernel
theorem J_MDotRows_draw_d57 : decode J_MDotRows_draw.2.1 57 = .ok (.iconst 1, 1) := by decide +kernel
theorem J_MDotRows_draw_d58 : decode J_MDotRows_draw.2.1 58 = .ok (.if_icmp .ne 7, 3) := by decide +kernel
theorem J_MDotRows_draw_d61 : decode J_MDotRows_draw.2.1 61 = .ok (.iconst 1, 1) := by decide +kernel
theorem J_MDotRows_draw_d62 : decode J_MDotRows_draw.2.1 62 = .ok (.goto 4, 3) := by decide +kernel
theorem J_MDotRows_draw_d65 : decode J_MDotRows_draw.2.1 65 = .ok (.iconst 0, 1) := by decide +kernel
theorem J_MDotRows_draw_d66 : decode J_MDotRows_draw.2.1 66 = .ok (.if_icmp .ne 10, 3) := by decide +kernel
theorem J_MDotRows_draw_d69 : decode J_MDotRows_draw.2.1 69 = .ok (.aload_n 0, 1) := by decide +kernel
theorem J_MDotRows_draw_d70 : decode J_MDotRows_draw.2.1 70 = .ok (.iload 4, 2) := by decide +kernel
theorem J_MDotRows_draw_d72 : decode J_MDotRows_draw.2.1 72 = .ok (.iload_n 3, 1) := by decide +kernel
theorem J_MDotRows_draw_d73 : decode J_MDotRows_draw.2.1 73 = .ok (.invokevirtual 117, 3) := by decide +kernel
theorem J_MDotRows_draw_d76 : decode J_MDotRows_draw.2.1 76 = .ok (.iinc 4 1, 3) := by decide +kernel
theorem J_MDotRows_draw_d79 : decode J_MDotRows_draw.2.1 79 = .ok (.goto (-64), 3) := by decide +kernel
theorem J_MDotRows_draw_d82 : decode J_MDotRows_draw.2.1 82 = .ok (.iinc 3 1, 3) := by decide +kernel
theorem J_MDotRows_draw_d85 : decode J_MDotRows_draw.2.1 85 = .ok (.goto (-81), 3) := by decide +kernel
theorem J_MDotRows_draw_d88 : decode J_MDotRows_draw.2.1 88 = .ok (.iload_n 2, 1) := by decide +kernel
theorem J_MDotRows_draw_d89 : decode J_MDotRows_draw.2.1 89 = .ok (.ireturn, 1) := by decide +kernel
theorem f_MDotRows_draw_ok {L : Nat} {xs : Nat → Int32} {dep : Nat} {w : Bool} {p0 : Int32} {M : im_M} {Q : Int32 × im_M → Prop} (hM : lw_S w M) (h : ed (f_MDotRows_draw p0 M) Q) : ia (tb_G L xs) (dep + 3) J_MDotRows_draw (rwI w Q) (0, lv_args 0 [.ref 89, .int p0], [], M) := by
  have hS : im_St (tb_G L xs) (dep + 3) J_MDotRows_draw (ia (tb_G L xs) (dep + 3) J_MDotRows_draw (rwI w Q)) := ia_St
  unfold f_MDotRows_draw at h
  have l0 : im_lk (lv_args 0 [.ref 89, .int p0]) 0 = some (.ref 89) := rfl
  have l1 : im_lk (lv_args 0 [.ref 89, .int p0]) 1 = some (.int p0) := rfl
  refine iq_iconst hS 1 J_MDotRows_draw_d0 (v := 0) (by decide +kernel) rfl ?_
  refine iq_istore_n hS 2 J_MDotRows_draw_d1 (by decide) rfl ?_
  refine iq_iconst hS 3 J_MDotRows_draw_d2 (v := 0) (by decide +kernel) rfl ?_
  refine iq_istore_n hS 4 J_MDotRows_draw_d3 (by decide) rfl ?_
  obtain ⟨Q1, hQ1, h⟩ := bd2_ed h
  have K1 : ∀ (y2 : Int32) (M3 : im_M) (L' : List (Nat × Value)), lw_S w M3 → im_lk L' 2 = some (.int y2) → Q1 (y2, M3) → ia (tb_G L xs) (dep + 3) J_MDotRows_draw (rwI w Q) (88, L', [], M3) := by
    intro y2 M3 L' hM3 l4 h
    replace h := hQ1 _ _ h
    refine iq_iload_n hS 89 J_MDotRows_draw_d88 l4 rfl ?_
    exact iq_iret J_MDotRows_draw_d89 rfl rfl ⟨_, rfl, hM3, ed_some h⟩
  obtain ⟨r1, hr1, hq1⟩ := h
  obtain ⟨n1, hn1⟩ := lp_n hr1
  have I1 : ∀ (n : Nat) (x5 : Int32) (x6 : Int32) (M7 : im_M) (L' : List (Nat × Value)), lw_S w M7 → im_lk L' 0 = some (.ref 89) → im_lk L' 1 = some (.int p0) → im_lk L' 2 = some (.int x5) → im_lk L' 3 = some (.int x6) → lpn (uc3 (f_MDotRows_draw_L4 p0)) n (x5, x6, M7) = some r1 → ia (tb_G L xs) (dep + 3) J_MDotRows_draw (rwI w Q) (4, L', [], M7) := by
    intro n
    induction n with
    | zero => intro x5 x6 M7 L' hM7 l8 l9 l10 l11 hn; exact (lpn_0 hn).elim
    | succ n ih =>
      intro x5 x6 M7 L' hM7 l8 l9 l10 l11 hn
      have h := lpn_ed3 hn
      unfold f_MDotRows_draw_L4 at h
      refine iq_iload_n hS 5 J_MDotRows_draw_d4 l11 rfl ?_
      refine iq_aload_n hS 6 J_MDotRows_draw_d5 l8 rfl ?_
      refine iq_getI hS 9 J_MDotRows_draw_d6 lf_12_13 (Or.inl rfl) (ka_89 hM7) rfl ?_
      refine iq_icmp_ge hS 12 J_MDotRows_draw_d9 (t := 88) rfl (fun q9 => ?_) rfl (fun q9 => ?_)
      · replace h := ed_pos q9 h
        exact K1 _ _ _ hM7 l10 (lq_r h hq1)
      · replace h := ed_neg q9 h
        refine iq_iconst hS 13 J_MDotRows_draw_d12 (v := 0) (by decide +kernel) rfl ?_
        refine iq_istore hS 15 J_MDotRows_draw_d13 (by decide) rfl ?_
        obtain ⟨Q12, hQ12, h⟩ := bd2_ed h
        have K12 : ∀ (y13 : Int32) (M14 : im_M) (L' : List (Nat × Value)), lw_S w M14 → im_lk L' 0 = some (.ref 89) → im_lk L' 1 = some (.int p0) → im_lk L' 2 = some (.int y13) → im_lk L' 3 = some (.int x6) → Q12 (y13, M14) → ia (tb_G L xs) (dep + 3) J_MDotRows_draw (rwI w Q) (82, L', [], M14) := by
          intro y13 M14 L' hM14 l15 l16 l17 l18 h
          replace h := hQ12 _ _ h
          refine iq_iincv hS 85 J_MDotRows_draw_d82 (c := 1) (by decide +kernel) l18 (by decide) rfl ?_
          refine iq_goto hS J_MDotRows_draw_d85 (t := 4) rfl ?_
          exact ih _ _ _ _ hM14 (lk_1r l15 (by decide)) (lk_1i l16 (by decide)) (lk_1i l17 (by decide)) lk_1s (lq_l h)
        obtain ⟨r12, hr12, hq12⟩ := h
        obtain ⟨n12, hn12⟩ := lp_n hr12
        have I12 : ∀ (n : Nat) (x19 : Int32) (x20 : Int32) (M21 : im_M) (L' : List (Nat × Value)), lw_S w M21 → im_lk L' 0 = some (.ref 89) → im_lk L' 1 = some (.int p0) → im_lk L' 2 = some (.int x19) → im_lk L' 3 = some (.int x6) → im_lk L' 4 = some (.int x20) → lpn (uc3 (f_MDotRows_draw_L15 p0 x6)) n (x19, x20, M21) = some r12 → ia (tb_G L xs) (dep + 3) J_MDotRows_draw (rwI w Q) (15, L', [], M21) := by
          intro n
          induction n with
          | zero => intro x19 x20 M21 L' hM21 l22 l23 l24 l25 l26 hn; exact (lpn_0 hn).elim
          | succ n ih =>
            intro x19 x20 M21 L' hM21 l22 l23 l24 l25 l26 hn
            have h := lpn_ed3 hn
            unfold f_MDotRows_draw_L15 at h
            refine iq_iload hS 17 J_MDotRows_draw_d15 l26 rfl ?_
            refine iq_aload_n hS 18 J_MDotRows_draw_d17 l22 rfl ?_
            refine iq_getI hS 21 J_MDotRows_draw_d18 lf_12_7 (Or.inl rfl) (ka_89 hM21) rfl ?_
            refine iq_icmp_ge hS 24 J_MDotRows_draw_d21 (t := 82) rfl (fun q21 => ?_) rfl (fun q21 => ?_)
            · replace h := ed_pos q21 h
              exact K12 _ _ _ hM21 l22 l23 l24 l25 (lq_r h hq12)
            · replace h := ed_neg q21 h
              refine iq_aload_n hS 25 J_MDotRows_draw_d24 l22 rfl ?_
              refine iq_iload_n hS 26 J_MDotRows_draw_d25 l23 rfl ?_
              refine iq_iload hS 28 J_MDotRows_draw_d26 l26 rfl ?_
              refine iq_iload_n hS 29 J_MDotRows_draw_d28 l25 rfl ?_
              obtain ⟨Q27, hQ27, h⟩ := bd1_ed h
              refine iq_cpI hS 32 J_MDotRows_draw_d29 rfl (pr_inst (vs := [_, _, _]) lc_12_110 lT_343 rfl rfl (by decide) (by decide) rfl (Nat.le_of_ble_eq_true rfl) (Nat.le_of_ble_eq_true rfl) (fun _ => Or.inl (pr_b (ka_89 hM21) (by decide) rfl))) (f_MDotRows_belongs_ok (dep := dep + 0) hM21 h) rfl ?_
              intro x27 h
              replace h := hQ27 _ h
              obtain ⟨Q28, hQ28, h⟩ := bd2_ed h
              have J28 : ∀ (y45 : Int32) (M46 : im_M) (L' : List (Nat × Value)), lw_S w M46 → im_lk L' 0 = some (.ref 89) → im_lk L' 1 = some (.int p0) → im_lk L' 2 = some (.int y45) → im_lk L' 3 = some (.int x6) → im_lk L' 4 = some (.int x20) → Q28 (y45, M46) → ia (tb_G L xs) (dep + 3) J_MDotRows_draw (rwI w Q) (76, L', [], M46) := by
                intro y45 M46 L' hM46 l47 l48 l49 l50 l51 h
                replace h := hQ28 _ _ h
                refine iq_iincv hS 79 J_MDotRows_draw_d76 (c := 1) (by decide +kernel) l51 (by decide) rfl ?_
                refine iq_goto hS J_MDotRows_draw_d79 (t := 15) rfl ?_
                exact ih _ _ _ _ hM46 (lk_1r l47 (by decide)) (lk_1i l48 (by decide)) (lk_1i l49 (by decide)) (lk_1i l50 (by decide)) lk_1s (lq_l h)
              refine iq_if_eq hS 35 J_MDotRows_draw_d32 (t := 76) rfl (fun q32 => ?_) rfl (fun q32 => ?_)
              · replace h := ed_pos q32 h
                exact J28 _ _ _ hM21 l22 l23 l24 l25 l26 (ed_some h)
              · replace h := ed_neg q32 h
                refine iq_iincv hS 38 J_MDotRows_draw_d35 (c := 1) (by decide +kernel) l24 (by decide) rfl ?_
                refine iq_aload_n hS 39 J_MDotRows_draw_d38 (lk_1r l22 (by decide)) rfl ?_
                refine iq_getI hS 42 J_MDotRows_draw_d39 lf_12_44 (Or.inl rfl) (ka_89 hM21) rfl ?_
                refine iq_iconst hS 43 J_MDotRows_draw_d42 (v := 2) (by decide +kernel) rfl ?_
                obtain ⟨k29, Q29, hQ29, hk29, h⟩ := jn0_ed h
                have J29 : ∀  (L' : List (Nat × Value)), im_lk L' 0 = some (.ref 89) → im_lk L' 1 = some (.int p0) → im_lk L' 2 = some (.int (x19 + 1)) → im_lk L' 3 = some (.int x6) → im_lk L' 4 = some (.int x20) → Q29 () → ia (tb_G L xs) (dep + 3) J_MDotRows_draw (rwI w Q) (69, L', [], M21) := by
                  intro  L' l39 l40 l41 l42 l43 h
                  replace h := hQ29  h
                  refine iq_aload_n hS 70 J_MDotRows_draw_d69 l39 rfl ?_
                  refine iq_iload hS 72 J_MDotRows_draw_d70 l43 rfl ?_
                  refine iq_iload_n hS 73 J_MDotRows_draw_d72 l42 rfl ?_
                  obtain ⟨Q44, hQ44, h⟩ := bd1_ed h
                  refine iq_cwV hS 76 J_MDotRows_draw_d73 rfl (pr_inst (vs := [_, _]) lc_12_117 lT_356 rfl rfl (by decide) (by decide) rfl (Nat.le_of_ble_eq_true rfl) (Nat.le_of_ble_eq_true rfl) (fun _ => Or.inl (pr_b (ka_89 hM21) (by decide) rfl))) (f_MDotRows_other_ok (dep := dep + 2) hM21 h) rfl ?_
                  intro M44 hM44 h
                  replace h := hQ44 _ h
                  exact J28 _ _ _ hM44 l39 l40 l41 l42 l43 (ed_some h)
                refine iq_icmp_eq hS 46 J_MDotRows_draw_d43 (t := 69) rfl (fun q43 => ?_) rfl (fun q43 => ?_)
                · replace h := ed_pos q43 h
                  exact J29  _ (lk_1r l22 (by decide)) (lk_1i l23 (by decide)) lk_1s (lk_1i l25 (by decide)) (lk_1i l26 (by decide)) (hk29  h)
                · replace h := ed_neg q43 h
                  refine iq_aload_n hS 47 J_MDotRows_draw_d46 (lk_1r l22 (by decide)) rfl ?_
                  refine iq_iload hS 49 J_MDotRows_draw_d47 (lk_1i l26 (by decide)) rfl ?_
                  refine iq_iload_n hS 50 J_MDotRows_draw_d49 (lk_1i l25 (by decide)) rfl ?_
                  obtain ⟨Q30, hQ30, h⟩ := bd1_ed h
                  refine iq_cpI hS 53 J_MDotRows_draw_d50 rfl (pr_inst (vs := [_, _]) lc_12_114 lT_354 rfl rfl (by decide) (by decide) rfl (Nat.le_of_ble_eq_true rfl) (Nat.le_of_ble_eq_true rfl) (fun _ => Or.inl (pr_b (ka_89 hM21) (by decide) rfl))) (f_MDotRows_isDark_ok (dep := dep + 1) hM21 h) rfl ?_
                  intro x30 h
                  replace h := hQ30 _ h
                  refine iq_aload_n hS 54 J_MDotRows_draw_d53 (lk_1r l22 (by decide)) rfl ?_
                  refine iq_getI hS 57 J_MDotRows_draw_d54 lf_12_44 (Or.inl rfl) (ka_89 hM21) rfl ?_
                  refine iq_iconst hS 58 J_MDotRows_draw_d57 (v := 1) (by decide +kernel) rfl ?_
                  have J31 : ∀ (z32 : Int32) (L' : List (Nat × Value)), z32 = ((if ¬ (im_i M21 89 3) = 1 then 0 else 1) : Int32) → im_lk L' 0 = some (.ref 89) → im_lk L' 1 = some (.int p0) → im_lk L' 2 = some (.int (x19 + 1)) → im_lk L' 3 = some (.int x6) → im_lk L' 4 = some (.int x20) → ia (tb_G L xs) (dep + 3) J_MDotRows_draw (rwI w Q) (66, L', [.int z32, .int x30], M21) := by
                    intro z32 L' e33 l34 l35 l36 l37 l38
                    subst e33
                    refine iq_icmp_ne hS 69 J_MDotRows_draw_d66 (t := 76) rfl (fun q66 => ?_) rfl (fun q66 => ?_)
                    · replace h := ed_pos q66 h
                      exact J28 _ _ _ hM21 l34 l35 l36 l37 l38 (ed_some h)
                    · replace h := ed_neg q66 h
                      exact J29  _ l34 l35 l36 l37 l38 (hk29  h)
                  refine iq_icmp_ne hS 61 J_MDotRows_draw_d58 (t := 65) rfl (fun q58 => ?_) rfl (fun q58 => ?_)
                  · refine iq_iconst hS 66 J_MDotRows_draw_d65 (v := 0) (by decide +kernel) rfl ?_
                    exact J31 _ _ (by simp only [if_pos q58]) (lk_1r l22 (by decide)) (lk_1i l23 (by decide)) lk_1s (lk_1i l25 (by decide)) (lk_1i l26 (by decide))
                  · refine iq_iconst hS 62 J_MDotRows_draw_d61 (v := 1) (by decide +kernel) rfl ?_
                    refine iq_goto hS J_MDotRows_draw_d62 (t := 66) rfl ?_
                    exact J31 _ _ (by simp only [if_neg q58]) (lk_1r l22 (by decide)) (lk_1i l23 (by decide)) lk_1s (lk_1i l25 (by decide)) (lk_1i l26 (by decide))
        exact I12 n12 _ _ _ _ hM7 (lk_1r l8 (by decide)) (lk_1i l9 (by decide)) (lk_1i l10 (by decide)) (lk_1i l11 (by decide)) lk_1s hn12
  exact I1 n1 _ _ _ _ hM (lk_1r (lk_1r l0 (by decide)) (by decide)) (lk_1i (lk_1i l1 (by decide)) (by decide)) (lk_1i lk_1s (by decide)) lk_1s hn1
theorem f_MDotRows_draw_fr {p0 : Int32} {M : im_M} {r : Int32 × im_M} (h : f_MDotRows_draw p0 M = some r) : fr 1237940039285380274899124224 [] M r.2 := by
  replace h : ed (f_MDotRows_draw p0 M) (fun x => x = r) := ⟨r, h, rfl⟩
  unfold f_MDotRows_draw at h
  obtain ⟨Q1, hQ1, h⟩ := bd2_ed h
  have K1 : ∀ (y2 : Int32) (M3 : im_M), fr 1237940039285380274899124224 [] M M3 → Q1 (y2, M3) → fr 1237940039285380274899124224 [] M r.2 := by
    intro y2 M3 hM3 h
    replace h := hQ1 _ _ h
    exact fr_ret h hM3
  obtain ⟨r1, hr1, hq1⟩ := h
  obtain ⟨n1, hn1⟩ := lp_n hr1
  have I1 : ∀ (n : Nat) (x4 : Int32) (x5 : Int32) (M6 : im_M), fr 1237940039285380274899124224 [] M M6 → lpn (uc3 (f_MDotRows_draw_L4 p0)) n (x4, x5, M6) = some r1 → fr 1237940039285380274899124224 [] M r.2 := by
    intro n
    induction n with
    | zero => intro x4 x5 M6 hM6 hn; exact (lpn_0 hn).elim
    | succ n ih =>
      intro x4 x5 M6 hM6 hn
      have h := lpn_ed3 hn
      unfold f_MDotRows_draw_L4 at h
      by_cases q9 : (im_i M6 89 2) ≤ x5
      · replace h := ed_pos q9 h
        exact K1 _ _ hM6 (lq_r h hq1)
      · replace h := ed_neg q9 h
        obtain ⟨Q7, hQ7, h⟩ := bd2_ed h
        have K7 : ∀ (y8 : Int32) (M9 : im_M), fr 1237940039285380274899124224 [] M M9 → Q7 (y8, M9) → fr 1237940039285380274899124224 [] M r.2 := by
          intro y8 M9 hM9 h
          replace h := hQ7 _ _ h
          exact ih _ _ _ hM9 (lq_l h)
        obtain ⟨r7, hr7, hq7⟩ := h
        obtain ⟨n7, hn7⟩ := lp_n hr7
        have I7 : ∀ (n : Nat) (x10 : Int32) (x11 : Int32) (M12 : im_M), fr 1237940039285380274899124224 [] M M12 → lpn (uc3 (f_MDotRows_draw_L15 p0 x5)) n (x10, x11, M12) = some r7 → fr 1237940039285380274899124224 [] M r.2 := by
          intro n
          induction n with
          | zero => intro x10 x11 M12 hM12 hn; exact (lpn_0 hn).elim
          | succ n ih =>
            intro x10 x11 M12 hM12 hn
            have h := lpn_ed3 hn
            unfold f_MDotRows_draw_L15 at h
            by_cases q21 : (im_i M12 89 1) ≤ x11
            · replace h := ed_pos q21 h
              exact K7 _ _ hM12 (lq_r h hq7)
            · replace h := ed_neg q21 h
              obtain ⟨Q13, hQ13, h⟩ := bd1_ed h
              obtain ⟨x13, e13, h⟩ := h
              replace h := hQ13 _ h
              obtain ⟨Q14, hQ14, h⟩ := bd2_ed h
              have J14 : ∀ (y24 : Int32) (M25 : im_M), fr 1237940039285380274899124224 [] M M25 → Q14 (y24, M25) → fr 1237940039285380274899124224 [] M r.2 := by
                intro y24 M25 hM25 h
                replace h := hQ14 _ _ h
                exact ih _ _ _ hM25 (lq_l h)
              by_cases q32 : x13 = 0
              · replace h := ed_pos q32 h
                exact J14 _ _ hM12 (ed_some h)
              · replace h := ed_neg q32 h
                obtain ⟨k15, Q15, hQ15, hk15, h⟩ := jn0_ed h
                have J15 : Q15 () → fr 1237940039285380274899124224 [] M r.2 := by
                  intro  h
                  replace h := hQ15  h
                  obtain ⟨Q23, hQ23, h⟩ := bd1_ed h
                  obtain ⟨M23, e23, h⟩ := h
                  replace h := hQ23 _ h
                  exact J14 _ _ (fr_tr (fr_mono (by decide) (by decide +kernel) (f_MDotRows_other_fr e23)) hM12) (ed_some h)
                by_cases q43 : (im_i M12 89 3) = 2
                · replace h := ed_pos q43 h
                  exact J15  (hk15  h)
                · replace h := ed_neg q43 h
                  obtain ⟨Q16, hQ16, h⟩ := bd1_ed h
                  obtain ⟨x16, e16, h⟩ := h
                  replace h := hQ16 _ h
                  by_cases q66 : ¬ x16 = ((if ¬ (im_i M12 89 3) = 1 then 0 else 1) : Int32)
                  · replace h := ed_pos q66 h
                    exact J14 _ _ hM12 (ed_some h)
                  · replace h := ed_neg q66 h
                    exact J15  (hk15  h)
        exact I7 n7 _ _ _ hM6 hn7
  exact I1 n1 _ _ _ fr_refl hn1
noncomputable def f_MDotRows_text (p0 : Int32) (p1 : Int32) (p2 : Int32) (p3 : Int32) (p4 : Int32) (M : im_M) : Option (Int32 × im_M) := bd1 (f_MDotRows_noPlace p0 p1 M) fun (x1 : Int32) => bd1 (jn0 (fun (_ : Unit) => some 1) fun k3 => if ¬ x1 = 0 then k3 () else bd1 (f_MDotRows_isNot p4 0 3 M) fun (x4 : Int32) => if ¬ x4 = 0 then k3 () else bd1 (f_MDotRows_isNot p2 0 3 M) fun (x5 : Int32) => if ¬ x5 = 0 then k3 () else bd1 (f_MDotRows_isNot p3 0 255 M) fun (x6 : Int32) => if ¬ x6 = 0 then k3 () else bd1 (f_MDotRows_isNot (p3 / 16) 1 10 M) fun (x7 : Int32) => if ¬ x7 = 0 then k3 () else bd1 (f_MDotRows_isNot (p3 - p3 / 16 * 16) 1 10 M) fun (x8 : Int32) => if x8 = 0 then some 0 else k3 ()) fun (y15 : Int32) => if (im_i (im_setI M 89 0 y15) 89 0) ≤ 0 then bd1 (f_MDotRows_at p0 p1 (p3 / 16) (p3 - p3 / 16 * 16) 0 (im_setI M 89 0 y15)) fun (M22 : im_M) => bd2 (f_MDotRows_draw 3 (im_setI (im_setI M22 89 16 p2) 89 15 p4)) fun (x23 : Int32) (M23 : im_M) => some (x23, M23) else some (0, (im_setI M 89 0 y15))
theorem J_MDotRows_text_d0 : decode J_MDotRows_text.2.1 0 = .ok (.aload_n 0, 1) := by decide +kernel
theorem J_MDotRows_text_d1 : decode J_MDotRows_text.2.1 1 = .ok (.iload_n 1, 1) := by decide +kernel
theorem J_MDotRows_text_d2 : decode J_MDotRows_text.2.1 2 = .ok (.iload_n 2, 1) := by decide +kernel
theorem J_MDotRows_text_d3 : decode J_MDotRows_text.2.1 3 = .ok (.invokestatic 124, 3) := by decide +kernel
theorem J_MDotRows_text_d6 : decode J_MDotRows_text.2.1 6 = .ok (.ifCond .ne 62, 3) := by decide +kernel
theorem J_MDotRows_text_d9 : decode J_MDotRows_text.2.1 9 = .ok (.iload 5, 2) := by decide +kernel
theorem J_MDotRows_text_d11 : decode J_MDotRows_text.2.1 11 = .ok (.iconst 0, 1) := by decide +kernel
theorem J_MDotRows_text_d12 : decode J_MDotRows_text.2.1 12 = .ok (.iconst 3, 1) := by decide +kernel
theorem J_MDotRows_text_d13 : decode J_MDotRows_text.2.1 13 = .ok (.invokestatic 121, 3) := by decide +kernel
theorem J_MDotRows_text_d16 : decode J_MDotRows_text.2.1 16 = .ok (.ifCond .ne 52, 3) := by decide +kernel
theorem J_MDotRows_text_d19 : decode J_MDotRows_text.2.1 19 = .ok (.iload_n 3, 1) := by decide +kernel
theorem J_MDotRows_text_d20 : decode J_MDotRows_text.2.1 20 = .ok (.iconst 0, 1) := by decide +kernel
theorem J_MDotRows_text_d21 : decode J_MDotRows_text.2.1 21 = .ok (.iconst 3, 1) := by decide +kernel
theorem J_MDotRows_text_d22 : decode J_MDotRows_text.2.1 22 = .ok (.invokestatic 121, 3) := by decide +kernel
theorem J_MDotRows_text_d25 : decode J_MDotRows_text.2.1 25 = .ok (.ifCond .ne 43, 3) := by decide +kernel
theorem J_MDotRows_text_d28 : decode J_MDotRows_text.2.1 28 = .ok (.iload 4, 2) := by decide +kernel
theorem J_MDotRows_text_d30 : decode J_MDotRows_text.2.1 30 = .ok (.iconst 0, 1) := by decide +kernel
theorem J_MDotRows_text_d31 : decode J_MDotRows_text.2.1 31 = .ok (.sipush 255, 3) := by decide +kernel
theorem J_MDotRows_text_d34 : decode J_MDotRows_text.2.1 34 = .ok (.invokestatic 121, 3) := by decide +kernel
theorem J_MDotRows_text_d37 : decode J_MDotRows_text.2.1 37 = .ok (.ifCond .ne 31, 3) := by decide +kernel
theorem J_MDotRows_text_d40 : decode J_MDotRows_text.2.1 40 = .ok (.iload 4, 2) := by decide +kernel
theorem J_MDotRows_text_d42 : decode J_MDotRows_text.2.1 42 = .ok (.bipush 16, 2) := by decide +kernel
theorem J_MDotRows_text_d44 : decode J_MDotRows_text.2.1 44 = .ok (.idiv, 1) := by decide +kernel
theorem J_MDotRows_text_d45 : decode J_MDotRows_text.2.1 45 = .ok (.iconst 1, 1) := by decide +kernel
theorem J_MDotRows_text_d46 : decode J_MDotRows_text.2.1 46 = .ok (.bipush 10, 2) := by decide +kernel
theorem J_MDotRows_text_d48 : decode J_MDotRows_text.2.1 48 = .ok (.invokestatic 121, 3) := by decide +kernel
theorem J_MDotRows_text_d51 : decode J_MDotRows_text.2.1 51 = .ok (.ifCond .ne 17, 3) := by decide +kernel
theorem J_MDotRows_text_d54 : decode J_MDotRows_text.2.1 54 = .ok (.iload 4, 2) := by decide +kernel
theorem J_MDotRows_text_d56 : decode J_MDotRows_text.2.1 56 = .ok (.bipush 16, 2) := by decide +kernel
theorem J_MDotRows_text_d58 : decode J_MDotRows_text.2.1 58 = .ok (.irem, 1) := by decide +kernel
theorem J_MDotRows_text_d59 : decode J_MDotRows_text.2.1 59 = .ok (.iconst 1, 1) := by decide +kernel
theorem J_MDotRows_text_d60 : decode J_MDotRows_text.2.1 60 = .ok (.bipush 10, 2) := by decide +kernel
theorem J_MDotRows_text_d62 : decode J_MDotRows_text.2.1 62 = .ok (.invokestatic 121, 3) := by decide +kernel
theorem J_MDotRows_text_d65 : decode J_MDotRows_text.2.1 65 = .ok (.ifCond .eq 7, 3) := by decide +kernel
theorem J_MDotRows_text_d68 : decode J_MDotRows_text.2.1 68 = .ok (.iconst 1, 1) := by decide +kernel
theorem J_MDotRows_text_d69 : decode J_MDotRows_text.2.1 69 = .ok (.goto 4, 3) := by decide +kernel
theorem J_MDotRows_text_d72 : decode J_MDotRows_text.2.1 72 = .ok (.iconst 0, 1) := by decide +kernel
theorem J_MDotRows_text_d73 : decode J_MDotRows_text.2.1 73 = .ok (.putfield 37, 3) := by decide +kernel
theorem J_MDotRows_text_d76 : decode J_MDotRows_text.2.1 76 = .ok (.aload_n 0, 1) := by decide +kernel
theorem J_MDotRows_text_d77 : decode J_MDotRows_text.2.1 77 = .ok (.getfield 37, 3) := by decide +kernel
theorem J_MDotRows_text_d80 : decode J_MDotRows_text.2.1 80 = .ok (.ifCond .le 5, 3) := by decide +kernel
theorem J_MDotRows_text_d83 : decode J_MDotRows_text.2.1 83 = .ok (.iconst 0, 1) := by decide +kernel
theorem J_MDotRows_text_d84 : decode J_MDotRows_text.2.1 84 = .ok (.ireturn, 1) := by decide +kernel
theorem J_MDotRows_text_d85 : decode J_MDotRows_text.2.1 85 = .ok (.aload_n 0, 1) := by decide +kernel
theorem J_MDotRows_text_d86 : decode J_MDotRows_text.2.1 86 = .ok (.iload_n 1, 1) := by decide +kernel
theorem J_MDotRows_text_d87 : decode J_MDotRows_text.2.1 87 = .ok (.iload_n 2, 1) := by decide +kernel
theorem J_MDotRows_text_d88 : decode J_MDotRows_text.2.1 88 = .ok (.iload 4, 2) := by decide +kernel
theorem J_MDotRows_text_d90 : decode J_MDotRows_text.2.1 90 = .ok (.bipush 16, 2) := by decide +kernel
theorem J_MDotRows_text_d92 : decode J_MDotRows_text.2.1 92 = .ok (.idiv, 1) := by decide +kernel
theorem J_MDotRows_text_d93 : decode J_MDotRows_text.2.1 93 = .ok (.iload 4, 2) := by decide +kernel
theorem J_MDotRows_text_d95 : decode J_MDotRows_text.2.1 95 = .ok (.bipush 16, 2) := by decide +kernel
theorem J_MDotRows_text_d97 : decode J_MDotRows_text.2.1 97 = .ok (.irem, 1) := by decide +kernel
theorem J_MDotRows_text_d98 : decode J_MDotRows_text.2.1 98 = .ok (.iconst 0, 1) := by decide +kernel
theorem J_MDotRows_text_d99 : decode J_MDotRows_text.2.1 99 = .ok (.invokevirtual 130, 3) := by decide +kernel
theorem J_MDotRows_text_d102 : decode J_MDotRows_text.2.1 102 = .ok (.aload_n 0, 1) := by decide +kernel
theorem J_MDotRows_text_d103 : decode J_MDotRows_text.2.1 103 = .ok (.iload_n 3, 1) := by decide +kernel
theorem J_MDotRows_text_d104 : decode J_MDotRows_text.2.1 104 = .ok (.putfield 78, 3) := by decide +kernel
theorem J_MDotRows_text_d107 : decode J_MDotRows_text.2.1 107 = .ok (.aload_n 0, 1) := by decide +kernel
theorem J_MDotRows_text_d108 : decode J_MDotRows_text.2.1 108 = .ok (.iload 5, 2) := by decide +kernel
theorem J_MDotRows_text_d110 : decode J_MDotRows_text.2.1 110 = .ok (.putfield 75, 3) := by decide +kernel
theorem J_MDotRows_text_d113 : decode J_MDotRows_text.2.1 113 = .ok (.aload_n 0, 1) := by decide +kernel
theorem J_MDotRows_text_d114 : decode J_MDotRows_text.2.1 114 = .ok (.iconst 3, 1) := by decide +kernel
theorem J_MDotRows_text_d115 : decode J_MDotRows_text.2.1 115 = .ok (.invokevirtual 134, 3) := by decide +kernel
theorem J_MDotRows_text_d118 : decode J_MDotRows_text.2.1 118 = .ok (.ireturn, 1) := by decide +kernel
theorem f_MDotRows_text_ok {L : Nat} {xs : Nat → Int32} {dep : Nat} {w : Bool} {p0 : Int32} {p1 : Int32} {p2 : Int32} {p3 : Int32} {p4 : Int32} {M : im_M} {Q : Int32 × im_M → Prop} (hM : lw_S w M) (h : ed (f_MDotRows_text p0 p1 p2 p3 p4 M) Q) : ia (tb_G L xs) (dep + 4) J_MDotRows_text (rwI w Q) (0, lv_args 0 [.ref 89, .int p0, .int p1, .int p2, .int p3, .int p4], [], M) := by
  have hS : im_St (tb_G L xs) (dep + 4) J_MDotRows_text (ia (tb_G L xs) (dep + 4) J_MDotRows_text (rwI w Q)) := ia_St
  unfold f_MDotRows_text at h
  have l0 : im_lk (lv_args 0 [.ref 89, .int p0, .int p1, .int p2, .int p3, .int p4]) 0 = some (.ref 89) := rfl
  have l1 : im_lk (lv_args 0 [.ref 89, .int p0, .int p1, .int p2, .int p3, .int p4]) 1 = some (.int p0) := rfl
  have l2 : im_lk (lv_args 0 [.ref 89, .int p0, .int p1, .int p2, .int p3, .int p4]) 2 = some (.int p1) := rfl
  have l3 : im_lk (lv_args 0 [.ref 89, .int p0, .int p1, .int p2, .int p3, .int p4]) 3 = some (.int p2) := rfl
  have l4 : im_lk (lv_args 0 [.ref 89, .int p0, .int p1, .int p2, .int p3, .int p4]) 4 = some (.int p3) := rfl
  have l5 : im_lk (lv_args 0 [.ref 89, .int p0, .int p1, .int p2, .int p3, .int p4]) 5 = some (.int p4) := rfl
  refine iq_aload_n hS 1 J_MDotRows_text_d0 l0 rfl ?_
  refine iq_iload_n hS 2 J_MDotRows_text_d1 l1 rfl ?_
  refine iq_iload_n hS 3 J_MDotRows_text_d2 l2 rfl ?_
  obtain ⟨Q1, hQ1, h⟩ := bd1_ed h
  refine iq_cpI hS 6 J_MDotRows_text_d3 rfl (pr_stat (vs := [_, _]) lc_12_124 lT_340 rfl rfl (by decide) rfl (Nat.le_of_ble_eq_true rfl) (Nat.le_of_ble_eq_true rfl)) (f_MDotRows_noPlace_ok (dep := dep + 3) hM h) rfl ?_
  intro x1 h
  replace h := hQ1 _ h
  obtain ⟨Q2, hQ2, h⟩ := bd1_ed h
  have J2 : ∀ (y15 : Int32) (L' : List (Nat × Value)), im_lk L' 0 = some (.ref 89) → im_lk L' 1 = some (.int p0) → im_lk L' 2 = some (.int p1) → im_lk L' 3 = some (.int p2) → im_lk L' 4 = some (.int p3) → im_lk L' 5 = some (.int p4) → Q2 y15 → ia (tb_G L xs) (dep + 4) J_MDotRows_text (rwI w Q) (73, L', [.int y15, .ref 89], M) := by
    intro y15 L' l16 l17 l18 l19 l20 l21 h
    replace h := hQ2 _ h
    refine iq_putI hS 76 J_MDotRows_text_d73 lf_12_37 (Or.inl rfl) rfl (ka_89 hM) rfl ?_
    refine iq_aload_n hS 77 J_MDotRows_text_d76 l16 rfl ?_
    refine iq_getI hS 80 J_MDotRows_text_d77 lf_12_37 (Or.inl rfl) (ka_89 (lw_sI hM)) rfl ?_
    refine iq_if_le hS 83 J_MDotRows_text_d80 (t := 85) rfl (fun q80 => ?_) rfl (fun q80 => ?_)
    · replace h := ed_pos q80 h
      refine iq_aload_n hS 86 J_MDotRows_text_d85 l16 rfl ?_
      refine iq_iload_n hS 87 J_MDotRows_text_d86 l17 rfl ?_
      refine iq_iload_n hS 88 J_MDotRows_text_d87 l18 rfl ?_
      refine iq_iload hS 90 J_MDotRows_text_d88 l20 rfl ?_
      refine iq_bipush hS 92 J_MDotRows_text_d90 (v := 16) (by decide +kernel) rfl ?_
      refine iq_idiv hS 93 J_MDotRows_text_d92 (by decide) rfl ?_
      refine iq_iload hS 95 J_MDotRows_text_d93 l20 rfl ?_
      refine iq_bipush hS 97 J_MDotRows_text_d95 (v := 16) (by decide +kernel) rfl ?_
      refine iq_irem hS 98 J_MDotRows_text_d97 (by decide) rfl ?_
      refine iq_iconst hS 99 J_MDotRows_text_d98 (v := 0) (by decide +kernel) rfl ?_
      obtain ⟨Q22, hQ22, h⟩ := bd1_ed h
      refine iq_cwV hS 102 J_MDotRows_text_d99 rfl (pr_inst (vs := [_, _, _, _, _]) lc_12_130 lT_341 rfl rfl (by decide) (by decide) rfl (Nat.le_of_ble_eq_true rfl) (Nat.le_of_ble_eq_true rfl) (fun _ => Or.inl (pr_b (ka_89 (lw_sI hM)) (by decide) rfl))) (f_MDotRows_at_ok (dep := dep + 3) (lw_sI hM) h) rfl ?_
      intro M22 hM22 h
      replace h := hQ22 _ h
      refine iq_aload_n hS 103 J_MDotRows_text_d102 l16 rfl ?_
      refine iq_iload_n hS 104 J_MDotRows_text_d103 l19 rfl ?_
      refine iq_putI hS 107 J_MDotRows_text_d104 lf_12_78 (Or.inl rfl) rfl (ka_89 hM22) rfl ?_
      refine iq_aload_n hS 108 J_MDotRows_text_d107 l16 rfl ?_
      refine iq_iload hS 110 J_MDotRows_text_d108 l21 rfl ?_
      refine iq_putI hS 113 J_MDotRows_text_d110 lf_12_75 (Or.inl rfl) rfl (ka_89 (lw_sI hM22)) rfl ?_
      refine iq_aload_n hS 114 J_MDotRows_text_d113 l16 rfl ?_
      refine iq_iconst hS 115 J_MDotRows_text_d114 (v := 3) (by decide +kernel) rfl ?_
      obtain ⟨Q23, hQ23, h⟩ := bd2_ed h
      refine iq_cwI hS 118 J_MDotRows_text_d115 rfl (pr_inst (vs := [_]) lc_12_134 lT_342 rfl rfl (by decide) (by decide) rfl (Nat.le_of_ble_eq_true rfl) (Nat.le_of_ble_eq_true rfl) (fun _ => Or.inl (pr_b (ka_89 (lw_sI (lw_sI hM22))) (by decide) rfl))) (f_MDotRows_draw_ok (dep := dep + 0) (lw_sI (lw_sI hM22)) h) rfl ?_
      intro x23 M23 hM23 h
      replace h := hQ23 _ _ h
      exact iq_iret J_MDotRows_text_d118 rfl rfl ⟨_, rfl, hM23, ed_some h⟩
    · replace h := ed_neg q80 h
      refine iq_iconst hS 84 J_MDotRows_text_d83 (v := 0) (by decide +kernel) rfl ?_
      exact iq_iret J_MDotRows_text_d84 rfl rfl ⟨_, rfl, (lw_sI hM), ed_some h⟩
  obtain ⟨k3, Q3, hQ3, hk3, h⟩ := jn0_ed h
  have J3 : ∀  (L' : List (Nat × Value)), im_lk L' 0 = some (.ref 89) → im_lk L' 1 = some (.int p0) → im_lk L' 2 = some (.int p1) → im_lk L' 3 = some (.int p2) → im_lk L' 4 = some (.int p3) → im_lk L' 5 = some (.int p4) → Q3 () → ia (tb_G L xs) (dep + 4) J_MDotRows_text (rwI w Q) (68, L', [.ref 89], M) := by
    intro  L' l9 l10 l11 l12 l13 l14 h
    replace h := hQ3  h
    refine iq_iconst hS 69 J_MDotRows_text_d68 (v := 1) (by decide +kernel) rfl ?_
    refine iq_goto hS J_MDotRows_text_d69 (t := 73) rfl ?_
    exact J2 _ _ l9 l10 l11 l12 l13 l14 (ed_some h)
  refine iq_if_ne hS 9 J_MDotRows_text_d6 (t := 68) rfl (fun q6 => ?_) rfl (fun q6 => ?_)
  · replace h := ed_pos q6 h
    exact J3  _ l0 l1 l2 l3 l4 l5 (hk3  h)
  · replace h := ed_neg q6 h
    refine iq_iload hS 11 J_MDotRows_text_d9 l5 rfl ?_
    refine iq_iconst hS 12 J_MDotRows_text_d11 (v := 0) (by decide +kernel) rfl ?_
    refine iq_iconst hS 13 J_MDotRows_text_d12 (v := 3) (by decide +kernel) rfl ?_
    obtain ⟨Q4, hQ4, h⟩ := bd1_ed h
    refine iq_cpI hS 16 J_MDotRows_text_d13 rfl (pr_stat (vs := [_, _, _]) lc_12_121 lT_273 rfl rfl (by decide) rfl (Nat.le_of_ble_eq_true rfl) (Nat.le_of_ble_eq_true rfl)) (f_MDotRows_isNot_ok (dep := dep + 3) hM h) rfl ?_
    intro x4 h
    replace h := hQ4 _ h
    refine iq_if_ne hS 19 J_MDotRows_text_d16 (t := 68) rfl (fun q16 => ?_) rfl (fun q16 => ?_)
    · replace h := ed_pos q16 h
      exact J3  _ l0 l1 l2 l3 l4 l5 (hk3  h)
    · replace h := ed_neg q16 h
      refine iq_iload_n hS 20 J_MDotRows_text_d19 l3 rfl ?_
      refine iq_iconst hS 21 J_MDotRows_text_d20 (v := 0) (by decide +kernel) rfl ?_
      refine iq_iconst hS 22 J_MDotRows_text_d21 (v := 3) (by decide +kernel) rfl ?_
      obtain ⟨Q5, hQ5, h⟩ := bd1_ed h
      refine iq_cpI hS 25 J_MDotRows_text_d22 rfl (pr_stat (vs := [_, _, _]) lc_12_121 lT_273 rfl rfl (by decide) rfl (Nat.le_of_ble_eq_true rfl) (Nat.le_of_ble_eq_true rfl)) (f_MDotRows_isNot_ok (dep := dep + 3) hM h) rfl ?_
      intro x5 h
      replace h := hQ5 _ h
      refine iq_if_ne hS 28 J_MDotRows_text_d25 (t := 68) rfl (fun q25 => ?_) rfl (fun q25 => ?_)
      · replace h := ed_pos q25 h
        exact J3  _ l0 l1 l2 l3 l4 l5 (hk3  h)
      · replace h := ed_neg q25 h
        refine iq_iload hS 30 J_MDotRows_text_d28 l4 rfl ?_
        refine iq_iconst hS 31 J_MDotRows_text_d30 (v := 0) (by decide +kernel) rfl ?_
        refine iq_sipush hS 34 J_MDotRows_text_d31 (v := 255) (by decide +kernel) rfl ?_
        obtain ⟨Q6, hQ6, h⟩ := bd1_ed h
        refine iq_cpI hS 37 J_MDotRows_text_d34 rfl (pr_stat (vs := [_, _, _]) lc_12_121 lT_273 rfl rfl (by decide) rfl (Nat.le_of_ble_eq_true rfl) (Nat.le_of_ble_eq_true rfl)) (f_MDotRows_isNot_ok (dep := dep + 3) hM h) rfl ?_
        intro x6 h
        replace h := hQ6 _ h
        refine iq_if_ne hS 40 J_MDotRows_text_d37 (t := 68) rfl (fun q37 => ?_) rfl (fun q37 => ?_)
        · replace h := ed_pos q37 h
          exact J3  _ l0 l1 l2 l3 l4 l5 (hk3  h)
        · replace h := ed_neg q37 h
          refine iq_iload hS 42 J_MDotRows_text_d40 l4 rfl ?_
          refine iq_bipush hS 44 J_MDotRows_text_d42 (v := 16) (by decide +kernel) rfl ?_
          refine iq_idiv hS 45 J_MDotRows_text_d44 (by decide) rfl ?_
          refine iq_iconst hS 46 J_MDotRows_text_d45 (v := 1) (by decide +kernel) rfl ?_
          refine iq_bipush hS 48 J_MDotRows_text_d46 (v := 10) (by decide +kernel) rfl ?_
          obtain ⟨Q7, hQ7, h⟩ := bd1_ed h
          refine iq_cpI hS 51 J_MDotRows_text_d48 rfl (pr_stat (vs := [_, _, _]) lc_12_121 lT_273 rfl rfl (by decide) rfl (Nat.le_of_ble_eq_true rfl) (Nat.le_of_ble_eq_true rfl)) (f_MDotRows_isNot_ok (dep := dep + 3) hM h) rfl ?_
          intro x7 h
          replace h := hQ7 _ h
          refine iq_if_ne hS 54 J_MDotRows_text_d51 (t := 68) rfl (fun q51 => ?_) rfl (fun q51 => ?_)
          · replace h := ed_pos q51 h
            exact J3  _ l0 l1 l2 l3 l4 l5 (hk3  h)
          · replace h := ed_neg q51 h
            refine iq_iload hS 56 J_MDotRows_text_d54 l4 rfl ?_
            refine iq_bipush hS 58 J_MDotRows_text_d56 (v := 16) (by decide +kernel) rfl ?_
            refine iq_irem hS 59 J_MDotRows_text_d58 (by decide) rfl ?_
            refine iq_iconst hS 60 J_MDotRows_text_d59 (v := 1) (by decide +kernel) rfl ?_
            refine iq_bipush hS 62 J_MDotRows_text_d60 (v := 10) (by decide +kernel) rfl ?_
            obtain ⟨Q8, hQ8, h⟩ := bd1_ed h
            refine iq_cpI hS 65 J_MDotRows_text_d62 rfl (pr_stat (vs := [_, _, _]) lc_12_121 lT_273 rfl rfl (by decide) rfl (Nat.le_of_ble_eq_true rfl) (Nat.le_of_ble_eq_true rfl)) (f_MDotRows_isNot_ok (dep := dep + 3) hM h) rfl ?_
            intro x8 h
            replace h := hQ8 _ h
            refine iq_if_eq hS 68 J_MDotRows_text_d65 (t := 72) rfl (fun q65 => ?_) rfl (fun q65 => ?_)
            · replace h := ed_pos q65 h
              refine iq_iconst hS 73 J_MDotRows_text_d72 (v := 0) (by decide +kernel) rfl ?_
              exact J2 _ _ l0 l1 l2 l3 l4 l5 (ed_some h)
            · replace h := ed_neg q65 h
              exact J3  _ l0 l1 l2 l3 l4 l5 (hk3  h)
theorem f_MDotRows_text_fr {p0 : Int32} {p1 : Int32} {p2 : Int32} {p3 : Int32} {p4 : Int32} {M : im_M} {r : Int32 × im_M} (h : f_MDotRows_text p0 p1 p2 p3 p4 M = some r) : fr 1237940039285380274899124224 [(89, 0), (89, 10), (89, 11), (89, 12), (89, 13), (89, 14), (89, 15), (89, 16)] M r.2 := by
  replace h : ed (f_MDotRows_text p0 p1 p2 p3 p4 M) (fun x => x = r) := ⟨r, h, rfl⟩
  unfold f_MDotRows_text at h
  obtain ⟨Q1, hQ1, h⟩ := bd1_ed h
  obtain ⟨x1, e1, h⟩ := h
  replace h := hQ1 _ h
  obtain ⟨Q2, hQ2, h⟩ := bd1_ed h
  have J2 : ∀ (y15 : Int32), Q2 y15 → fr 1237940039285380274899124224 [(89, 0), (89, 10), (89, 11), (89, 12), (89, 13), (89, 14), (89, 15), (89, 16)] M r.2 := by
    intro y15 h
    replace h := hQ2 _ h
    by_cases q80 : (im_i (im_setI M 89 0 y15) 89 0) ≤ 0
    · replace h := ed_pos q80 h
      obtain ⟨Q22, hQ22, h⟩ := bd1_ed h
      obtain ⟨M22, e22, h⟩ := h
      replace h := hQ22 _ h
      obtain ⟨Q23, hQ23, h⟩ := bd2_ed h
      obtain ⟨⟨x23, M23⟩, e23, h⟩ := h
      replace h := hQ23 _ _ h
      exact fr_ret h (fr_tr (fr_mono (by decide) (by decide +kernel) (f_MDotRows_draw_fr e23)) (fr_F (by decide) (fr_F (by decide) (fr_tr (fr_mono (by decide) (by decide +kernel) (f_MDotRows_at_fr e22)) (fr_F (by decide) fr_refl)))))
    · replace h := ed_neg q80 h
      exact fr_ret h (fr_F (by decide) fr_refl)
  obtain ⟨k3, Q3, hQ3, hk3, h⟩ := jn0_ed h
  have J3 : Q3 () → fr 1237940039285380274899124224 [(89, 0), (89, 10), (89, 11), (89, 12), (89, 13), (89, 14), (89, 15), (89, 16)] M r.2 := by
    intro  h
    replace h := hQ3  h
    exact J2 _ (ed_some h)
  by_cases q6 : ¬ x1 = 0
  · replace h := ed_pos q6 h
    exact J3  (hk3  h)
  · replace h := ed_neg q6 h
    obtain ⟨Q4, hQ4, h⟩ := bd1_ed h
    obtain ⟨x4, e4, h⟩ := h
    replace h := hQ4 _ h
    by_cases q16 : ¬ x4 = 0
    · replace h := ed_pos q16 h
      exact J3  (hk3  h)
    · replace h := ed_neg q16 h
      obtain ⟨Q5, hQ5, h⟩ := bd1_ed h
      obtain ⟨x5, e5, h⟩ := h
      replace h := hQ5 _ h
      by_cases q25 : ¬ x5 = 0
      · replace h := ed_pos q25 h
        exact J3  (hk3  h)
      · replace h := ed_neg q25 h
        obtain ⟨Q6, hQ6, h⟩ := bd1_ed h
        obtain ⟨x6, e6, h⟩ := h
        replace h := hQ6 _ h
        by_cases q37 : ¬ x6 = 0
        · replace h := ed_pos q37 h
          exact J3  (hk3  h)
        · replace h := ed_neg q37 h
          obtain ⟨Q7, hQ7, h⟩ := bd1_ed h
          obtain ⟨x7, e7, h⟩ := h
          replace h := hQ7 _ h
          by_cases q51 : ¬ x7 = 0
          · replace h := ed_pos q51 h
            exact J3  (hk3  h)
          · replace h := ed_neg q51 h
            obtain ⟨Q8, hQ8, h⟩ := bd1_ed h
            obtain ⟨x8, e8, h⟩ := h
            replace h := hQ8 _ h
            by_cases q65 : x8 = 0
            · replace h := ed_pos q65 h
              exact J2 _ (ed_some h)
            · replace h := ed_neg q65 h
              exact J3  (hk3  h)
noncomputable def f_MLineRows_wipe (M : im_M) : Option (Int32 × im_M) := some ((im_i (im_setI M 96 3 0) 96 5), (im_setI (im_setI M 96 3 0) 96 5 0))
theorem J_MLineRows_wipe_d0 : decode J_MLineRows_wipe.2.1 0 = .ok (.aload_n 0, 1) := by decide +kernel
theorem J_MLineRows_wipe_d1 : decode J_MLineRows_wipe.2.1 1 = .ok (.iconst 0, 1) := by decide +kernel
theorem J_MLineRows_wipe_d2 : decode J_MLineRows_wipe.2.1 2 = .ok (.putfield 149, 3) := by decide +kernel
theorem J_MLineRows_wipe_d5 : decode J_MLineRows_wipe.2.1 5 = .ok (.aload_n 0, 1) := by decide +kernel
theorem J_MLineRows_wipe_d6 : decode J_MLineRows_wipe.2.1 6 = .ok (.getfield 157, 3) := by decide +kernel
theorem J_MLineRows_wipe_d9 : decode J_MLineRows_wipe.2.1 9 = .ok (.istore_n 1, 1) := by decide +kernel
theorem J_MLineRows_wipe_d10 : decode J_MLineRows_wipe.2.1 10 = .ok (.aload_n 0, 1) := by decide +kernel
theorem J_MLineRows_wipe_d11 : decode J_MLineRows_wipe.2.1 11 = .ok (.iconst 0, 1) := by decide +kernel
theorem J_MLineRows_wipe_d12 : decode J_MLineRows_wipe.2.1 12 = .ok (.putfield 157, 3) := by decide +kernel
theorem J_MLineRows_wipe_d15 : decode J_MLineRows_wipe.2.1 15 = .ok (.iload_n 1, 1) := by decide +kernel
theorem J_MLineRows_wipe_d16 : decode J_MLineRows_wipe.2.1 16 = .ok (.ireturn, 1) := by decide +kernel
theorem f_MLineRows_wipe_ok {L : Nat} {xs : Nat → Int32} {dep : Nat} {w : Bool} {M : im_M} {Q : Int32 × im_M → Prop} (hM : lw_S w M) (h : ed (f_MLineRows_wipe M) Q) : ia (tb_G L xs) dep J_MLineRows_wipe (rwI w Q) (0, lv_args 0 [.ref 96], [], M) := by
  have hS : im_St (tb_G L xs) dep J_MLineRows_wipe (ia (tb_G L xs) dep J_MLineRows_wipe (rwI w Q)) := ia_St
  unfold f_MLineRows_wipe at h
  have l0 : im_lk (lv_args 0 [.ref 96]) 0 = some (.ref 96) := rfl
  refine iq_aload_n hS 1 J_MLineRows_wipe_d0 l0 rfl ?_
  refine iq_iconst hS 2 J_MLineRows_wipe_d1 (v := 0) (by decide +kernel) rfl ?_
  refine iq_putI hS 5 J_MLineRows_wipe_d2 lf_13_149 (Or.inl rfl) rfl (ka_96 hM) rfl ?_
  refine iq_aload_n hS 6 J_MLineRows_wipe_d5 l0 rfl ?_
  refine iq_getI hS 9 J_MLineRows_wipe_d6 lf_13_157 (Or.inl rfl) (ka_96 (lw_sI hM)) rfl ?_
  refine iq_istore_n hS 10 J_MLineRows_wipe_d9 (by decide) rfl ?_
  refine iq_aload_n hS 11 J_MLineRows_wipe_d10 (lk_1r l0 (by decide)) rfl ?_
  refine iq_iconst hS 12 J_MLineRows_wipe_d11 (v := 0) (by decide +kernel) rfl ?_
  refine iq_putI hS 15 J_MLineRows_wipe_d12 lf_13_157 (Or.inl rfl) rfl (ka_96 (lw_sI hM)) rfl ?_
  refine iq_iload_n hS 16 J_MLineRows_wipe_d15 lk_1s rfl ?_
  exact iq_iret J_MLineRows_wipe_d16 rfl rfl ⟨_, rfl, (lw_sI (lw_sI hM)), ed_some h⟩
theorem f_MLineRows_wipe_fr {M : im_M} {r : Int32 × im_M} (h : f_MLineRows_wipe M = some r) : fr 0 [(96, 3), (96, 5)] M r.2 := by
  replace h : ed (f_MLineRows_wipe M) (fun x => x = r) := ⟨r, h, rfl⟩
  unfold f_MLineRows_wipe at h
  exact fr_ret h (fr_F (by decide) (fr_F (by decide) fr_refl))
noncomputable def f_MLineRows_write_L23 (v3 : Int32) (v4 : Int64) (x5 : Int32) (M6 : im_M) : Option ((Int32 × im_M) ⊕ (im_M)) := if v3 ≤ x5 then some (.inr M6) else if ¬ (im_i M6 96 3) = 0 then some (.inr M6) else some (.inl ((x5 + 1), (im_setI M6 96 3 ((if (lg_cmp ((v4 >>> (Int32.toInt64 ((8 : Int32) * x5) &&& 63) : Int64) &&& 255) 128) ≤ 0 then 0 else 1) : Int32))))
noncomputable def f_MLineRows_write_L94 (v10 : Int32) (v11 : Int64) (x12 : Int32) (M13 : im_M) : Option ((Int32 × im_M) ⊕ (im_M)) := if v10 ≤ x12 then some (.inr M13) else gd (inb (im_i M13 96 5) 64) <| some (.inl ((x12 + 1), (im_setI (im_setI M13 100 (Int32.toNatClampNeg (im_i M13 96 5)) (Int64.toInt32 ((v11 >>> (Int32.toInt64 ((8 : Int32) * x12) &&& 63) : Int64) &&& 255))) 96 5 ((im_i (im_setI M13 100 (Int32.toNatClampNeg (im_i M13 96 5)) (Int64.toInt32 ((v11 >>> (Int32.toInt64 ((8 : Int32) * x12) &&& 63) : Int64) &&& 255))) 96 5) + 1))))
noncomputable def f_MLineRows_write (p0 : Int32) (p1 : Int64) (M : im_M) : Option (Int32 × im_M) := bd1 (lp (uc2 (f_MLineRows_write_L23 p0 p1)) (0, (im_setI M 96 3 ((if p0 < 1 then 1 else (if p0 ≤ 8 then 0 else 1)) : Int32)))) fun (M8 : im_M) => if (im_i M8 96 3) ≤ 0 then if ((im_i M8 96 5) + p0) ≤ 64 then bd1 (lp (uc2 (f_MLineRows_write_L94 p0 p1)) (0, M8)) fun (M14 : im_M) => some ((im_i M14 96 5), M14) else some ((-1), M8) else some (0, M8)
theorem J_MLineRows_write_d0 : decode J_MLineRows_write.2.1 0 = .ok (.aload_n 0, 1) := by decide +kernel
theorem J_MLineRows_write_d1 : decode J_MLineRows_write.2.1 1 = .ok (.iload_n 1, 1) := by decide +kernel
theorem J_MLineRows_write_d2 : decode J_MLineRows_write.2.1 2 = .ok (.iconst 1, 1) := by decide +kernel
theorem J_MLineRows_write_d3 : decode J_MLineRows_write.2.1 3 = .ok (.if_icmp .lt 9, 3) := by decide +kernel
theorem J_MLineRows_write_d6 : decode J_MLineRows_write.2.1 6 = .ok (.iload_n 1, 1) := by decide +kernel
theorem J_MLineRows_write_d7 : decode J_MLineRows_write.2.1 7 = .ok (.bipush 8, 2) := by decide +kernel
theorem J_MLineRows_write_d9 : decode J_MLineRows_write.2.1 9 = .ok (.if_icmp .le 7, 3) := by decide +kernel
theorem J_MLineRows_write_d12 : decode J_MLineRows_write.2.1 12 = .ok (.iconst 1, 1) := by decide +kernel
theorem J_MLineRows_write_d13 : decode J_MLineRows_write.2.1 13 = .ok (.goto 4, 3) := by decide +kernel
theorem J_MLineRows_write_d16 : decode J_MLineRows_write.2.1 16 = .ok (.iconst 0, 1) := by decide +kernel
theorem J_MLineRows_write_d17 : decode J_MLineRows_write.2.1 17 = .ok (.putfield 149, 3) := by decide +kernel
theorem J_MLineRows_write_d20 : decode J_MLineRows_write.2.1 20 = .ok (.iconst 0, 1) := by decide +kernel
theorem J_MLineRows_write_d21 : decode J_MLineRows_write.2.1 21 = .ok (.istore 4, 2) := by decide +kernel
theorem J_MLineRows_write_d23 : decode J_MLineRows_write.2.1 23 = .ok (.iload 4, 2) := by decide +kernel
theorem J_MLineRows_write_d25 : decode J_MLineRows_write.2.1 25 = .ok (.iload_n 1, 1) := by decide +kernel
theorem J_MLineRows_write_d26 : decode J_MLineRows_write.2.1 26 = .ok (.if_icmp .ge 43, 3) := by decide +kernel
theorem J_MLineRows_write_d29 : decode J_MLineRows_write.2.1 29 = .ok (.aload_n 0, 1) := by decide +kernel
theorem J_MLineRows_write_d30 : decode J_MLineRows_write.2.1 30 = .ok (.getfield 149, 3) := by decide +kernel
theorem J_MLineRows_write_d33 : decode J_MLineRows_write.2.1 33 = .ok (.ifCond .ne 36, 3) := by decide +kernel
theorem J_MLineRows_write_d36 : decode J_MLineRows_write.2.1 36 = .ok (.aload_n 0, 1) := by decide +kernel
theorem J_MLineRows_write_d37 : decode J_MLineRows_write.2.1 37 = .ok (.lload_n 2, 1) := by decide +kernel
theorem J_MLineRows_write_d38 : decode J_MLineRows_write.2.1 38 = .ok (.bipush 8, 2) := by decide +kernel
theorem J_MLineRows_write_d40 : decode J_MLineRows_write.2.1 40 = .ok (.iload 4, 2) := by decide +kernel
theorem J_MLineRows_write_d42 : decode J_MLineRows_write.2.1 42 = .ok (.imul, 1) := by decide +kernel
theorem J_MLineRows_write_d43 : decode J_MLineRows_write.2.1 43 = .ok (.lshr, 1) := by decide +kernel
theorem J_MLineRows_write_d44 : decode J_MLineRows_write.2.1 44 = .ok (.ldc2_w 153, 3) := by decide +kernel
theorem J_MLineRows_write_d47 : decode J_MLineRows_write.2.1 47 = .ok (.land, 1) := by decide +kernel
theorem J_MLineRows_write_d48 : decode J_MLineRows_write.2.1 48 = .ok (.ldc2_w 155, 3) := by decide +kernel
theorem J_MLineRows_write_d51 : decode J_MLineRows_write.2.1 51 = .ok (.lcmp, 1) := by decide +kernel
theorem J_MLineRows_write_d52 : decode J_MLineRows_write.2.1 52 = .ok (.ifCond .le 7, 3) := by decide +kernel
theorem J_MLineRows_write_d55 : decode J_MLineRows_write.2.1 55 = .ok (.iconst 1, 1) := by decide +kernel
theorem J_MLineRows_write_d56 : decode J_MLineRows_write.2.1 56 = .ok (.goto 4, 3) := by decide +kernel
theorem J_MLineRows_write_d59 : decode J_MLineRows_write.2.1 59 = .ok (.iconst 0, 1) := by decide +kernel
theorem J_MLineRows_write_d60 : decode J_MLineRows_write.2.1 60 = .ok (.putfield 149, 3) := by decide +kernel
theorem J_MLineRows_write_d63 : decode J_MLineRows_write.2.1 63 = .ok (.iinc 4 1, 3) := by decide +kernel
theorem J_MLineRows_write_d66 : decode J_MLineRows_write.2.1 66 = .ok (.goto (-43), 3) := by decide +kernel
theorem J_MLineRows_write_d69 : decode J_MLineRows_write.2.1 69 = .ok (.aload_n 0, 1) := by decide +kernel
theorem J_MLineRows_write_d70 : decode J_MLineRows_write.2.1 70 = .ok (.getfield 149, 3) := by decide +kernel
theorem J_MLineRows_write_d73 : decode J_MLineRows_write.2.1 73 = .ok (.ifCond .le 5, 3) := by decide +kernel
theorem J_MLineRows_write_d76 : decode J_MLineRows_write.2.1 76 = .ok (.iconst 0, 1) := by decide +kernel
theorem J_MLineRows_write_d77 : decode J_MLineRows_write.2.1 77 = .ok (.ireturn, 1) := by decide +kernel
theorem J_MLineRows_write_d78 : decode J_MLineRows_write.2.1 78 = .ok (.aload_n 0, 1) := by decide +kernel
theorem J_MLineRows_write_d79 : decode J_MLineRows_write.2.1 79 = .ok (.getfield 157, 3) := by decide +kernel
theorem J_MLineRows_write_d82 : decode J_MLineRows_write.2.1 82 = .ok (.iload_n 1, 1) := by decide +kernel
theorem J_MLineRows_write_d83 : decode J_MLineRows_write.2.1 83 = .ok (.iadd, 1) := by decide +kernel
theorem J_MLineRows_write_d84 : decode J_MLineRows_write.2.1 84 = .ok (.bipush 64, 2) := by decide +kernel
theorem J_MLineRows_write_d86 : decode J_MLineRows_write.2.1 86 = .ok (.if_icmp .le 5, 3) := by decide +kernel
theorem J_MLineRows_write_d89 : decode J_MLineRows_write.2.1 89 = .ok (.iconst (-1), 1) := by decide +kernel
theorem J_MLineRows_write_d90 : decode J_MLineRows_write.2.1 90 = .ok (.ireturn, 1) := by decide +kernel
theorem J_MLineRows_write_d91 : decode J_MLineRows_write.2.1 91 = .ok (.iconst 0, 1) := by decide +kernel
theorem J_MLineRows_write_d92 : decode J_MLineRows_write.2.1 92 = .ok (.istore 4, 2) := by decide +kernel
theorem J_MLineRows_write_d94 : decode J_MLineRows_write.2.1 94 = .ok (.iload 4, 2) := by decide +kernel
theorem J_MLineRows_write_d96 : decode J_MLineRows_write.2.1 96 = .ok (.iload_n 1, 1) := by decide +kernel
theorem J_MLineRows_write_d97 : decode J_MLineRows_write.2.1 97 = .ok (.if_icmp .ge 40, 3) := by decide +kernel
theorem J_MLineRows_write_d100 : decode J_MLineRows_write.2.1 100 = .ok (.aload_n 0, 1) := by decide +kernel
theorem J_MLineRows_write_d101 : decode J_MLineRows_write.2.1 101 = .ok (.getfield 125, 3) := by decide +kernel
theorem J_MLineRows_write_d104 : decode J_MLineRows_write.2.1 104 = .ok (.aload_n 0, 1) := by decide +kernel
theorem J_MLineRows_write_d105 : decode J_MLineRows_write.2.1 105 = .ok (.getfield 157, 3) := by decide +kernel
theorem J_MLineRows_write_d108 : decode J_MLineRows_write.2.1 108 = .ok (.lload_n 2, 1) := by decide +kernel
theorem J_MLineRows_write_d109 : decode J_MLineRows_write.2.1 109 = .ok (.bipush 8, 2) := by decide +kernel
theorem J_MLineRows_write_d111 : decode J_MLineRows_write.2.1 111 = .ok (.iload 4, 2) := by decide +kernel
theorem J_MLineRows_write_d113 : decode J_MLineRows_write.2.1 113 = .ok (.imul, 1) := by decide +kernel
theorem J_MLineRows_write_d114 : decode J_MLineRows_write.2.1 114 = .ok (.lshr, 1) := by decide +kernel
theorem J_MLineRows_write_d115 : decode J_MLineRows_write.2.1 115 = .ok (.ldc2_w 153, 3) := by decide +kernel
theorem J_MLineRows_write_d118 : decode J_MLineRows_write.2.1 118 = .ok (.land, 1) := by decide +kernel
theorem J_MLineRows_write_d119 : decode J_MLineRows_write.2.1 119 = .ok (.l2i, 1) := by decide +kernel
theorem J_MLineRows_write_d120 : decode J_MLineRows_write.2.1 120 = .ok (.iastore, 1) := by decide +kernel
theorem J_MLineRows_write_d121 : decode J_MLineRows_write.2.1 121 = .ok (.aload_n 0, 1) := by decide +kernel
theorem J_MLineRows_write_d122 : decode J_MLineRows_write.2.1 122 = .ok (.dup, 1) := by decide +kernel
theorem J_MLineRows_write_d123 : decode J_MLineRows_write.2.1 123 = .ok (.getfield 157, 3) := by decide +kernel
theorem J_MLineRows_write_d126 : decode J_MLineRows_write.2.1 126 = .ok (.iconst 1, 1) := by decide +kernel
theorem J_MLineRows_write_d127 : decode J_MLineRows_write.2.1 127 = .ok (.iadd, 1) := by decide +kernel
theorem J_MLineRows_write_d128 : decode J_MLineRows_write.2.1 128 = .ok (.putfield 157, 3) := by decide +kernel
theorem J_MLineRows_write_d131 : decode J_MLineRows_write.2.1 131 = .ok (.iinc 4 1, 3) := by decide +kernel
theorem J_MLineRows_write_d134 : decode J_MLineRows_write.2.1 134 = .ok (.goto (-40), 3) := by decide +kernel
theorem J_MLineRows_write_d137 : decode J_MLineRows_write.2.1 137 = .ok (.aload_n 0, 1) := by decide +kernel
theorem J_MLineRows_write_d138 : decode J_MLineRows_write.2.1 138 = .ok (.getfield 157, 3) := by decide +kernel
theorem J_MLineRows_write_d141 : decode J_MLineRows_write.2.1 141 = .ok (.ireturn, 1) := by decide +kernel
theorem f_MLineRows_write_ok {L : Nat} {xs : Nat → Int32} {dep : Nat} {w : Bool} {p0 : Int32} {p1 : Int64} {M : im_M} {Q : Int32 × im_M → Prop} (hM : lw_S w M) (h : ed (f_MLineRows_write p0 p1 M) Q) : ia (tb_G L xs) dep J_MLineRows_write (rwI w Q) (0, lv_args 0 [.ref 96, .int p0, .long p1], [], M) := by
  have hS : im_St (tb_G L xs) dep J_MLineRows_write (ia (tb_G L xs) dep J_MLineRows_write (rwI w Q)) := ia_St
  unfold f_MLineRows_write at h
  have l0 : im_lk (lv_args 0 [.ref 96, .int p0, .long p1]) 0 = some (.ref 96) := rfl
  have l1 : im_lk (lv_args 0 [.ref 96, .int p0, .long p1]) 1 = some (.int p0) := rfl
  have l2 : im_lk (lv_args 0 [.ref 96, .int p0, .long p1]) 2 = some (.long p1) := rfl
  refine iq_aload_n hS 1 J_MLineRows_write_d0 l0 rfl ?_
  refine iq_iload_n hS 2 J_MLineRows_write_d1 l1 rfl ?_
  refine iq_iconst hS 3 J_MLineRows_write_d2 (v := 1) (by decide +kernel) rfl ?_
  have J1 : ∀ (z2 : Int32) (L' : List (Nat × Value)), z2 = ((if p0 < 1 then 1 else (if p0 ≤ 8 then 0 else 1)) : Int32) → im_lk L' 0 = some (.ref 96) → im_lk L' 1 = some (.int p0) → im_lk L' 2 = some (.long p1) → ia (tb_G L xs) dep J_MLineRows_write (rwI w Q) (17, L', [.int z2, .ref 96], M) := by
    intro z2 L' e3 l4 l5 l6
    subst e3
    refine iq_putI hS 20 J_MLineRows_write_d17 lf_13_149 (Or.inl rfl) rfl (ka_96 hM) rfl ?_
    refine iq_iconst hS 21 J_MLineRows_write_d20 (v := 0) (by decide +kernel) rfl ?_
    refine iq_istore hS 23 J_MLineRows_write_d21 (by decide) rfl ?_
    obtain ⟨Q7, hQ7, h⟩ := bd1_ed h
    have K7 : ∀ (M8 : im_M) (L' : List (Nat × Value)), lw_S w M8 → im_lk L' 0 = some (.ref 96) → im_lk L' 1 = some (.int p0) → im_lk L' 2 = some (.long p1) → Q7 M8 → ia (tb_G L xs) dep J_MLineRows_write (rwI w Q) (69, L', [], M8) := by
      intro M8 L' hM8 l9 l10 l11 h
      replace h := hQ7 _ h
      refine iq_aload_n hS 70 J_MLineRows_write_d69 l9 rfl ?_
      refine iq_getI hS 73 J_MLineRows_write_d70 lf_13_149 (Or.inl rfl) (ka_96 hM8) rfl ?_
      refine iq_if_le hS 76 J_MLineRows_write_d73 (t := 78) rfl (fun q73 => ?_) rfl (fun q73 => ?_)
      · replace h := ed_pos q73 h
        refine iq_aload_n hS 79 J_MLineRows_write_d78 l9 rfl ?_
        refine iq_getI hS 82 J_MLineRows_write_d79 lf_13_157 (Or.inl rfl) (ka_96 hM8) rfl ?_
        refine iq_iload_n hS 83 J_MLineRows_write_d82 l10 rfl ?_
        refine iq_iadd hS 84 J_MLineRows_write_d83 rfl ?_
        refine iq_bipush hS 86 J_MLineRows_write_d84 (v := 64) (by decide +kernel) rfl ?_
        refine iq_icmp_le hS 89 J_MLineRows_write_d86 (t := 91) rfl (fun q86 => ?_) rfl (fun q86 => ?_)
        · replace h := ed_pos q86 h
          refine iq_iconst hS 92 J_MLineRows_write_d91 (v := 0) (by decide +kernel) rfl ?_
          refine iq_istore hS 94 J_MLineRows_write_d92 (by decide) rfl ?_
          obtain ⟨Q12, hQ12, h⟩ := bd1_ed h
          have K12 : ∀ (M13 : im_M) (L' : List (Nat × Value)), lw_S w M13 → im_lk L' 0 = some (.ref 96) → Q12 M13 → ia (tb_G L xs) dep J_MLineRows_write (rwI w Q) (137, L', [], M13) := by
            intro M13 L' hM13 l14 h
            replace h := hQ12 _ h
            refine iq_aload_n hS 138 J_MLineRows_write_d137 l14 rfl ?_
            refine iq_getI hS 141 J_MLineRows_write_d138 lf_13_157 (Or.inl rfl) (ka_96 hM13) rfl ?_
            exact iq_iret J_MLineRows_write_d141 rfl rfl ⟨_, rfl, hM13, ed_some h⟩
          obtain ⟨r12, hr12, hq12⟩ := h
          obtain ⟨n12, hn12⟩ := lp_n hr12
          have I12 : ∀ (n : Nat) (x15 : Int32) (M16 : im_M) (L' : List (Nat × Value)), lw_S w M16 → im_lk L' 0 = some (.ref 96) → im_lk L' 1 = some (.int p0) → im_lk L' 2 = some (.long p1) → im_lk L' 4 = some (.int x15) → lpn (uc2 (f_MLineRows_write_L94 p0 p1)) n (x15, M16) = some r12 → ia (tb_G L xs) dep J_MLineRows_write (rwI w Q) (94, L', [], M16) := by
            intro n
            induction n with
            | zero => intro x15 M16 L' hM16 l17 l18 l19 l20 hn; exact (lpn_0 hn).elim
            | succ n ih =>
              intro x15 M16 L' hM16 l17 l18 l19 l20 hn
              have h := lpn_ed2 hn
              unfold f_MLineRows_write_L94 at h
              refine iq_iload hS 96 J_MLineRows_write_d94 l20 rfl ?_
              refine iq_iload_n hS 97 J_MLineRows_write_d96 l18 rfl ?_
              refine iq_icmp_ge hS 100 J_MLineRows_write_d97 (t := 137) rfl (fun q97 => ?_) rfl (fun q97 => ?_)
              · replace h := ed_pos q97 h
                exact K12 _ _ hM16 l17 (lq_r h hq12)
              · replace h := ed_neg q97 h
                refine iq_aload_n hS 101 J_MLineRows_write_d100 l17 rfl ?_
                refine iq_getR hS 104 J_MLineRows_write_d101 lf_13_125 (Or.inr ⟨_, rfl⟩) (ka_96 hM16) (ra_96_4 hM16) rfl ?_
                refine iq_aload_n hS 105 J_MLineRows_write_d104 l17 rfl ?_
                refine iq_getI hS 108 J_MLineRows_write_d105 lf_13_157 (Or.inl rfl) (ka_96 hM16) rfl ?_
                refine iq_lload_n hS 109 J_MLineRows_write_d108 l19 rfl ?_
                refine iq_bipush hS 111 J_MLineRows_write_d109 (v := 8) (by decide +kernel) rfl ?_
                refine iq_iload hS 113 J_MLineRows_write_d111 l20 rfl ?_
                refine iq_imul hS 114 J_MLineRows_write_d113 rfl ?_
                refine iq_lshr hS 115 J_MLineRows_write_d114 rfl ?_
                refine iq_ldc2_w hS 118 J_MLineRows_write_d115 lk_13_153 rfl ?_
                refine iq_land hS 119 J_MLineRows_write_d118 rfl ?_
                refine iq_l2i hS 120 J_MLineRows_write_d119 rfl ?_
                obtain ⟨g120, h⟩ := ed_gd h
                refine iq_iastore hS 121 J_MLineRows_write_d120 ⟨(ka_100 hM16).1, (ka_100 hM16).2, g120.1, ix_lt (kl_100 hM16) g120.2⟩ rfl ?_
                refine iq_aload_n hS 122 J_MLineRows_write_d121 l17 rfl ?_
                refine iq_dup hS 123 J_MLineRows_write_d122 rfl rfl ?_
                refine iq_getI hS 126 J_MLineRows_write_d123 lf_13_157 (Or.inl rfl) (ka_96 (lw_sI hM16)) rfl ?_
                refine iq_iconst hS 127 J_MLineRows_write_d126 (v := 1) (by decide +kernel) rfl ?_
                refine iq_iadd hS 128 J_MLineRows_write_d127 rfl ?_
                refine iq_putI hS 131 J_MLineRows_write_d128 lf_13_157 (Or.inl rfl) rfl (ka_96 (lw_sI hM16)) rfl ?_
                refine iq_iincv hS 134 J_MLineRows_write_d131 (c := 1) (by decide +kernel) l20 (by decide) rfl ?_
                refine iq_goto hS J_MLineRows_write_d134 (t := 94) rfl ?_
                exact ih _ _ _ (lw_sI (lw_sI hM16)) (lk_1r l17 (by decide)) (lk_1i l18 (by decide)) (lk_1l l19 (by decide) (by decide)) lk_1s (lq_l h)
          exact I12 n12 _ _ _ hM8 (lk_1r l9 (by decide)) (lk_1i l10 (by decide)) (lk_1l l11 (by decide) (by decide)) lk_1s hn12
        · replace h := ed_neg q86 h
          refine iq_iconst hS 90 J_MLineRows_write_d89 (v := (-1)) (by decide +kernel) rfl ?_
          exact iq_iret J_MLineRows_write_d90 rfl rfl ⟨_, rfl, hM8, ed_some h⟩
      · replace h := ed_neg q73 h
        refine iq_iconst hS 77 J_MLineRows_write_d76 (v := 0) (by decide +kernel) rfl ?_
        exact iq_iret J_MLineRows_write_d77 rfl rfl ⟨_, rfl, hM8, ed_some h⟩
    obtain ⟨r7, hr7, hq7⟩ := h
    obtain ⟨n7, hn7⟩ := lp_n hr7
    have I7 : ∀ (n : Nat) (x21 : Int32) (M22 : im_M) (L' : List (Nat × Value)), lw_S w M22 → im_lk L' 0 = some (.ref 96) → im_lk L' 1 = some (.int p0) → im_lk L' 2 = some (.long p1) → im_lk L' 4 = some (.int x21) → lpn (uc2 (f_MLineRows_write_L23 p0 p1)) n (x21, M22) = some r7 → ia (tb_G L xs) dep J_MLineRows_write (rwI w Q) (23, L', [], M22) := by
      intro n
      induction n with
      | zero => intro x21 M22 L' hM22 l23 l24 l25 l26 hn; exact (lpn_0 hn).elim
      | succ n ih =>
        intro x21 M22 L' hM22 l23 l24 l25 l26 hn
        have h := lpn_ed2 hn
        unfold f_MLineRows_write_L23 at h
        refine iq_iload hS 25 J_MLineRows_write_d23 l26 rfl ?_
        refine iq_iload_n hS 26 J_MLineRows_write_d25 l24 rfl ?_
        refine iq_icmp_ge hS 29 J_MLineRows_write_d26 (t := 69) rfl (fun q26 => ?_) rfl (fun q26 => ?_)
        · replace h := ed_pos q26 h
          exact K7 _ _ hM22 l23 l24 l25 (lq_r h hq7)
        · replace h := ed_neg q26 h
          refine iq_aload_n hS 30 J_MLineRows_write_d29 l23 rfl ?_
          refine iq_getI hS 33 J_MLineRows_write_d30 lf_13_149 (Or.inl rfl) (ka_96 hM22) rfl ?_
          refine iq_if_ne hS 36 J_MLineRows_write_d33 (t := 69) rfl (fun q33 => ?_) rfl (fun q33 => ?_)
          · replace h := ed_pos q33 h
            exact K7 _ _ hM22 l23 l24 l25 (lq_r h hq7)
          · replace h := ed_neg q33 h
            refine iq_aload_n hS 37 J_MLineRows_write_d36 l23 rfl ?_
            refine iq_lload_n hS 38 J_MLineRows_write_d37 l25 rfl ?_
            refine iq_bipush hS 40 J_MLineRows_write_d38 (v := 8) (by decide +kernel) rfl ?_
            refine iq_iload hS 42 J_MLineRows_write_d40 l26 rfl ?_
            refine iq_imul hS 43 J_MLineRows_write_d42 rfl ?_
            refine iq_lshr hS 44 J_MLineRows_write_d43 rfl ?_
            refine iq_ldc2_w hS 47 J_MLineRows_write_d44 lk_13_153 rfl ?_
            refine iq_land hS 48 J_MLineRows_write_d47 rfl ?_
            refine iq_ldc2_w hS 51 J_MLineRows_write_d48 lk_13_155 rfl ?_
            refine iq_lcmp hS 52 J_MLineRows_write_d51 rfl ?_
            have J27 : ∀ (z28 : Int32) (L' : List (Nat × Value)), z28 = ((if (lg_cmp ((p1 >>> (Int32.toInt64 ((8 : Int32) * x21) &&& 63) : Int64) &&& 255) 128) ≤ 0 then 0 else 1) : Int32) → im_lk L' 0 = some (.ref 96) → im_lk L' 1 = some (.int p0) → im_lk L' 2 = some (.long p1) → im_lk L' 4 = some (.int x21) → ia (tb_G L xs) dep J_MLineRows_write (rwI w Q) (60, L', [.int z28, .ref 96], M22) := by
              intro z28 L' e29 l30 l31 l32 l33
              subst e29
              refine iq_putI hS 63 J_MLineRows_write_d60 lf_13_149 (Or.inl rfl) rfl (ka_96 hM22) rfl ?_
              refine iq_iincv hS 66 J_MLineRows_write_d63 (c := 1) (by decide +kernel) l33 (by decide) rfl ?_
              refine iq_goto hS J_MLineRows_write_d66 (t := 23) rfl ?_
              exact ih _ _ _ (lw_sI hM22) (lk_1r l30 (by decide)) (lk_1i l31 (by decide)) (lk_1l l32 (by decide) (by decide)) lk_1s (lq_l h)
            refine iq_if_le hS 55 J_MLineRows_write_d52 (t := 59) rfl (fun q52 => ?_) rfl (fun q52 => ?_)
            · refine iq_iconst hS 60 J_MLineRows_write_d59 (v := 0) (by decide +kernel) rfl ?_
              exact J27 _ _ (by simp only [if_pos q52]) l23 l24 l25 l26
            · refine iq_iconst hS 56 J_MLineRows_write_d55 (v := 1) (by decide +kernel) rfl ?_
              refine iq_goto hS J_MLineRows_write_d56 (t := 60) rfl ?_
              exact J27 _ _ (by simp only [if_neg q52]) l23 l24 l25 l26
    exact I7 n7 _ _ _ (lw_sI hM) (lk_1r l4 (by decide)) (lk_1i l5 (by decide)) (lk_1l l6 (by decide) (by decide)) lk_1s hn7
  refine iq_icmp_lt hS 6 J_MLineRows_write_d3 (t := 12) rfl (fun q3 => ?_) rfl (fun q3 => ?_)
  · refine iq_iconst hS 13 J_MLineRows_write_d12 (v := 1) (by decide +kernel) rfl ?_
    refine iq_goto hS J_MLineRows_write_d13 (t := 17) rfl ?_
    exact J1 _ _ (by simp only [if_pos q3]) l0 l1 l2
  · refine iq_iload_n hS 7 J_MLineRows_write_d6 l1 rfl ?_
    refine iq_bipush hS 9 J_MLineRows_write_d7 (v := 8) (by decide +kernel) rfl ?_
    refine iq_icmp_le hS 12 J_MLineRows_write_d9 (t := 16) rfl (fun q9 => ?_) rfl (fun q9 => ?_)
    · refine iq_iconst hS 17 J_MLineRows_write_d16 (v := 0) (by decide +kernel) rfl ?_
      exact J1 _ _ (by simp only [if_neg q3, if_pos q9]) l0 l1 l2
    · refine iq_iconst hS 13 J_MLineRows_write_d12 (v := 1) (by decide +kernel) rfl ?_
      refine iq_goto hS J_MLineRows_write_d13 (t := 17) rfl ?_
      exact J1 _ _ (by simp only [if_neg q3, if_neg q9]) l0 l1 l2
theorem f_MLineRows_write_fr {p0 : Int32} {p1 : Int64} {M : im_M} {r : Int32 × im_M} (h : f_MLineRows_write p0 p1 M = some r) : fr 1267650600228229401496703205376 [(96, 3), (96, 5)] M r.2 := by
  replace h : ed (f_MLineRows_write p0 p1 M) (fun x => x = r) := ⟨r, h, rfl⟩
  unfold f_MLineRows_write at h
  obtain ⟨Q2, hQ2, h⟩ := bd1_ed h
  have K2 : ∀ (M3 : im_M), fr 1267650600228229401496703205376 [(96, 3), (96, 5)] M M3 → Q2 M3 → fr 1267650600228229401496703205376 [(96, 3), (96, 5)] M r.2 := by
    intro M3 hM3 h
    replace h := hQ2 _ h
    by_cases q73 : (im_i M3 96 3) ≤ 0
    · replace h := ed_pos q73 h
      by_cases q86 : ((im_i M3 96 5) + p0) ≤ 64
      · replace h := ed_pos q86 h
        obtain ⟨Q4, hQ4, h⟩ := bd1_ed h
        have K4 : ∀ (M5 : im_M), fr 1267650600228229401496703205376 [(96, 3), (96, 5)] M M5 → Q4 M5 → fr 1267650600228229401496703205376 [(96, 3), (96, 5)] M r.2 := by
          intro M5 hM5 h
          replace h := hQ4 _ h
          exact fr_ret h hM5
        obtain ⟨r4, hr4, hq4⟩ := h
        obtain ⟨n4, hn4⟩ := lp_n hr4
        have I4 : ∀ (n : Nat) (x6 : Int32) (M7 : im_M), fr 1267650600228229401496703205376 [(96, 3), (96, 5)] M M7 → lpn (uc2 (f_MLineRows_write_L94 p0 p1)) n (x6, M7) = some r4 → fr 1267650600228229401496703205376 [(96, 3), (96, 5)] M r.2 := by
          intro n
          induction n with
          | zero => intro x6 M7 hM7 hn; exact (lpn_0 hn).elim
          | succ n ih =>
            intro x6 M7 hM7 hn
            have h := lpn_ed2 hn
            unfold f_MLineRows_write_L94 at h
            by_cases q97 : p0 ≤ x6
            · replace h := ed_pos q97 h
              exact K4 _ hM7 (lq_r h hq4)
            · replace h := ed_neg q97 h
              obtain ⟨g120, h⟩ := ed_gd h
              exact ih _ _ (fr_F (by decide) (fr_I (by decide) hM7)) (lq_l h)
        exact I4 n4 _ _ hM3 hn4
      · replace h := ed_neg q86 h
        exact fr_ret h hM3
    · replace h := ed_neg q73 h
      exact fr_ret h hM3
  obtain ⟨r2, hr2, hq2⟩ := h
  obtain ⟨n2, hn2⟩ := lp_n hr2
  have I2 : ∀ (n : Nat) (x8 : Int32) (M9 : im_M), fr 1267650600228229401496703205376 [(96, 3), (96, 5)] M M9 → lpn (uc2 (f_MLineRows_write_L23 p0 p1)) n (x8, M9) = some r2 → fr 1267650600228229401496703205376 [(96, 3), (96, 5)] M r.2 := by
    intro n
    induction n with
    | zero => intro x8 M9 hM9 hn; exact (lpn_0 hn).elim
    | succ n ih =>
      intro x8 M9 hM9 hn
      have h := lpn_ed2 hn
      unfold f_MLineRows_write_L23 at h
      by_cases q26 : p0 ≤ x8
      · replace h := ed_pos q26 h
        exact K2 _ hM9 (lq_r h hq2)
      · replace h := ed_neg q26 h
        by_cases q33 : ¬ (im_i M9 96 3) = 0
        · replace h := ed_pos q33 h
          exact K2 _ hM9 (lq_r h hq2)
        · replace h := ed_neg q33 h
          exact ih _ _ (fr_F (by decide) hM9) (lq_l h)
  exact I2 n2 _ _ (fr_F (by decide) fr_refl) hn2
noncomputable def f_MLineRows_at (p0 : Int32) (M : im_M) : Option (Int32) := if (im_i M 96 5) ≤ p0 then some (-1) else gd (inb p0 64) <| some (im_i M 100 (Int32.toNatClampNeg p0))
theorem J_MLineRows_at_d0 : decode J_MLineRows_at.2.1 0 = .ok (.iload_n 1, 1) := by decide +kernel
theorem J_MLineRows_at_d1 : decode J_MLineRows_at.2.1 1 = .ok (.aload_n 0, 1) := by decide +kernel
theorem J_MLineRows_at_d2 : decode J_MLineRows_at.2.1 2 = .ok (.getfield 157, 3) := by decide +kernel
theorem J_MLineRows_at_d5 : decode J_MLineRows_at.2.1 5 = .ok (.if_icmp .ge 12, 3) := by decide +kernel
theorem J_MLineRows_at_d8 : decode J_MLineRows_at.2.1 8 = .ok (.aload_n 0, 1) := by decide +kernel
theorem J_MLineRows_at_d9 : decode J_MLineRows_at.2.1 9 = .ok (.getfield 125, 3) := by decide +kernel
theorem J_MLineRows_at_d12 : decode J_MLineRows_at.2.1 12 = .ok (.iload_n 1, 1) := by decide +kernel
theorem J_MLineRows_at_d13 : decode J_MLineRows_at.2.1 13 = .ok (.iaload, 1) := by decide +kernel
theorem J_MLineRows_at_d14 : decode J_MLineRows_at.2.1 14 = .ok (.goto 4, 3) := by decide +kernel
theorem J_MLineRows_at_d17 : decode J_MLineRows_at.2.1 17 = .ok (.iconst (-1), 1) := by decide +kernel
theorem J_MLineRows_at_d18 : decode J_MLineRows_at.2.1 18 = .ok (.ireturn, 1) := by decide +kernel
theorem f_MLineRows_at_ok {L : Nat} {xs : Nat → Int32} {dep : Nat} {w : Bool} {p0 : Int32} {M : im_M} {Q : Int32 → Prop} (hM : lw_S w M) (h : ed (f_MLineRows_at p0 M) Q) : ia (tb_G L xs) dep J_MLineRows_at (rpI M Q) (0, lv_args 0 [.ref 96, .int p0], [], M) := by
  have hS : im_St (tb_G L xs) dep J_MLineRows_at (ia (tb_G L xs) dep J_MLineRows_at (rpI M Q)) := ia_St
  unfold f_MLineRows_at at h
  have l0 : im_lk (lv_args 0 [.ref 96, .int p0]) 0 = some (.ref 96) := rfl
  have l1 : im_lk (lv_args 0 [.ref 96, .int p0]) 1 = some (.int p0) := rfl
  refine iq_iload_n hS 1 J_MLineRows_at_d0 l1 rfl ?_
  refine iq_aload_n hS 2 J_MLineRows_at_d1 l0 rfl ?_
  refine iq_getI hS 5 J_MLineRows_at_d2 lf_13_157 (Or.inl rfl) (ka_96 hM) rfl ?_
  refine iq_icmp_ge hS 8 J_MLineRows_at_d5 (t := 17) rfl (fun q5 => ?_) rfl (fun q5 => ?_)
  · replace h := ed_pos q5 h
    refine iq_iconst hS 18 J_MLineRows_at_d17 (v := (-1)) (by decide +kernel) rfl ?_
    exact iq_iret J_MLineRows_at_d18 rfl rfl ⟨_, rfl, rfl, ed_some h⟩
  · replace h := ed_neg q5 h
    refine iq_aload_n hS 9 J_MLineRows_at_d8 l0 rfl ?_
    refine iq_getR hS 12 J_MLineRows_at_d9 lf_13_125 (Or.inr ⟨_, rfl⟩) (ka_96 hM) (ra_96_4 hM) rfl ?_
    refine iq_iload_n hS 13 J_MLineRows_at_d12 l1 rfl ?_
    obtain ⟨g13, h⟩ := ed_gd h
    refine iq_iaload hS 14 J_MLineRows_at_d13 ⟨(ka_100 hM).1, (ka_100 hM).2, g13.1, ix_lt (kl_100 hM) g13.2⟩ rfl ?_
    refine iq_goto hS J_MLineRows_at_d14 (t := 18) rfl ?_
    exact iq_iret J_MLineRows_at_d18 rfl rfl ⟨_, rfl, rfl, ed_some h⟩
noncomputable def f_MLineRows_signOf (p0 : Int32) (p1 : Int32) (M : im_M) : Option (Int32) := jn0 (fun (_ : Unit) => some (p1 + 32)) fun k1 => if p0 = 1 then k1 () else if 64 ≤ p1 then some (p1 - 64) else k1 ()
theorem J_MLineRows_signOf_d0 : decode J_MLineRows_signOf.2.1 0 = .ok (.iload_n 0, 1) := by decide +kernel
theorem J_MLineRows_signOf_d1 : decode J_MLineRows_signOf.2.1 1 = .ok (.iconst 1, 1) := by decide +kernel
theorem J_MLineRows_signOf_d2 : decode J_MLineRows_signOf.2.1 2 = .ok (.if_icmp .eq 9, 3) := by decide +kernel
theorem J_MLineRows_signOf_d5 : decode J_MLineRows_signOf.2.1 5 = .ok (.iload_n 1, 1) := by decide +kernel
theorem J_MLineRows_signOf_d6 : decode J_MLineRows_signOf.2.1 6 = .ok (.bipush 64, 2) := by decide +kernel
theorem J_MLineRows_signOf_d8 : decode J_MLineRows_signOf.2.1 8 = .ok (.if_icmp .ge 10, 3) := by decide +kernel
theorem J_MLineRows_signOf_d11 : decode J_MLineRows_signOf.2.1 11 = .ok (.iload_n 1, 1) := by decide +kernel
theorem J_MLineRows_signOf_d12 : decode J_MLineRows_signOf.2.1 12 = .ok (.bipush 32, 2) := by decide +kernel
theorem J_MLineRows_signOf_d14 : decode J_MLineRows_signOf.2.1 14 = .ok (.iadd, 1) := by decide +kernel
theorem J_MLineRows_signOf_d15 : decode J_MLineRows_signOf.2.1 15 = .ok (.goto 7, 3) := by decide +kernel
theorem J_MLineRows_signOf_d18 : decode J_MLineRows_signOf.2.1 18 = .ok (.iload_n 1, 1) := by decide +kernel
theorem J_MLineRows_signOf_d19 : decode J_MLineRows_signOf.2.1 19 = .ok (.bipush 64, 2) := by decide +kernel
theorem J_MLineRows_signOf_d21 : decode J_MLineRows_signOf.2.1 21 = .ok (.isub, 1) := by decide +kernel
theorem J_MLineRows_signOf_d22 : decode J_MLineRows_signOf.2.1 22 = .ok (.ireturn, 1) := by decide +kernel
theorem f_MLineRows_signOf_ok {L : Nat} {xs : Nat → Int32} {dep : Nat} {w : Bool} {p0 : Int32} {p1 : Int32} {M : im_M} {Q : Int32 → Prop} (hM : lw_S w M) (h : ed (f_MLineRows_signOf p0 p1 M) Q) : ia (tb_G L xs) dep J_MLineRows_signOf (rpI M Q) (0, lv_args 0 [.int p0, .int p1], [], M) := by
  have hS : im_St (tb_G L xs) dep J_MLineRows_signOf (ia (tb_G L xs) dep J_MLineRows_signOf (rpI M Q)) := ia_St
  unfold f_MLineRows_signOf at h
  have l0 : im_lk (lv_args 0 [.int p0, .int p1]) 0 = some (.int p0) := rfl
  have l1 : im_lk (lv_args 0 [.int p0, .int p1]) 1 = some (.int p1) := rfl
  refine iq_iload_n hS 1 J_MLineRows_signOf_d0 l0 rfl ?_
  refine iq_iconst hS 2 J_MLineRows_signOf_d1 (v := 1) (by decide +kernel) rfl ?_
  obtain ⟨k1, Q1, hQ1, hk1, h⟩ := jn0_ed h
  have J1 : ∀  (L' : List (Nat × Value)), im_lk L' 1 = some (.int p1) → Q1 () → ia (tb_G L xs) dep J_MLineRows_signOf (rpI M Q) (11, L', [], M) := by
    intro  L' l2 h
    replace h := hQ1  h
    refine iq_iload_n hS 12 J_MLineRows_signOf_d11 l2 rfl ?_
    refine iq_bipush hS 14 J_MLineRows_signOf_d12 (v := 32) (by decide +kernel) rfl ?_
    refine iq_iadd hS 15 J_MLineRows_signOf_d14 rfl ?_
    refine iq_goto hS J_MLineRows_signOf_d15 (t := 22) rfl ?_
    exact iq_iret J_MLineRows_signOf_d22 rfl rfl ⟨_, rfl, rfl, ed_some h⟩
  refine iq_icmp_eq hS 5 J_MLineRows_signOf_d2 (t := 11) rfl (fun q2 => ?_) rfl (fun q2 => ?_)
  · replace h := ed_pos q2 h
    exact J1  _ l1 (hk1  h)
  · replace h := ed_neg q2 h
    refine iq_iload_n hS 6 J_MLineRows_signOf_d5 l1 rfl ?_
    refine iq_bipush hS 8 J_MLineRows_signOf_d6 (v := 64) (by decide +kernel) rfl ?_
    refine iq_icmp_ge hS 11 J_MLineRows_signOf_d8 (t := 18) rfl (fun q8 => ?_) rfl (fun q8 => ?_)
    · replace h := ed_pos q8 h
      refine iq_iload_n hS 19 J_MLineRows_signOf_d18 l1 rfl ?_
      refine iq_bipush hS 21 J_MLineRows_signOf_d19 (v := 64) (by decide +kernel) rfl ?_
      refine iq_isub hS 22 J_MLineRows_signOf_d21 rfl ?_
      exact iq_iret J_MLineRows_signOf_d22 rfl rfl ⟨_, rfl, rfl, ed_some h⟩
    · replace h := ed_neg q8 h
      exact J1  _ l1 (hk1  h)
noncomputable def f_MLineRows_isPair (p0 : Int32) (p1 : Int32) (M : im_M) : Option (Int32) := bd1 (f_MLineRows_at p0 M) fun (x1 : Int32) => if ¬ x1 = ((48 : Int32) + (p1 / 10)) then some 0 else bd1 (f_MLineRows_at (p0 + 1) M) fun (x2 : Int32) => if ¬ x2 = ((48 : Int32) + (p1 - p1 / 10 * 10)) then some 0 else some 1
theorem J_MLineRows_isPair_d0 : decode J_MLineRows_isPair.2.1 0 = .ok (.aload_n 0, 1) := by decide +kernel
theorem J_MLineRows_isPair_d1 : decode J_MLineRows_isPair.2.1 1 = .ok (.iload_n 1, 1) := by decide +kernel
theorem J_MLineRows_isPair_d2 : decode J_MLineRows_isPair.2.1 2 = .ok (.invokevirtual 160, 3) := by decide +kernel
theorem J_MLineRows_isPair_d5 : decode J_MLineRows_isPair.2.1 5 = .ok (.bipush 48, 2) := by decide +kernel
theorem J_MLineRows_isPair_d7 : decode J_MLineRows_isPair.2.1 7 = .ok (.iload_n 2, 1) := by decide +kernel
theorem J_MLineRows_isPair_d8 : decode J_MLineRows_isPair.2.1 8 = .ok (.bipush 10, 2) := by decide +kernel
theorem J_MLineRows_isPair_d10 : decode J_MLineRows_isPair.2.1 10 = .ok (.idiv, 1) := by decide +kernel
theorem J_MLineRows_isPair_d11 : decode J_MLineRows_isPair.2.1 11 = .ok (.iadd, 1) := by decide +kernel
theorem J_MLineRows_isPair_d12 : decode J_MLineRows_isPair.2.1 12 = .ok (.if_icmp .ne 24, 3) := by decide +kernel
theorem J_MLineRows_isPair_d15 : decode J_MLineRows_isPair.2.1 15 = .ok (.aload_n 0, 1) := by decide +kernel
theorem J_MLineRows_isPair_d16 : decode J_MLineRows_isPair.2.1 16 = .ok (.iload_n 1, 1) := by decide +kernel
theorem J_MLineRows_isPair_d17 : decode J_MLineRows_isPair.2.1 17 = .ok (.iconst 1, 1) := by decide +kernel
theorem J_MLineRows_isPair_d18 : decode J_MLineRows_isPair.2.1 18 = .ok (.iadd, 1) := by decide +kernel
theorem J_MLineRows_isPair_d19 : decode J_MLineRows_isPair.2.1 19 = .ok (.invokevirtual 160, 3) := by decide +kernel
theorem J_MLineRows_isPair_d22 : decode J_MLineRows_isPair.2.1 22 = .ok (.bipush 48, 2) := by decide +kernel
theorem J_MLineRows_isPair_d24 : decode J_MLineRows_isPair.2.1 24 = .ok (.iload_n 2, 1) := by decide +kernel
theorem J_MLineRows_isPair_d25 : decode J_MLineRows_isPair.2.1 25 = .ok (.bipush 10, 2) := by decide +kernel
theorem J_MLineRows_isPair_d27 : decode J_MLineRows_isPair.2.1 27 = .ok (.irem, 1) := by decide +kernel
theorem J_MLineRows_isPair_d28 : decode J_MLineRows_isPair.2.1 28 = .ok (.iadd, 1) := by decide +kernel
theorem J_MLineRows_isPair_d29 : decode J_MLineRows_isPair.2.1 29 = .ok (.if_icmp .ne 7, 3) := by decide +kernel
theorem J_MLineRows_isPair_d32 : decode J_MLineRows_isPair.2.1 32 = .ok (.iconst 1, 1) := by decide +kernel
theorem J_MLineRows_isPair_d33 : decode J_MLineRows_isPair.2.1 33 = .ok (.goto 4, 3) := by decide +kernel
theorem J_MLineRows_isPair_d36 : decode J_MLineRows_isPair.2.1 36 = .ok (.iconst 0, 1) := by decide +kernel
theorem J_MLineRows_isPair_d37 : decode J_MLineRows_isPair.2.1 37 = .ok (.ireturn, 1) := by decide +kernel
theorem f_MLineRows_isPair_ok {L : Nat} {xs : Nat → Int32} {dep : Nat} {w : Bool} {p0 : Int32} {p1 : Int32} {M : im_M} {Q : Int32 → Prop} (hM : lw_S w M) (h : ed (f_MLineRows_isPair p0 p1 M) Q) : ia (tb_G L xs) (dep + 1) J_MLineRows_isPair (rpI M Q) (0, lv_args 0 [.ref 96, .int p0, .int p1], [], M) := by
  have hS : im_St (tb_G L xs) (dep + 1) J_MLineRows_isPair (ia (tb_G L xs) (dep + 1) J_MLineRows_isPair (rpI M Q)) := ia_St
  unfold f_MLineRows_isPair at h
  have l0 : im_lk (lv_args 0 [.ref 96, .int p0, .int p1]) 0 = some (.ref 96) := rfl
  have l1 : im_lk (lv_args 0 [.ref 96, .int p0, .int p1]) 1 = some (.int p0) := rfl
  have l2 : im_lk (lv_args 0 [.ref 96, .int p0, .int p1]) 2 = some (.int p1) := rfl
  refine iq_aload_n hS 1 J_MLineRows_isPair_d0 l0 rfl ?_
  refine iq_iload_n hS 2 J_MLineRows_isPair_d1 l1 rfl ?_
  obtain ⟨Q1, hQ1, h⟩ := bd1_ed h
  refine iq_cpI hS 5 J_MLineRows_isPair_d2 rfl (pr_inst (vs := [_]) lc_13_160 lT_364 rfl rfl (by decide) (by decide) rfl (Nat.le_of_ble_eq_true rfl) (Nat.le_of_ble_eq_true rfl) (fun _ => Or.inl (pr_b (ka_96 hM) (by decide) rfl))) (f_MLineRows_at_ok (dep := dep + 0) hM h) rfl ?_
  intro x1 h
  replace h := hQ1 _ h
  refine iq_bipush hS 7 J_MLineRows_isPair_d5 (v := 48) (by decide +kernel) rfl ?_
  refine iq_iload_n hS 8 J_MLineRows_isPair_d7 l2 rfl ?_
  refine iq_bipush hS 10 J_MLineRows_isPair_d8 (v := 10) (by decide +kernel) rfl ?_
  refine iq_idiv hS 11 J_MLineRows_isPair_d10 (by decide) rfl ?_
  refine iq_iadd hS 12 J_MLineRows_isPair_d11 rfl ?_
  refine iq_icmp_ne hS 15 J_MLineRows_isPair_d12 (t := 36) rfl (fun q12 => ?_) rfl (fun q12 => ?_)
  · replace h := ed_pos q12 h
    refine iq_iconst hS 37 J_MLineRows_isPair_d36 (v := 0) (by decide +kernel) rfl ?_
    exact iq_iret J_MLineRows_isPair_d37 rfl rfl ⟨_, rfl, rfl, ed_some h⟩
  · replace h := ed_neg q12 h
    refine iq_aload_n hS 16 J_MLineRows_isPair_d15 l0 rfl ?_
    refine iq_iload_n hS 17 J_MLineRows_isPair_d16 l1 rfl ?_
    refine iq_iconst hS 18 J_MLineRows_isPair_d17 (v := 1) (by decide +kernel) rfl ?_
    refine iq_iadd hS 19 J_MLineRows_isPair_d18 rfl ?_
    obtain ⟨Q2, hQ2, h⟩ := bd1_ed h
    refine iq_cpI hS 22 J_MLineRows_isPair_d19 rfl (pr_inst (vs := [_]) lc_13_160 lT_364 rfl rfl (by decide) (by decide) rfl (Nat.le_of_ble_eq_true rfl) (Nat.le_of_ble_eq_true rfl) (fun _ => Or.inl (pr_b (ka_96 hM) (by decide) rfl))) (f_MLineRows_at_ok (dep := dep + 0) hM h) rfl ?_
    intro x2 h
    replace h := hQ2 _ h
    refine iq_bipush hS 24 J_MLineRows_isPair_d22 (v := 48) (by decide +kernel) rfl ?_
    refine iq_iload_n hS 25 J_MLineRows_isPair_d24 l2 rfl ?_
    refine iq_bipush hS 27 J_MLineRows_isPair_d25 (v := 10) (by decide +kernel) rfl ?_
    refine iq_irem hS 28 J_MLineRows_isPair_d27 (by decide) rfl ?_
    refine iq_iadd hS 29 J_MLineRows_isPair_d28 rfl ?_
    refine iq_icmp_ne hS 32 J_MLineRows_isPair_d29 (t := 36) rfl (fun q29 => ?_) rfl (fun q29 => ?_)
    · replace h := ed_pos q29 h
      refine iq_iconst hS 37 J_MLineRows_isPair_d36 (v := 0) (by decide +kernel) rfl ?_
      exact iq_iret J_MLineRows_isPair_d37 rfl rfl ⟨_, rfl, rfl, ed_some h⟩
    · replace h := ed_neg q29 h
      refine iq_iconst hS 33 J_MLineRows_isPair_d32 (v := 1) (by decide +kernel) rfl ?_
      refine iq_goto hS J_MLineRows_isPair_d33 (t := 37) rfl ?_
      exact iq_iret J_MLineRows_isPair_d37 rfl rfl ⟨_, rfl, rfl, ed_some h⟩
noncomputable def f_MLineRows_tells (p0 : Int32) (p1 : Int32) (p2 : Int32) (M : im_M) : Option (Int32) := if ¬ p2 = 102 then if ¬ p1 = 2 then if 96 ≤ p2 then some (-1) else if (im_i M 96 5) ≤ p0 then some (-1) else bd1 (f_MLineRows_at p0 M) fun (x1 : Int32) => bd1 (f_MLineRows_signOf p1 p2 M) fun (x2 : Int32) => if ¬ x1 = x2 then some (-1) else some 1 else if 100 ≤ p2 then some (-1) else bd1 (f_MLineRows_isPair p0 p2 M) fun (x3 : Int32) => if x3 = 0 then some (-1) else some 2 else bd1 (f_MLineRows_at p0 M) fun (x4 : Int32) => if ¬ x4 = 128 then some (-1) else some 1
theorem J_MLineRows_tells_d0 : decode J_MLineRows_tells.2.1 0 = .ok (.iload_n 3, 1) := by decide +kernel
theorem J_MLineRows_tells_d1 : decode J_MLineRows_tells.2.1 1 = .ok (.bipush 102, 2) := by decide +kernel
theorem J_MLineRows_tells_d3 : decode J_MLineRows_tells.2.1 3 = .ok (.if_icmp .ne 20, 3) := by decide +kernel
theorem J_MLineRows_tells_d6 : decode J_MLineRows_tells.2.1 6 = .ok (.aload_n 0, 1) := by decide +kernel
theorem J_MLineRows_tells_d7 : decode J_MLineRows_tells.2.1 7 = .ok (.iload_n 1, 1) := by decide +kernel
theorem J_MLineRows_tells_d8 : decode J_MLineRows_tells.2.1 8 = .ok (.invokevirtual 160, 3) := by decide +kernel
theorem J_MLineRows_tells_d11 : decode J_MLineRows_tells.2.1 11 = .ok (.sipush 128, 3) := by decide +kernel
theorem J_MLineRows_tells_d14 : decode J_MLineRows_tells.2.1 14 = .ok (.if_icmp .ne 7, 3) := by decide +kernel
theorem J_MLineRows_tells_d17 : decode J_MLineRows_tells.2.1 17 = .ok (.iconst 1, 1) := by decide +kernel
theorem J_MLineRows_tells_d18 : decode J_MLineRows_tells.2.1 18 = .ok (.goto 4, 3) := by decide +kernel
theorem J_MLineRows_tells_d21 : decode J_MLineRows_tells.2.1 21 = .ok (.iconst (-1), 1) := by decide +kernel
theorem J_MLineRows_tells_d22 : decode J_MLineRows_tells.2.1 22 = .ok (.ireturn, 1) := by decide +kernel
theorem J_MLineRows_tells_d23 : decode J_MLineRows_tells.2.1 23 = .ok (.iload_n 2, 1) := by decide +kernel
theorem J_MLineRows_tells_d24 : decode J_MLineRows_tells.2.1 24 = .ok (.iconst 2, 1) := by decide +kernel
theorem J_MLineRows_tells_d25 : decode J_MLineRows_tells.2.1 25 = .ok (.if_icmp .ne 24, 3) := by decide +kernel
theorem J_MLineRows_tells_d28 : decode J_MLineRows_tells.2.1 28 = .ok (.iload_n 3, 1) := by decide +kernel
theorem J_MLineRows_tells_d29 : decode J_MLineRows_tells.2.1 29 = .ok (.bipush 100, 2) := by decide +kernel
theorem J_MLineRows_tells_d31 : decode J_MLineRows_tells.2.1 31 = .ok (.if_icmp .ge 16, 3) := by decide +kernel
theorem J_MLineRows_tells_d34 : decode J_MLineRows_tells.2.1 34 = .ok (.aload_n 0, 1) := by decide +kernel
theorem J_MLineRows_tells_d35 : decode J_MLineRows_tells.2.1 35 = .ok (.iload_n 1, 1) := by decide +kernel
theorem J_MLineRows_tells_d36 : decode J_MLineRows_tells.2.1 36 = .ok (.iload_n 3, 1) := by decide +kernel
theorem J_MLineRows_tells_d37 : decode J_MLineRows_tells.2.1 37 = .ok (.invokevirtual 164, 3) := by decide +kernel
theorem J_MLineRows_tells_d40 : decode J_MLineRows_tells.2.1 40 = .ok (.ifCond .eq 7, 3) := by decide +kernel
theorem J_MLineRows_tells_d43 : decode J_MLineRows_tells.2.1 43 = .ok (.iconst 2, 1) := by decide +kernel
theorem J_MLineRows_tells_d44 : decode J_MLineRows_tells.2.1 44 = .ok (.goto 4, 3) := by decide +kernel
theorem J_MLineRows_tells_d47 : decode J_MLineRows_tells.2.1 47 = .ok (.iconst (-1), 1) := by decide +kernel
theorem J_MLineRows_tells_d48 : decode J_MLineRows_tells.2.1 48 = .ok (.ireturn, 1) := by decide +kernel
theorem J_MLineRows_tells_d49 : decode J_MLineRows_tells.2.1 49 = .ok (.iload_n 3, 1) := by decide +kernel
theorem J_MLineRows_tells_d50 : decode J_MLineRows_tells.2.1 50 = .ok (.bipush 96, 2) := by decide +kernel
theorem J_MLineRows_tells_d52 : decode J_MLineRows_tells.2.1 52 = .ok (.if_icmp .ge 28, 3) := by decide +kernel
theorem J_MLineRows_tells_d55 : decode J_MLineRows_tells.2.1 55 = .ok (.iload_n 1, 1) := by decide +kernel
theorem J_MLineRows_tells_d56 : decode J_MLineRows_tells.2.1 56 = .ok (.aload_n 0, 1) := by decide +kernel
theorem J_MLineRows_tells_d57 : decode J_MLineRows_tells.2.1 57 = .ok (.getfield 157, 3) := by decide +kernel
theorem J_MLineRows_tells_d60 : decode J_MLineRows_tells.2.1 60 = .ok (.if_icmp .ge 20, 3) := by decide +kernel
theorem J_MLineRows_tells_d63 : decode J_MLineRows_tells.2.1 63 = .ok (.aload_n 0, 1) := by decide +kernel
theorem J_MLineRows_tells_d64 : decode J_MLineRows_tells.2.1 64 = .ok (.iload_n 1, 1) := by decide +kernel
theorem J_MLineRows_tells_d65 : decode J_MLineRows_tells.2.1 65 = .ok (.invokevirtual 160, 3) := by decide +kernel
theorem J_MLineRows_tells_d68 : decode J_MLineRows_tells.2.1 68 = .ok (.iload_n 2, 1) := by decide +kernel
theorem J_MLineRows_tells_d69 : decode J_MLineRows_tells.2.1 69 = .ok (.iload_n 3, 1) := by decide +kernel
theorem J_MLineRows_tells_d70 : decode J_MLineRows_tells.2.1 70 = .ok (.invokestatic 168, 3) := by decide +kernel
theorem J_MLineRows_tells_d73 : decode J_MLineRows_tells.2.1 73 = .ok (.if_icmp .ne 7, 3) := by decide +kernel
theorem J_MLineRows_tells_d76 : decode J_MLineRows_tells.2.1 76 = .ok (.iconst 1, 1) := by decide +kernel
theorem J_MLineRows_tells_d77 : decode J_MLineRows_tells.2.1 77 = .ok (.goto 4, 3) := by decide +kernel
theorem J_MLineRows_tells_d80 : decode J_MLineRows_tells.2.1 80 = .ok (.iconst (-1), 1) := by decide +kernel
theorem J_MLineRows_tells_d81 : decode J_MLineRows_tells.2.1 81 = .ok (.ireturn, 1) := by decide +kernel
theorem f_MLineRows_tells_ok {L : Nat} {xs : Nat → Int32} {dep : Nat} {w : Bool} {p0 : Int32} {p1 : Int32} {p2 : Int32} {M : im_M} {Q : Int32 → Prop} (hM : lw_S w M) (h : ed (f_MLineRows_tells p0 p1 p2 M) Q) : ia (tb_G L xs) (dep + 2) J_MLineRows_tells (rpI M Q) (0, lv_args 0 [.ref 96, .int p0, .int p1, .int p2], [], M) := by
  have hS : im_St (tb_G L xs) (dep + 2) J_MLineRows_tells (ia (tb_G L xs) (dep + 2) J_MLineRows_tells (rpI M Q)) := ia_St
  unfold f_MLineRows_tells at h
  have l0 : im_lk (lv_args 0 [.ref 96, .int p0, .int p1, .int p2]) 0 = some (.ref 96) := rfl
  have l1 : im_lk (lv_args 0 [.ref 96, .int p0, .int p1, .int p2]) 1 = some (.int p0) := rfl
  have l2 : im_lk (lv_args 0 [.ref 96, .int p0, .int p1, .int p2]) 2 = some (.int p1) := rfl
  have l3 : im_lk (lv_args 0 [.ref 96, .int p0, .int p1, .int p2]) 3 = some (.int p2) := rfl
  refine iq_iload_n hS 1 J_MLineRows_tells_d0 l3 rfl ?_
  refine iq_bipush hS 3 J_MLineRows_tells_d1 (v := 102) (by decide +kernel) rfl ?_
  refine iq_icmp_ne hS 6 J_MLineRows_tells_d3 (t := 23) rfl (fun q3 => ?_) rfl (fun q3 => ?_)
  · replace h := ed_pos q3 h
    refine iq_iload_n hS 24 J_MLineRows_tells_d23 l2 rfl ?_
    refine iq_iconst hS 25 J_MLineRows_tells_d24 (v := 2) (by decide +kernel) rfl ?_
    refine iq_icmp_ne hS 28 J_MLineRows_tells_d25 (t := 49) rfl (fun q25 => ?_) rfl (fun q25 => ?_)
    · replace h := ed_pos q25 h
      refine iq_iload_n hS 50 J_MLineRows_tells_d49 l3 rfl ?_
      refine iq_bipush hS 52 J_MLineRows_tells_d50 (v := 96) (by decide +kernel) rfl ?_
      refine iq_icmp_ge hS 55 J_MLineRows_tells_d52 (t := 80) rfl (fun q52 => ?_) rfl (fun q52 => ?_)
      · replace h := ed_pos q52 h
        refine iq_iconst hS 81 J_MLineRows_tells_d80 (v := (-1)) (by decide +kernel) rfl ?_
        exact iq_iret J_MLineRows_tells_d81 rfl rfl ⟨_, rfl, rfl, ed_some h⟩
      · replace h := ed_neg q52 h
        refine iq_iload_n hS 56 J_MLineRows_tells_d55 l1 rfl ?_
        refine iq_aload_n hS 57 J_MLineRows_tells_d56 l0 rfl ?_
        refine iq_getI hS 60 J_MLineRows_tells_d57 lf_13_157 (Or.inl rfl) (ka_96 hM) rfl ?_
        refine iq_icmp_ge hS 63 J_MLineRows_tells_d60 (t := 80) rfl (fun q60 => ?_) rfl (fun q60 => ?_)
        · replace h := ed_pos q60 h
          refine iq_iconst hS 81 J_MLineRows_tells_d80 (v := (-1)) (by decide +kernel) rfl ?_
          exact iq_iret J_MLineRows_tells_d81 rfl rfl ⟨_, rfl, rfl, ed_some h⟩
        · replace h := ed_neg q60 h
          refine iq_aload_n hS 64 J_MLineRows_tells_d63 l0 rfl ?_
          refine iq_iload_n hS 65 J_MLineRows_tells_d64 l1 rfl ?_
          obtain ⟨Q1, hQ1, h⟩ := bd1_ed h
          refine iq_cpI hS 68 J_MLineRows_tells_d65 rfl (pr_inst (vs := [_]) lc_13_160 lT_364 rfl rfl (by decide) (by decide) rfl (Nat.le_of_ble_eq_true rfl) (Nat.le_of_ble_eq_true rfl) (fun _ => Or.inl (pr_b (ka_96 hM) (by decide) rfl))) (f_MLineRows_at_ok (dep := dep + 1) hM h) rfl ?_
          intro x1 h
          replace h := hQ1 _ h
          refine iq_iload_n hS 69 J_MLineRows_tells_d68 l2 rfl ?_
          refine iq_iload_n hS 70 J_MLineRows_tells_d69 l3 rfl ?_
          obtain ⟨Q2, hQ2, h⟩ := bd1_ed h
          refine iq_cpI hS 73 J_MLineRows_tells_d70 rfl (pr_stat (vs := [_, _]) lc_13_168 lT_366 rfl rfl (by decide) rfl (Nat.le_of_ble_eq_true rfl) (Nat.le_of_ble_eq_true rfl)) (f_MLineRows_signOf_ok (dep := dep + 1) hM h) rfl ?_
          intro x2 h
          replace h := hQ2 _ h
          refine iq_icmp_ne hS 76 J_MLineRows_tells_d73 (t := 80) rfl (fun q73 => ?_) rfl (fun q73 => ?_)
          · replace h := ed_pos q73 h
            refine iq_iconst hS 81 J_MLineRows_tells_d80 (v := (-1)) (by decide +kernel) rfl ?_
            exact iq_iret J_MLineRows_tells_d81 rfl rfl ⟨_, rfl, rfl, ed_some h⟩
          · replace h := ed_neg q73 h
            refine iq_iconst hS 77 J_MLineRows_tells_d76 (v := 1) (by decide +kernel) rfl ?_
            refine iq_goto hS J_MLineRows_tells_d77 (t := 81) rfl ?_
            exact iq_iret J_MLineRows_tells_d81 rfl rfl ⟨_, rfl, rfl, ed_some h⟩
    · replace h := ed_neg q25 h
      refine iq_iload_n hS 29 J_MLineRows_tells_d28 l3 rfl ?_
      refine iq_bipush hS 31 J_MLineRows_tells_d29 (v := 100) (by decide +kernel) rfl ?_
      refine iq_icmp_ge hS 34 J_MLineRows_tells_d31 (t := 47) rfl (fun q31 => ?_) rfl (fun q31 => ?_)
      · replace h := ed_pos q31 h
        refine iq_iconst hS 48 J_MLineRows_tells_d47 (v := (-1)) (by decide +kernel) rfl ?_
        exact iq_iret J_MLineRows_tells_d48 rfl rfl ⟨_, rfl, rfl, ed_some h⟩
      · replace h := ed_neg q31 h
        refine iq_aload_n hS 35 J_MLineRows_tells_d34 l0 rfl ?_
        refine iq_iload_n hS 36 J_MLineRows_tells_d35 l1 rfl ?_
        refine iq_iload_n hS 37 J_MLineRows_tells_d36 l3 rfl ?_
        obtain ⟨Q3, hQ3, h⟩ := bd1_ed h
        refine iq_cpI hS 40 J_MLineRows_tells_d37 rfl (pr_inst (vs := [_, _]) lc_13_164 lT_365 rfl rfl (by decide) (by decide) rfl (Nat.le_of_ble_eq_true rfl) (Nat.le_of_ble_eq_true rfl) (fun _ => Or.inl (pr_b (ka_96 hM) (by decide) rfl))) (f_MLineRows_isPair_ok (dep := dep + 0) hM h) rfl ?_
        intro x3 h
        replace h := hQ3 _ h
        refine iq_if_eq hS 43 J_MLineRows_tells_d40 (t := 47) rfl (fun q40 => ?_) rfl (fun q40 => ?_)
        · replace h := ed_pos q40 h
          refine iq_iconst hS 48 J_MLineRows_tells_d47 (v := (-1)) (by decide +kernel) rfl ?_
          exact iq_iret J_MLineRows_tells_d48 rfl rfl ⟨_, rfl, rfl, ed_some h⟩
        · replace h := ed_neg q40 h
          refine iq_iconst hS 44 J_MLineRows_tells_d43 (v := 2) (by decide +kernel) rfl ?_
          refine iq_goto hS J_MLineRows_tells_d44 (t := 48) rfl ?_
          exact iq_iret J_MLineRows_tells_d48 rfl rfl ⟨_, rfl, rfl, ed_some h⟩
  · replace h := ed_neg q3 h
    refine iq_aload_n hS 7 J_MLineRows_tells_d6 l0 rfl ?_
    refine iq_iload_n hS 8 J_MLineRows_tells_d7 l1 rfl ?_
    obtain ⟨Q4, hQ4, h⟩ := bd1_ed h
    refine iq_cpI hS 11 J_MLineRows_tells_d8 rfl (pr_inst (vs := [_]) lc_13_160 lT_364 rfl rfl (by decide) (by decide) rfl (Nat.le_of_ble_eq_true rfl) (Nat.le_of_ble_eq_true rfl) (fun _ => Or.inl (pr_b (ka_96 hM) (by decide) rfl))) (f_MLineRows_at_ok (dep := dep + 1) hM h) rfl ?_
    intro x4 h
    replace h := hQ4 _ h
    refine iq_sipush hS 14 J_MLineRows_tells_d11 (v := 128) (by decide +kernel) rfl ?_
    refine iq_icmp_ne hS 17 J_MLineRows_tells_d14 (t := 21) rfl (fun q14 => ?_) rfl (fun q14 => ?_)
    · replace h := ed_pos q14 h
      refine iq_iconst hS 22 J_MLineRows_tells_d21 (v := (-1)) (by decide +kernel) rfl ?_
      exact iq_iret J_MLineRows_tells_d22 rfl rfl ⟨_, rfl, rfl, ed_some h⟩
    · replace h := ed_neg q14 h
      refine iq_iconst hS 18 J_MLineRows_tells_d17 (v := 1) (by decide +kernel) rfl ?_
      refine iq_goto hS J_MLineRows_tells_d18 (t := 22) rfl ?_
      exact iq_iret J_MLineRows_tells_d22 rfl rfl ⟨_, rfl, rfl, ed_some h⟩
noncomputable def f_MLineRows_goes (p0 : Int32) (p1 : Int32) (M : im_M) : Option (Int32) := if ¬ ((if ¬ p1 = 99 then (if ¬ p1 = 100 then (if ¬ p1 = 101 then (-1) else 0) else 1) else 2) : Int32) = p0 then some ((if ¬ p1 = 99 then (if ¬ p1 = 100 then (if ¬ p1 = 101 then (-1) else 0) else 1) else 2) : Int32) else some (-1)
theorem J_MLineRows_goes_d0 : decode J_MLineRows_goes.2.1 0 = .ok (.iload_n 1, 1) := by decide +kernel
theorem J_MLineRows_goes_d1 : decode J_MLineRows_goes.2.1 1 = .ok (.bipush 99, 2) := by decide +kernel
theorem J_MLineRows_goes_d3 : decode J_MLineRows_goes.2.1 3 = .ok (.if_icmp .ne 7, 3) := by decide +kernel
theorem J_MLineRows_goes_d6 : decode J_MLineRows_goes.2.1 6 = .ok (.iconst 2, 1) := by decide +kernel
theorem J_MLineRows_goes_d7 : decode J_MLineRows_goes.2.1 7 = .ok (.goto 24, 3) := by decide +kernel
theorem J_MLineRows_goes_d10 : decode J_MLineRows_goes.2.1 10 = .ok (.iload_n 1, 1) := by decide +kernel
theorem J_MLineRows_goes_d11 : decode J_MLineRows_goes.2.1 11 = .ok (.bipush 100, 2) := by decide +kernel
theorem J_MLineRows_goes_d13 : decode J_MLineRows_goes.2.1 13 = .ok (.if_icmp .ne 7, 3) := by decide +kernel
theorem J_MLineRows_goes_d16 : decode J_MLineRows_goes.2.1 16 = .ok (.iconst 1, 1) := by decide +kernel
theorem J_MLineRows_goes_d17 : decode J_MLineRows_goes.2.1 17 = .ok (.goto 14, 3) := by decide +kernel
theorem J_MLineRows_goes_d20 : decode J_MLineRows_goes.2.1 20 = .ok (.iload_n 1, 1) := by decide +kernel
theorem J_MLineRows_goes_d21 : decode J_MLineRows_goes.2.1 21 = .ok (.bipush 101, 2) := by decide +kernel
theorem J_MLineRows_goes_d23 : decode J_MLineRows_goes.2.1 23 = .ok (.if_icmp .ne 7, 3) := by decide +kernel
theorem J_MLineRows_goes_d26 : decode J_MLineRows_goes.2.1 26 = .ok (.iconst 0, 1) := by decide +kernel
theorem J_MLineRows_goes_d27 : decode J_MLineRows_goes.2.1 27 = .ok (.goto 4, 3) := by decide +kernel
theorem J_MLineRows_goes_d30 : decode J_MLineRows_goes.2.1 30 = .ok (.iconst (-1), 1) := by decide +kernel
theorem J_MLineRows_goes_d31 : decode J_MLineRows_goes.2.1 31 = .ok (.istore_n 2, 1) := by decide +kernel
theorem J_MLineRows_goes_d32 : decode J_MLineRows_goes.2.1 32 = .ok (.iload_n 2, 1) := by decide +kernel
theorem J_MLineRows_goes_d33 : decode J_MLineRows_goes.2.1 33 = .ok (.iload_n 0, 1) := by decide +kernel
theorem J_MLineRows_goes_d34 : decode J_MLineRows_goes.2.1 34 = .ok (.if_icmp .ne 7, 3) := by decide +kernel
theorem J_MLineRows_goes_d37 : decode J_MLineRows_goes.2.1 37 = .ok (.iconst (-1), 1) := by decide +kernel
theorem J_MLineRows_goes_d38 : decode J_MLineRows_goes.2.1 38 = .ok (.goto 4, 3) := by decide +kernel
theorem J_MLineRows_goes_d41 : decode J_MLineRows_goes.2.1 41 = .ok (.iload_n 2, 1) := by decide +kernel
theorem J_MLineRows_goes_d42 : decode J_MLineRows_goes.2.1 42 = .ok (.ireturn, 1) := by decide +kernel
theorem f_MLineRows_goes_ok {L : Nat} {xs : Nat → Int32} {dep : Nat} {w : Bool} {p0 : Int32} {p1 : Int32} {M : im_M} {Q : Int32 → Prop} (hM : lw_S w M) (h : ed (f_MLineRows_goes p0 p1 M) Q) : ia (tb_G L xs) dep J_MLineRows_goes (rpI M Q) (0, lv_args 0 [.int p0, .int p1], [], M) := by
  have hS : im_St (tb_G L xs) dep J_MLineRows_goes (ia (tb_G L xs) dep J_MLineRows_goes (rpI M Q)) := ia_St
  unfold f_MLineRows_goes at h
  have l0 : im_lk (lv_args 0 [.int p0, .int p1]) 0 = some (.int p0) := rfl
  have l1 : im_lk (lv_args 0 [.int p0, .int p1]) 1 = some (.int p1) := rfl
  refine iq_iload_n hS 1 J_MLineRows_goes_d0 l1 rfl ?_
  refine iq_bipush hS 3 J_MLineRows_goes_d1 (v := 99) (by decide +kernel) rfl ?_
  have J1 : ∀ (z2 : Int32) (L' : List (Nat × Value)), z2 = ((if ¬ p1 = 99 then (if ¬ p1 = 100 then (if ¬ p1 = 101 then (-1) else 0) else 1) else 2) : Int32) → im_lk L' 0 = some (.int p0) → ia (tb_G L xs) dep J_MLineRows_goes (rpI M Q) (31, L', [.int z2], M) := by
    intro z2 L' e3 l4
    subst e3
    refine iq_istore_n hS 32 J_MLineRows_goes_d31 (by decide) rfl ?_
    refine iq_iload_n hS 33 J_MLineRows_goes_d32 lk_1s rfl ?_
    refine iq_iload_n hS 34 J_MLineRows_goes_d33 (lk_1i l4 (by decide)) rfl ?_
    refine iq_icmp_ne hS 37 J_MLineRows_goes_d34 (t := 41) rfl (fun q34 => ?_) rfl (fun q34 => ?_)
    · replace h := ed_pos q34 h
      refine iq_iload_n hS 42 J_MLineRows_goes_d41 lk_1s rfl ?_
      exact iq_iret J_MLineRows_goes_d42 rfl rfl ⟨_, rfl, rfl, ed_some h⟩
    · replace h := ed_neg q34 h
      refine iq_iconst hS 38 J_MLineRows_goes_d37 (v := (-1)) (by decide +kernel) rfl ?_
      refine iq_goto hS J_MLineRows_goes_d38 (t := 42) rfl ?_
      exact iq_iret J_MLineRows_goes_d42 rfl rfl ⟨_, rfl, rfl, ed_some h⟩
  refine iq_icmp_ne hS 6 J_MLineRows_goes_d3 (t := 10) rfl (fun q3 => ?_) rfl (fun q3 => ?_)
  · refine iq_iload_n hS 11 J_MLineRows_goes_d10 l1 rfl ?_
    refine iq_bipush hS 13 J_MLineRows_goes_d11 (v := 100) (by decide +kernel) rfl ?_
    refine iq_icmp_ne hS 16 J_MLineRows_goes_d13 (t := 20) rfl (fun q13 => ?_) rfl (fun q13 => ?_)
    · refine iq_iload_n hS 21 J_MLineRows_goes_d20 l1 rfl ?_
      refine iq_bipush hS 23 J_MLineRows_goes_d21 (v := 101) (by decide +kernel) rfl ?_
      refine iq_icmp_ne hS 26 J_MLineRows_goes_d23 (t := 30) rfl (fun q23 => ?_) rfl (fun q23 => ?_)
      · refine iq_iconst hS 31 J_MLineRows_goes_d30 (v := (-1)) (by decide +kernel) rfl ?_
        exact J1 _ _ (by simp only [if_pos q3, if_pos q13, if_pos q23]) l0
      · refine iq_iconst hS 27 J_MLineRows_goes_d26 (v := 0) (by decide +kernel) rfl ?_
        refine iq_goto hS J_MLineRows_goes_d27 (t := 31) rfl ?_
        exact J1 _ _ (by simp only [if_pos q3, if_pos q13, if_neg q23]) l0
    · refine iq_iconst hS 17 J_MLineRows_goes_d16 (v := 1) (by decide +kernel) rfl ?_
      refine iq_goto hS J_MLineRows_goes_d17 (t := 31) rfl ?_
      exact J1 _ _ (by simp only [if_pos q3, if_neg q13]) l0
  · refine iq_iconst hS 7 J_MLineRows_goes_d6 (v := 2) (by decide +kernel) rfl ?_
    refine iq_goto hS J_MLineRows_goes_d7 (t := 31) rfl ?_
    exact J1 _ _ (by simp only [if_neg q3]) l0
noncomputable def f_MLineRows_isOther_L5 (v2 : Int32) (v3 : Int32) (M6 : im_M) (x4 : Int32) (x5 : Int32) : Option ((Int32 × Int32) ⊕ (Int32)) := if 96 ≤ x5 then some (.inr x4) else bd1 (jn0 (fun (_ : Unit) => some 1) fun k8 => if ¬ x4 = 0 then k8 () else bd1 (f_MLineRows_tells v2 ((1 : Int32) - v3) x5 M6) fun (x9 : Int32) => if ¬ x9 = 1 then some 0 else k8 ()) fun (y14 : Int32) => some (.inl (y14, (x5 + 1)))
noncomputable def f_MLineRows_isOther (p0 : Int32) (p1 : Int32) (M : im_M) : Option (Int32) := bd1 (lp (uc2 (f_MLineRows_isOther_L5 p0 p1 M)) (0, 0)) fun (y19 : Int32) => gd (y19 = 0 ∨ y19 = 1) <| some y19
theorem J_MLineRows_isOther_d0 : decode J_MLineRows_isOther.2.1 0 = .ok (.iconst 0, 1) := by decide +kernel
theorem J_MLineRows_isOther_d1 : decode J_MLineRows_isOther.2.1 1 = .ok (.istore_n 3, 1) := by decide +kernel
theorem J_MLineRows_isOther_d2 : decode J_MLineRows_isOther.2.1 2 = .ok (.iconst 0, 1) := by decide +kernel
theorem J_MLineRows_isOther_d3 : decode J_MLineRows_isOther.2.1 3 = .ok (.istore 4, 2) := by decide +kernel
theorem J_MLineRows_isOther_d5 : decode J_MLineRows_isOther.2.1 5 = .ok (.iload 4, 2) := by decide +kernel
theorem J_MLineRows_isOther_d7 : decode J_MLineRows_isOther.2.1 7 = .ok (.bipush 96, 2) := by decide +kernel
theorem J_MLineRows_isOther_d9 : decode J_MLineRows_isOther.2.1 9 = .ok (.if_icmp .ge 33, 3) := by decide +kernel
theorem J_MLineRows_isOther_d12 : decode J_MLineRows_isOther.2.1 12 = .ok (.iload_n 3, 1) := by decide +kernel
theorem J_MLineRows_isOther_d13 : decode J_MLineRows_isOther.2.1 13 = .ok (.ifCond .ne 17, 3) := by decide +kernel
theorem J_MLineRows_isOther_d16 : decode J_MLineRows_isOther.2.1 16 = .ok (.aload_n 0, 1) := by decide +kernel
theorem J_MLineRows_isOther_d17 : decode J_MLineRows_isOther.2.1 17 = .ok (.iload_n 1, 1) := by decide +kernel
theorem J_MLineRows_isOther_d18 : decode J_MLineRows_isOther.2.1 18 = .ok (.iconst 1, 1) := by decide +kernel
theorem J_MLineRows_isOther_d19 : decode J_MLineRows_isOther.2.1 19 = .ok (.iload_n 2, 1) := by decide +kernel
theorem J_MLineRows_isOther_d20 : decode J_MLineRows_isOther.2.1 20 = .ok (.isub, 1) := by decide +kernel
theorem J_MLineRows_isOther_d21 : decode J_MLineRows_isOther.2.1 21 = .ok (.iload 4, 2) := by decide +kernel
theorem J_MLineRows_isOther_d23 : decode J_MLineRows_isOther.2.1 23 = .ok (.invokevirtual 172, 3) := by decide +kernel
theorem J_MLineRows_isOther_d26 : decode J_MLineRows_isOther.2.1 26 = .ok (.iconst 1, 1) := by decide +kernel
theorem J_MLineRows_isOther_d27 : decode J_MLineRows_isOther.2.1 27 = .ok (.if_icmp .ne 7, 3) := by decide +kernel
theorem J_MLineRows_isOther_d30 : decode J_MLineRows_isOther.2.1 30 = .ok (.iconst 1, 1) := by decide +kernel
theorem J_MLineRows_isOther_d31 : decode J_MLineRows_isOther.2.1 31 = .ok (.goto 4, 3) := by decide +kernel
theorem J_MLineRows_isOther_d34 : decode J_MLineRows_isOther.2.1 34 = .ok (.iconst 0, 1) := by decide +kernel
theorem J_MLineRows_isOther_d35 : decode J_MLineRows_isOther.2.1 35 = .ok (.istore_n 3, 1) := by decide +kernel
theorem J_MLineRows_isOther_d36 : decode J_MLineRows_isOther.2.1 36 = .ok (.iinc 4 1, 3) := by decide +kernel
theorem J_MLineRows_isOther_d39 : decode J_MLineRows_isOther.2.1 39 = .ok (.goto (-34), 3) := by decide +kernel
theorem J_MLineRows_isOther_d42 : decode J_MLineRows_isOther.2.1 42 = .ok (.iload_n 3, 1) := by decide +kernel
theorem J_MLineRows_isOther_d43 : decode J_MLineRows_isOther.2.1 43 = .ok (.ireturn, 1) := by decide +kernel
theorem f_MLineRows_isOther_ok {L : Nat} {xs : Nat → Int32} {dep : Nat} {w : Bool} {p0 : Int32} {p1 : Int32} {M : im_M} {Q : Int32 → Prop} (hM : lw_S w M) (h : ed (f_MLineRows_isOther p0 p1 M) Q) : ia (tb_G L xs) (dep + 3) J_MLineRows_isOther (rpI M Q) (0, lv_args 0 [.ref 96, .int p0, .int p1], [], M) := by
  have hS : im_St (tb_G L xs) (dep + 3) J_MLineRows_isOther (ia (tb_G L xs) (dep + 3) J_MLineRows_isOther (rpI M Q)) := ia_St
  unfold f_MLineRows_isOther at h
  have l0 : im_lk (lv_args 0 [.ref 96, .int p0, .int p1]) 0 = some (.ref 96) := rfl
  have l1 : im_lk (lv_args 0 [.ref 96, .int p0, .int p1]) 1 = some (.int p0) := rfl
  have l2 : im_lk (lv_args 0 [.ref 96, .int p0, .int p1]) 2 = some (.int p1) := rfl
  refine iq_iconst hS 1 J_MLineRows_isOther_d0 (v := 0) (by decide +kernel) rfl ?_
  refine iq_istore_n hS 2 J_MLineRows_isOther_d1 (by decide) rfl ?_
  refine iq_iconst hS 3 J_MLineRows_isOther_d2 (v := 0) (by decide +kernel) rfl ?_
  refine iq_istore hS 5 J_MLineRows_isOther_d3 (by decide) rfl ?_
  obtain ⟨Q1, hQ1, h⟩ := bd1_ed h
  have K1 : ∀ (y2 : Int32) (L' : List (Nat × Value)), im_lk L' 3 = some (.int y2) → Q1 y2 → ia (tb_G L xs) (dep + 3) J_MLineRows_isOther (rpI M Q) (42, L', [], M) := by
    intro y2 L' l3 h
    replace h := hQ1 _ h
    refine iq_iload_n hS 43 J_MLineRows_isOther_d42 l3 rfl ?_
    obtain ⟨g43, h⟩ := ed_gd h
    exact iq_iret J_MLineRows_isOther_d43 rfl (nar_z g43) ⟨_, rfl, rfl, ed_some h⟩
  obtain ⟨r1, hr1, hq1⟩ := h
  obtain ⟨n1, hn1⟩ := lp_n hr1
  have I1 : ∀ (n : Nat) (x4 : Int32) (x5 : Int32) (L' : List (Nat × Value)), im_lk L' 0 = some (.ref 96) → im_lk L' 1 = some (.int p0) → im_lk L' 2 = some (.int p1) → im_lk L' 3 = some (.int x4) → im_lk L' 4 = some (.int x5) → lpn (uc2 (f_MLineRows_isOther_L5 p0 p1 M)) n (x4, x5) = some r1 → ia (tb_G L xs) (dep + 3) J_MLineRows_isOther (rpI M Q) (5, L', [], M) := by
    intro n
    induction n with
    | zero => intro x4 x5 L' l6 l7 l8 l9 l10 hn; exact (lpn_0 hn).elim
    | succ n ih =>
      intro x4 x5 L' l6 l7 l8 l9 l10 hn
      have h := lpn_ed2 hn
      unfold f_MLineRows_isOther_L5 at h
      refine iq_iload hS 7 J_MLineRows_isOther_d5 l10 rfl ?_
      refine iq_bipush hS 9 J_MLineRows_isOther_d7 (v := 96) (by decide +kernel) rfl ?_
      refine iq_icmp_ge hS 12 J_MLineRows_isOther_d9 (t := 42) rfl (fun q9 => ?_) rfl (fun q9 => ?_)
      · replace h := ed_pos q9 h
        exact K1 _ _ l9 (lq_r h hq1)
      · replace h := ed_neg q9 h
        refine iq_iload_n hS 13 J_MLineRows_isOther_d12 l9 rfl ?_
        obtain ⟨Q11, hQ11, h⟩ := bd1_ed h
        have J11 : ∀ (y18 : Int32) (L' : List (Nat × Value)), im_lk L' 0 = some (.ref 96) → im_lk L' 1 = some (.int p0) → im_lk L' 2 = some (.int p1) → im_lk L' 4 = some (.int x5) → Q11 y18 → ia (tb_G L xs) (dep + 3) J_MLineRows_isOther (rpI M Q) (35, L', [.int y18], M) := by
          intro y18 L' l19 l20 l21 l22 h
          replace h := hQ11 _ h
          refine iq_istore_n hS 36 J_MLineRows_isOther_d35 (by decide) rfl ?_
          refine iq_iincv hS 39 J_MLineRows_isOther_d36 (c := 1) (by decide +kernel) (lk_1i l22 (by decide)) (by decide) rfl ?_
          refine iq_goto hS J_MLineRows_isOther_d39 (t := 5) rfl ?_
          exact ih _ _ _ (lk_1r (lk_1r l19 (by decide)) (by decide)) (lk_1i (lk_1i l20 (by decide)) (by decide)) (lk_1i (lk_1i l21 (by decide)) (by decide)) (lk_1i lk_1s (by decide)) lk_1s (lq_l h)
        obtain ⟨k12, Q12, hQ12, hk12, h⟩ := jn0_ed h
        have J12 : ∀  (L' : List (Nat × Value)), im_lk L' 0 = some (.ref 96) → im_lk L' 1 = some (.int p0) → im_lk L' 2 = some (.int p1) → im_lk L' 4 = some (.int x5) → Q12 () → ia (tb_G L xs) (dep + 3) J_MLineRows_isOther (rpI M Q) (30, L', [], M) := by
          intro  L' l14 l15 l16 l17 h
          replace h := hQ12  h
          refine iq_iconst hS 31 J_MLineRows_isOther_d30 (v := 1) (by decide +kernel) rfl ?_
          refine iq_goto hS J_MLineRows_isOther_d31 (t := 35) rfl ?_
          exact J11 _ _ l14 l15 l16 l17 (ed_some h)
        refine iq_if_ne hS 16 J_MLineRows_isOther_d13 (t := 30) rfl (fun q13 => ?_) rfl (fun q13 => ?_)
        · replace h := ed_pos q13 h
          exact J12  _ l6 l7 l8 l10 (hk12  h)
        · replace h := ed_neg q13 h
          refine iq_aload_n hS 17 J_MLineRows_isOther_d16 l6 rfl ?_
          refine iq_iload_n hS 18 J_MLineRows_isOther_d17 l7 rfl ?_
          refine iq_iconst hS 19 J_MLineRows_isOther_d18 (v := 1) (by decide +kernel) rfl ?_
          refine iq_iload_n hS 20 J_MLineRows_isOther_d19 l8 rfl ?_
          refine iq_isub hS 21 J_MLineRows_isOther_d20 rfl ?_
          refine iq_iload hS 23 J_MLineRows_isOther_d21 l10 rfl ?_
          obtain ⟨Q13, hQ13, h⟩ := bd1_ed h
          refine iq_cpI hS 26 J_MLineRows_isOther_d23 rfl (pr_inst (vs := [_, _, _]) lc_13_172 lT_363 rfl rfl (by decide) (by decide) rfl (Nat.le_of_ble_eq_true rfl) (Nat.le_of_ble_eq_true rfl) (fun _ => Or.inl (pr_b (ka_96 hM) (by decide) rfl))) (f_MLineRows_tells_ok (dep := dep + 0) hM h) rfl ?_
          intro x13 h
          replace h := hQ13 _ h
          refine iq_iconst hS 27 J_MLineRows_isOther_d26 (v := 1) (by decide +kernel) rfl ?_
          refine iq_icmp_ne hS 30 J_MLineRows_isOther_d27 (t := 34) rfl (fun q27 => ?_) rfl (fun q27 => ?_)
          · replace h := ed_pos q27 h
            refine iq_iconst hS 35 J_MLineRows_isOther_d34 (v := 0) (by decide +kernel) rfl ?_
            exact J11 _ _ l6 l7 l8 l10 (ed_some h)
          · replace h := ed_neg q27 h
            exact J12  _ l6 l7 l8 l10 (hk12  h)
  exact I1 n1 _ _ _ (lk_1r (lk_1r l0 (by decide)) (by decide)) (lk_1i (lk_1i l1 (by decide)) (by decide)) (lk_1i (lk_1i l2 (by decide)) (by decide)) (lk_1i lk_1s (by decide)) lk_1s hn1
noncomputable def f_MLineRows_leastAt (p0 : Int32) (p1 : Int32) (M : im_M) : Option (Int32) := gd (inb (((3 : Int32) * p0) + p1) 198) <| some (im_i M 101 (Int32.toNatClampNeg (((3 : Int32) * p0) + p1)))
theorem J_MLineRows_leastAt_d0 : decode J_MLineRows_leastAt.2.1 0 = .ok (.aload_n 0, 1) := by decide +kernel
theorem J_MLineRows_leastAt_d1 : decode J_MLineRows_leastAt.2.1 1 = .ok (.getfield 128, 3) := by decide +kernel
theorem J_MLineRows_leastAt_d4 : decode J_MLineRows_leastAt.2.1 4 = .ok (.iconst 3, 1) := by decide +kernel
theorem J_MLineRows_leastAt_d5 : decode J_MLineRows_leastAt.2.1 5 = .ok (.iload_n 1, 1) := by decide +kernel
theorem J_MLineRows_leastAt_d6 : decode J_MLineRows_leastAt.2.1 6 = .ok (.imul, 1) := by decide +kernel
theorem J_MLineRows_leastAt_d7 : decode J_MLineRows_leastAt.2.1 7 = .ok (.iload_n 2, 1) := by decide +kernel
theorem J_MLineRows_leastAt_d8 : decode J_MLineRows_leastAt.2.1 8 = .ok (.iadd, 1) := by decide +kernel
theorem J_MLineRows_leastAt_d9 : decode J_MLineRows_leastAt.2.1 9 = .ok (.iaload, 1) := by decide +kernel
theorem J_MLineRows_leastAt_d10 : decode J_MLineRows_leastAt.2.1 10 = .ok (.ireturn, 1) := by decide +kernel
theorem f_MLineRows_leastAt_ok {L : Nat} {xs : Nat → Int32} {dep : Nat} {w : Bool} {p0 : Int32} {p1 : Int32} {M : im_M} {Q : Int32 → Prop} (hM : lw_S w M) (h : ed (f_MLineRows_leastAt p0 p1 M) Q) : ia (tb_G L xs) dep J_MLineRows_leastAt (rpI M Q) (0, lv_args 0 [.ref 96, .int p0, .int p1], [], M) := by
  have hS : im_St (tb_G L xs) dep J_MLineRows_leastAt (ia (tb_G L xs) dep J_MLineRows_leastAt (rpI M Q)) := ia_St
  unfold f_MLineRows_leastAt at h
  have l0 : im_lk (lv_args 0 [.ref 96, .int p0, .int p1]) 0 = some (.ref 96) := rfl
  have l1 : im_lk (lv_args 0 [.ref 96, .int p0, .int p1]) 1 = some (.int p0) := rfl
  have l2 : im_lk (lv_args 0 [.ref 96, .int p0, .int p1]) 2 = some (.int p1) := rfl
  refine iq_aload_n hS 1 J_MLineRows_leastAt_d0 l0 rfl ?_
  refine iq_getR hS 4 J_MLineRows_leastAt_d1 lf_13_128 (Or.inr ⟨_, rfl⟩) (ka_96 hM) (ra_96_6 hM) rfl ?_
  refine iq_iconst hS 5 J_MLineRows_leastAt_d4 (v := 3) (by decide +kernel) rfl ?_
  refine iq_iload_n hS 6 J_MLineRows_leastAt_d5 l1 rfl ?_
  refine iq_imul hS 7 J_MLineRows_leastAt_d6 rfl ?_
  refine iq_iload_n hS 8 J_MLineRows_leastAt_d7 l2 rfl ?_
  refine iq_iadd hS 9 J_MLineRows_leastAt_d8 rfl ?_
  obtain ⟨g9, h⟩ := ed_gd h
  refine iq_iaload hS 10 J_MLineRows_leastAt_d9 ⟨(ka_101 hM).1, (ka_101 hM).2, g9.1, ix_lt (kl_101 hM) g9.2⟩ rfl ?_
  exact iq_iret J_MLineRows_leastAt_d10 rfl rfl ⟨_, rfl, rfl, ed_some h⟩
noncomputable def f_MLineRows_with (p0 : Int32) (p1 : Int32) (p2 : Int32) (M : im_M) : Option (Int32) := bd1 (f_MLineRows_tells p0 p1 p2 M) fun (x1 : Int32) => if x1 ≤ 0 then bd1 (f_MLineRows_goes p1 p2 M) fun (x2 : Int32) => if x2 < 0 then jn0 (fun (_ : Unit) => some 9999) fun k3 => if ¬ p2 = 98 then k3 () else if p1 = 2 then k3 () else bd1 (f_MLineRows_isOther p0 p1 M) fun (x4 : Int32) => if x4 = 0 then k3 () else bd1 (f_MLineRows_leastAt (p0 + 1) p1 M) fun (x5 : Int32) => some ((2 : Int32) + x5) else bd1 (f_MLineRows_goes p1 p2 M) fun (x6 : Int32) => bd1 (f_MLineRows_leastAt p0 x6 M) fun (x7 : Int32) => some ((1 : Int32) + x7) else bd1 (f_MLineRows_leastAt (p0 + x1) p1 M) fun (x8 : Int32) => some ((1 : Int32) + x8)
theorem J_MLineRows_with_d0 : decode J_MLineRows_with.2.1 0 = .ok (.aload_n 0, 1) := by decide +kernel
theorem J_MLineRows_with_d1 : decode J_MLineRows_with.2.1 1 = .ok (.iload_n 1, 1) := by decide +kernel
theorem J_MLineRows_with_d2 : decode J_MLineRows_with.2.1 2 = .ok (.iload_n 2, 1) := by decide +kernel
theorem J_MLineRows_with_d3 : decode J_MLineRows_with.2.1 3 = .ok (.iload_n 3, 1) := by decide +kernel
theorem J_MLineRows_with_d4 : decode J_MLineRows_with.2.1 4 = .ok (.invokevirtual 172, 3) := by decide +kernel
theorem J_MLineRows_with_d7 : decode J_MLineRows_with.2.1 7 = .ok (.istore 4, 2) := by decide +kernel
theorem J_MLineRows_with_d9 : decode J_MLineRows_with.2.1 9 = .ok (.iload 4, 2) := by decide +kernel
theorem J_MLineRows_with_d11 : decode J_MLineRows_with.2.1 11 = .ok (.ifCond .le 15, 3) := by decide +kernel
theorem J_MLineRows_with_d14 : decode J_MLineRows_with.2.1 14 = .ok (.iconst 1, 1) := by decide +kernel
theorem J_MLineRows_with_d15 : decode J_MLineRows_with.2.1 15 = .ok (.aload_n 0, 1) := by decide +kernel
theorem J_MLineRows_with_d16 : decode J_MLineRows_with.2.1 16 = .ok (.iload_n 1, 1) := by decide +kernel
theorem J_MLineRows_with_d17 : decode J_MLineRows_with.2.1 17 = .ok (.iload 4, 2) := by decide +kernel
theorem J_MLineRows_with_d19 : decode J_MLineRows_with.2.1 19 = .ok (.iadd, 1) := by decide +kernel
theorem J_MLineRows_with_d20 : decode J_MLineRows_with.2.1 20 = .ok (.iload_n 2, 1) := by decide +kernel
theorem J_MLineRows_with_d21 : decode J_MLineRows_with.2.1 21 = .ok (.invokevirtual 176, 3) := by decide +kernel
theorem J_MLineRows_with_d24 : decode J_MLineRows_with.2.1 24 = .ok (.iadd, 1) := by decide +kernel
theorem J_MLineRows_with_d25 : decode J_MLineRows_with.2.1 25 = .ok (.ireturn, 1) := by decide +kernel
theorem J_MLineRows_with_d26 : decode J_MLineRows_with.2.1 26 = .ok (.iload_n 2, 1) := by decide +kernel
theorem J_MLineRows_with_d27 : decode J_MLineRows_with.2.1 27 = .ok (.iload_n 3, 1) := by decide +kernel
theorem J_MLineRows_with_d28 : decode J_MLineRows_with.2.1 28 = .ok (.invokestatic 179, 3) := by decide +kernel
theorem J_MLineRows_with_d31 : decode J_MLineRows_with.2.1 31 = .ok (.ifCond .lt 16, 3) := by decide +kernel
theorem J_MLineRows_with_d34 : decode J_MLineRows_with.2.1 34 = .ok (.iconst 1, 1) := by decide +kernel
theorem J_MLineRows_with_d35 : decode J_MLineRows_with.2.1 35 = .ok (.aload_n 0, 1) := by decide +kernel
theorem J_MLineRows_with_d36 : decode J_MLineRows_with.2.1 36 = .ok (.iload_n 1, 1) := by decide +kernel
theorem J_MLineRows_with_d37 : decode J_MLineRows_with.2.1 37 = .ok (.iload_n 2, 1) := by decide +kernel
theorem J_MLineRows_with_d38 : decode J_MLineRows_with.2.1 38 = .ok (.iload_n 3, 1) := by decide +kernel
theorem J_MLineRows_with_d39 : decode J_MLineRows_with.2.1 39 = .ok (.invokestatic 179, 3) := by decide +kernel
theorem J_MLineRows_with_d42 : decode J_MLineRows_with.2.1 42 = .ok (.invokevirtual 176, 3) := by decide +kernel
theorem J_MLineRows_with_d45 : decode J_MLineRows_with.2.1 45 = .ok (.iadd, 1) := by decide +kernel
theorem J_MLineRows_with_d46 : decode J_MLineRows_with.2.1 46 = .ok (.ireturn, 1) := by decide +kernel
theorem J_MLineRows_with_d47 : decode J_MLineRows_with.2.1 47 = .ok (.iload_n 3, 1) := by decide +kernel
theorem J_MLineRows_with_d48 : decode J_MLineRows_with.2.1 48 = .ok (.bipush 98, 2) := by decide +kernel
theorem J_MLineRows_with_d50 : decode J_MLineRows_with.2.1 50 = .ok (.if_icmp .ne 30, 3) := by decide +kernel
theorem J_MLineRows_with_d53 : decode J_MLineRows_with.2.1 53 = .ok (.iload_n 2, 1) := by decide +kernel
theorem J_MLineRows_with_d54 : decode J_MLineRows_with.2.1 54 = .ok (.iconst 2, 1) := by decide +kernel
theorem J_MLineRows_with_d55 : decode J_MLineRows_with.2.1 55 = .ok (.if_icmp .eq 25, 3) := by decide +kernel
theorem J_MLineRows_with_d58 : decode J_MLineRows_with.2.1 58 = .ok (.aload_n 0, 1) := by decide +kernel
theorem J_MLineRows_with_d59 : decode J_MLineRows_with.2.1 59 = .ok (.iload_n 1, 1) := by decide +kernel
theorem J_MLineRows_with_d60 : decode J_MLineRows_with.2.1 60 = .ok (.iload_n 2, 1) := by decide +kernel
theorem J_MLineRows_with_d61 : decode J_MLineRows_with.2.1 61 = .ok (.invokevirtual 182, 3) := by decide +kernel
theorem J_MLineRows_with_d64 : decode J_MLineRows_with.2.1 64 = .ok (.ifCond .eq 16, 3) := by decide +kernel
theorem J_MLineRows_with_d67 : decode J_MLineRows_with.2.1 67 = .ok (.iconst 2, 1) := by decide +kernel
theorem J_MLineRows_with_d68 : decode J_MLineRows_with.2.1 68 = .ok (.aload_n 0, 1) := by decide +kernel
theorem J_MLineRows_with_d69 : decode J_MLineRows_with.2.1 69 = .ok (.iload_n 1, 1) := by decide +kernel
theorem J_MLineRows_with_d70 : decode J_MLineRows_with.2.1 70 = .ok (.iconst 1, 1) := by decide +kernel
theorem J_MLineRows_with_d71 : decode J_MLineRows_with.2.1 71 = .ok (.iadd, 1) := by decide +kernel
theorem J_MLineRows_with_d72 : decode J_MLineRows_with.2.1 72 = .ok (.iload_n 2, 1) := by decide +kernel
theorem J_MLineRows_with_d73 : decode J_MLineRows_with.2.1 73 = .ok (.invokevirtual 176, 3) := by decide +kernel
theorem J_MLineRows_with_d76 : decode J_MLineRows_with.2.1 76 = .ok (.iadd, 1) := by decide +kernel
theorem J_MLineRows_with_d77 : decode J_MLineRows_with.2.1 77 = .ok (.goto 6, 3) := by decide +kernel
theorem J_MLineRows_with_d80 : decode J_MLineRows_with.2.1 80 = .ok (.sipush 9999, 3) := by decide +kernel
theorem J_MLineRows_with_d83 : decode J_MLineRows_with.2.1 83 = .ok (.ireturn, 1) := by decide +kernel
theorem f_MLineRows_with_ok {L : Nat} {xs : Nat → Int32} {dep : Nat} {w : Bool} {p0 : Int32} {p1 : Int32} {p2 : Int32} {M : im_M} {Q : Int32 → Prop} (hM : lw_S w M) (h : ed (f_MLineRows_with p0 p1 p2 M) Q) : ia (tb_G L xs) (dep + 4) J_MLineRows_with (rpI M Q) (0, lv_args 0 [.ref 96, .int p0, .int p1, .int p2], [], M) := by
  have hS : im_St (tb_G L xs) (dep + 4) J_MLineRows_with (ia (tb_G L xs) (dep + 4) J_MLineRows_with (rpI M Q)) := ia_St
  unfold f_MLineRows_with at h
  have l0 : im_lk (lv_args 0 [.ref 96, .int p0, .int p1, .int p2]) 0 = some (.ref 96) := rfl
  have l1 : im_lk (lv_args 0 [.ref 96, .int p0, .int p1, .int p2]) 1 = some (.int p0) := rfl
  have l2 : im_lk (lv_args 0 [.ref 96, .int p0, .int p1, .int p2]) 2 = some (.int p1) := rfl
  have l3 : im_lk (lv_args 0 [.ref 96, .int p0, .int p1, .int p2]) 3 = some (.int p2) := rfl
  refine iq_aload_n hS 1 J_MLineRows_with_d0 l0 rfl ?_
  refine iq_iload_n hS 2 J_MLineRows_with_d1 l1 rfl ?_
  refine iq_iload_n hS 3 J_MLineRows_with_d2 l2 rfl ?_
  refine iq_iload_n hS 4 J_MLineRows_with_d3 l3 rfl ?_
  obtain ⟨Q1, hQ1, h⟩ := bd1_ed h
  refine iq_cpI hS 7 J_MLineRows_with_d4 rfl (pr_inst (vs := [_, _, _]) lc_13_172 lT_363 rfl rfl (by decide) (by decide) rfl (Nat.le_of_ble_eq_true rfl) (Nat.le_of_ble_eq_true rfl) (fun _ => Or.inl (pr_b (ka_96 hM) (by decide) rfl))) (f_MLineRows_tells_ok (dep := dep + 1) hM h) rfl ?_
  intro x1 h
  replace h := hQ1 _ h
  refine iq_istore hS 9 J_MLineRows_with_d7 (by decide) rfl ?_
  refine iq_iload hS 11 J_MLineRows_with_d9 lk_1s rfl ?_
  refine iq_if_le hS 14 J_MLineRows_with_d11 (t := 26) rfl (fun q11 => ?_) rfl (fun q11 => ?_)
  · replace h := ed_pos q11 h
    refine iq_iload_n hS 27 J_MLineRows_with_d26 (lk_1i l2 (by decide)) rfl ?_
    refine iq_iload_n hS 28 J_MLineRows_with_d27 (lk_1i l3 (by decide)) rfl ?_
    obtain ⟨Q2, hQ2, h⟩ := bd1_ed h
    refine iq_cpI hS 31 J_MLineRows_with_d28 rfl (pr_stat (vs := [_, _]) lc_13_179 lT_368 rfl rfl (by decide) rfl (Nat.le_of_ble_eq_true rfl) (Nat.le_of_ble_eq_true rfl)) (f_MLineRows_goes_ok (dep := dep + 3) hM h) rfl ?_
    intro x2 h
    replace h := hQ2 _ h
    refine iq_if_lt hS 34 J_MLineRows_with_d31 (t := 47) rfl (fun q31 => ?_) rfl (fun q31 => ?_)
    · replace h := ed_pos q31 h
      refine iq_iload_n hS 48 J_MLineRows_with_d47 (lk_1i l3 (by decide)) rfl ?_
      refine iq_bipush hS 50 J_MLineRows_with_d48 (v := 98) (by decide +kernel) rfl ?_
      obtain ⟨k3, Q3, hQ3, hk3, h⟩ := jn0_ed h
      have J3 : ∀  (L' : List (Nat × Value)), Q3 () → ia (tb_G L xs) (dep + 4) J_MLineRows_with (rpI M Q) (80, L', [], M) := by
        intro  L'  h
        replace h := hQ3  h
        refine iq_sipush hS 83 J_MLineRows_with_d80 (v := 9999) (by decide +kernel) rfl ?_
        exact iq_iret J_MLineRows_with_d83 rfl rfl ⟨_, rfl, rfl, ed_some h⟩
      refine iq_icmp_ne hS 53 J_MLineRows_with_d50 (t := 80) rfl (fun q50 => ?_) rfl (fun q50 => ?_)
      · replace h := ed_pos q50 h
        exact J3  _  (hk3  h)
      · replace h := ed_neg q50 h
        refine iq_iload_n hS 54 J_MLineRows_with_d53 (lk_1i l2 (by decide)) rfl ?_
        refine iq_iconst hS 55 J_MLineRows_with_d54 (v := 2) (by decide +kernel) rfl ?_
        refine iq_icmp_eq hS 58 J_MLineRows_with_d55 (t := 80) rfl (fun q55 => ?_) rfl (fun q55 => ?_)
        · replace h := ed_pos q55 h
          exact J3  _  (hk3  h)
        · replace h := ed_neg q55 h
          refine iq_aload_n hS 59 J_MLineRows_with_d58 (lk_1r l0 (by decide)) rfl ?_
          refine iq_iload_n hS 60 J_MLineRows_with_d59 (lk_1i l1 (by decide)) rfl ?_
          refine iq_iload_n hS 61 J_MLineRows_with_d60 (lk_1i l2 (by decide)) rfl ?_
          obtain ⟨Q4, hQ4, h⟩ := bd1_ed h
          refine iq_cpI hS 64 J_MLineRows_with_d61 rfl (pr_inst (vs := [_, _]) lc_13_182 lT_369 rfl rfl (by decide) (by decide) rfl (Nat.le_of_ble_eq_true rfl) (Nat.le_of_ble_eq_true rfl) (fun _ => Or.inl (pr_b (ka_96 hM) (by decide) rfl))) (f_MLineRows_isOther_ok (dep := dep + 0) hM h) rfl ?_
          intro x4 h
          replace h := hQ4 _ h
          refine iq_if_eq hS 67 J_MLineRows_with_d64 (t := 80) rfl (fun q64 => ?_) rfl (fun q64 => ?_)
          · replace h := ed_pos q64 h
            exact J3  _  (hk3  h)
          · replace h := ed_neg q64 h
            refine iq_iconst hS 68 J_MLineRows_with_d67 (v := 2) (by decide +kernel) rfl ?_
            refine iq_aload_n hS 69 J_MLineRows_with_d68 (lk_1r l0 (by decide)) rfl ?_
            refine iq_iload_n hS 70 J_MLineRows_with_d69 (lk_1i l1 (by decide)) rfl ?_
            refine iq_iconst hS 71 J_MLineRows_with_d70 (v := 1) (by decide +kernel) rfl ?_
            refine iq_iadd hS 72 J_MLineRows_with_d71 rfl ?_
            refine iq_iload_n hS 73 J_MLineRows_with_d72 (lk_1i l2 (by decide)) rfl ?_
            obtain ⟨Q5, hQ5, h⟩ := bd1_ed h
            refine iq_cpI hS 76 J_MLineRows_with_d73 rfl (pr_inst (vs := [_, _]) lc_13_176 lT_367 rfl rfl (by decide) (by decide) rfl (Nat.le_of_ble_eq_true rfl) (Nat.le_of_ble_eq_true rfl) (fun _ => Or.inl (pr_b (ka_96 hM) (by decide) rfl))) (f_MLineRows_leastAt_ok (dep := dep + 3) hM h) rfl ?_
            intro x5 h
            replace h := hQ5 _ h
            refine iq_iadd hS 77 J_MLineRows_with_d76 rfl ?_
            refine iq_goto hS J_MLineRows_with_d77 (t := 83) rfl ?_
            exact iq_iret J_MLineRows_with_d83 rfl rfl ⟨_, rfl, rfl, ed_some h⟩
    · replace h := ed_neg q31 h
      refine iq_iconst hS 35 J_MLineRows_with_d34 (v := 1) (by decide +kernel) rfl ?_
      refine iq_aload_n hS 36 J_MLineRows_with_d35 (lk_1r l0 (by decide)) rfl ?_
      refine iq_iload_n hS 37 J_MLineRows_with_d36 (lk_1i l1 (by decide)) rfl ?_
      refine iq_iload_n hS 38 J_MLineRows_with_d37 (lk_1i l2 (by decide)) rfl ?_
      refine iq_iload_n hS 39 J_MLineRows_with_d38 (lk_1i l3 (by decide)) rfl ?_
      obtain ⟨Q6, hQ6, h⟩ := bd1_ed h
      refine iq_cpI hS 42 J_MLineRows_with_d39 rfl (pr_stat (vs := [_, _]) lc_13_179 lT_368 rfl rfl (by decide) rfl (Nat.le_of_ble_eq_true rfl) (Nat.le_of_ble_eq_true rfl)) (f_MLineRows_goes_ok (dep := dep + 3) hM h) rfl ?_
      intro x6 h
      replace h := hQ6 _ h
      obtain ⟨Q7, hQ7, h⟩ := bd1_ed h
      refine iq_cpI hS 45 J_MLineRows_with_d42 rfl (pr_inst (vs := [_, _]) lc_13_176 lT_367 rfl rfl (by decide) (by decide) rfl (Nat.le_of_ble_eq_true rfl) (Nat.le_of_ble_eq_true rfl) (fun _ => Or.inl (pr_b (ka_96 hM) (by decide) rfl))) (f_MLineRows_leastAt_ok (dep := dep + 3) hM h) rfl ?_
      intro x7 h
      replace h := hQ7 _ h
      refine iq_iadd hS 46 J_MLineRows_with_d45 rfl ?_
      exact iq_iret J_MLineRows_with_d46 rfl rfl ⟨_, rfl, rfl, ed_some h⟩
  · replace h := ed_neg q11 h
    refine iq_iconst hS 15 J_MLineRows_with_d14 (v := 1) (by decide +kernel) rfl ?_
    refine iq_aload_n hS 16 J_MLineRows_with_d15 (lk_1r l0 (by decide)) rfl ?_
    refine iq_iload_n hS 17 J_MLineRows_with_d16 (lk_1i l1 (by decide)) rfl ?_
    refine iq_iload hS 19 J_MLineRows_with_d17 lk_1s rfl ?_
    refine iq_iadd hS 20 J_MLineRows_with_d19 rfl ?_
    refine iq_iload_n hS 21 J_MLineRows_with_d20 (lk_1i l2 (by decide)) rfl ?_
    obtain ⟨Q8, hQ8, h⟩ := bd1_ed h
    refine iq_cpI hS 24 J_MLineRows_with_d21 rfl (pr_inst (vs := [_, _]) lc_13_176 lT_367 rfl rfl (by decide) (by decide) rfl (Nat.le_of_ble_eq_true rfl) (Nat.le_of_ble_eq_true rfl) (fun _ => Or.inl (pr_b (ka_96 hM) (by decide) rfl))) (f_MLineRows_leastAt_ok (dep := dep + 3) hM h) rfl ?_
    intro x8 h
    replace h := hQ8 _ h
    refine iq_iadd hS 25 J_MLineRows_with_d24 rfl ?_
    exact iq_iret J_MLineRows_with_d25 rfl rfl ⟨_, rfl, rfl, ed_some h⟩
noncomputable def f_MLineRows_relax_L2 (x2 : Int32) (M3 : im_M) : Option ((Int32 × im_M) ⊕ (im_M)) := if 198 ≤ x2 then some (.inr M3) else gd (inb x2 198) <| some (.inl ((x2 + 1), (im_setI M3 101 (Int32.toNatClampNeg x2) ((if ¬ (x2 / 3) = (im_i M3 96 5) then 9999 else 0) : Int32))))
noncomputable def f_MLineRows_relax_L67 (v19 : Int32) (v20 : Int32) (x21 : Int32) (x22 : Int32) (M23 : im_M) : Option ((Int32 × Int32 × im_M) ⊕ (Int32 × im_M)) := if 103 ≤ x22 then some (.inr (x21, M23)) else bd1 (f_MLineRows_with v19 v20 x22 M23) fun (x24 : Int32) => bd1 (f_MLineRows_leastAt v19 v20 M23) fun (x25 : Int32) => bd2 (if x25 ≤ x24 then some (x21, M23) else gd (inb (((3 : Int32) * v19) + v20) 198) <| some (1, (im_setI M23 101 (Int32.toNatClampNeg (((3 : Int32) * v19) + v20)) x24))) fun (y27 : Int32) (M28 : im_M) => some (.inl (y27, (x22 + 1), M28))
noncomputable def f_MLineRows_relax_L59 (v14 : Int32) (x15 : Int32) (x16 : Int32) (M17 : im_M) : Option ((Int32 × Int32 × im_M) ⊕ (Int32 × im_M)) := if 2 < x16 then some (.inr (x15, M17)) else bd2 (lp (uc3 (f_MLineRows_relax_L67 v14 x16)) (x15, 0, M17)) fun (y34 : Int32) (M35 : im_M) => some (.inl (y34, (x16 + 1), M35))
noncomputable def f_MLineRows_relax_L53 (x10 : Int32) (x11 : Int32) (M12 : im_M) : Option ((Int32 × Int32 × im_M) ⊕ (Int32 × im_M)) := if x11 < 0 then some (.inr (x10, M12)) else bd2 (lp (uc3 (f_MLineRows_relax_L59 x11)) (x10, 0, M12)) fun (y36 : Int32) (M37 : im_M) => some (.inl (y36, (x11 + (-1)), M37))
noncomputable def f_MLineRows_relax_L40 (x7 : Int32) (M8 : im_M) : Option ((Int32 × im_M) ⊕ (im_M)) := if x7 = 0 then some (.inr M8) else bd2 (lp (uc3 (f_MLineRows_relax_L53)) (0, ((im_i M8 96 5) - 1), M8)) fun (y38 : Int32) (M39 : im_M) => some (.inl (y38, M39))
noncomputable def f_MLineRows_relax (M : im_M) : Option (im_M) := bd1 (lp (uc2 (f_MLineRows_relax_L2)) (0, M)) fun (M5 : im_M) => bd1 (lp (uc2 (f_MLineRows_relax_L40)) (1, M5)) fun (M40 : im_M) => some M40
theorem J_MLineRows_relax_d0 : decode J_MLineRows_relax.2.1 0 = .ok (.iconst 0, 1) := by decide +kernel
theorem J_MLineRows_relax_d1 : decode J_MLineRows_relax.2.1 1 = .ok (.istore_n 1, 1) := by decide +kernel
theorem J_MLineRows_relax_d2 : decode J_MLineRows_relax.2.1 2 = .ok (.iload_n 1, 1) := by decide +kernel
theorem J_MLineRows_relax_d3 : decode J_MLineRows_relax.2.1 3 = .ok (.sipush 198, 3) := by decide +kernel
theorem J_MLineRows_relax_d6 : decode J_MLineRows_relax.2.1 6 = .ok (.if_icmp .ge 32, 3) := by decide +kernel
theorem J_MLineRows_relax_d9 : decode J_MLineRows_relax.2.1 9 = .ok (.aload_n 0, 1) := by decide +kernel
theorem J_MLineRows_relax_d10 : decode J_MLineRows_relax.2.1 10 = .ok (.getfield 128, 3) := by decide +kernel
theorem J_MLineRows_relax_d13 : decode J_MLineRows_relax.2.1 13 = .ok (.iload_n 1, 1) := by decide +kernel
theorem J_MLineRows_relax_d14 : decode J_MLineRows_relax.2.1 14 = .ok (.iload_n 1, 1) := by decide +kernel
theorem J_MLineRows_relax_d15 : decode J_MLineRows_relax.2.1 15 = .ok (.iconst 3, 1) := by decide +kernel
theorem J_MLineRows_relax_d16 : decode J_MLineRows_relax.2.1 16 = .ok (.idiv, 1) := by decide +kernel
theorem J_MLineRows_relax_d17 : decode J_MLineRows_relax.2.1 17 = .ok (.aload_n 0, 1) := by decide +kernel
theorem J_MLineRows_relax_d18 : decode J_MLineRows_relax.2.1 18 = .ok (.getfield 157, 3) := by decide +kernel
theorem J_MLineRows_relax_d21 : decode J_MLineRows_relax.2.1 21 = .ok (.if_icmp .ne 7, 3) := by decide +kernel
theorem J_MLineRows_relax_d24 : decode J_MLineRows_relax.2.1 24 = .ok (.iconst 0, 1) := by decide +kernel
theorem J_MLineRows_relax_d25 : decode J_MLineRows_relax.2.1 25 = .ok (.goto 6, 3) := by decide +kernel
theorem J_MLineRows_relax_d28 : decode J_MLineRows_relax.2.1 28 = .ok (.sipush 9999, 3) := by decide +kernel
theorem J_MLineRows_relax_d31 : decode J_MLineRows_relax.2.1 31 = .ok (.iastore, 1) := by decide +kernel
theorem J_MLineRows_relax_d32 : decode J_MLineRows_relax.2.1 32 = .ok (.iinc 1 1, 3) := by decide +kernel
theorem J_MLineRows_relax_d35 : decode J_MLineRows_relax.2.1 35 = .ok (.goto (-33), 3) := by decide +kernel
theorem J_MLineRows_relax_d38 : decode J_MLineRows_relax.2.1 38 = .ok (.iconst 1, 1) := by decide +kernel
theorem J_MLineRows_relax_d39 : decode J_MLineRows_relax.2.1 39 = .ok (.istore_n 1, 1) := by decide +kernel
theorem J_MLineRows_relax_d40 : decode J_MLineRows_relax.2.1 40 = .ok (.iload_n 1, 1) := by decide +kernel
theorem J_MLineRows_relax_d41 : decode J_MLineRows_relax.2.1 41 = .ok (.ifCond .eq 89, 3) := by decide +kernel
theorem J_MLineRows_relax_d44 : decode J_MLineRows_relax.2.1 44 = .ok (.iconst 0, 1) := by decide +kernel
theorem J_MLineRows_relax_d45 : decode J_MLineRows_relax.2.1 45 = .ok (.istore_n 1, 1) := by decide +kernel
theorem J_MLineRows_relax_d46 : decode J_MLineRows_relax.2.1 46 = .ok (.aload_n 0, 1) := by decide +kernel
theorem J_MLineRows_relax_d47 : decode J_MLineRows_relax.2.1 47 = .ok (.getfield 157, 3) := by decide +kernel
theorem J_MLineRows_relax_d50 : decode J_MLineRows_relax.2.1 50 = .ok (.iconst 1, 1) := by decide +kernel
theorem J_MLineRows_relax_d51 : decode J_MLineRows_relax.2.1 51 = .ok (.isub, 1) := by decide +kernel
theorem J_MLineRows_relax_d52 : decode J_MLineRows_relax.2.1 52 = .ok (.istore_n 2, 1) := by decide +kernel
theorem J_MLineRows_relax_d53 : decode J_MLineRows_relax.2.1 53 = .ok (.iload_n 2, 1) := by decide +kernel
theorem J_MLineRows_relax_d54 : decode J_MLineRows_relax.2.1 54 = .ok (.ifCond .lt 73, 3) := by decide +kernel
theorem J_MLineRows_relax_d57 : decode J_MLineRows_relax.2.1 57 = .ok (.iconst 0, 1) := by decide +kernel
theorem J_MLineRows_relax_d58 : decode J_MLineRows_relax.2.1 58 = .ok (.istore_n 3, 1) := by decide +kernel
theorem J_MLineRows_relax_d59 : decode J_MLineRows_relax.2.1 59 = .ok (.iload_n 3, 1) := by decide +kernel
theorem J_MLineRows_relax_d60 : decode J_MLineRows_relax.2.1 60 = .ok (.iconst 2, 1) := by decide +kernel
theorem J_MLineRows_relax_d61 : decode J_MLineRows_relax.2.1 61 = .ok (.if_icmp .gt 60, 3) := by decide +kernel
theorem J_MLineRows_relax_d64 : decode J_MLineRows_relax.2.1 64 = .ok (.iconst 0, 1) := by decide +kernel
theorem J_MLineRows_relax_d65 : decode J_MLineRows_relax.2.1 65 = .ok (.istore 4, 2) := by decide +kernel
theorem J_MLineRows_relax_d67 : decode J_MLineRows_relax.2.1 67 = .ok (.iload 4, 2) := by decide +kernel
theorem J_MLineRows_relax_d69 : decode J_MLineRows_relax.2.1 69 = .ok (.bipush 103, 2) := by decide +kernel
theorem J_MLineRows_relax_d71 : decode J_MLineRows_relax.2.1 71 = .ok (.if_icmp .ge 44, 3) := by decide +kernel
theorem J_MLineRows_relax_d74 : decode J_MLineRows_relax.2.1 74 = .ok (.aload_n 0, 1) := by decide +kernel
theorem J_MLineRows_relax_d75 : decode J_MLineRows_relax.2.1 75 = .ok (.iload_n 2, 1) := by decide +kernel
theorem J_MLineRows_relax_d76 : decode J_MLineRows_relax.2.1 76 = .ok (.iload_n 3, 1) := by decide +kernel
theorem J_MLineRows_relax_d77 : decode J_MLineRows_relax.2.1 77 = .ok (.iload 4, 2) := by decide +kernel
theorem J_MLineRows_relax_d79 : decode J_MLineRows_relax.2.1 79 = .ok (.invokevirtual 185, 3) := by decide +kernel
theorem J_MLineRows_relax_d82 : decode J_MLineRows_relax.2.1 82 = .ok (.istore 5, 2) := by decide +kernel
theorem J_MLineRows_relax_d84 : decode J_MLineRows_relax.2.1 84 = .ok (.iload 5, 2) := by decide +kernel
theorem J_MLineRows_relax_d86 : decode J_MLineRows_relax.2.1 86 = .ok (.aload_n 0, 1) := by decide +kernel
theorem J_MLineRows_relax_d87 : decode J_MLineRows_relax.2.1 87 = .ok (.iload_n 2, 1) := by decide +kernel
theorem J_MLineRows_relax_d88 : decode J_MLineRows_relax.2.1 88 = .ok (.iload_n 3, 1) := by decide +kernel
theorem J_MLineRows_relax_d89 : decode J_MLineRows_relax.2.1 89 = .ok (.invokevirtual 176, 3) := by decide +kernel
theorem J_MLineRows_relax_d92 : decode J_MLineRows_relax.2.1 92 = .ok (.if_icmp .ge 17, 3) := by decide +kernel
theorem J_MLineRows_relax_d95 : decode J_MLineRows_relax.2.1 95 = .ok (.aload_n 0, 1) := by decide +kernel
theorem J_MLineRows_relax_d96 : decode J_MLineRows_relax.2.1 96 = .ok (.getfield 128, 3) := by decide +kernel
theorem J_MLineRows_relax_d99 : decode J_MLineRows_relax.2.1 99 = .ok (.iconst 3, 1) := by decide +kernel
theorem J_MLineRows_relax_d100 : decode J_MLineRows_relax.2.1 100 = .ok (.iload_n 2, 1) := by decide +kernel
theorem J_MLineRows_relax_d101 : decode J_MLineRows_relax.2.1 101 = .ok (.imul, 1) := by decide +kernel
theorem J_MLineRows_relax_d102 : decode J_MLineRows_relax.2.1 102 = .ok (.iload_n 3, 1) := by decide +kernel
theorem J_MLineRows_relax_d103 : decode J_MLineRows_relax.2.1 103 = .ok (.iadd, 1) := by decide +kernel
theorem J_MLineRows_relax_d104 : decode J_MLineRows_relax.2.1 104 = .ok (.iload 5, 2) := by decide +kernel
theorem J_MLineRows_relax_d106 : decode J_MLineRows_relax.2.1 106 = .ok (.iastore, 1) := by decide +kernel
theorem J_MLineRows_relax_d107 : decode J_MLineRows_relax.2.1 107 = .ok (.iconst 1, 1) := by decide +kernel
theorem J_MLineRows_relax_d108 : decode J_MLineRows_relax.2.1 108 = .ok (.istore_n 1, 1) := by decide +kernel
theorem J_MLineRows_relax_d109 : decode J_MLineRows_relax.2.1 109 = .ok (.iinc 4 1, 3) := by decide +kernel
theorem J_MLineRows_relax_d112 : decode J_MLineRows_relax.2.1 112 = .ok (.goto (-45), 3) := by decide +kernel
theorem J_MLineRows_relax_d115 : decode J_MLineRows_relax.2.1 115 = .ok (.iinc 3 1, 3) := by decide +kernel
theorem J_MLineRows_relax_d118 : decode J_MLineRows_relax.2.1 118 = .ok (.goto (-59), 3) := by decide +kernel
theorem J_MLineRows_relax_d121 : decode J_MLineRows_relax.2.1 121 = .ok (.iinc 2 (-1), 3) := by decide +kernel
theorem J_MLineRows_relax_d124 : decode J_MLineRows_relax.2.1 124 = .ok (.goto (-71), 3) := by decide +kernel
theorem J_MLineRows_relax_d127 : decode J_MLineRows_relax.2.1 127 = .ok (.goto (-87), 3) := by decide +kernel
theorem J_MLineRows_relax_d130 : decode J_MLineRows_relax.2.1 130 = .ok (.return_, 1) := by decide +kernel
theorem f_MLineRows_relax_ok {L : Nat} {xs : Nat → Int32} {dep : Nat} {w : Bool} {M : im_M} {Q : im_M → Prop} (hM : lw_S w M) (h : ed (f_MLineRows_relax M) Q) : ia (tb_G L xs) (dep + 5) J_MLineRows_relax (rwV w Q) (0, lv_args 0 [.ref 96], [], M) := by
  have hS : im_St (tb_G L xs) (dep + 5) J_MLineRows_relax (ia (tb_G L xs) (dep + 5) J_MLineRows_relax (rwV w Q)) := ia_St
  unfold f_MLineRows_relax at h
  have l0 : im_lk (lv_args 0 [.ref 96]) 0 = some (.ref 96) := rfl
  refine iq_iconst hS 1 J_MLineRows_relax_d0 (v := 0) (by decide +kernel) rfl ?_
  refine iq_istore_n hS 2 J_MLineRows_relax_d1 (by decide) rfl ?_
  obtain ⟨Q1, hQ1, h⟩ := bd1_ed h
  have K1 : ∀ (M2 : im_M) (L' : List (Nat × Value)), lw_S w M2 → im_lk L' 0 = some (.ref 96) → Q1 M2 → ia (tb_G L xs) (dep + 5) J_MLineRows_relax (rwV w Q) (38, L', [], M2) := by
    intro M2 L' hM2 l3 h
    replace h := hQ1 _ h
    refine iq_iconst hS 39 J_MLineRows_relax_d38 (v := 1) (by decide +kernel) rfl ?_
    refine iq_istore_n hS 40 J_MLineRows_relax_d39 (by decide) rfl ?_
    obtain ⟨Q4, hQ4, h⟩ := bd1_ed h
    have K4 : ∀ (M5 : im_M) (L' : List (Nat × Value)), lw_S w M5 → Q4 M5 → ia (tb_G L xs) (dep + 5) J_MLineRows_relax (rwV w Q) (130, L', [], M5) := by
      intro M5 L' hM5  h
      replace h := hQ4 _ h
      exact iq_ret J_MLineRows_relax_d130 rfl ⟨rfl, hM5, ed_some h⟩
    obtain ⟨r4, hr4, hq4⟩ := h
    obtain ⟨n4, hn4⟩ := lp_n hr4
    have I4 : ∀ (n : Nat) (x6 : Int32) (M7 : im_M) (L' : List (Nat × Value)), lw_S w M7 → im_lk L' 0 = some (.ref 96) → im_lk L' 1 = some (.int x6) → lpn (uc2 (f_MLineRows_relax_L40)) n (x6, M7) = some r4 → ia (tb_G L xs) (dep + 5) J_MLineRows_relax (rwV w Q) (40, L', [], M7) := by
      intro n
      induction n with
      | zero => intro x6 M7 L' hM7 l8 l9 hn; exact (lpn_0 hn).elim
      | succ n ih =>
        intro x6 M7 L' hM7 l8 l9 hn
        have h := lpn_ed2 hn
        unfold f_MLineRows_relax_L40 at h
        refine iq_iload_n hS 41 J_MLineRows_relax_d40 l9 rfl ?_
        refine iq_if_eq hS 44 J_MLineRows_relax_d41 (t := 130) rfl (fun q41 => ?_) rfl (fun q41 => ?_)
        · replace h := ed_pos q41 h
          exact K4 _ _ hM7  (lq_r h hq4)
        · replace h := ed_neg q41 h
          refine iq_iconst hS 45 J_MLineRows_relax_d44 (v := 0) (by decide +kernel) rfl ?_
          refine iq_istore_n hS 46 J_MLineRows_relax_d45 (by decide) rfl ?_
          refine iq_aload_n hS 47 J_MLineRows_relax_d46 (lk_1r l8 (by decide)) rfl ?_
          refine iq_getI hS 50 J_MLineRows_relax_d47 lf_13_157 (Or.inl rfl) (ka_96 hM7) rfl ?_
          refine iq_iconst hS 51 J_MLineRows_relax_d50 (v := 1) (by decide +kernel) rfl ?_
          refine iq_isub hS 52 J_MLineRows_relax_d51 rfl ?_
          refine iq_istore_n hS 53 J_MLineRows_relax_d52 (by decide) rfl ?_
          obtain ⟨Q10, hQ10, h⟩ := bd2_ed h
          have K10 : ∀ (y11 : Int32) (M12 : im_M) (L' : List (Nat × Value)), lw_S w M12 → im_lk L' 0 = some (.ref 96) → im_lk L' 1 = some (.int y11) → Q10 (y11, M12) → ia (tb_G L xs) (dep + 5) J_MLineRows_relax (rwV w Q) (127, L', [], M12) := by
            intro y11 M12 L' hM12 l13 l14 h
            replace h := hQ10 _ _ h
            refine iq_goto hS J_MLineRows_relax_d127 (t := 40) rfl ?_
            exact ih _ _ _ hM12 l13 l14 (lq_l h)
          obtain ⟨r10, hr10, hq10⟩ := h
          obtain ⟨n10, hn10⟩ := lp_n hr10
          have I10 : ∀ (n : Nat) (x15 : Int32) (x16 : Int32) (M17 : im_M) (L' : List (Nat × Value)), lw_S w M17 → im_lk L' 0 = some (.ref 96) → im_lk L' 1 = some (.int x15) → im_lk L' 2 = some (.int x16) → lpn (uc3 (f_MLineRows_relax_L53)) n (x15, x16, M17) = some r10 → ia (tb_G L xs) (dep + 5) J_MLineRows_relax (rwV w Q) (53, L', [], M17) := by
            intro n
            induction n with
            | zero => intro x15 x16 M17 L' hM17 l18 l19 l20 hn; exact (lpn_0 hn).elim
            | succ n ih =>
              intro x15 x16 M17 L' hM17 l18 l19 l20 hn
              have h := lpn_ed3 hn
              unfold f_MLineRows_relax_L53 at h
              refine iq_iload_n hS 54 J_MLineRows_relax_d53 l20 rfl ?_
              refine iq_if_lt hS 57 J_MLineRows_relax_d54 (t := 127) rfl (fun q54 => ?_) rfl (fun q54 => ?_)
              · replace h := ed_pos q54 h
                exact K10 _ _ _ hM17 l18 l19 (lq_r h hq10)
              · replace h := ed_neg q54 h
                refine iq_iconst hS 58 J_MLineRows_relax_d57 (v := 0) (by decide +kernel) rfl ?_
                refine iq_istore_n hS 59 J_MLineRows_relax_d58 (by decide) rfl ?_
                obtain ⟨Q21, hQ21, h⟩ := bd2_ed h
                have K21 : ∀ (y22 : Int32) (M23 : im_M) (L' : List (Nat × Value)), lw_S w M23 → im_lk L' 0 = some (.ref 96) → im_lk L' 1 = some (.int y22) → im_lk L' 2 = some (.int x16) → Q21 (y22, M23) → ia (tb_G L xs) (dep + 5) J_MLineRows_relax (rwV w Q) (121, L', [], M23) := by
                  intro y22 M23 L' hM23 l24 l25 l26 h
                  replace h := hQ21 _ _ h
                  refine iq_iincv hS 124 J_MLineRows_relax_d121 (c := (-1)) (by decide +kernel) l26 (by decide) rfl ?_
                  refine iq_goto hS J_MLineRows_relax_d124 (t := 53) rfl ?_
                  exact ih _ _ _ _ hM23 (lk_1r l24 (by decide)) (lk_1i l25 (by decide)) lk_1s (lq_l h)
                obtain ⟨r21, hr21, hq21⟩ := h
                obtain ⟨n21, hn21⟩ := lp_n hr21
                have I21 : ∀ (n : Nat) (x27 : Int32) (x28 : Int32) (M29 : im_M) (L' : List (Nat × Value)), lw_S w M29 → im_lk L' 0 = some (.ref 96) → im_lk L' 1 = some (.int x27) → im_lk L' 2 = some (.int x16) → im_lk L' 3 = some (.int x28) → lpn (uc3 (f_MLineRows_relax_L59 x16)) n (x27, x28, M29) = some r21 → ia (tb_G L xs) (dep + 5) J_MLineRows_relax (rwV w Q) (59, L', [], M29) := by
                  intro n
                  induction n with
                  | zero => intro x27 x28 M29 L' hM29 l30 l31 l32 l33 hn; exact (lpn_0 hn).elim
                  | succ n ih =>
                    intro x27 x28 M29 L' hM29 l30 l31 l32 l33 hn
                    have h := lpn_ed3 hn
                    unfold f_MLineRows_relax_L59 at h
                    refine iq_iload_n hS 60 J_MLineRows_relax_d59 l33 rfl ?_
                    refine iq_iconst hS 61 J_MLineRows_relax_d60 (v := 2) (by decide +kernel) rfl ?_
                    refine iq_icmp_gt hS 64 J_MLineRows_relax_d61 (t := 121) rfl (fun q61 => ?_) rfl (fun q61 => ?_)
                    · replace h := ed_pos q61 h
                      exact K21 _ _ _ hM29 l30 l31 l32 (lq_r h hq21)
                    · replace h := ed_neg q61 h
                      refine iq_iconst hS 65 J_MLineRows_relax_d64 (v := 0) (by decide +kernel) rfl ?_
                      refine iq_istore hS 67 J_MLineRows_relax_d65 (by decide) rfl ?_
                      obtain ⟨Q34, hQ34, h⟩ := bd2_ed h
                      have K34 : ∀ (y35 : Int32) (M36 : im_M) (L' : List (Nat × Value)), lw_S w M36 → im_lk L' 0 = some (.ref 96) → im_lk L' 1 = some (.int y35) → im_lk L' 2 = some (.int x16) → im_lk L' 3 = some (.int x28) → Q34 (y35, M36) → ia (tb_G L xs) (dep + 5) J_MLineRows_relax (rwV w Q) (115, L', [], M36) := by
                        intro y35 M36 L' hM36 l37 l38 l39 l40 h
                        replace h := hQ34 _ _ h
                        refine iq_iincv hS 118 J_MLineRows_relax_d115 (c := 1) (by decide +kernel) l40 (by decide) rfl ?_
                        refine iq_goto hS J_MLineRows_relax_d118 (t := 59) rfl ?_
                        exact ih _ _ _ _ hM36 (lk_1r l37 (by decide)) (lk_1i l38 (by decide)) (lk_1i l39 (by decide)) lk_1s (lq_l h)
                      obtain ⟨r34, hr34, hq34⟩ := h
                      obtain ⟨n34, hn34⟩ := lp_n hr34
                      have I34 : ∀ (n : Nat) (x41 : Int32) (x42 : Int32) (M43 : im_M) (L' : List (Nat × Value)), lw_S w M43 → im_lk L' 0 = some (.ref 96) → im_lk L' 1 = some (.int x41) → im_lk L' 2 = some (.int x16) → im_lk L' 3 = some (.int x28) → im_lk L' 4 = some (.int x42) → lpn (uc3 (f_MLineRows_relax_L67 x16 x28)) n (x41, x42, M43) = some r34 → ia (tb_G L xs) (dep + 5) J_MLineRows_relax (rwV w Q) (67, L', [], M43) := by
                        intro n
                        induction n with
                        | zero => intro x41 x42 M43 L' hM43 l44 l45 l46 l47 l48 hn; exact (lpn_0 hn).elim
                        | succ n ih =>
                          intro x41 x42 M43 L' hM43 l44 l45 l46 l47 l48 hn
                          have h := lpn_ed3 hn
                          unfold f_MLineRows_relax_L67 at h
                          refine iq_iload hS 69 J_MLineRows_relax_d67 l48 rfl ?_
                          refine iq_bipush hS 71 J_MLineRows_relax_d69 (v := 103) (by decide +kernel) rfl ?_
                          refine iq_icmp_ge hS 74 J_MLineRows_relax_d71 (t := 115) rfl (fun q71 => ?_) rfl (fun q71 => ?_)
                          · replace h := ed_pos q71 h
                            exact K34 _ _ _ hM43 l44 l45 l46 l47 (lq_r h hq34)
                          · replace h := ed_neg q71 h
                            refine iq_aload_n hS 75 J_MLineRows_relax_d74 l44 rfl ?_
                            refine iq_iload_n hS 76 J_MLineRows_relax_d75 l46 rfl ?_
                            refine iq_iload_n hS 77 J_MLineRows_relax_d76 l47 rfl ?_
                            refine iq_iload hS 79 J_MLineRows_relax_d77 l48 rfl ?_
                            obtain ⟨Q49, hQ49, h⟩ := bd1_ed h
                            refine iq_cpI hS 82 J_MLineRows_relax_d79 rfl (pr_inst (vs := [_, _, _]) lc_13_185 lT_362 rfl rfl (by decide) (by decide) rfl (Nat.le_of_ble_eq_true rfl) (Nat.le_of_ble_eq_true rfl) (fun _ => Or.inl (pr_b (ka_96 hM43) (by decide) rfl))) (f_MLineRows_with_ok (dep := dep + 0) hM43 h) rfl ?_
                            intro x49 h
                            replace h := hQ49 _ h
                            refine iq_istore hS 84 J_MLineRows_relax_d82 (by decide) rfl ?_
                            refine iq_iload hS 86 J_MLineRows_relax_d84 lk_1s rfl ?_
                            refine iq_aload_n hS 87 J_MLineRows_relax_d86 (lk_1r l44 (by decide)) rfl ?_
                            refine iq_iload_n hS 88 J_MLineRows_relax_d87 (lk_1i l46 (by decide)) rfl ?_
                            refine iq_iload_n hS 89 J_MLineRows_relax_d88 (lk_1i l47 (by decide)) rfl ?_
                            obtain ⟨Q50, hQ50, h⟩ := bd1_ed h
                            refine iq_cpI hS 92 J_MLineRows_relax_d89 rfl (pr_inst (vs := [_, _]) lc_13_176 lT_367 rfl rfl (by decide) (by decide) rfl (Nat.le_of_ble_eq_true rfl) (Nat.le_of_ble_eq_true rfl) (fun _ => Or.inl (pr_b (ka_96 hM43) (by decide) rfl))) (f_MLineRows_leastAt_ok (dep := dep + 4) hM43 h) rfl ?_
                            intro x50 h
                            replace h := hQ50 _ h
                            obtain ⟨Q51, hQ51, h⟩ := bd2_ed h
                            have J51 : ∀ (y52 : Int32) (M53 : im_M) (L' : List (Nat × Value)), lw_S w M53 → im_lk L' 0 = some (.ref 96) → im_lk L' 1 = some (.int y52) → im_lk L' 2 = some (.int x16) → im_lk L' 3 = some (.int x28) → im_lk L' 4 = some (.int x42) → Q51 (y52, M53) → ia (tb_G L xs) (dep + 5) J_MLineRows_relax (rwV w Q) (109, L', [], M53) := by
                              intro y52 M53 L' hM53 l54 l55 l56 l57 l58 h
                              replace h := hQ51 _ _ h
                              refine iq_iincv hS 112 J_MLineRows_relax_d109 (c := 1) (by decide +kernel) l58 (by decide) rfl ?_
                              refine iq_goto hS J_MLineRows_relax_d112 (t := 67) rfl ?_
                              exact ih _ _ _ _ hM53 (lk_1r l54 (by decide)) (lk_1i l55 (by decide)) (lk_1i l56 (by decide)) (lk_1i l57 (by decide)) lk_1s (lq_l h)
                            refine iq_icmp_ge hS 95 J_MLineRows_relax_d92 (t := 109) rfl (fun q92 => ?_) rfl (fun q92 => ?_)
                            · replace h := ed_pos q92 h
                              exact J51 _ _ _ hM43 (lk_1r l44 (by decide)) (lk_1i l45 (by decide)) (lk_1i l46 (by decide)) (lk_1i l47 (by decide)) (lk_1i l48 (by decide)) (ed_some h)
                            · replace h := ed_neg q92 h
                              refine iq_aload_n hS 96 J_MLineRows_relax_d95 (lk_1r l44 (by decide)) rfl ?_
                              refine iq_getR hS 99 J_MLineRows_relax_d96 lf_13_128 (Or.inr ⟨_, rfl⟩) (ka_96 hM43) (ra_96_6 hM43) rfl ?_
                              refine iq_iconst hS 100 J_MLineRows_relax_d99 (v := 3) (by decide +kernel) rfl ?_
                              refine iq_iload_n hS 101 J_MLineRows_relax_d100 (lk_1i l46 (by decide)) rfl ?_
                              refine iq_imul hS 102 J_MLineRows_relax_d101 rfl ?_
                              refine iq_iload_n hS 103 J_MLineRows_relax_d102 (lk_1i l47 (by decide)) rfl ?_
                              refine iq_iadd hS 104 J_MLineRows_relax_d103 rfl ?_
                              refine iq_iload hS 106 J_MLineRows_relax_d104 lk_1s rfl ?_
                              obtain ⟨g106, h⟩ := ed_gd h
                              refine iq_iastore hS 107 J_MLineRows_relax_d106 ⟨(ka_101 hM43).1, (ka_101 hM43).2, g106.1, ix_lt (kl_101 hM43) g106.2⟩ rfl ?_
                              refine iq_iconst hS 108 J_MLineRows_relax_d107 (v := 1) (by decide +kernel) rfl ?_
                              refine iq_istore_n hS 109 J_MLineRows_relax_d108 (by decide) rfl ?_
                              exact J51 _ _ _ (lw_sI hM43) (lk_1r (lk_1r l44 (by decide)) (by decide)) lk_1s (lk_1i (lk_1i l46 (by decide)) (by decide)) (lk_1i (lk_1i l47 (by decide)) (by decide)) (lk_1i (lk_1i l48 (by decide)) (by decide)) (ed_some h)
                      exact I34 n34 _ _ _ _ hM29 (lk_1r l30 (by decide)) (lk_1i l31 (by decide)) (lk_1i l32 (by decide)) (lk_1i l33 (by decide)) lk_1s hn34
                exact I21 n21 _ _ _ _ hM17 (lk_1r l18 (by decide)) (lk_1i l19 (by decide)) (lk_1i l20 (by decide)) lk_1s hn21
          exact I10 n10 _ _ _ _ hM7 (lk_1r (lk_1r l8 (by decide)) (by decide)) (lk_1i lk_1s (by decide)) lk_1s hn10
    exact I4 n4 _ _ _ hM2 (lk_1r l3 (by decide)) lk_1s hn4
  obtain ⟨r1, hr1, hq1⟩ := h
  obtain ⟨n1, hn1⟩ := lp_n hr1
  have I1 : ∀ (n : Nat) (x59 : Int32) (M60 : im_M) (L' : List (Nat × Value)), lw_S w M60 → im_lk L' 0 = some (.ref 96) → im_lk L' 1 = some (.int x59) → lpn (uc2 (f_MLineRows_relax_L2)) n (x59, M60) = some r1 → ia (tb_G L xs) (dep + 5) J_MLineRows_relax (rwV w Q) (2, L', [], M60) := by
    intro n
    induction n with
    | zero => intro x59 M60 L' hM60 l61 l62 hn; exact (lpn_0 hn).elim
    | succ n ih =>
      intro x59 M60 L' hM60 l61 l62 hn
      have h := lpn_ed2 hn
      unfold f_MLineRows_relax_L2 at h
      refine iq_iload_n hS 3 J_MLineRows_relax_d2 l62 rfl ?_
      refine iq_sipush hS 6 J_MLineRows_relax_d3 (v := 198) (by decide +kernel) rfl ?_
      refine iq_icmp_ge hS 9 J_MLineRows_relax_d6 (t := 38) rfl (fun q6 => ?_) rfl (fun q6 => ?_)
      · replace h := ed_pos q6 h
        exact K1 _ _ hM60 l61 (lq_r h hq1)
      · replace h := ed_neg q6 h
        refine iq_aload_n hS 10 J_MLineRows_relax_d9 l61 rfl ?_
        refine iq_getR hS 13 J_MLineRows_relax_d10 lf_13_128 (Or.inr ⟨_, rfl⟩) (ka_96 hM60) (ra_96_6 hM60) rfl ?_
        refine iq_iload_n hS 14 J_MLineRows_relax_d13 l62 rfl ?_
        refine iq_iload_n hS 15 J_MLineRows_relax_d14 l62 rfl ?_
        refine iq_iconst hS 16 J_MLineRows_relax_d15 (v := 3) (by decide +kernel) rfl ?_
        refine iq_idiv hS 17 J_MLineRows_relax_d16 (by decide) rfl ?_
        refine iq_aload_n hS 18 J_MLineRows_relax_d17 l61 rfl ?_
        refine iq_getI hS 21 J_MLineRows_relax_d18 lf_13_157 (Or.inl rfl) (ka_96 hM60) rfl ?_
        have J63 : ∀ (z64 : Int32) (L' : List (Nat × Value)), z64 = ((if ¬ (x59 / 3) = (im_i M60 96 5) then 9999 else 0) : Int32) → im_lk L' 0 = some (.ref 96) → im_lk L' 1 = some (.int x59) → ia (tb_G L xs) (dep + 5) J_MLineRows_relax (rwV w Q) (31, L', [.int z64, .int x59, .ref 101], M60) := by
          intro z64 L' e65 l66 l67
          subst e65
          obtain ⟨g31, h⟩ := ed_gd h
          refine iq_iastore hS 32 J_MLineRows_relax_d31 ⟨(ka_101 hM60).1, (ka_101 hM60).2, g31.1, ix_lt (kl_101 hM60) g31.2⟩ rfl ?_
          refine iq_iincv hS 35 J_MLineRows_relax_d32 (c := 1) (by decide +kernel) l67 (by decide) rfl ?_
          refine iq_goto hS J_MLineRows_relax_d35 (t := 2) rfl ?_
          exact ih _ _ _ (lw_sI hM60) (lk_1r l66 (by decide)) lk_1s (lq_l h)
        refine iq_icmp_ne hS 24 J_MLineRows_relax_d21 (t := 28) rfl (fun q21 => ?_) rfl (fun q21 => ?_)
        · refine iq_sipush hS 31 J_MLineRows_relax_d28 (v := 9999) (by decide +kernel) rfl ?_
          exact J63 _ _ (by simp only [if_pos q21]) l61 l62
        · refine iq_iconst hS 25 J_MLineRows_relax_d24 (v := 0) (by decide +kernel) rfl ?_
          refine iq_goto hS J_MLineRows_relax_d25 (t := 31) rfl ?_
          exact J63 _ _ (by simp only [if_neg q21]) l61 l62
  exact I1 n1 _ _ _ hM (lk_1r l0 (by decide)) lk_1s hn1
theorem f_MLineRows_relax_fr {M : im_M} {r : im_M} (h : f_MLineRows_relax M = some r) : fr 2535301200456458802993406410752 [] M r := by
  replace h : ed (f_MLineRows_relax M) (fun x => x = r) := ⟨r, h, rfl⟩
  unfold f_MLineRows_relax at h
  obtain ⟨Q1, hQ1, h⟩ := bd1_ed h
  have K1 : ∀ (M2 : im_M), fr 2535301200456458802993406410752 [] M M2 → Q1 M2 → fr 2535301200456458802993406410752 [] M r := by
    intro M2 hM2 h
    replace h := hQ1 _ h
    obtain ⟨Q3, hQ3, h⟩ := bd1_ed h
    have K3 : ∀ (M4 : im_M), fr 2535301200456458802993406410752 [] M M4 → Q3 M4 → fr 2535301200456458802993406410752 [] M r := by
      intro M4 hM4 h
      replace h := hQ3 _ h
      exact fr_retV h hM4
    obtain ⟨r3, hr3, hq3⟩ := h
    obtain ⟨n3, hn3⟩ := lp_n hr3
    have I3 : ∀ (n : Nat) (x5 : Int32) (M6 : im_M), fr 2535301200456458802993406410752 [] M M6 → lpn (uc2 (f_MLineRows_relax_L40)) n (x5, M6) = some r3 → fr 2535301200456458802993406410752 [] M r := by
      intro n
      induction n with
      | zero => intro x5 M6 hM6 hn; exact (lpn_0 hn).elim
      | succ n ih =>
        intro x5 M6 hM6 hn
        have h := lpn_ed2 hn
        unfold f_MLineRows_relax_L40 at h
        by_cases q41 : x5 = 0
        · replace h := ed_pos q41 h
          exact K3 _ hM6 (lq_r h hq3)
        · replace h := ed_neg q41 h
          obtain ⟨Q7, hQ7, h⟩ := bd2_ed h
          have K7 : ∀ (y8 : Int32) (M9 : im_M), fr 2535301200456458802993406410752 [] M M9 → Q7 (y8, M9) → fr 2535301200456458802993406410752 [] M r := by
            intro y8 M9 hM9 h
            replace h := hQ7 _ _ h
            exact ih _ _ hM9 (lq_l h)
          obtain ⟨r7, hr7, hq7⟩ := h
          obtain ⟨n7, hn7⟩ := lp_n hr7
          have I7 : ∀ (n : Nat) (x10 : Int32) (x11 : Int32) (M12 : im_M), fr 2535301200456458802993406410752 [] M M12 → lpn (uc3 (f_MLineRows_relax_L53)) n (x10, x11, M12) = some r7 → fr 2535301200456458802993406410752 [] M r := by
            intro n
            induction n with
            | zero => intro x10 x11 M12 hM12 hn; exact (lpn_0 hn).elim
            | succ n ih =>
              intro x10 x11 M12 hM12 hn
              have h := lpn_ed3 hn
              unfold f_MLineRows_relax_L53 at h
              by_cases q54 : x11 < 0
              · replace h := ed_pos q54 h
                exact K7 _ _ hM12 (lq_r h hq7)
              · replace h := ed_neg q54 h
                obtain ⟨Q13, hQ13, h⟩ := bd2_ed h
                have K13 : ∀ (y14 : Int32) (M15 : im_M), fr 2535301200456458802993406410752 [] M M15 → Q13 (y14, M15) → fr 2535301200456458802993406410752 [] M r := by
                  intro y14 M15 hM15 h
                  replace h := hQ13 _ _ h
                  exact ih _ _ _ hM15 (lq_l h)
                obtain ⟨r13, hr13, hq13⟩ := h
                obtain ⟨n13, hn13⟩ := lp_n hr13
                have I13 : ∀ (n : Nat) (x16 : Int32) (x17 : Int32) (M18 : im_M), fr 2535301200456458802993406410752 [] M M18 → lpn (uc3 (f_MLineRows_relax_L59 x11)) n (x16, x17, M18) = some r13 → fr 2535301200456458802993406410752 [] M r := by
                  intro n
                  induction n with
                  | zero => intro x16 x17 M18 hM18 hn; exact (lpn_0 hn).elim
                  | succ n ih =>
                    intro x16 x17 M18 hM18 hn
                    have h := lpn_ed3 hn
                    unfold f_MLineRows_relax_L59 at h
                    by_cases q61 : 2 < x17
                    · replace h := ed_pos q61 h
                      exact K13 _ _ hM18 (lq_r h hq13)
                    · replace h := ed_neg q61 h
                      obtain ⟨Q19, hQ19, h⟩ := bd2_ed h
                      have K19 : ∀ (y20 : Int32) (M21 : im_M), fr 2535301200456458802993406410752 [] M M21 → Q19 (y20, M21) → fr 2535301200456458802993406410752 [] M r := by
                        intro y20 M21 hM21 h
                        replace h := hQ19 _ _ h
                        exact ih _ _ _ hM21 (lq_l h)
                      obtain ⟨r19, hr19, hq19⟩ := h
                      obtain ⟨n19, hn19⟩ := lp_n hr19
                      have I19 : ∀ (n : Nat) (x22 : Int32) (x23 : Int32) (M24 : im_M), fr 2535301200456458802993406410752 [] M M24 → lpn (uc3 (f_MLineRows_relax_L67 x11 x17)) n (x22, x23, M24) = some r19 → fr 2535301200456458802993406410752 [] M r := by
                        intro n
                        induction n with
                        | zero => intro x22 x23 M24 hM24 hn; exact (lpn_0 hn).elim
                        | succ n ih =>
                          intro x22 x23 M24 hM24 hn
                          have h := lpn_ed3 hn
                          unfold f_MLineRows_relax_L67 at h
                          by_cases q71 : 103 ≤ x23
                          · replace h := ed_pos q71 h
                            exact K19 _ _ hM24 (lq_r h hq19)
                          · replace h := ed_neg q71 h
                            obtain ⟨Q25, hQ25, h⟩ := bd1_ed h
                            obtain ⟨x25, e25, h⟩ := h
                            replace h := hQ25 _ h
                            obtain ⟨Q26, hQ26, h⟩ := bd1_ed h
                            obtain ⟨x26, e26, h⟩ := h
                            replace h := hQ26 _ h
                            obtain ⟨Q27, hQ27, h⟩ := bd2_ed h
                            have J27 : ∀ (y28 : Int32) (M29 : im_M), fr 2535301200456458802993406410752 [] M M29 → Q27 (y28, M29) → fr 2535301200456458802993406410752 [] M r := by
                              intro y28 M29 hM29 h
                              replace h := hQ27 _ _ h
                              exact ih _ _ _ hM29 (lq_l h)
                            by_cases q92 : x26 ≤ x25
                            · replace h := ed_pos q92 h
                              exact J27 _ _ hM24 (ed_some h)
                            · replace h := ed_neg q92 h
                              obtain ⟨g106, h⟩ := ed_gd h
                              exact J27 _ _ (fr_I (by decide) hM24) (ed_some h)
                      exact I19 n19 _ _ _ hM18 hn19
                exact I13 n13 _ _ _ hM12 hn13
          exact I7 n7 _ _ _ hM6 hn7
    exact I3 n3 _ _ hM2 hn3
  obtain ⟨r1, hr1, hq1⟩ := h
  obtain ⟨n1, hn1⟩ := lp_n hr1
  have I1 : ∀ (n : Nat) (x35 : Int32) (M36 : im_M), fr 2535301200456458802993406410752 [] M M36 → lpn (uc2 (f_MLineRows_relax_L2)) n (x35, M36) = some r1 → fr 2535301200456458802993406410752 [] M r := by
    intro n
    induction n with
    | zero => intro x35 M36 hM36 hn; exact (lpn_0 hn).elim
    | succ n ih =>
      intro x35 M36 hM36 hn
      have h := lpn_ed2 hn
      unfold f_MLineRows_relax_L2 at h
      by_cases q6 : 198 ≤ x35
      · replace h := ed_pos q6 h
        exact K1 _ hM36 (lq_r h hq1)
      · replace h := ed_neg q6 h
        obtain ⟨g31, h⟩ := ed_gd h
        exact ih _ _ (fr_I (by decide) hM36) (lq_l h)
  exact I1 n1 _ _ fr_refl hn1
noncomputable def f_MLineRows_add (p0 : Int32) (M : im_M) : Option (im_M) := gd (inb (im_i M 96 8) 200) <| some (im_setI (im_setI M 102 (Int32.toNatClampNeg (im_i M 96 8)) p0) 96 8 ((im_i (im_setI M 102 (Int32.toNatClampNeg (im_i M 96 8)) p0) 96 8) + 1))
theorem J_MLineRows_add_d0 : decode J_MLineRows_add.2.1 0 = .ok (.aload_n 0, 1) := by decide +kernel
theorem J_MLineRows_add_d1 : decode J_MLineRows_add.2.1 1 = .ok (.getfield 131, 3) := by decide +kernel
theorem J_MLineRows_add_d4 : decode J_MLineRows_add.2.1 4 = .ok (.aload_n 0, 1) := by decide +kernel
theorem J_MLineRows_add_d5 : decode J_MLineRows_add.2.1 5 = .ok (.getfield 188, 3) := by decide +kernel
theorem J_MLineRows_add_d8 : decode J_MLineRows_add.2.1 8 = .ok (.iload_n 1, 1) := by decide +kernel
theorem J_MLineRows_add_d9 : decode J_MLineRows_add.2.1 9 = .ok (.iastore, 1) := by decide +kernel
theorem J_MLineRows_add_d10 : decode J_MLineRows_add.2.1 10 = .ok (.aload_n 0, 1) := by decide +kernel
theorem J_MLineRows_add_d11 : decode J_MLineRows_add.2.1 11 = .ok (.dup, 1) := by decide +kernel
theorem J_MLineRows_add_d12 : decode J_MLineRows_add.2.1 12 = .ok (.getfield 188, 3) := by decide +kernel
theorem J_MLineRows_add_d15 : decode J_MLineRows_add.2.1 15 = .ok (.iconst 1, 1) := by decide +kernel
theorem J_MLineRows_add_d16 : decode J_MLineRows_add.2.1 16 = .ok (.iadd, 1) := by decide +kernel
theorem J_MLineRows_add_d17 : decode J_MLineRows_add.2.1 17 = .ok (.putfield 188, 3) := by decide +kernel
theorem J_MLineRows_add_d20 : decode J_MLineRows_add.2.1 20 = .ok (.return_, 1) := by decide +kernel
theorem f_MLineRows_add_ok {L : Nat} {xs : Nat → Int32} {dep : Nat} {w : Bool} {p0 : Int32} {M : im_M} {Q : im_M → Prop} (hM : lw_S w M) (h : ed (f_MLineRows_add p0 M) Q) : ia (tb_G L xs) dep J_MLineRows_add (rwV w Q) (0, lv_args 0 [.ref 96, .int p0], [], M) := by
  have hS : im_St (tb_G L xs) dep J_MLineRows_add (ia (tb_G L xs) dep J_MLineRows_add (rwV w Q)) := ia_St
  unfold f_MLineRows_add at h
  have l0 : im_lk (lv_args 0 [.ref 96, .int p0]) 0 = some (.ref 96) := rfl
  have l1 : im_lk (lv_args 0 [.ref 96, .int p0]) 1 = some (.int p0) := rfl
  refine iq_aload_n hS 1 J_MLineRows_add_d0 l0 rfl ?_
  refine iq_getR hS 4 J_MLineRows_add_d1 lf_13_131 (Or.inr ⟨_, rfl⟩) (ka_96 hM) (ra_96_7 hM) rfl ?_
  refine iq_aload_n hS 5 J_MLineRows_add_d4 l0 rfl ?_
  refine iq_getI hS 8 J_MLineRows_add_d5 lf_13_188 (Or.inl rfl) (ka_96 hM) rfl ?_
  refine iq_iload_n hS 9 J_MLineRows_add_d8 l1 rfl ?_
  obtain ⟨g9, h⟩ := ed_gd h
  refine iq_iastore hS 10 J_MLineRows_add_d9 ⟨(ka_102 hM).1, (ka_102 hM).2, g9.1, ix_lt (kl_102 hM) g9.2⟩ rfl ?_
  refine iq_aload_n hS 11 J_MLineRows_add_d10 l0 rfl ?_
  refine iq_dup hS 12 J_MLineRows_add_d11 rfl rfl ?_
  refine iq_getI hS 15 J_MLineRows_add_d12 lf_13_188 (Or.inl rfl) (ka_96 (lw_sI hM)) rfl ?_
  refine iq_iconst hS 16 J_MLineRows_add_d15 (v := 1) (by decide +kernel) rfl ?_
  refine iq_iadd hS 17 J_MLineRows_add_d16 rfl ?_
  refine iq_putI hS 20 J_MLineRows_add_d17 lf_13_188 (Or.inl rfl) rfl (ka_96 (lw_sI hM)) rfl ?_
  exact iq_ret J_MLineRows_add_d20 rfl ⟨rfl, (lw_sI (lw_sI hM)), ed_some h⟩
theorem f_MLineRows_add_fr {p0 : Int32} {M : im_M} {r : im_M} (h : f_MLineRows_add p0 M = some r) : fr 5070602400912917605986812821504 [(96, 8)] M r := by
  replace h : ed (f_MLineRows_add p0 M) (fun x => x = r) := ⟨r, h, rfl⟩
  unfold f_MLineRows_add at h
  obtain ⟨g9, h⟩ := ed_gd h
  exact fr_retV h (fr_F (by decide) (fr_I (by decide) fr_refl))
noncomputable def f_MLineRows_check_L6 (v2 : Int32) (M5 : im_M) (x3 : Int32) (x4 : Int32) : Option ((Int32 × Int32) ⊕ (Int32)) := if v2 ≤ x4 then some (.inr x3) else gd (inb x4 200) <| some (.inl ((x3 + (x4 * (im_i M5 102 (Int32.toNatClampNeg x4)))), (x4 + 1)))
noncomputable def f_MLineRows_check (p1 : Int32) (M : im_M) : Option (Int32) := gd (inb 0 200) <| bd1 (lp (uc2 (f_MLineRows_check_L6 p1 M)) ((im_i M 102 (Int32.toNatClampNeg 0)), 1)) fun (y6 : Int32) => some (y6 - y6 / 103 * 103)
theorem J_MLineRows_check_d0 : decode J_MLineRows_check.2.1 0 = .ok (.aload_n 0, 1) := by decide +kernel
theorem J_MLineRows_check_d1 : decode J_MLineRows_check.2.1 1 = .ok (.iconst 0, 1) := by decide +kernel
theorem J_MLineRows_check_d2 : decode J_MLineRows_check.2.1 2 = .ok (.iaload, 1) := by decide +kernel
theorem J_MLineRows_check_d3 : decode J_MLineRows_check.2.1 3 = .ok (.istore_n 2, 1) := by decide +kernel
theorem J_MLineRows_check_d4 : decode J_MLineRows_check.2.1 4 = .ok (.iconst 1, 1) := by decide +kernel
theorem J_MLineRows_check_d5 : decode J_MLineRows_check.2.1 5 = .ok (.istore_n 3, 1) := by decide +kernel
theorem J_MLineRows_check_d6 : decode J_MLineRows_check.2.1 6 = .ok (.iload_n 3, 1) := by decide +kernel
theorem J_MLineRows_check_d7 : decode J_MLineRows_check.2.1 7 = .ok (.iload_n 1, 1) := by decide +kernel
theorem J_MLineRows_check_d8 : decode J_MLineRows_check.2.1 8 = .ok (.if_icmp .ge 17, 3) := by decide +kernel
theorem J_MLineRows_check_d11 : decode J_MLineRows_check.2.1 11 = .ok (.iload_n 2, 1) := by decide +kernel
theorem J_MLineRows_check_d12 : decode J_MLineRows_check.2.1 12 = .ok (.iload_n 3, 1) := by decide +kernel
theorem J_MLineRows_check_d13 : decode J_MLineRows_check.2.1 13 = .ok (.aload_n 0, 1) := by decide +kernel
theorem J_MLineRows_check_d14 : decode J_MLineRows_check.2.1 14 = .ok (.iload_n 3, 1) := by decide +kernel
theorem J_MLineRows_check_d15 : decode J_MLineRows_check.2.1 15 = .ok (.iaload, 1) := by decide +kernel
theorem J_MLineRows_check_d16 : decode J_MLineRows_check.2.1 16 = .ok (.imul, 1) := by decide +kernel
theorem J_MLineRows_check_d17 : decode J_MLineRows_check.2.1 17 = .ok (.iadd, 1) := by decide +kernel
theorem J_MLineRows_check_d18 : decode J_MLineRows_check.2.1 18 = .ok (.istore_n 2, 1) := by decide +kernel
theorem J_MLineRows_check_d19 : decode J_MLineRows_check.2.1 19 = .ok (.iinc 3 1, 3) := by decide +kernel
theorem J_MLineRows_check_d22 : decode J_MLineRows_check.2.1 22 = .ok (.goto (-16), 3) := by decide +kernel
theorem J_MLineRows_check_d25 : decode J_MLineRows_check.2.1 25 = .ok (.iload_n 2, 1) := by decide +kernel
theorem J_MLineRows_check_d26 : decode J_MLineRows_check.2.1 26 = .ok (.bipush 103, 2) := by decide +kernel
theorem J_MLineRows_check_d28 : decode J_MLineRows_check.2.1 28 = .ok (.irem, 1) := by decide +kernel
theorem J_MLineRows_check_d29 : decode J_MLineRows_check.2.1 29 = .ok (.ireturn, 1) := by decide +kernel
theorem f_MLineRows_check_ok {L : Nat} {xs : Nat → Int32} {dep : Nat} {w : Bool} {p1 : Int32} {M : im_M} {Q : Int32 → Prop} (hM : lw_S w M) (h : ed (f_MLineRows_check p1 M) Q) : ia (tb_G L xs) dep J_MLineRows_check (rpI M Q) (0, lv_args 0 [.ref 102, .int p1], [], M) := by
  have hS : im_St (tb_G L xs) dep J_MLineRows_check (ia (tb_G L xs) dep J_MLineRows_check (rpI M Q)) := ia_St
  unfold f_MLineRows_check at h
  have l0 : im_lk (lv_args 0 [.ref 102, .int p1]) 0 = some (.ref 102) := rfl
  have l1 : im_lk (lv_args 0 [.ref 102, .int p1]) 1 = some (.int p1) := rfl
  refine iq_aload_n hS 1 J_MLineRows_check_d0 l0 rfl ?_
  refine iq_iconst hS 2 J_MLineRows_check_d1 (v := 0) (by decide +kernel) rfl ?_
  obtain ⟨g2, h⟩ := ed_gd h
  refine iq_iaload hS 3 J_MLineRows_check_d2 ⟨(ka_102 hM).1, (ka_102 hM).2, g2.1, ix_lt (kl_102 hM) g2.2⟩ rfl ?_
  refine iq_istore_n hS 4 J_MLineRows_check_d3 (by decide) rfl ?_
  refine iq_iconst hS 5 J_MLineRows_check_d4 (v := 1) (by decide +kernel) rfl ?_
  refine iq_istore_n hS 6 J_MLineRows_check_d5 (by decide) rfl ?_
  obtain ⟨Q1, hQ1, h⟩ := bd1_ed h
  have K1 : ∀ (y2 : Int32) (L' : List (Nat × Value)), im_lk L' 2 = some (.int y2) → Q1 y2 → ia (tb_G L xs) dep J_MLineRows_check (rpI M Q) (25, L', [], M) := by
    intro y2 L' l3 h
    replace h := hQ1 _ h
    refine iq_iload_n hS 26 J_MLineRows_check_d25 l3 rfl ?_
    refine iq_bipush hS 28 J_MLineRows_check_d26 (v := 103) (by decide +kernel) rfl ?_
    refine iq_irem hS 29 J_MLineRows_check_d28 (by decide) rfl ?_
    exact iq_iret J_MLineRows_check_d29 rfl rfl ⟨_, rfl, rfl, ed_some h⟩
  obtain ⟨r1, hr1, hq1⟩ := h
  obtain ⟨n1, hn1⟩ := lp_n hr1
  have I1 : ∀ (n : Nat) (x4 : Int32) (x5 : Int32) (L' : List (Nat × Value)), im_lk L' 0 = some (.ref 102) → im_lk L' 1 = some (.int p1) → im_lk L' 2 = some (.int x4) → im_lk L' 3 = some (.int x5) → lpn (uc2 (f_MLineRows_check_L6 p1 M)) n (x4, x5) = some r1 → ia (tb_G L xs) dep J_MLineRows_check (rpI M Q) (6, L', [], M) := by
    intro n
    induction n with
    | zero => intro x4 x5 L' l6 l7 l8 l9 hn; exact (lpn_0 hn).elim
    | succ n ih =>
      intro x4 x5 L' l6 l7 l8 l9 hn
      have h := lpn_ed2 hn
      unfold f_MLineRows_check_L6 at h
      refine iq_iload_n hS 7 J_MLineRows_check_d6 l9 rfl ?_
      refine iq_iload_n hS 8 J_MLineRows_check_d7 l7 rfl ?_
      refine iq_icmp_ge hS 11 J_MLineRows_check_d8 (t := 25) rfl (fun q8 => ?_) rfl (fun q8 => ?_)
      · replace h := ed_pos q8 h
        exact K1 _ _ l8 (lq_r h hq1)
      · replace h := ed_neg q8 h
        refine iq_iload_n hS 12 J_MLineRows_check_d11 l8 rfl ?_
        refine iq_iload_n hS 13 J_MLineRows_check_d12 l9 rfl ?_
        refine iq_aload_n hS 14 J_MLineRows_check_d13 l6 rfl ?_
        refine iq_iload_n hS 15 J_MLineRows_check_d14 l9 rfl ?_
        obtain ⟨g15, h⟩ := ed_gd h
        refine iq_iaload hS 16 J_MLineRows_check_d15 ⟨(ka_102 hM).1, (ka_102 hM).2, g15.1, ix_lt (kl_102 hM) g15.2⟩ rfl ?_
        refine iq_imul hS 17 J_MLineRows_check_d16 rfl ?_
        refine iq_iadd hS 18 J_MLineRows_check_d17 rfl ?_
        refine iq_istore_n hS 19 J_MLineRows_check_d18 (by decide) rfl ?_
        refine iq_iincv hS 22 J_MLineRows_check_d19 (c := 1) (by decide +kernel) (lk_1i l9 (by decide)) (by decide) rfl ?_
        refine iq_goto hS J_MLineRows_check_d22 (t := 6) rfl ?_
        exact ih _ _ _ (lk_1r (lk_1r l6 (by decide)) (by decide)) (lk_1i (lk_1i l7 (by decide)) (by decide)) (lk_1i lk_1s (by decide)) lk_1s (lq_l h)
  exact I1 n1 _ _ _ (lk_1r (lk_1r l0 (by decide)) (by decide)) (lk_1i (lk_1i l1 (by decide)) (by decide)) (lk_1i lk_1s (by decide)) lk_1s hn1
noncomputable def f_MLineRows_pack_L13 (M5 : im_M) (x3 : Int32) (x4 : Int32) : Option ((Int32 × Int32) ⊕ (Int32)) := if 2 < x4 then some (.inr x3) else bd1 (f_MLineRows_leastAt 0 x4 M5) fun (x6 : Int32) => bd1 (f_MLineRows_leastAt 0 x3 M5) fun (x7 : Int32) => some (.inl (((if x7 ≤ x6 then x3 else x4) : Int32), (x4 + 1)))
noncomputable def f_MLineRows_pack_L71 (v17 : Int32) (v18 : Int32) (M20 : im_M) (x19 : Int32) : Option ((Int32) ⊕ (Int32)) := bd1 (f_MLineRows_with v18 v17 x19 M20) fun (x21 : Int32) => bd1 (f_MLineRows_leastAt v18 v17 M20) fun (x22 : Int32) => if x21 = x22 then some (.inr x19) else some (.inl (x19 + 1))
noncomputable def f_MLineRows_pack_L130 (v29 : Int32) (v30 : Int32) (M32 : im_M) (x31 : Int32) : Option ((Int32) ⊕ (Int32)) := bd1 (f_MLineRows_tells v30 ((1 : Int32) - v29) x31 M32) fun (x33 : Int32) => if x33 = 1 then some (.inr x31) else some (.inl (x31 + 1))
noncomputable def f_MLineRows_pack_L60 (x12 : Int32) (x13 : Int32) (M14 : im_M) : Option ((Int32 × Int32 × im_M) ⊕ (im_M)) := bd1 (f_MLineRows_leastAt x13 x12 M14) fun (x15 : Int32) => if x15 ≤ 0 then some (.inr M14) else bd1 (lp (uc1 (f_MLineRows_pack_L71 x12 x13 M14)) 0) fun (y23 : Int32) => bd1 (f_MLineRows_add y23 M14) fun (M24 : im_M) => bd1 (f_MLineRows_tells x13 x12 y23 M24) fun (x25 : Int32) => bd3 (if x25 ≤ 0 then if ¬ y23 = 98 then bd1 (f_MLineRows_goes x12 y23 M24) fun (x27 : Int32) => some (x27, x13, M24) else bd1 (lp (uc1 (f_MLineRows_pack_L130 x12 x13 M24)) 0) fun (y34 : Int32) => bd1 (f_MLineRows_add y34 M24) fun (M35 : im_M) => some (x12, (x13 + 1), M35) else bd1 (f_MLineRows_tells x13 x12 y23 M24) fun (x36 : Int32) => some (x12, (x13 + x36), M24)) fun (y37 : Int32) (y38 : Int32) (M39 : im_M) => some (.inl (y37, y38, M39))
noncomputable def f_MLineRows_pack (M : im_M) : Option (Int32 × im_M) := bd1 (f_MLineRows_relax (im_setI M 96 3 0)) fun (M1 : im_M) => bd1 (lp (uc2 (f_MLineRows_pack_L13 M1)) (0, 1)) fun (y9 : Int32) => bd1 (f_MLineRows_add ((103 : Int32) + y9) (im_setI M1 96 8 0)) fun (M10 : im_M) => bd1 (lp (uc3 (f_MLineRows_pack_L60)) (y9, 0, M10)) fun (M43 : im_M) => bd1 (f_MLineRows_check (im_i M43 96 8) M43) fun (x44 : Int32) => bd1 (f_MLineRows_add x44 M43) fun (M45 : im_M) => bd1 (f_MLineRows_add 106 M45) fun (M46 : im_M) => some ((im_i M46 96 8), M46)
theorem J_MLineRows_pack_d0 : decode J_MLineRows_pack.2.1 0 = .ok (.aload_n 0, 1) := by decide +kernel
theorem J_MLineRows_pack_d1 : decode J_MLineRows_pack.2.1 1 = .ok (.iconst 0, 1) := by decide +kernel
theorem J_MLineRows_pack_d2 : decode J_MLineRows_pack.2.1 2 = .ok (.putfield 149, 3) := by decide +kernel
theorem J_MLineRows_pack_d5 : decode J_MLineRows_pack.2.1 5 = .ok (.aload_n 0, 1) := by decide +kernel
theorem J_MLineRows_pack_d6 : decode J_MLineRows_pack.2.1 6 = .ok (.invokevirtual 191, 3) := by decide +kernel
theorem J_MLineRows_pack_d9 : decode J_MLineRows_pack.2.1 9 = .ok (.iconst 0, 1) := by decide +kernel
theorem J_MLineRows_pack_d10 : decode J_MLineRows_pack.2.1 10 = .ok (.istore_n 1, 1) := by decide +kernel
theorem J_MLineRows_pack_d11 : decode J_MLineRows_pack.2.1 11 = .ok (.iconst 1, 1) := by decide +kernel
theorem J_MLineRows_pack_d12 : decode J_MLineRows_pack.2.1 12 = .ok (.istore_n 2, 1) := by decide +kernel
theorem J_MLineRows_pack_d13 : decode J_MLineRows_pack.2.1 13 = .ok (.iload_n 2, 1) := by decide +kernel
theorem J_MLineRows_pack_d14 : decode J_MLineRows_pack.2.1 14 = .ok (.iconst 2, 1) := by decide +kernel
theorem J_MLineRows_pack_d15 : decode J_MLineRows_pack.2.1 15 = .ok (.if_icmp .gt 30, 3) := by decide +kernel
theorem J_MLineRows_pack_d18 : decode J_MLineRows_pack.2.1 18 = .ok (.aload_n 0, 1) := by decide +kernel
theorem J_MLineRows_pack_d19 : decode J_MLineRows_pack.2.1 19 = .ok (.iconst 0, 1) := by decide +kernel
theorem J_MLineRows_pack_d20 : decode J_MLineRows_pack.2.1 20 = .ok (.iload_n 2, 1) := by decide +kernel
theorem J_MLineRows_pack_d21 : decode J_MLineRows_pack.2.1 21 = .ok (.invokevirtual 176, 3) := by decide +kernel
theorem J_MLineRows_pack_d24 : decode J_MLineRows_pack.2.1 24 = .ok (.aload_n 0, 1) := by decide +kernel
theorem J_MLineRows_pack_d25 : decode J_MLineRows_pack.2.1 25 = .ok (.iconst 0, 1) := by decide +kernel
theorem J_MLineRows_pack_d26 : decode J_MLineRows_pack.2.1 26 = .ok (.iload_n 1, 1) := by decide +kernel
theorem J_MLineRows_pack_d27 : decode J_MLineRows_pack.2.1 27 = .ok (.invokevirtual 176, 3) := by decide +kernel
theorem J_MLineRows_pack_d30 : decode J_MLineRows_pack.2.1 30 = .ok (.if_icmp .ge 7, 3) := by decide +kernel
theorem J_MLineRows_pack_d33 : decode J_MLineRows_pack.2.1 33 = .ok (.iload_n 2, 1) := by decide +kernel
theorem J_MLineRows_pack_d34 : decode J_MLineRows_pack.2.1 34 = .ok (.goto 4, 3) := by decide +kernel
theorem J_MLineRows_pack_d37 : decode J_MLineRows_pack.2.1 37 = .ok (.iload_n 1, 1) := by decide +kernel
theorem J_MLineRows_pack_d38 : decode J_MLineRows_pack.2.1 38 = .ok (.istore_n 1, 1) := by decide +kernel
theorem J_MLineRows_pack_d39 : decode J_MLineRows_pack.2.1 39 = .ok (.iinc 2 1, 3) := by decide +kernel
theorem J_MLineRows_pack_d42 : decode J_MLineRows_pack.2.1 42 = .ok (.goto (-29), 3) := by decide +kernel
theorem J_MLineRows_pack_d45 : decode J_MLineRows_pack.2.1 45 = .ok (.aload_n 0, 1) := by decide +kernel
theorem J_MLineRows_pack_d46 : decode J_MLineRows_pack.2.1 46 = .ok (.iconst 0, 1) := by decide +kernel
theorem J_MLineRows_pack_d47 : decode J_MLineRows_pack.2.1 47 = .ok (.putfield 188, 3) := by decide +kernel
theorem J_MLineRows_pack_d50 : decode J_MLineRows_pack.2.1 50 = .ok (.aload_n 0, 1) := by decide +kernel
theorem J_MLineRows_pack_d51 : decode J_MLineRows_pack.2.1 51 = .ok (.bipush 103, 2) := by decide +kernel
theorem J_MLineRows_pack_d53 : decode J_MLineRows_pack.2.1 53 = .ok (.iload_n 1, 1) := by decide +kernel
theorem J_MLineRows_pack_d54 : decode J_MLineRows_pack.2.1 54 = .ok (.iadd, 1) := by decide +kernel
theorem J_MLineRows_pack_d55 : decode J_MLineRows_pack.2.1 55 = .ok (.invokevirtual 194, 3) := by decide +kernel
theorem J_MLineRows_pack_d58 : decode J_MLineRows_pack.2.1 58 = .ok (.iconst 0, 1) := by decide +kernel
theorem J_MLineRows_pack_d59 : decode J_MLineRows_pack.2.1 59 = .ok (.istore_n 2, 1) := by decide +kernel
theorem J_MLineRows_pack_d60 : decode J_MLineRows_pack.2.1 60 = .ok (.aload_n 0, 1) := by decide +kernel
theorem J_MLineRows_pack_d61 : decode J_MLineRows_pack.2.1 61 = .ok (.iload_n 2, 1) := by decide +kernel
theorem J_MLineRows_pack_d62 : decode J_MLineRows_pack.2.1 62 = .ok (.iload_n 1, 1) := by decide +kernel
theorem J_MLineRows_pack_d63 : decode J_MLineRows_pack.2.1 63 = .ok (.invokevirtual 176, 3) := by decide +kernel
theorem J_MLineRows_pack_d66 : decode J_MLineRows_pack.2.1 66 = .ok (.ifCond .le 105, 3) := by decide +kernel
theorem J_MLineRows_pack_d69 : decode J_MLineRows_pack.2.1 69 = .ok (.iconst 0, 1) := by decide +kernel
theorem J_MLineRows_pack_d70 : decode J_MLineRows_pack.2.1 70 = .ok (.istore_n 3, 1) := by decide +kernel
theorem J_MLineRows_pack_d71 : decode J_MLineRows_pack.2.1 71 = .ok (.aload_n 0, 1) := by decide +kernel
theorem J_MLineRows_pack_d72 : decode J_MLineRows_pack.2.1 72 = .ok (.iload_n 2, 1) := by decide +kernel
theorem J_MLineRows_pack_d73 : decode J_MLineRows_pack.2.1 73 = .ok (.iload_n 1, 1) := by decide +kernel
theorem J_MLineRows_pack_d74 : decode J_MLineRows_pack.2.1 74 = .ok (.iload_n 3, 1) := by decide +kernel
theorem J_MLineRows_pack_d75 : decode J_MLineRows_pack.2.1 75 = .ok (.invokevirtual 185, 3) := by decide +kernel
theorem J_MLineRows_pack_d78 : decode J_MLineRows_pack.2.1 78 = .ok (.aload_n 0, 1) := by decide +kernel
theorem J_MLineRows_pack_d79 : decode J_MLineRows_pack.2.1 79 = .ok (.iload_n 2, 1) := by decide +kernel
theorem J_MLineRows_pack_d80 : decode J_MLineRows_pack.2.1 80 = .ok (.iload_n 1, 1) := by decide +kernel
theorem J_MLineRows_pack_d81 : decode J_MLineRows_pack.2.1 81 = .ok (.invokevirtual 176, 3) := by decide +kernel
theorem J_MLineRows_pack_d84 : decode J_MLineRows_pack.2.1 84 = .ok (.if_icmp .eq 9, 3) := by decide +kernel
theorem J_MLineRows_pack_d87 : decode J_MLineRows_pack.2.1 87 = .ok (.iinc 3 1, 3) := by decide +kernel
theorem J_MLineRows_pack_d90 : decode J_MLineRows_pack.2.1 90 = .ok (.goto (-19), 3) := by decide +kernel
theorem J_MLineRows_pack_d93 : decode J_MLineRows_pack.2.1 93 = .ok (.aload_n 0, 1) := by decide +kernel
theorem J_MLineRows_pack_d94 : decode J_MLineRows_pack.2.1 94 = .ok (.iload_n 3, 1) := by decide +kernel
theorem J_MLineRows_pack_d95 : decode J_MLineRows_pack.2.1 95 = .ok (.invokevirtual 194, 3) := by decide +kernel
theorem J_MLineRows_pack_d98 : decode J_MLineRows_pack.2.1 98 = .ok (.aload_n 0, 1) := by decide +kernel
theorem J_MLineRows_pack_d99 : decode J_MLineRows_pack.2.1 99 = .ok (.iload_n 2, 1) := by decide +kernel
theorem J_MLineRows_pack_d100 : decode J_MLineRows_pack.2.1 100 = .ok (.iload_n 1, 1) := by decide +kernel
theorem J_MLineRows_pack_d101 : decode J_MLineRows_pack.2.1 101 = .ok (.iload_n 3, 1) := by decide +kernel
theorem J_MLineRows_pack_d102 : decode J_MLineRows_pack.2.1 102 = .ok (.invokevirtual 172, 3) := by decide +kernel
theorem J_MLineRows_pack_d105 : decode J_MLineRows_pack.2.1 105 = .ok (.ifCond .le 16, 3) := by decide +kernel
theorem J_MLineRows_pack_d108 : decode J_MLineRows_pack.2.1 108 = .ok (.iload_n 2, 1) := by decide +kernel
theorem J_MLineRows_pack_d109 : decode J_MLineRows_pack.2.1 109 = .ok (.aload_n 0, 1) := by decide +kernel
theorem J_MLineRows_pack_d110 : decode J_MLineRows_pack.2.1 110 = .ok (.iload_n 2, 1) := by decide +kernel
theorem J_MLineRows_pack_d111 : decode J_MLineRows_pack.2.1 111 = .ok (.iload_n 1, 1) := by decide +kernel
theorem J_MLineRows_pack_d112 : decode J_MLineRows_pack.2.1 112 = .ok (.iload_n 3, 1) := by decide +kernel
theorem J_MLineRows_pack_d113 : decode J_MLineRows_pack.2.1 113 = .ok (.invokevirtual 172, 3) := by decide +kernel
theorem J_MLineRows_pack_d116 : decode J_MLineRows_pack.2.1 116 = .ok (.iadd, 1) := by decide +kernel
theorem J_MLineRows_pack_d117 : decode J_MLineRows_pack.2.1 117 = .ok (.istore_n 2, 1) := by decide +kernel
theorem J_MLineRows_pack_d118 : decode J_MLineRows_pack.2.1 118 = .ok (.goto 50, 3) := by decide +kernel
theorem J_MLineRows_pack_d121 : decode J_MLineRows_pack.2.1 121 = .ok (.iload_n 3, 1) := by decide +kernel
theorem J_MLineRows_pack_d122 : decode J_MLineRows_pack.2.1 122 = .ok (.bipush 98, 2) := by decide +kernel
theorem J_MLineRows_pack_d124 : decode J_MLineRows_pack.2.1 124 = .ok (.if_icmp .ne 38, 3) := by decide +kernel
theorem J_MLineRows_pack_d127 : decode J_MLineRows_pack.2.1 127 = .ok (.iconst 0, 1) := by decide +kernel
theorem J_MLineRows_pack_d128 : decode J_MLineRows_pack.2.1 128 = .ok (.istore 4, 2) := by decide +kernel
theorem J_MLineRows_pack_d130 : decode J_MLineRows_pack.2.1 130 = .ok (.aload_n 0, 1) := by decide +kernel
theorem J_MLineRows_pack_d131 : decode J_MLineRows_pack.2.1 131 = .ok (.iload_n 2, 1) := by decide +kernel
theorem J_MLineRows_pack_d132 : decode J_MLineRows_pack.2.1 132 = .ok (.iconst 1, 1) := by decide +kernel
theorem J_MLineRows_pack_d133 : decode J_MLineRows_pack.2.1 133 = .ok (.iload_n 1, 1) := by decide +kernel
theorem J_MLineRows_pack_d134 : decode J_MLineRows_pack.2.1 134 = .ok (.isub, 1) := by decide +kernel
theorem J_MLineRows_pack_d135 : decode J_MLineRows_pack.2.1 135 = .ok (.iload 4, 2) := by decide +kernel
theorem J_MLineRows_pack_d137 : decode J_MLineRows_pack.2.1 137 = .ok (.invokevirtual 172, 3) := by decide +kernel
theorem J_MLineRows_pack_d140 : decode J_MLineRows_pack.2.1 140 = .ok (.iconst 1, 1) := by decide +kernel
theorem J_MLineRows_pack_d141 : decode J_MLineRows_pack.2.1 141 = .ok (.if_icmp .eq 9, 3) := by decide +kernel
theorem J_MLineRows_pack_d144 : decode J_MLineRows_pack.2.1 144 = .ok (.iinc 4 1, 3) := by decide +kernel
theorem J_MLineRows_pack_d147 : decode J_MLineRows_pack.2.1 147 = .ok (.goto (-17), 3) := by decide +kernel
theorem J_MLineRows_pack_d150 : decode J_MLineRows_pack.2.1 150 = .ok (.aload_n 0, 1) := by decide +kernel
theorem J_MLineRows_pack_d151 : decode J_MLineRows_pack.2.1 151 = .ok (.iload 4, 2) := by decide +kernel
theorem J_MLineRows_pack_d153 : decode J_MLineRows_pack.2.1 153 = .ok (.invokevirtual 194, 3) := by decide +kernel
theorem J_MLineRows_pack_d156 : decode J_MLineRows_pack.2.1 156 = .ok (.iinc 2 1, 3) := by decide +kernel
theorem J_MLineRows_pack_d159 : decode J_MLineRows_pack.2.1 159 = .ok (.goto 9, 3) := by decide +kernel
theorem J_MLineRows_pack_d162 : decode J_MLineRows_pack.2.1 162 = .ok (.iload_n 1, 1) := by decide +kernel
theorem J_MLineRows_pack_d163 : decode J_MLineRows_pack.2.1 163 = .ok (.iload_n 3, 1) := by decide +kernel
theorem J_MLineRows_pack_d164 : decode J_MLineRows_pack.2.1 164 = .ok (.invokestatic 179, 3) := by decide +kernel
theorem J_MLineRows_pack_d167 : decode J_MLineRows_pack.2.1 167 = .ok (.istore_n 1, 1) := by decide +kernel
theorem J_MLineRows_pack_d168 : decode J_MLineRows_pack.2.1 168 = .ok (.goto (-108), 3) := by decide +kernel
theorem J_MLineRows_pack_d171 : decode J_MLineRows_pack.2.1 171 = .ok (.aload_n 0, 1) := by decide +kernel
theorem J_MLineRows_pack_d172 : decode J_MLineRows_pack.2.1 172 = .ok (.aload_n 0, 1) := by decide +kernel
theorem J_MLineRows_pack_d173 : decode J_MLineRows_pack.2.1 173 = .ok (.getfield 131, 3) := by decide +kernel
theorem J_MLineRows_pack_d176 : decode J_MLineRows_pack.2.1 176 = .ok (.aload_n 0, 1) := by decide +kernel
theorem J_MLineRows_pack_d177 : decode J_MLineRows_pack.2.1 177 = .ok (.getfield 188, 3) := by decide +kernel
theorem J_MLineRows_pack_d180 : decode J_MLineRows_pack.2.1 180 = .ok (.invokestatic 198, 3) := by decide +kernel
theorem J_MLineRows_pack_d183 : decode J_MLineRows_pack.2.1 183 = .ok (.invokevirtual 194, 3) := by decide +kernel
theorem J_MLineRows_pack_d186 : decode J_MLineRows_pack.2.1 186 = .ok (.aload_n 0, 1) := by decide +kernel
theorem J_MLineRows_pack_d187 : decode J_MLineRows_pack.2.1 187 = .ok (.bipush 106, 2) := by decide +kernel
theorem J_MLineRows_pack_d189 : decode J_MLineRows_pack.2.1 189 = .ok (.invokevirtual 194, 3) := by decide +kernel
theorem J_MLineRows_pack_d192 : decode J_MLineRows_pack.2.1 192 = .ok (.aload_n 0, 1) := by decide +kernel
theorem J_MLineRows_pack_d193 : decode J_MLineRows_pack.2.1 193 = .ok (.getfield 188, 3) := by decide +kernel
theorem J_MLineRows_pack_d196 : decode J_MLineRows_pack.2.1 196 = .ok (.ireturn, 1) := by decide +kernel
theorem f_MLineRows_pack_ok {L : Nat} {xs : Nat → Int32} {dep : Nat} {w : Bool} {M : im_M} {Q : Int32 × im_M → Prop} (hM : lw_S w M) (h : ed (f_MLineRows_pack M) Q) : ia (tb_G L xs) (dep + 6) J_MLineRows_pack (rwI w Q) (0, lv_args 0 [.ref 96], [], M) := by
  have hS : im_St (tb_G L xs) (dep + 6) J_MLineRows_pack (ia (tb_G L xs) (dep + 6) J_MLineRows_pack (rwI w Q)) := ia_St
  unfold f_MLineRows_pack at h
  have l0 : im_lk (lv_args 0 [.ref 96]) 0 = some (.ref 96) := rfl
  refine iq_aload_n hS 1 J_MLineRows_pack_d0 l0 rfl ?_
  refine iq_iconst hS 2 J_MLineRows_pack_d1 (v := 0) (by decide +kernel) rfl ?_
  refine iq_putI hS 5 J_MLineRows_pack_d2 lf_13_149 (Or.inl rfl) rfl (ka_96 hM) rfl ?_
  refine iq_aload_n hS 6 J_MLineRows_pack_d5 l0 rfl ?_
  obtain ⟨Q1, hQ1, h⟩ := bd1_ed h
  refine iq_cwV hS 9 J_MLineRows_pack_d6 rfl (pr_inst (vs := []) lc_13_191 lT_361 rfl rfl (by decide) (by decide) rfl (Nat.le_of_ble_eq_true rfl) (Nat.le_of_ble_eq_true rfl) (fun _ => Or.inl (pr_b (ka_96 (lw_sI hM)) (by decide) rfl))) (f_MLineRows_relax_ok (dep := dep + 0) (lw_sI hM) h) rfl ?_
  intro M1 hM1 h
  replace h := hQ1 _ h
  refine iq_iconst hS 10 J_MLineRows_pack_d9 (v := 0) (by decide +kernel) rfl ?_
  refine iq_istore_n hS 11 J_MLineRows_pack_d10 (by decide) rfl ?_
  refine iq_iconst hS 12 J_MLineRows_pack_d11 (v := 1) (by decide +kernel) rfl ?_
  refine iq_istore_n hS 13 J_MLineRows_pack_d12 (by decide) rfl ?_
  obtain ⟨Q2, hQ2, h⟩ := bd1_ed h
  have K2 : ∀ (y3 : Int32) (L' : List (Nat × Value)), im_lk L' 0 = some (.ref 96) → im_lk L' 1 = some (.int y3) → Q2 y3 → ia (tb_G L xs) (dep + 6) J_MLineRows_pack (rwI w Q) (45, L', [], M1) := by
    intro y3 L' l4 l5 h
    replace h := hQ2 _ h
    refine iq_aload_n hS 46 J_MLineRows_pack_d45 l4 rfl ?_
    refine iq_iconst hS 47 J_MLineRows_pack_d46 (v := 0) (by decide +kernel) rfl ?_
    refine iq_putI hS 50 J_MLineRows_pack_d47 lf_13_188 (Or.inl rfl) rfl (ka_96 hM1) rfl ?_
    refine iq_aload_n hS 51 J_MLineRows_pack_d50 l4 rfl ?_
    refine iq_bipush hS 53 J_MLineRows_pack_d51 (v := 103) (by decide +kernel) rfl ?_
    refine iq_iload_n hS 54 J_MLineRows_pack_d53 l5 rfl ?_
    refine iq_iadd hS 55 J_MLineRows_pack_d54 rfl ?_
    obtain ⟨Q6, hQ6, h⟩ := bd1_ed h
    refine iq_cwV hS 58 J_MLineRows_pack_d55 rfl (pr_inst (vs := [_]) lc_13_194 lT_370 rfl rfl (by decide) (by decide) rfl (Nat.le_of_ble_eq_true rfl) (Nat.le_of_ble_eq_true rfl) (fun _ => Or.inl (pr_b (ka_96 (lw_sI hM1)) (by decide) rfl))) (f_MLineRows_add_ok (dep := dep + 5) (lw_sI hM1) h) rfl ?_
    intro M6 hM6 h
    replace h := hQ6 _ h
    refine iq_iconst hS 59 J_MLineRows_pack_d58 (v := 0) (by decide +kernel) rfl ?_
    refine iq_istore_n hS 60 J_MLineRows_pack_d59 (by decide) rfl ?_
    obtain ⟨Q7, hQ7, h⟩ := bd1_ed h
    have K7 : ∀ (M8 : im_M) (L' : List (Nat × Value)), lw_S w M8 → im_lk L' 0 = some (.ref 96) → Q7 M8 → ia (tb_G L xs) (dep + 6) J_MLineRows_pack (rwI w Q) (171, L', [], M8) := by
      intro M8 L' hM8 l9 h
      replace h := hQ7 _ h
      refine iq_aload_n hS 172 J_MLineRows_pack_d171 l9 rfl ?_
      refine iq_aload_n hS 173 J_MLineRows_pack_d172 l9 rfl ?_
      refine iq_getR hS 176 J_MLineRows_pack_d173 lf_13_131 (Or.inr ⟨_, rfl⟩) (ka_96 hM8) (ra_96_7 hM8) rfl ?_
      refine iq_aload_n hS 177 J_MLineRows_pack_d176 l9 rfl ?_
      refine iq_getI hS 180 J_MLineRows_pack_d177 lf_13_188 (Or.inl rfl) (ka_96 hM8) rfl ?_
      obtain ⟨Q10, hQ10, h⟩ := bd1_ed h
      refine iq_cpI hS 183 J_MLineRows_pack_d180 rfl (pr_stat (vs := [_, _]) lc_13_198 lT_371 rfl rfl (by decide) rfl (Nat.le_of_ble_eq_true rfl) (Nat.le_of_ble_eq_true rfl)) (f_MLineRows_check_ok (dep := dep + 5) hM8 h) rfl ?_
      intro x10 h
      replace h := hQ10 _ h
      obtain ⟨Q11, hQ11, h⟩ := bd1_ed h
      refine iq_cwV hS 186 J_MLineRows_pack_d183 rfl (pr_inst (vs := [_]) lc_13_194 lT_370 rfl rfl (by decide) (by decide) rfl (Nat.le_of_ble_eq_true rfl) (Nat.le_of_ble_eq_true rfl) (fun _ => Or.inl (pr_b (ka_96 hM8) (by decide) rfl))) (f_MLineRows_add_ok (dep := dep + 5) hM8 h) rfl ?_
      intro M11 hM11 h
      replace h := hQ11 _ h
      refine iq_aload_n hS 187 J_MLineRows_pack_d186 l9 rfl ?_
      refine iq_bipush hS 189 J_MLineRows_pack_d187 (v := 106) (by decide +kernel) rfl ?_
      obtain ⟨Q12, hQ12, h⟩ := bd1_ed h
      refine iq_cwV hS 192 J_MLineRows_pack_d189 rfl (pr_inst (vs := [_]) lc_13_194 lT_370 rfl rfl (by decide) (by decide) rfl (Nat.le_of_ble_eq_true rfl) (Nat.le_of_ble_eq_true rfl) (fun _ => Or.inl (pr_b (ka_96 hM11) (by decide) rfl))) (f_MLineRows_add_ok (dep := dep + 5) hM11 h) rfl ?_
      intro M12 hM12 h
      replace h := hQ12 _ h
      refine iq_aload_n hS 193 J_MLineRows_pack_d192 l9 rfl ?_
      refine iq_getI hS 196 J_MLineRows_pack_d193 lf_13_188 (Or.inl rfl) (ka_96 hM12) rfl ?_
      exact iq_iret J_MLineRows_pack_d196 rfl rfl ⟨_, rfl, hM12, ed_some h⟩
    obtain ⟨r7, hr7, hq7⟩ := h
    obtain ⟨n7, hn7⟩ := lp_n hr7
    have I7 : ∀ (n : Nat) (x13 : Int32) (x14 : Int32) (M15 : im_M) (L' : List (Nat × Value)), lw_S w M15 → im_lk L' 0 = some (.ref 96) → im_lk L' 1 = some (.int x13) → im_lk L' 2 = some (.int x14) → lpn (uc3 (f_MLineRows_pack_L60)) n (x13, x14, M15) = some r7 → ia (tb_G L xs) (dep + 6) J_MLineRows_pack (rwI w Q) (60, L', [], M15) := by
      intro n
      induction n with
      | zero => intro x13 x14 M15 L' hM15 l16 l17 l18 hn; exact (lpn_0 hn).elim
      | succ n ih =>
        intro x13 x14 M15 L' hM15 l16 l17 l18 hn
        have h := lpn_ed3 hn
        unfold f_MLineRows_pack_L60 at h
        refine iq_aload_n hS 61 J_MLineRows_pack_d60 l16 rfl ?_
        refine iq_iload_n hS 62 J_MLineRows_pack_d61 l18 rfl ?_
        refine iq_iload_n hS 63 J_MLineRows_pack_d62 l17 rfl ?_
        obtain ⟨Q19, hQ19, h⟩ := bd1_ed h
        refine iq_cpI hS 66 J_MLineRows_pack_d63 rfl (pr_inst (vs := [_, _]) lc_13_176 lT_367 rfl rfl (by decide) (by decide) rfl (Nat.le_of_ble_eq_true rfl) (Nat.le_of_ble_eq_true rfl) (fun _ => Or.inl (pr_b (ka_96 hM15) (by decide) rfl))) (f_MLineRows_leastAt_ok (dep := dep + 5) hM15 h) rfl ?_
        intro x19 h
        replace h := hQ19 _ h
        refine iq_if_le hS 69 J_MLineRows_pack_d66 (t := 171) rfl (fun q66 => ?_) rfl (fun q66 => ?_)
        · replace h := ed_pos q66 h
          exact K7 _ _ hM15 l16 (lq_r h hq7)
        · replace h := ed_neg q66 h
          refine iq_iconst hS 70 J_MLineRows_pack_d69 (v := 0) (by decide +kernel) rfl ?_
          refine iq_istore_n hS 71 J_MLineRows_pack_d70 (by decide) rfl ?_
          obtain ⟨Q20, hQ20, h⟩ := bd1_ed h
          have K20 : ∀ (y21 : Int32) (L' : List (Nat × Value)), im_lk L' 0 = some (.ref 96) → im_lk L' 1 = some (.int x13) → im_lk L' 2 = some (.int x14) → im_lk L' 3 = some (.int y21) → Q20 y21 → ia (tb_G L xs) (dep + 6) J_MLineRows_pack (rwI w Q) (93, L', [], M15) := by
            intro y21 L' l22 l23 l24 l25 h
            replace h := hQ20 _ h
            refine iq_aload_n hS 94 J_MLineRows_pack_d93 l22 rfl ?_
            refine iq_iload_n hS 95 J_MLineRows_pack_d94 l25 rfl ?_
            obtain ⟨Q26, hQ26, h⟩ := bd1_ed h
            refine iq_cwV hS 98 J_MLineRows_pack_d95 rfl (pr_inst (vs := [_]) lc_13_194 lT_370 rfl rfl (by decide) (by decide) rfl (Nat.le_of_ble_eq_true rfl) (Nat.le_of_ble_eq_true rfl) (fun _ => Or.inl (pr_b (ka_96 hM15) (by decide) rfl))) (f_MLineRows_add_ok (dep := dep + 5) hM15 h) rfl ?_
            intro M26 hM26 h
            replace h := hQ26 _ h
            refine iq_aload_n hS 99 J_MLineRows_pack_d98 l22 rfl ?_
            refine iq_iload_n hS 100 J_MLineRows_pack_d99 l24 rfl ?_
            refine iq_iload_n hS 101 J_MLineRows_pack_d100 l23 rfl ?_
            refine iq_iload_n hS 102 J_MLineRows_pack_d101 l25 rfl ?_
            obtain ⟨Q27, hQ27, h⟩ := bd1_ed h
            refine iq_cpI hS 105 J_MLineRows_pack_d102 rfl (pr_inst (vs := [_, _, _]) lc_13_172 lT_363 rfl rfl (by decide) (by decide) rfl (Nat.le_of_ble_eq_true rfl) (Nat.le_of_ble_eq_true rfl) (fun _ => Or.inl (pr_b (ka_96 hM26) (by decide) rfl))) (f_MLineRows_tells_ok (dep := dep + 3) hM26 h) rfl ?_
            intro x27 h
            replace h := hQ27 _ h
            obtain ⟨Q28, hQ28, h⟩ := bd3_ed h
            have J28 : ∀ (y44 : Int32) (y45 : Int32) (M46 : im_M) (L' : List (Nat × Value)), lw_S w M46 → im_lk L' 0 = some (.ref 96) → im_lk L' 1 = some (.int y44) → im_lk L' 2 = some (.int y45) → Q28 (y44, y45, M46) → ia (tb_G L xs) (dep + 6) J_MLineRows_pack (rwI w Q) (168, L', [], M46) := by
              intro y44 y45 M46 L' hM46 l47 l48 l49 h
              replace h := hQ28 _ _ _ h
              refine iq_goto hS J_MLineRows_pack_d168 (t := 60) rfl ?_
              exact ih _ _ _ _ hM46 l47 l48 l49 (lq_l h)
            refine iq_if_le hS 108 J_MLineRows_pack_d105 (t := 121) rfl (fun q105 => ?_) rfl (fun q105 => ?_)
            · replace h := ed_pos q105 h
              refine iq_iload_n hS 122 J_MLineRows_pack_d121 l25 rfl ?_
              refine iq_bipush hS 124 J_MLineRows_pack_d122 (v := 98) (by decide +kernel) rfl ?_
              refine iq_icmp_ne hS 127 J_MLineRows_pack_d124 (t := 162) rfl (fun q124 => ?_) rfl (fun q124 => ?_)
              · replace h := ed_pos q124 h
                refine iq_iload_n hS 163 J_MLineRows_pack_d162 l23 rfl ?_
                refine iq_iload_n hS 164 J_MLineRows_pack_d163 l25 rfl ?_
                obtain ⟨Q29, hQ29, h⟩ := bd1_ed h
                refine iq_cpI hS 167 J_MLineRows_pack_d164 rfl (pr_stat (vs := [_, _]) lc_13_179 lT_368 rfl rfl (by decide) rfl (Nat.le_of_ble_eq_true rfl) (Nat.le_of_ble_eq_true rfl)) (f_MLineRows_goes_ok (dep := dep + 5) hM26 h) rfl ?_
                intro x29 h
                replace h := hQ29 _ h
                refine iq_istore_n hS 168 J_MLineRows_pack_d167 (by decide) rfl ?_
                exact J28 _ _ _ _ hM26 (lk_1r l22 (by decide)) lk_1s (lk_1i l24 (by decide)) (ed_some h)
              · replace h := ed_neg q124 h
                refine iq_iconst hS 128 J_MLineRows_pack_d127 (v := 0) (by decide +kernel) rfl ?_
                refine iq_istore hS 130 J_MLineRows_pack_d128 (by decide) rfl ?_
                obtain ⟨Q30, hQ30, h⟩ := bd1_ed h
                have K30 : ∀ (y31 : Int32) (L' : List (Nat × Value)), im_lk L' 0 = some (.ref 96) → im_lk L' 1 = some (.int x13) → im_lk L' 2 = some (.int x14) → im_lk L' 4 = some (.int y31) → Q30 y31 → ia (tb_G L xs) (dep + 6) J_MLineRows_pack (rwI w Q) (150, L', [], M26) := by
                  intro y31 L' l32 l33 l34 l35 h
                  replace h := hQ30 _ h
                  refine iq_aload_n hS 151 J_MLineRows_pack_d150 l32 rfl ?_
                  refine iq_iload hS 153 J_MLineRows_pack_d151 l35 rfl ?_
                  obtain ⟨Q36, hQ36, h⟩ := bd1_ed h
                  refine iq_cwV hS 156 J_MLineRows_pack_d153 rfl (pr_inst (vs := [_]) lc_13_194 lT_370 rfl rfl (by decide) (by decide) rfl (Nat.le_of_ble_eq_true rfl) (Nat.le_of_ble_eq_true rfl) (fun _ => Or.inl (pr_b (ka_96 hM26) (by decide) rfl))) (f_MLineRows_add_ok (dep := dep + 5) hM26 h) rfl ?_
                  intro M36 hM36 h
                  replace h := hQ36 _ h
                  refine iq_iincv hS 159 J_MLineRows_pack_d156 (c := 1) (by decide +kernel) l34 (by decide) rfl ?_
                  refine iq_goto hS J_MLineRows_pack_d159 (t := 168) rfl ?_
                  exact J28 _ _ _ _ hM36 (lk_1r l32 (by decide)) (lk_1i l33 (by decide)) lk_1s (ed_some h)
                obtain ⟨r30, hr30, hq30⟩ := h
                obtain ⟨n30, hn30⟩ := lp_n hr30
                have I30 : ∀ (n : Nat) (x37 : Int32) (L' : List (Nat × Value)), im_lk L' 0 = some (.ref 96) → im_lk L' 1 = some (.int x13) → im_lk L' 2 = some (.int x14) → im_lk L' 4 = some (.int x37) → lpn (uc1 (f_MLineRows_pack_L130 x13 x14 M26)) n x37 = some r30 → ia (tb_G L xs) (dep + 6) J_MLineRows_pack (rwI w Q) (130, L', [], M26) := by
                  intro n
                  induction n with
                  | zero => intro x37 L' l38 l39 l40 l41 hn; exact (lpn_0 hn).elim
                  | succ n ih =>
                    intro x37 L' l38 l39 l40 l41 hn
                    have h := lpn_ed1 hn
                    unfold f_MLineRows_pack_L130 at h
                    refine iq_aload_n hS 131 J_MLineRows_pack_d130 l38 rfl ?_
                    refine iq_iload_n hS 132 J_MLineRows_pack_d131 l40 rfl ?_
                    refine iq_iconst hS 133 J_MLineRows_pack_d132 (v := 1) (by decide +kernel) rfl ?_
                    refine iq_iload_n hS 134 J_MLineRows_pack_d133 l39 rfl ?_
                    refine iq_isub hS 135 J_MLineRows_pack_d134 rfl ?_
                    refine iq_iload hS 137 J_MLineRows_pack_d135 l41 rfl ?_
                    obtain ⟨Q42, hQ42, h⟩ := bd1_ed h
                    refine iq_cpI hS 140 J_MLineRows_pack_d137 rfl (pr_inst (vs := [_, _, _]) lc_13_172 lT_363 rfl rfl (by decide) (by decide) rfl (Nat.le_of_ble_eq_true rfl) (Nat.le_of_ble_eq_true rfl) (fun _ => Or.inl (pr_b (ka_96 hM26) (by decide) rfl))) (f_MLineRows_tells_ok (dep := dep + 3) hM26 h) rfl ?_
                    intro x42 h
                    replace h := hQ42 _ h
                    refine iq_iconst hS 141 J_MLineRows_pack_d140 (v := 1) (by decide +kernel) rfl ?_
                    refine iq_icmp_eq hS 144 J_MLineRows_pack_d141 (t := 150) rfl (fun q141 => ?_) rfl (fun q141 => ?_)
                    · replace h := ed_pos q141 h
                      exact K30 _ _ l38 l39 l40 l41 (lq_r h hq30)
                    · replace h := ed_neg q141 h
                      refine iq_iincv hS 147 J_MLineRows_pack_d144 (c := 1) (by decide +kernel) l41 (by decide) rfl ?_
                      refine iq_goto hS J_MLineRows_pack_d147 (t := 130) rfl ?_
                      exact ih _ _ (lk_1r l38 (by decide)) (lk_1i l39 (by decide)) (lk_1i l40 (by decide)) lk_1s (lq_l h)
                exact I30 n30 _ _ (lk_1r l22 (by decide)) (lk_1i l23 (by decide)) (lk_1i l24 (by decide)) lk_1s hn30
            · replace h := ed_neg q105 h
              refine iq_iload_n hS 109 J_MLineRows_pack_d108 l24 rfl ?_
              refine iq_aload_n hS 110 J_MLineRows_pack_d109 l22 rfl ?_
              refine iq_iload_n hS 111 J_MLineRows_pack_d110 l24 rfl ?_
              refine iq_iload_n hS 112 J_MLineRows_pack_d111 l23 rfl ?_
              refine iq_iload_n hS 113 J_MLineRows_pack_d112 l25 rfl ?_
              obtain ⟨Q43, hQ43, h⟩ := bd1_ed h
              refine iq_cpI hS 116 J_MLineRows_pack_d113 rfl (pr_inst (vs := [_, _, _]) lc_13_172 lT_363 rfl rfl (by decide) (by decide) rfl (Nat.le_of_ble_eq_true rfl) (Nat.le_of_ble_eq_true rfl) (fun _ => Or.inl (pr_b (ka_96 hM26) (by decide) rfl))) (f_MLineRows_tells_ok (dep := dep + 3) hM26 h) rfl ?_
              intro x43 h
              replace h := hQ43 _ h
              refine iq_iadd hS 117 J_MLineRows_pack_d116 rfl ?_
              refine iq_istore_n hS 118 J_MLineRows_pack_d117 (by decide) rfl ?_
              refine iq_goto hS J_MLineRows_pack_d118 (t := 168) rfl ?_
              exact J28 _ _ _ _ hM26 (lk_1r l22 (by decide)) (lk_1i l23 (by decide)) lk_1s (ed_some h)
          obtain ⟨r20, hr20, hq20⟩ := h
          obtain ⟨n20, hn20⟩ := lp_n hr20
          have I20 : ∀ (n : Nat) (x50 : Int32) (L' : List (Nat × Value)), im_lk L' 0 = some (.ref 96) → im_lk L' 1 = some (.int x13) → im_lk L' 2 = some (.int x14) → im_lk L' 3 = some (.int x50) → lpn (uc1 (f_MLineRows_pack_L71 x13 x14 M15)) n x50 = some r20 → ia (tb_G L xs) (dep + 6) J_MLineRows_pack (rwI w Q) (71, L', [], M15) := by
            intro n
            induction n with
            | zero => intro x50 L' l51 l52 l53 l54 hn; exact (lpn_0 hn).elim
            | succ n ih =>
              intro x50 L' l51 l52 l53 l54 hn
              have h := lpn_ed1 hn
              unfold f_MLineRows_pack_L71 at h
              refine iq_aload_n hS 72 J_MLineRows_pack_d71 l51 rfl ?_
              refine iq_iload_n hS 73 J_MLineRows_pack_d72 l53 rfl ?_
              refine iq_iload_n hS 74 J_MLineRows_pack_d73 l52 rfl ?_
              refine iq_iload_n hS 75 J_MLineRows_pack_d74 l54 rfl ?_
              obtain ⟨Q55, hQ55, h⟩ := bd1_ed h
              refine iq_cpI hS 78 J_MLineRows_pack_d75 rfl (pr_inst (vs := [_, _, _]) lc_13_185 lT_362 rfl rfl (by decide) (by decide) rfl (Nat.le_of_ble_eq_true rfl) (Nat.le_of_ble_eq_true rfl) (fun _ => Or.inl (pr_b (ka_96 hM15) (by decide) rfl))) (f_MLineRows_with_ok (dep := dep + 1) hM15 h) rfl ?_
              intro x55 h
              replace h := hQ55 _ h
              refine iq_aload_n hS 79 J_MLineRows_pack_d78 l51 rfl ?_
              refine iq_iload_n hS 80 J_MLineRows_pack_d79 l53 rfl ?_
              refine iq_iload_n hS 81 J_MLineRows_pack_d80 l52 rfl ?_
              obtain ⟨Q56, hQ56, h⟩ := bd1_ed h
              refine iq_cpI hS 84 J_MLineRows_pack_d81 rfl (pr_inst (vs := [_, _]) lc_13_176 lT_367 rfl rfl (by decide) (by decide) rfl (Nat.le_of_ble_eq_true rfl) (Nat.le_of_ble_eq_true rfl) (fun _ => Or.inl (pr_b (ka_96 hM15) (by decide) rfl))) (f_MLineRows_leastAt_ok (dep := dep + 5) hM15 h) rfl ?_
              intro x56 h
              replace h := hQ56 _ h
              refine iq_icmp_eq hS 87 J_MLineRows_pack_d84 (t := 93) rfl (fun q84 => ?_) rfl (fun q84 => ?_)
              · replace h := ed_pos q84 h
                exact K20 _ _ l51 l52 l53 l54 (lq_r h hq20)
              · replace h := ed_neg q84 h
                refine iq_iincv hS 90 J_MLineRows_pack_d87 (c := 1) (by decide +kernel) l54 (by decide) rfl ?_
                refine iq_goto hS J_MLineRows_pack_d90 (t := 71) rfl ?_
                exact ih _ _ (lk_1r l51 (by decide)) (lk_1i l52 (by decide)) (lk_1i l53 (by decide)) lk_1s (lq_l h)
          exact I20 n20 _ _ (lk_1r l16 (by decide)) (lk_1i l17 (by decide)) (lk_1i l18 (by decide)) lk_1s hn20
    exact I7 n7 _ _ _ _ hM6 (lk_1r l4 (by decide)) (lk_1i l5 (by decide)) lk_1s hn7
  obtain ⟨r2, hr2, hq2⟩ := h
  obtain ⟨n2, hn2⟩ := lp_n hr2
  have I2 : ∀ (n : Nat) (x57 : Int32) (x58 : Int32) (L' : List (Nat × Value)), im_lk L' 0 = some (.ref 96) → im_lk L' 1 = some (.int x57) → im_lk L' 2 = some (.int x58) → lpn (uc2 (f_MLineRows_pack_L13 M1)) n (x57, x58) = some r2 → ia (tb_G L xs) (dep + 6) J_MLineRows_pack (rwI w Q) (13, L', [], M1) := by
    intro n
    induction n with
    | zero => intro x57 x58 L' l59 l60 l61 hn; exact (lpn_0 hn).elim
    | succ n ih =>
      intro x57 x58 L' l59 l60 l61 hn
      have h := lpn_ed2 hn
      unfold f_MLineRows_pack_L13 at h
      refine iq_iload_n hS 14 J_MLineRows_pack_d13 l61 rfl ?_
      refine iq_iconst hS 15 J_MLineRows_pack_d14 (v := 2) (by decide +kernel) rfl ?_
      refine iq_icmp_gt hS 18 J_MLineRows_pack_d15 (t := 45) rfl (fun q15 => ?_) rfl (fun q15 => ?_)
      · replace h := ed_pos q15 h
        exact K2 _ _ l59 l60 (lq_r h hq2)
      · replace h := ed_neg q15 h
        refine iq_aload_n hS 19 J_MLineRows_pack_d18 l59 rfl ?_
        refine iq_iconst hS 20 J_MLineRows_pack_d19 (v := 0) (by decide +kernel) rfl ?_
        refine iq_iload_n hS 21 J_MLineRows_pack_d20 l61 rfl ?_
        obtain ⟨Q62, hQ62, h⟩ := bd1_ed h
        refine iq_cpI hS 24 J_MLineRows_pack_d21 rfl (pr_inst (vs := [_, _]) lc_13_176 lT_367 rfl rfl (by decide) (by decide) rfl (Nat.le_of_ble_eq_true rfl) (Nat.le_of_ble_eq_true rfl) (fun _ => Or.inl (pr_b (ka_96 hM1) (by decide) rfl))) (f_MLineRows_leastAt_ok (dep := dep + 5) hM1 h) rfl ?_
        intro x62 h
        replace h := hQ62 _ h
        refine iq_aload_n hS 25 J_MLineRows_pack_d24 l59 rfl ?_
        refine iq_iconst hS 26 J_MLineRows_pack_d25 (v := 0) (by decide +kernel) rfl ?_
        refine iq_iload_n hS 27 J_MLineRows_pack_d26 l60 rfl ?_
        obtain ⟨Q63, hQ63, h⟩ := bd1_ed h
        refine iq_cpI hS 30 J_MLineRows_pack_d27 rfl (pr_inst (vs := [_, _]) lc_13_176 lT_367 rfl rfl (by decide) (by decide) rfl (Nat.le_of_ble_eq_true rfl) (Nat.le_of_ble_eq_true rfl) (fun _ => Or.inl (pr_b (ka_96 hM1) (by decide) rfl))) (f_MLineRows_leastAt_ok (dep := dep + 5) hM1 h) rfl ?_
        intro x63 h
        replace h := hQ63 _ h
        have J64 : ∀ (z65 : Int32) (L' : List (Nat × Value)), z65 = ((if x63 ≤ x62 then x57 else x58) : Int32) → im_lk L' 0 = some (.ref 96) → im_lk L' 2 = some (.int x58) → ia (tb_G L xs) (dep + 6) J_MLineRows_pack (rwI w Q) (38, L', [.int z65], M1) := by
          intro z65 L' e66 l67 l68
          subst e66
          refine iq_istore_n hS 39 J_MLineRows_pack_d38 (by decide) rfl ?_
          refine iq_iincv hS 42 J_MLineRows_pack_d39 (c := 1) (by decide +kernel) (lk_1i l68 (by decide)) (by decide) rfl ?_
          refine iq_goto hS J_MLineRows_pack_d42 (t := 13) rfl ?_
          exact ih _ _ _ (lk_1r (lk_1r l67 (by decide)) (by decide)) (lk_1i lk_1s (by decide)) lk_1s (lq_l h)
        refine iq_icmp_ge hS 33 J_MLineRows_pack_d30 (t := 37) rfl (fun q30 => ?_) rfl (fun q30 => ?_)
        · refine iq_iload_n hS 38 J_MLineRows_pack_d37 l60 rfl ?_
          exact J64 _ _ (by simp only [if_pos q30]) l59 l61
        · refine iq_iload_n hS 34 J_MLineRows_pack_d33 l61 rfl ?_
          refine iq_goto hS J_MLineRows_pack_d34 (t := 38) rfl ?_
          exact J64 _ _ (by simp only [if_neg q30]) l59 l61
  exact I2 n2 _ _ _ (lk_1r (lk_1r l0 (by decide)) (by decide)) (lk_1i lk_1s (by decide)) lk_1s hn2
theorem f_MLineRows_pack_fr {M : im_M} {r : Int32 × im_M} (h : f_MLineRows_pack M = some r) : fr 7605903601369376408980219232256 [(96, 3), (96, 8)] M r.2 := by
  replace h : ed (f_MLineRows_pack M) (fun x => x = r) := ⟨r, h, rfl⟩
  unfold f_MLineRows_pack at h
  obtain ⟨Q1, hQ1, h⟩ := bd1_ed h
  obtain ⟨M1, e1, h⟩ := h
  replace h := hQ1 _ h
  obtain ⟨Q2, hQ2, h⟩ := bd1_ed h
  have K2 : ∀ (y3 : Int32), Q2 y3 → fr 7605903601369376408980219232256 [(96, 3), (96, 8)] M r.2 := by
    intro y3 h
    replace h := hQ2 _ h
    obtain ⟨Q4, hQ4, h⟩ := bd1_ed h
    obtain ⟨M4, e4, h⟩ := h
    replace h := hQ4 _ h
    obtain ⟨Q5, hQ5, h⟩ := bd1_ed h
    have K5 : ∀ (M6 : im_M), fr 7605903601369376408980219232256 [(96, 3), (96, 8)] M M6 → Q5 M6 → fr 7605903601369376408980219232256 [(96, 3), (96, 8)] M r.2 := by
      intro M6 hM6 h
      replace h := hQ5 _ h
      obtain ⟨Q7, hQ7, h⟩ := bd1_ed h
      obtain ⟨x7, e7, h⟩ := h
      replace h := hQ7 _ h
      obtain ⟨Q8, hQ8, h⟩ := bd1_ed h
      obtain ⟨M8, e8, h⟩ := h
      replace h := hQ8 _ h
      obtain ⟨Q9, hQ9, h⟩ := bd1_ed h
      obtain ⟨M9, e9, h⟩ := h
      replace h := hQ9 _ h
      exact fr_ret h (fr_tr (fr_mono (by decide) (by decide +kernel) (f_MLineRows_add_fr e9)) (fr_tr (fr_mono (by decide) (by decide +kernel) (f_MLineRows_add_fr e8)) hM6))
    obtain ⟨r5, hr5, hq5⟩ := h
    obtain ⟨n5, hn5⟩ := lp_n hr5
    have I5 : ∀ (n : Nat) (x10 : Int32) (x11 : Int32) (M12 : im_M), fr 7605903601369376408980219232256 [(96, 3), (96, 8)] M M12 → lpn (uc3 (f_MLineRows_pack_L60)) n (x10, x11, M12) = some r5 → fr 7605903601369376408980219232256 [(96, 3), (96, 8)] M r.2 := by
      intro n
      induction n with
      | zero => intro x10 x11 M12 hM12 hn; exact (lpn_0 hn).elim
      | succ n ih =>
        intro x10 x11 M12 hM12 hn
        have h := lpn_ed3 hn
        unfold f_MLineRows_pack_L60 at h
        obtain ⟨Q13, hQ13, h⟩ := bd1_ed h
        obtain ⟨x13, e13, h⟩ := h
        replace h := hQ13 _ h
        by_cases q66 : x13 ≤ 0
        · replace h := ed_pos q66 h
          exact K5 _ hM12 (lq_r h hq5)
        · replace h := ed_neg q66 h
          obtain ⟨Q14, hQ14, h⟩ := bd1_ed h
          have K14 : ∀ (y15 : Int32), Q14 y15 → fr 7605903601369376408980219232256 [(96, 3), (96, 8)] M r.2 := by
            intro y15 h
            replace h := hQ14 _ h
            obtain ⟨Q16, hQ16, h⟩ := bd1_ed h
            obtain ⟨M16, e16, h⟩ := h
            replace h := hQ16 _ h
            obtain ⟨Q17, hQ17, h⟩ := bd1_ed h
            obtain ⟨x17, e17, h⟩ := h
            replace h := hQ17 _ h
            obtain ⟨Q18, hQ18, h⟩ := bd3_ed h
            have J18 : ∀ (y26 : Int32) (y27 : Int32) (M28 : im_M), fr 7605903601369376408980219232256 [(96, 3), (96, 8)] M M28 → Q18 (y26, y27, M28) → fr 7605903601369376408980219232256 [(96, 3), (96, 8)] M r.2 := by
              intro y26 y27 M28 hM28 h
              replace h := hQ18 _ _ _ h
              exact ih _ _ _ hM28 (lq_l h)
            by_cases q105 : x17 ≤ 0
            · replace h := ed_pos q105 h
              by_cases q124 : ¬ y15 = 98
              · replace h := ed_pos q124 h
                obtain ⟨Q19, hQ19, h⟩ := bd1_ed h
                obtain ⟨x19, e19, h⟩ := h
                replace h := hQ19 _ h
                exact J18 _ _ _ (fr_tr (fr_mono (by decide) (by decide +kernel) (f_MLineRows_add_fr e16)) hM12) (ed_some h)
              · replace h := ed_neg q124 h
                obtain ⟨Q20, hQ20, h⟩ := bd1_ed h
                have K20 : ∀ (y21 : Int32), Q20 y21 → fr 7605903601369376408980219232256 [(96, 3), (96, 8)] M r.2 := by
                  intro y21 h
                  replace h := hQ20 _ h
                  obtain ⟨Q22, hQ22, h⟩ := bd1_ed h
                  obtain ⟨M22, e22, h⟩ := h
                  replace h := hQ22 _ h
                  exact J18 _ _ _ (fr_tr (fr_mono (by decide) (by decide +kernel) (f_MLineRows_add_fr e22)) (fr_tr (fr_mono (by decide) (by decide +kernel) (f_MLineRows_add_fr e16)) hM12)) (ed_some h)
                obtain ⟨r20, hr20, hq20⟩ := h
                obtain ⟨n20, hn20⟩ := lp_n hr20
                have I20 : ∀ (n : Nat) (x23 : Int32), lpn (uc1 (f_MLineRows_pack_L130 x10 x11 M16)) n x23 = some r20 → fr 7605903601369376408980219232256 [(96, 3), (96, 8)] M r.2 := by
                  intro n
                  induction n with
                  | zero => intro x23 hn; exact (lpn_0 hn).elim
                  | succ n ih =>
                    intro x23 hn
                    have h := lpn_ed1 hn
                    unfold f_MLineRows_pack_L130 at h
                    obtain ⟨Q24, hQ24, h⟩ := bd1_ed h
                    obtain ⟨x24, e24, h⟩ := h
                    replace h := hQ24 _ h
                    by_cases q141 : x24 = 1
                    · replace h := ed_pos q141 h
                      exact K20 _ (lq_r h hq20)
                    · replace h := ed_neg q141 h
                      exact ih _ (lq_l h)
                exact I20 n20 _ hn20
            · replace h := ed_neg q105 h
              obtain ⟨Q25, hQ25, h⟩ := bd1_ed h
              obtain ⟨x25, e25, h⟩ := h
              replace h := hQ25 _ h
              exact J18 _ _ _ (fr_tr (fr_mono (by decide) (by decide +kernel) (f_MLineRows_add_fr e16)) hM12) (ed_some h)
          obtain ⟨r14, hr14, hq14⟩ := h
          obtain ⟨n14, hn14⟩ := lp_n hr14
          have I14 : ∀ (n : Nat) (x32 : Int32), lpn (uc1 (f_MLineRows_pack_L71 x10 x11 M12)) n x32 = some r14 → fr 7605903601369376408980219232256 [(96, 3), (96, 8)] M r.2 := by
            intro n
            induction n with
            | zero => intro x32 hn; exact (lpn_0 hn).elim
            | succ n ih =>
              intro x32 hn
              have h := lpn_ed1 hn
              unfold f_MLineRows_pack_L71 at h
              obtain ⟨Q33, hQ33, h⟩ := bd1_ed h
              obtain ⟨x33, e33, h⟩ := h
              replace h := hQ33 _ h
              obtain ⟨Q34, hQ34, h⟩ := bd1_ed h
              obtain ⟨x34, e34, h⟩ := h
              replace h := hQ34 _ h
              by_cases q84 : x33 = x34
              · replace h := ed_pos q84 h
                exact K14 _ (lq_r h hq14)
              · replace h := ed_neg q84 h
                exact ih _ (lq_l h)
          exact I14 n14 _ hn14
    exact I5 n5 _ _ _ (fr_tr (fr_mono (by decide) (by decide +kernel) (f_MLineRows_add_fr e4)) (fr_F (by decide) (fr_tr (fr_mono (by decide) (by decide +kernel) (f_MLineRows_relax_fr e1)) (fr_F (by decide) fr_refl)))) hn5
  obtain ⟨r2, hr2, hq2⟩ := h
  obtain ⟨n2, hn2⟩ := lp_n hr2
  have I2 : ∀ (n : Nat) (x35 : Int32) (x36 : Int32), lpn (uc2 (f_MLineRows_pack_L13 M1)) n (x35, x36) = some r2 → fr 7605903601369376408980219232256 [(96, 3), (96, 8)] M r.2 := by
    intro n
    induction n with
    | zero => intro x35 x36 hn; exact (lpn_0 hn).elim
    | succ n ih =>
      intro x35 x36 hn
      have h := lpn_ed2 hn
      unfold f_MLineRows_pack_L13 at h
      by_cases q15 : 2 < x36
      · replace h := ed_pos q15 h
        exact K2 _ (lq_r h hq2)
      · replace h := ed_neg q15 h
        obtain ⟨Q37, hQ37, h⟩ := bd1_ed h
        obtain ⟨x37, e37, h⟩ := h
        replace h := hQ37 _ h
        obtain ⟨Q38, hQ38, h⟩ := bd1_ed h
        obtain ⟨x38, e38, h⟩ := h
        replace h := hQ38 _ h
        exact ih _ _ (lq_l h)
  exact I2 n2 _ _ hn2
noncomputable def f_MLineRows_noModule (p0 : Int32) (M : im_M) : Option (Int32) := jn0 (fun (_ : Unit) => some 1) fun k1 => if p0 < 1 then k1 () else if p0 ≤ 50 then some 0 else k1 ()
theorem J_MLineRows_noModule_d0 : decode J_MLineRows_noModule.2.1 0 = .ok (.iload_n 0, 1) := by decide +kernel
theorem J_MLineRows_noModule_d1 : decode J_MLineRows_noModule.2.1 1 = .ok (.iconst 1, 1) := by decide +kernel
theorem J_MLineRows_noModule_d2 : decode J_MLineRows_noModule.2.1 2 = .ok (.if_icmp .lt 9, 3) := by decide +kernel
theorem J_MLineRows_noModule_d5 : decode J_MLineRows_noModule.2.1 5 = .ok (.iload_n 0, 1) := by decide +kernel
theorem J_MLineRows_noModule_d6 : decode J_MLineRows_noModule.2.1 6 = .ok (.bipush 50, 2) := by decide +kernel
theorem J_MLineRows_noModule_d8 : decode J_MLineRows_noModule.2.1 8 = .ok (.if_icmp .le 7, 3) := by decide +kernel
theorem J_MLineRows_noModule_d11 : decode J_MLineRows_noModule.2.1 11 = .ok (.iconst 1, 1) := by decide +kernel
theorem J_MLineRows_noModule_d12 : decode J_MLineRows_noModule.2.1 12 = .ok (.goto 4, 3) := by decide +kernel
theorem J_MLineRows_noModule_d15 : decode J_MLineRows_noModule.2.1 15 = .ok (.iconst 0, 1) := by decide +kernel
theorem J_MLineRows_noModule_d16 : decode J_MLineRows_noModule.2.1 16 = .ok (.ireturn, 1) := by decide +kernel
theorem f_MLineRows_noModule_ok {L : Nat} {xs : Nat → Int32} {dep : Nat} {w : Bool} {p0 : Int32} {M : im_M} {Q : Int32 → Prop} (hM : lw_S w M) (h : ed (f_MLineRows_noModule p0 M) Q) : ia (tb_G L xs) dep J_MLineRows_noModule (rpI M Q) (0, lv_args 0 [.int p0], [], M) := by
  have hS : im_St (tb_G L xs) dep J_MLineRows_noModule (ia (tb_G L xs) dep J_MLineRows_noModule (rpI M Q)) := ia_St
  unfold f_MLineRows_noModule at h
  have l0 : im_lk (lv_args 0 [.int p0]) 0 = some (.int p0) := rfl
  refine iq_iload_n hS 1 J_MLineRows_noModule_d0 l0 rfl ?_
  refine iq_iconst hS 2 J_MLineRows_noModule_d1 (v := 1) (by decide +kernel) rfl ?_
  obtain ⟨k1, Q1, hQ1, hk1, h⟩ := jn0_ed h
  have J1 : ∀  (L' : List (Nat × Value)), Q1 () → ia (tb_G L xs) dep J_MLineRows_noModule (rpI M Q) (11, L', [], M) := by
    intro  L'  h
    replace h := hQ1  h
    refine iq_iconst hS 12 J_MLineRows_noModule_d11 (v := 1) (by decide +kernel) rfl ?_
    refine iq_goto hS J_MLineRows_noModule_d12 (t := 16) rfl ?_
    exact iq_iret J_MLineRows_noModule_d16 rfl rfl ⟨_, rfl, rfl, ed_some h⟩
  refine iq_icmp_lt hS 5 J_MLineRows_noModule_d2 (t := 11) rfl (fun q2 => ?_) rfl (fun q2 => ?_)
  · replace h := ed_pos q2 h
    exact J1  _  (hk1  h)
  · replace h := ed_neg q2 h
    refine iq_iload_n hS 6 J_MLineRows_noModule_d5 l0 rfl ?_
    refine iq_bipush hS 8 J_MLineRows_noModule_d6 (v := 50) (by decide +kernel) rfl ?_
    refine iq_icmp_le hS 11 J_MLineRows_noModule_d8 (t := 15) rfl (fun q8 => ?_) rfl (fun q8 => ?_)
    · replace h := ed_pos q8 h
      refine iq_iconst hS 16 J_MLineRows_noModule_d15 (v := 0) (by decide +kernel) rfl ?_
      exact iq_iret J_MLineRows_noModule_d16 rfl rfl ⟨_, rfl, rfl, ed_some h⟩
    · replace h := ed_neg q8 h
      exact J1  _  (hk1  h)
noncomputable def f_MLineRows_lay_L6 (v2 : Int32) (v3 : Int32) (v4 : Int32) (M7 : im_M) (x5 : Int32) (x6 : Int32) : Option ((Int32 × Int32) ⊕ (Int32)) := if v3 ≤ x6 then some (.inr x5) else some (.inl ((x5 * 10), (x6 + 1)))
noncomputable def f_MLineRows_lay_L29 (v10 : Int32) (v11 : Int32) (x12 : Int32) (M13 : im_M) : Option ((Int32 × im_M) ⊕ (im_M)) := if x12 ≤ 0 then some (.inr M13) else gd (¬ x12 = (0 : Int32)) <| gd (inb (im_i M13 96 10) 800) <| some (.inl ((x12 / 10), (im_setI (im_setI M13 103 (Int32.toNatClampNeg (im_i M13 96 10)) (((v10 / x12) - (v10 / x12) / 10 * 10) * v11)) 96 10 ((im_i (im_setI M13 103 (Int32.toNatClampNeg (im_i M13 96 10)) (((v10 / x12) - (v10 / x12) / 10 * 10) * v11)) 96 10) + 1))))
noncomputable def f_MLineRows_lay (p0 : Int32) (p1 : Int32) (p2 : Int32) (M : im_M) : Option (im_M) := bd1 (lp (uc2 (f_MLineRows_lay_L6 p0 p1 p2 M)) (1, 1)) fun (y8 : Int32) => bd1 (lp (uc2 (f_MLineRows_lay_L29 p0 p2)) (y8, M)) fun (M14 : im_M) => some M14
theorem J_MLineRows_lay_d0 : decode J_MLineRows_lay.2.1 0 = .ok (.iconst 1, 1) := by decide +kernel
theorem J_MLineRows_lay_d1 : decode J_MLineRows_lay.2.1 1 = .ok (.istore 4, 2) := by decide +kernel
theorem J_MLineRows_lay_d3 : decode J_MLineRows_lay.2.1 3 = .ok (.iconst 1, 1) := by decide +kernel
theorem J_MLineRows_lay_d4 : decode J_MLineRows_lay.2.1 4 = .ok (.istore 5, 2) := by decide +kernel
theorem J_MLineRows_lay_d6 : decode J_MLineRows_lay.2.1 6 = .ok (.iload 5, 2) := by decide +kernel
theorem J_MLineRows_lay_d8 : decode J_MLineRows_lay.2.1 8 = .ok (.iload_n 2, 1) := by decide +kernel
theorem J_MLineRows_lay_d9 : decode J_MLineRows_lay.2.1 9 = .ok (.if_icmp .ge 16, 3) := by decide +kernel
theorem J_MLineRows_lay_d12 : decode J_MLineRows_lay.2.1 12 = .ok (.iload 4, 2) := by decide +kernel
theorem J_MLineRows_lay_d14 : decode J_MLineRows_lay.2.1 14 = .ok (.bipush 10, 2) := by decide +kernel
theorem J_MLineRows_lay_d16 : decode J_MLineRows_lay.2.1 16 = .ok (.imul, 1) := by decide +kernel
theorem J_MLineRows_lay_d17 : decode J_MLineRows_lay.2.1 17 = .ok (.istore 4, 2) := by decide +kernel
theorem J_MLineRows_lay_d19 : decode J_MLineRows_lay.2.1 19 = .ok (.iinc 5 1, 3) := by decide +kernel
theorem J_MLineRows_lay_d22 : decode J_MLineRows_lay.2.1 22 = .ok (.goto (-16), 3) := by decide +kernel
theorem J_MLineRows_lay_d25 : decode J_MLineRows_lay.2.1 25 = .ok (.iload 4, 2) := by decide +kernel
theorem J_MLineRows_lay_d27 : decode J_MLineRows_lay.2.1 27 = .ok (.istore 5, 2) := by decide +kernel
theorem J_MLineRows_lay_d29 : decode J_MLineRows_lay.2.1 29 = .ok (.iload 5, 2) := by decide +kernel
theorem J_MLineRows_lay_d31 : decode J_MLineRows_lay.2.1 31 = .ok (.ifCond .le 41, 3) := by decide +kernel
theorem J_MLineRows_lay_d34 : decode J_MLineRows_lay.2.1 34 = .ok (.aload_n 0, 1) := by decide +kernel
theorem J_MLineRows_lay_d35 : decode J_MLineRows_lay.2.1 35 = .ok (.getfield 134, 3) := by decide +kernel
theorem J_MLineRows_lay_d38 : decode J_MLineRows_lay.2.1 38 = .ok (.aload_n 0, 1) := by decide +kernel
theorem J_MLineRows_lay_d39 : decode J_MLineRows_lay.2.1 39 = .ok (.getfield 202, 3) := by decide +kernel
theorem J_MLineRows_lay_d42 : decode J_MLineRows_lay.2.1 42 = .ok (.iload_n 1, 1) := by decide +kernel
theorem J_MLineRows_lay_d43 : decode J_MLineRows_lay.2.1 43 = .ok (.iload 5, 2) := by decide +kernel
theorem J_MLineRows_lay_d45 : decode J_MLineRows_lay.2.1 45 = .ok (.idiv, 1) := by decide +kernel
theorem J_MLineRows_lay_d46 : decode J_MLineRows_lay.2.1 46 = .ok (.bipush 10, 2) := by decide +kernel
theorem J_MLineRows_lay_d48 : decode J_MLineRows_lay.2.1 48 = .ok (.irem, 1) := by decide +kernel
theorem J_MLineRows_lay_d49 : decode J_MLineRows_lay.2.1 49 = .ok (.iload_n 3, 1) := by decide +kernel
theorem J_MLineRows_lay_d50 : decode J_MLineRows_lay.2.1 50 = .ok (.imul, 1) := by decide +kernel
theorem J_MLineRows_lay_d51 : decode J_MLineRows_lay.2.1 51 = .ok (.iastore, 1) := by decide +kernel
theorem J_MLineRows_lay_d52 : decode J_MLineRows_lay.2.1 52 = .ok (.aload_n 0, 1) := by decide +kernel
theorem J_MLineRows_lay_d53 : decode J_MLineRows_lay.2.1 53 = .ok (.dup, 1) := by decide +kernel
theorem J_MLineRows_lay_d54 : decode J_MLineRows_lay.2.1 54 = .ok (.getfield 202, 3) := by decide +kernel
theorem J_MLineRows_lay_d57 : decode J_MLineRows_lay.2.1 57 = .ok (.iconst 1, 1) := by decide +kernel
theorem J_MLineRows_lay_d58 : decode J_MLineRows_lay.2.1 58 = .ok (.iadd, 1) := by decide +kernel
theorem J_MLineRows_lay_d59 : decode J_MLineRows_lay.2.1 59 = .ok (.putfield 202, 3) := by decide +kernel
theorem J_MLineRows_lay_d62 : decode J_MLineRows_lay.2.1 62 = .ok (.iload 5, 2) := by decide +kernel
theorem J_MLineRows_lay_d64 : decode J_MLineRows_lay.2.1 64 = .ok (.bipush 10, 2) := by decide +kernel
theorem J_MLineRows_lay_d66 : decode J_MLineRows_lay.2.1 66 = .ok (.idiv, 1) := by decide +kernel
theorem J_MLineRows_lay_d67 : decode J_MLineRows_lay.2.1 67 = .ok (.istore 5, 2) := by decide +kernel
theorem J_MLineRows_lay_d69 : decode J_MLineRows_lay.2.1 69 = .ok (.goto (-40), 3) := by decide +kernel
theorem J_MLineRows_lay_d72 : decode J_MLineRows_lay.2.1 72 = .ok (.return_, 1) := by decide +kernel
theorem f_MLineRows_lay_ok {L : Nat} {xs : Nat → Int32} {dep : Nat} {w : Bool} {p0 : Int32} {p1 : Int32} {p2 : Int32} {M : im_M} {Q : im_M → Prop} (hM : lw_S w M) (h : ed (f_MLineRows_lay p0 p1 p2 M) Q) : ia (tb_G L xs) dep J_MLineRows_lay (rwV w Q) (0, lv_args 0 [.ref 96, .int p0, .int p1, .int p2], [], M) := by
  have hS : im_St (tb_G L xs) dep J_MLineRows_lay (ia (tb_G L xs) dep J_MLineRows_lay (rwV w Q)) := ia_St
  unfold f_MLineRows_lay at h
  have l0 : im_lk (lv_args 0 [.ref 96, .int p0, .int p1, .int p2]) 0 = some (.ref 96) := rfl
  have l1 : im_lk (lv_args 0 [.ref 96, .int p0, .int p1, .int p2]) 1 = some (.int p0) := rfl
  have l2 : im_lk (lv_args 0 [.ref 96, .int p0, .int p1, .int p2]) 2 = some (.int p1) := rfl
  have l3 : im_lk (lv_args 0 [.ref 96, .int p0, .int p1, .int p2]) 3 = some (.int p2) := rfl
  refine iq_iconst hS 1 J_MLineRows_lay_d0 (v := 1) (by decide +kernel) rfl ?_
  refine iq_istore hS 3 J_MLineRows_lay_d1 (by decide) rfl ?_
  refine iq_iconst hS 4 J_MLineRows_lay_d3 (v := 1) (by decide +kernel) rfl ?_
  refine iq_istore hS 6 J_MLineRows_lay_d4 (by decide) rfl ?_
  obtain ⟨Q1, hQ1, h⟩ := bd1_ed h
  have K1 : ∀ (y2 : Int32) (L' : List (Nat × Value)), im_lk L' 0 = some (.ref 96) → im_lk L' 1 = some (.int p0) → im_lk L' 3 = some (.int p2) → im_lk L' 4 = some (.int y2) → Q1 y2 → ia (tb_G L xs) dep J_MLineRows_lay (rwV w Q) (25, L', [], M) := by
    intro y2 L' l3 l4 l5 l6 h
    replace h := hQ1 _ h
    refine iq_iload hS 27 J_MLineRows_lay_d25 l6 rfl ?_
    refine iq_istore hS 29 J_MLineRows_lay_d27 (by decide) rfl ?_
    obtain ⟨Q7, hQ7, h⟩ := bd1_ed h
    have K7 : ∀ (M8 : im_M) (L' : List (Nat × Value)), lw_S w M8 → Q7 M8 → ia (tb_G L xs) dep J_MLineRows_lay (rwV w Q) (72, L', [], M8) := by
      intro M8 L' hM8  h
      replace h := hQ7 _ h
      exact iq_ret J_MLineRows_lay_d72 rfl ⟨rfl, hM8, ed_some h⟩
    obtain ⟨r7, hr7, hq7⟩ := h
    obtain ⟨n7, hn7⟩ := lp_n hr7
    have I7 : ∀ (n : Nat) (x9 : Int32) (M10 : im_M) (L' : List (Nat × Value)), lw_S w M10 → im_lk L' 0 = some (.ref 96) → im_lk L' 1 = some (.int p0) → im_lk L' 3 = some (.int p2) → im_lk L' 5 = some (.int x9) → lpn (uc2 (f_MLineRows_lay_L29 p0 p2)) n (x9, M10) = some r7 → ia (tb_G L xs) dep J_MLineRows_lay (rwV w Q) (29, L', [], M10) := by
      intro n
      induction n with
      | zero => intro x9 M10 L' hM10 l11 l12 l13 l14 hn; exact (lpn_0 hn).elim
      | succ n ih =>
        intro x9 M10 L' hM10 l11 l12 l13 l14 hn
        have h := lpn_ed2 hn
        unfold f_MLineRows_lay_L29 at h
        refine iq_iload hS 31 J_MLineRows_lay_d29 l14 rfl ?_
        refine iq_if_le hS 34 J_MLineRows_lay_d31 (t := 72) rfl (fun q31 => ?_) rfl (fun q31 => ?_)
        · replace h := ed_pos q31 h
          exact K7 _ _ hM10  (lq_r h hq7)
        · replace h := ed_neg q31 h
          refine iq_aload_n hS 35 J_MLineRows_lay_d34 l11 rfl ?_
          refine iq_getR hS 38 J_MLineRows_lay_d35 lf_13_134 (Or.inr ⟨_, rfl⟩) (ka_96 hM10) (ra_96_9 hM10) rfl ?_
          refine iq_aload_n hS 39 J_MLineRows_lay_d38 l11 rfl ?_
          refine iq_getI hS 42 J_MLineRows_lay_d39 lf_13_202 (Or.inl rfl) (ka_96 hM10) rfl ?_
          refine iq_iload_n hS 43 J_MLineRows_lay_d42 l12 rfl ?_
          refine iq_iload hS 45 J_MLineRows_lay_d43 l14 rfl ?_
          obtain ⟨g45, h⟩ := ed_gd h
          refine iq_idiv hS 46 J_MLineRows_lay_d45 g45 rfl ?_
          refine iq_bipush hS 48 J_MLineRows_lay_d46 (v := 10) (by decide +kernel) rfl ?_
          refine iq_irem hS 49 J_MLineRows_lay_d48 (by decide) rfl ?_
          refine iq_iload_n hS 50 J_MLineRows_lay_d49 l13 rfl ?_
          refine iq_imul hS 51 J_MLineRows_lay_d50 rfl ?_
          obtain ⟨g51, h⟩ := ed_gd h
          refine iq_iastore hS 52 J_MLineRows_lay_d51 ⟨(ka_103 hM10).1, (ka_103 hM10).2, g51.1, ix_lt (kl_103 hM10) g51.2⟩ rfl ?_
          refine iq_aload_n hS 53 J_MLineRows_lay_d52 l11 rfl ?_
          refine iq_dup hS 54 J_MLineRows_lay_d53 rfl rfl ?_
          refine iq_getI hS 57 J_MLineRows_lay_d54 lf_13_202 (Or.inl rfl) (ka_96 (lw_sI hM10)) rfl ?_
          refine iq_iconst hS 58 J_MLineRows_lay_d57 (v := 1) (by decide +kernel) rfl ?_
          refine iq_iadd hS 59 J_MLineRows_lay_d58 rfl ?_
          refine iq_putI hS 62 J_MLineRows_lay_d59 lf_13_202 (Or.inl rfl) rfl (ka_96 (lw_sI hM10)) rfl ?_
          refine iq_iload hS 64 J_MLineRows_lay_d62 l14 rfl ?_
          refine iq_bipush hS 66 J_MLineRows_lay_d64 (v := 10) (by decide +kernel) rfl ?_
          refine iq_idiv hS 67 J_MLineRows_lay_d66 (by decide) rfl ?_
          refine iq_istore hS 69 J_MLineRows_lay_d67 (by decide) rfl ?_
          refine iq_goto hS J_MLineRows_lay_d69 (t := 29) rfl ?_
          exact ih _ _ _ (lw_sI (lw_sI hM10)) (lk_1r l11 (by decide)) (lk_1i l12 (by decide)) (lk_1i l13 (by decide)) lk_1s (lq_l h)
    exact I7 n7 _ _ _ hM (lk_1r l3 (by decide)) (lk_1i l4 (by decide)) (lk_1i l5 (by decide)) lk_1s hn7
  obtain ⟨r1, hr1, hq1⟩ := h
  obtain ⟨n1, hn1⟩ := lp_n hr1
  have I1 : ∀ (n : Nat) (x15 : Int32) (x16 : Int32) (L' : List (Nat × Value)), im_lk L' 0 = some (.ref 96) → im_lk L' 1 = some (.int p0) → im_lk L' 2 = some (.int p1) → im_lk L' 3 = some (.int p2) → im_lk L' 4 = some (.int x15) → im_lk L' 5 = some (.int x16) → lpn (uc2 (f_MLineRows_lay_L6 p0 p1 p2 M)) n (x15, x16) = some r1 → ia (tb_G L xs) dep J_MLineRows_lay (rwV w Q) (6, L', [], M) := by
    intro n
    induction n with
    | zero => intro x15 x16 L' l17 l18 l19 l20 l21 l22 hn; exact (lpn_0 hn).elim
    | succ n ih =>
      intro x15 x16 L' l17 l18 l19 l20 l21 l22 hn
      have h := lpn_ed2 hn
      unfold f_MLineRows_lay_L6 at h
      refine iq_iload hS 8 J_MLineRows_lay_d6 l22 rfl ?_
      refine iq_iload_n hS 9 J_MLineRows_lay_d8 l19 rfl ?_
      refine iq_icmp_ge hS 12 J_MLineRows_lay_d9 (t := 25) rfl (fun q9 => ?_) rfl (fun q9 => ?_)
      · replace h := ed_pos q9 h
        exact K1 _ _ l17 l18 l20 l21 (lq_r h hq1)
      · replace h := ed_neg q9 h
        refine iq_iload hS 14 J_MLineRows_lay_d12 l21 rfl ?_
        refine iq_bipush hS 16 J_MLineRows_lay_d14 (v := 10) (by decide +kernel) rfl ?_
        refine iq_imul hS 17 J_MLineRows_lay_d16 rfl ?_
        refine iq_istore hS 19 J_MLineRows_lay_d17 (by decide) rfl ?_
        refine iq_iincv hS 22 J_MLineRows_lay_d19 (c := 1) (by decide +kernel) (lk_1i l22 (by decide)) (by decide) rfl ?_
        refine iq_goto hS J_MLineRows_lay_d22 (t := 6) rfl ?_
        exact ih _ _ _ (lk_1r (lk_1r l17 (by decide)) (by decide)) (lk_1i (lk_1i l18 (by decide)) (by decide)) (lk_1i (lk_1i l19 (by decide)) (by decide)) (lk_1i (lk_1i l20 (by decide)) (by decide)) (lk_1i lk_1s (by decide)) lk_1s (lq_l h)
  exact I1 n1 _ _ _ (lk_1r (lk_1r l0 (by decide)) (by decide)) (lk_1i (lk_1i l1 (by decide)) (by decide)) (lk_1i (lk_1i l2 (by decide)) (by decide)) (lk_1i (lk_1i l3 (by decide)) (by decide)) (lk_1i lk_1s (by decide)) lk_1s hn1
theorem f_MLineRows_lay_fr {p0 : Int32} {p1 : Int32} {p2 : Int32} {M : im_M} {r : im_M} (h : f_MLineRows_lay p0 p1 p2 M = some r) : fr 10141204801825835211973625643008 [(96, 10)] M r := by
  replace h : ed (f_MLineRows_lay p0 p1 p2 M) (fun x => x = r) := ⟨r, h, rfl⟩
  unfold f_MLineRows_lay at h
  obtain ⟨Q1, hQ1, h⟩ := bd1_ed h
  have K1 : ∀ (y2 : Int32), Q1 y2 → fr 10141204801825835211973625643008 [(96, 10)] M r := by
    intro y2 h
    replace h := hQ1 _ h
    obtain ⟨Q3, hQ3, h⟩ := bd1_ed h
    have K3 : ∀ (M4 : im_M), fr 10141204801825835211973625643008 [(96, 10)] M M4 → Q3 M4 → fr 10141204801825835211973625643008 [(96, 10)] M r := by
      intro M4 hM4 h
      replace h := hQ3 _ h
      exact fr_retV h hM4
    obtain ⟨r3, hr3, hq3⟩ := h
    obtain ⟨n3, hn3⟩ := lp_n hr3
    have I3 : ∀ (n : Nat) (x5 : Int32) (M6 : im_M), fr 10141204801825835211973625643008 [(96, 10)] M M6 → lpn (uc2 (f_MLineRows_lay_L29 p0 p2)) n (x5, M6) = some r3 → fr 10141204801825835211973625643008 [(96, 10)] M r := by
      intro n
      induction n with
      | zero => intro x5 M6 hM6 hn; exact (lpn_0 hn).elim
      | succ n ih =>
        intro x5 M6 hM6 hn
        have h := lpn_ed2 hn
        unfold f_MLineRows_lay_L29 at h
        by_cases q31 : x5 ≤ 0
        · replace h := ed_pos q31 h
          exact K3 _ hM6 (lq_r h hq3)
        · replace h := ed_neg q31 h
          obtain ⟨g45, h⟩ := ed_gd h
          obtain ⟨g51, h⟩ := ed_gd h
          exact ih _ _ (fr_F (by decide) (fr_I (by decide) hM6)) (lq_l h)
    exact I3 n3 _ _ fr_refl hn3
  obtain ⟨r1, hr1, hq1⟩ := h
  obtain ⟨n1, hn1⟩ := lp_n hr1
  have I1 : ∀ (n : Nat) (x7 : Int32) (x8 : Int32), lpn (uc2 (f_MLineRows_lay_L6 p0 p1 p2 M)) n (x7, x8) = some r1 → fr 10141204801825835211973625643008 [(96, 10)] M r := by
    intro n
    induction n with
    | zero => intro x7 x8 hn; exact (lpn_0 hn).elim
    | succ n ih =>
      intro x7 x8 hn
      have h := lpn_ed2 hn
      unfold f_MLineRows_lay_L6 at h
      by_cases q9 : p1 ≤ x8
      · replace h := ed_pos q9 h
        exact K1 _ (lq_r h hq1)
      · replace h := ed_neg q9 h
        exact ih _ _ (lq_l h)
  exact I1 n1 _ _ hn1
noncomputable def f_MLineRows_bars_L43 (v4 : Int32) (x5 : Int32) (M6 : im_M) : Option ((Int32 × im_M) ⊕ (im_M)) := if ((im_i M6 96 8) - 1) ≤ x5 then some (.inr M6) else gd (inb x5 200) <| gd (inb (im_i M6 102 (Int32.toNatClampNeg x5)) 106) <| bd1 (f_MLineRows_lay (im_i M6 97 (Int32.toNatClampNeg (im_i M6 102 (Int32.toNatClampNeg x5)))) 6 v4 M6) fun (M7 : im_M) => some (.inl ((x5 + 1), M7))
noncomputable def f_MLineRows_bars (p0 : Int32) (M : im_M) : Option (Int32 × im_M) := bd1 (f_MLineRows_noModule p0 M) fun (x1 : Int32) => if (im_i (im_setI M 96 3 ((if x1 = 0 then (if ¬ (im_i M 96 8) = 0 then 0 else 2) else 1) : Int32)) 96 3) ≤ 0 then bd1 (lp (uc2 (f_MLineRows_bars_L43 p0)) (0, (im_setI (im_setI M 96 3 ((if x1 = 0 then (if ¬ (im_i M 96 8) = 0 then 0 else 2) else 1) : Int32)) 96 10 0))) fun (M8 : im_M) => bd1 (f_MLineRows_lay 2331112 7 p0 M8) fun (M9 : im_M) => some ((im_i M9 96 10), M9) else some (0, (im_setI M 96 3 ((if x1 = 0 then (if ¬ (im_i M 96 8) = 0 then 0 else 2) else 1) : Int32)))
theorem J_MLineRows_bars_d0 : decode J_MLineRows_bars.2.1 0 = .ok (.aload_n 0, 1) := by decide +kernel
theorem J_MLineRows_bars_d1 : decode J_MLineRows_bars.2.1 1 = .ok (.iload_n 1, 1) := by decide +kernel
theorem J_MLineRows_bars_d2 : decode J_MLineRows_bars.2.1 2 = .ok (.invokestatic 205, 3) := by decide +kernel
theorem J_MLineRows_bars_d5 : decode J_MLineRows_bars.2.1 5 = .ok (.ifCond .eq 7, 3) := by decide +kernel
theorem J_MLineRows_bars_d8 : decode J_MLineRows_bars.2.1 8 = .ok (.iconst 1, 1) := by decide +kernel
theorem J_MLineRows_bars_d9 : decode J_MLineRows_bars.2.1 9 = .ok (.goto 15, 3) := by decide +kernel
theorem J_MLineRows_bars_d12 : decode J_MLineRows_bars.2.1 12 = .ok (.aload_n 0, 1) := by decide +kernel
theorem J_MLineRows_bars_d13 : decode J_MLineRows_bars.2.1 13 = .ok (.getfield 188, 3) := by decide +kernel
theorem J_MLineRows_bars_d16 : decode J_MLineRows_bars.2.1 16 = .ok (.ifCond .ne 7, 3) := by decide +kernel
theorem J_MLineRows_bars_d19 : decode J_MLineRows_bars.2.1 19 = .ok (.iconst 2, 1) := by decide +kernel
theorem J_MLineRows_bars_d20 : decode J_MLineRows_bars.2.1 20 = .ok (.goto 4, 3) := by decide +kernel
theorem J_MLineRows_bars_d23 : decode J_MLineRows_bars.2.1 23 = .ok (.iconst 0, 1) := by decide +kernel
theorem J_MLineRows_bars_d24 : decode J_MLineRows_bars.2.1 24 = .ok (.putfield 149, 3) := by decide +kernel
theorem J_MLineRows_bars_d27 : decode J_MLineRows_bars.2.1 27 = .ok (.aload_n 0, 1) := by decide +kernel
theorem J_MLineRows_bars_d28 : decode J_MLineRows_bars.2.1 28 = .ok (.getfield 149, 3) := by decide +kernel
theorem J_MLineRows_bars_d31 : decode J_MLineRows_bars.2.1 31 = .ok (.ifCond .le 5, 3) := by decide +kernel
theorem J_MLineRows_bars_d34 : decode J_MLineRows_bars.2.1 34 = .ok (.iconst 0, 1) := by decide +kernel
theorem J_MLineRows_bars_d35 : decode J_MLineRows_bars.2.1 35 = .ok (.ireturn, 1) := by decide +kernel
theorem J_MLineRows_bars_d36 : decode J_MLineRows_bars.2.1 36 = .ok (.aload_n 0, 1) := by decide +kernel
theorem J_MLineRows_bars_d37 : decode J_MLineRows_bars.2.1 37 = .ok (.iconst 0, 1) := by decide +kernel
theorem J_MLineRows_bars_d38 : decode J_MLineRows_bars.2.1 38 = .ok (.putfield 202, 3) := by decide +kernel
theorem J_MLineRows_bars_d41 : decode J_MLineRows_bars.2.1 41 = .ok (.iconst 0, 1) := by decide +kernel
theorem J_MLineRows_bars_d42 : decode J_MLineRows_bars.2.1 42 = .ok (.istore_n 2, 1) := by decide +kernel
theorem J_MLineRows_bars_d43 : decode J_MLineRows_bars.2.1 43 = .ok (.iload_n 2, 1) := by decide +kernel
theorem J_MLineRows_bars_d44 : decode J_MLineRows_bars.2.1 44 = .ok (.aload_n 0, 1) := by decide +kernel
theorem J_MLineRows_bars_d45 : decode J_MLineRows_bars.2.1 45 = .ok (.getfield 188, 3) := by decide +kernel
theorem J_MLineRows_bars_d48 : decode J_MLineRows_bars.2.1 48 = .ok (.iconst 1, 1) := by decide +kernel
theorem J_MLineRows_bars_d49 : decode J_MLineRows_bars.2.1 49 = .ok (.isub, 1) := by decide +kernel
theorem J_MLineRows_bars_d50 : decode J_MLineRows_bars.2.1 50 = .ok (.if_icmp .ge 27, 3) := by decide +kernel
theorem J_MLineRows_bars_d53 : decode J_MLineRows_bars.2.1 53 = .ok (.aload_n 0, 1) := by decide +kernel
theorem J_MLineRows_bars_d54 : decode J_MLineRows_bars.2.1 54 = .ok (.aload_n 0, 1) := by decide +kernel
theorem J_MLineRows_bars_d55 : decode J_MLineRows_bars.2.1 55 = .ok (.getfield 113, 3) := by decide +kernel
theorem J_MLineRows_bars_d58 : decode J_MLineRows_bars.2.1 58 = .ok (.aload_n 0, 1) := by decide +kernel
theorem J_MLineRows_bars_d59 : decode J_MLineRows_bars.2.1 59 = .ok (.getfield 131, 3) := by decide +kernel
theorem J_MLineRows_bars_d62 : decode J_MLineRows_bars.2.1 62 = .ok (.iload_n 2, 1) := by decide +kernel
theorem J_MLineRows_bars_d63 : decode J_MLineRows_bars.2.1 63 = .ok (.iaload, 1) := by decide +kernel
theorem J_MLineRows_bars_d64 : decode J_MLineRows_bars.2.1 64 = .ok (.iaload, 1) := by decide +kernel
theorem J_MLineRows_bars_d65 : decode J_MLineRows_bars.2.1 65 = .ok (.bipush 6, 2) := by decide +kernel
theorem J_MLineRows_bars_d67 : decode J_MLineRows_bars.2.1 67 = .ok (.iload_n 1, 1) := by decide +kernel
theorem J_MLineRows_bars_d68 : decode J_MLineRows_bars.2.1 68 = .ok (.invokevirtual 209, 3) := by decide +kernel
theorem J_MLineRows_bars_d71 : decode J_MLineRows_bars.2.1 71 = .ok (.iinc 2 1, 3) := by decide +kernel
theorem J_MLineRows_bars_d74 : decode J_MLineRows_bars.2.1 74 = .ok (.goto (-31), 3) := by decide +kernel
theorem J_MLineRows_bars_d77 : decode J_MLineRows_bars.2.1 77 = .ok (.aload_n 0, 1) := by decide +kernel
theorem J_MLineRows_bars_d78 : decode J_MLineRows_bars.2.1 78 = .ok (.ldc 213, 2) := by decide +kernel
theorem J_MLineRows_bars_d80 : decode J_MLineRows_bars.2.1 80 = .ok (.bipush 7, 2) := by decide +kernel
theorem J_MLineRows_bars_d82 : decode J_MLineRows_bars.2.1 82 = .ok (.iload_n 1, 1) := by decide +kernel
theorem J_MLineRows_bars_d83 : decode J_MLineRows_bars.2.1 83 = .ok (.invokevirtual 209, 3) := by decide +kernel
theorem J_MLineRows_bars_d86 : decode J_MLineRows_bars.2.1 86 = .ok (.aload_n 0, 1) := by decide +kernel
theorem J_MLineRows_bars_d87 : decode J_MLineRows_bars.2.1 87 = .ok (.getfield 202, 3) := by decide +kernel
theorem J_MLineRows_bars_d90 : decode J_MLineRows_bars.2.1 90 = .ok (.ireturn, 1) := by decide +kernel
theorem f_MLineRows_bars_ok {L : Nat} {xs : Nat → Int32} {dep : Nat} {w : Bool} {p0 : Int32} {M : im_M} {Q : Int32 × im_M → Prop} (hM : lw_S w M) (h : ed (f_MLineRows_bars p0 M) Q) : ia (tb_G L xs) (dep + 1) J_MLineRows_bars (rwI w Q) (0, lv_args 0 [.ref 96, .int p0], [], M) := by
  have hS : im_St (tb_G L xs) (dep + 1) J_MLineRows_bars (ia (tb_G L xs) (dep + 1) J_MLineRows_bars (rwI w Q)) := ia_St
  unfold f_MLineRows_bars at h
  have l0 : im_lk (lv_args 0 [.ref 96, .int p0]) 0 = some (.ref 96) := rfl
  have l1 : im_lk (lv_args 0 [.ref 96, .int p0]) 1 = some (.int p0) := rfl
  refine iq_aload_n hS 1 J_MLineRows_bars_d0 l0 rfl ?_
  refine iq_iload_n hS 2 J_MLineRows_bars_d1 l1 rfl ?_
  obtain ⟨Q1, hQ1, h⟩ := bd1_ed h
  refine iq_cpI hS 5 J_MLineRows_bars_d2 rfl (pr_stat (vs := [_]) lc_13_205 lT_373 rfl rfl (by decide) rfl (Nat.le_of_ble_eq_true rfl) (Nat.le_of_ble_eq_true rfl)) (f_MLineRows_noModule_ok (dep := dep + 0) hM h) rfl ?_
  intro x1 h
  replace h := hQ1 _ h
  have J2 : ∀ (z3 : Int32) (L' : List (Nat × Value)), z3 = ((if x1 = 0 then (if ¬ (im_i M 96 8) = 0 then 0 else 2) else 1) : Int32) → im_lk L' 0 = some (.ref 96) → im_lk L' 1 = some (.int p0) → ia (tb_G L xs) (dep + 1) J_MLineRows_bars (rwI w Q) (24, L', [.int z3, .ref 96], M) := by
    intro z3 L' e4 l5 l6
    subst e4
    refine iq_putI hS 27 J_MLineRows_bars_d24 lf_13_149 (Or.inl rfl) rfl (ka_96 hM) rfl ?_
    refine iq_aload_n hS 28 J_MLineRows_bars_d27 l5 rfl ?_
    refine iq_getI hS 31 J_MLineRows_bars_d28 lf_13_149 (Or.inl rfl) (ka_96 (lw_sI hM)) rfl ?_
    refine iq_if_le hS 34 J_MLineRows_bars_d31 (t := 36) rfl (fun q31 => ?_) rfl (fun q31 => ?_)
    · replace h := ed_pos q31 h
      refine iq_aload_n hS 37 J_MLineRows_bars_d36 l5 rfl ?_
      refine iq_iconst hS 38 J_MLineRows_bars_d37 (v := 0) (by decide +kernel) rfl ?_
      refine iq_putI hS 41 J_MLineRows_bars_d38 lf_13_202 (Or.inl rfl) rfl (ka_96 (lw_sI hM)) rfl ?_
      refine iq_iconst hS 42 J_MLineRows_bars_d41 (v := 0) (by decide +kernel) rfl ?_
      refine iq_istore_n hS 43 J_MLineRows_bars_d42 (by decide) rfl ?_
      obtain ⟨Q7, hQ7, h⟩ := bd1_ed h
      have K7 : ∀ (M8 : im_M) (L' : List (Nat × Value)), lw_S w M8 → im_lk L' 0 = some (.ref 96) → im_lk L' 1 = some (.int p0) → Q7 M8 → ia (tb_G L xs) (dep + 1) J_MLineRows_bars (rwI w Q) (77, L', [], M8) := by
        intro M8 L' hM8 l9 l10 h
        replace h := hQ7 _ h
        refine iq_aload_n hS 78 J_MLineRows_bars_d77 l9 rfl ?_
        refine iq_ldc hS 80 J_MLineRows_bars_d78 lk_13_213 rfl ?_
        refine iq_bipush hS 82 J_MLineRows_bars_d80 (v := 7) (by decide +kernel) rfl ?_
        refine iq_iload_n hS 83 J_MLineRows_bars_d82 l10 rfl ?_
        obtain ⟨Q11, hQ11, h⟩ := bd1_ed h
        refine iq_cwV hS 86 J_MLineRows_bars_d83 rfl (pr_inst (vs := [_, _, _]) lc_13_209 lT_374 rfl rfl (by decide) (by decide) rfl (Nat.le_of_ble_eq_true rfl) (Nat.le_of_ble_eq_true rfl) (fun _ => Or.inl (pr_b (ka_96 hM8) (by decide) rfl))) (f_MLineRows_lay_ok (dep := dep + 0) hM8 h) rfl ?_
        intro M11 hM11 h
        replace h := hQ11 _ h
        refine iq_aload_n hS 87 J_MLineRows_bars_d86 l9 rfl ?_
        refine iq_getI hS 90 J_MLineRows_bars_d87 lf_13_202 (Or.inl rfl) (ka_96 hM11) rfl ?_
        exact iq_iret J_MLineRows_bars_d90 rfl rfl ⟨_, rfl, hM11, ed_some h⟩
      obtain ⟨r7, hr7, hq7⟩ := h
      obtain ⟨n7, hn7⟩ := lp_n hr7
      have I7 : ∀ (n : Nat) (x12 : Int32) (M13 : im_M) (L' : List (Nat × Value)), lw_S w M13 → im_lk L' 0 = some (.ref 96) → im_lk L' 1 = some (.int p0) → im_lk L' 2 = some (.int x12) → lpn (uc2 (f_MLineRows_bars_L43 p0)) n (x12, M13) = some r7 → ia (tb_G L xs) (dep + 1) J_MLineRows_bars (rwI w Q) (43, L', [], M13) := by
        intro n
        induction n with
        | zero => intro x12 M13 L' hM13 l14 l15 l16 hn; exact (lpn_0 hn).elim
        | succ n ih =>
          intro x12 M13 L' hM13 l14 l15 l16 hn
          have h := lpn_ed2 hn
          unfold f_MLineRows_bars_L43 at h
          refine iq_iload_n hS 44 J_MLineRows_bars_d43 l16 rfl ?_
          refine iq_aload_n hS 45 J_MLineRows_bars_d44 l14 rfl ?_
          refine iq_getI hS 48 J_MLineRows_bars_d45 lf_13_188 (Or.inl rfl) (ka_96 hM13) rfl ?_
          refine iq_iconst hS 49 J_MLineRows_bars_d48 (v := 1) (by decide +kernel) rfl ?_
          refine iq_isub hS 50 J_MLineRows_bars_d49 rfl ?_
          refine iq_icmp_ge hS 53 J_MLineRows_bars_d50 (t := 77) rfl (fun q50 => ?_) rfl (fun q50 => ?_)
          · replace h := ed_pos q50 h
            exact K7 _ _ hM13 l14 l15 (lq_r h hq7)
          · replace h := ed_neg q50 h
            refine iq_aload_n hS 54 J_MLineRows_bars_d53 l14 rfl ?_
            refine iq_aload_n hS 55 J_MLineRows_bars_d54 l14 rfl ?_
            refine iq_getR hS 58 J_MLineRows_bars_d55 lf_13_113 (Or.inr ⟨_, rfl⟩) (ka_96 hM13) (ra_96_0 hM13) rfl ?_
            refine iq_aload_n hS 59 J_MLineRows_bars_d58 l14 rfl ?_
            refine iq_getR hS 62 J_MLineRows_bars_d59 lf_13_131 (Or.inr ⟨_, rfl⟩) (ka_96 hM13) (ra_96_7 hM13) rfl ?_
            refine iq_iload_n hS 63 J_MLineRows_bars_d62 l16 rfl ?_
            obtain ⟨g63, h⟩ := ed_gd h
            refine iq_iaload hS 64 J_MLineRows_bars_d63 ⟨(ka_102 hM13).1, (ka_102 hM13).2, g63.1, ix_lt (kl_102 hM13) g63.2⟩ rfl ?_
            obtain ⟨g64, h⟩ := ed_gd h
            refine iq_iaload hS 65 J_MLineRows_bars_d64 ⟨(ka_97 hM13).1, (ka_97 hM13).2, g64.1, ix_lt (kl_97 hM13) g64.2⟩ rfl ?_
            refine iq_bipush hS 67 J_MLineRows_bars_d65 (v := 6) (by decide +kernel) rfl ?_
            refine iq_iload_n hS 68 J_MLineRows_bars_d67 l15 rfl ?_
            obtain ⟨Q17, hQ17, h⟩ := bd1_ed h
            refine iq_cwV hS 71 J_MLineRows_bars_d68 rfl (pr_inst (vs := [_, _, _]) lc_13_209 lT_374 rfl rfl (by decide) (by decide) rfl (Nat.le_of_ble_eq_true rfl) (Nat.le_of_ble_eq_true rfl) (fun _ => Or.inl (pr_b (ka_96 hM13) (by decide) rfl))) (f_MLineRows_lay_ok (dep := dep + 0) hM13 h) rfl ?_
            intro M17 hM17 h
            replace h := hQ17 _ h
            refine iq_iincv hS 74 J_MLineRows_bars_d71 (c := 1) (by decide +kernel) l16 (by decide) rfl ?_
            refine iq_goto hS J_MLineRows_bars_d74 (t := 43) rfl ?_
            exact ih _ _ _ hM17 (lk_1r l14 (by decide)) (lk_1i l15 (by decide)) lk_1s (lq_l h)
      exact I7 n7 _ _ _ (lw_sI (lw_sI hM)) (lk_1r l5 (by decide)) (lk_1i l6 (by decide)) lk_1s hn7
    · replace h := ed_neg q31 h
      refine iq_iconst hS 35 J_MLineRows_bars_d34 (v := 0) (by decide +kernel) rfl ?_
      exact iq_iret J_MLineRows_bars_d35 rfl rfl ⟨_, rfl, (lw_sI hM), ed_some h⟩
  refine iq_if_eq hS 8 J_MLineRows_bars_d5 (t := 12) rfl (fun q5 => ?_) rfl (fun q5 => ?_)
  · refine iq_aload_n hS 13 J_MLineRows_bars_d12 l0 rfl ?_
    refine iq_getI hS 16 J_MLineRows_bars_d13 lf_13_188 (Or.inl rfl) (ka_96 hM) rfl ?_
    refine iq_if_ne hS 19 J_MLineRows_bars_d16 (t := 23) rfl (fun q16 => ?_) rfl (fun q16 => ?_)
    · refine iq_iconst hS 24 J_MLineRows_bars_d23 (v := 0) (by decide +kernel) rfl ?_
      exact J2 _ _ (by simp only [if_pos q5, if_pos q16]) l0 l1
    · refine iq_iconst hS 20 J_MLineRows_bars_d19 (v := 2) (by decide +kernel) rfl ?_
      refine iq_goto hS J_MLineRows_bars_d20 (t := 24) rfl ?_
      exact J2 _ _ (by simp only [if_pos q5, if_neg q16]) l0 l1
  · refine iq_iconst hS 9 J_MLineRows_bars_d8 (v := 1) (by decide +kernel) rfl ?_
    refine iq_goto hS J_MLineRows_bars_d9 (t := 24) rfl ?_
    exact J2 _ _ (by simp only [if_neg q5]) l0 l1
theorem f_MLineRows_bars_fr {p0 : Int32} {M : im_M} {r : Int32 × im_M} (h : f_MLineRows_bars p0 M = some r) : fr 10141204801825835211973625643008 [(96, 3), (96, 10)] M r.2 := by
  replace h : ed (f_MLineRows_bars p0 M) (fun x => x = r) := ⟨r, h, rfl⟩
  unfold f_MLineRows_bars at h
  obtain ⟨Q1, hQ1, h⟩ := bd1_ed h
  obtain ⟨x1, e1, h⟩ := h
  replace h := hQ1 _ h
  by_cases q31 : (im_i (im_setI M 96 3 ((if x1 = 0 then (if ¬ (im_i M 96 8) = 0 then 0 else 2) else 1) : Int32)) 96 3) ≤ 0
  · replace h := ed_pos q31 h
    obtain ⟨Q3, hQ3, h⟩ := bd1_ed h
    have K3 : ∀ (M4 : im_M), fr 10141204801825835211973625643008 [(96, 3), (96, 10)] M M4 → Q3 M4 → fr 10141204801825835211973625643008 [(96, 3), (96, 10)] M r.2 := by
      intro M4 hM4 h
      replace h := hQ3 _ h
      obtain ⟨Q5, hQ5, h⟩ := bd1_ed h
      obtain ⟨M5, e5, h⟩ := h
      replace h := hQ5 _ h
      exact fr_ret h (fr_tr (fr_mono (by decide) (by decide +kernel) (f_MLineRows_lay_fr e5)) hM4)
    obtain ⟨r3, hr3, hq3⟩ := h
    obtain ⟨n3, hn3⟩ := lp_n hr3
    have I3 : ∀ (n : Nat) (x6 : Int32) (M7 : im_M), fr 10141204801825835211973625643008 [(96, 3), (96, 10)] M M7 → lpn (uc2 (f_MLineRows_bars_L43 p0)) n (x6, M7) = some r3 → fr 10141204801825835211973625643008 [(96, 3), (96, 10)] M r.2 := by
      intro n
      induction n with
      | zero => intro x6 M7 hM7 hn; exact (lpn_0 hn).elim
      | succ n ih =>
        intro x6 M7 hM7 hn
        have h := lpn_ed2 hn
        unfold f_MLineRows_bars_L43 at h
        by_cases q50 : ((im_i M7 96 8) - 1) ≤ x6
        · replace h := ed_pos q50 h
          exact K3 _ hM7 (lq_r h hq3)
        · replace h := ed_neg q50 h
          obtain ⟨g63, h⟩ := ed_gd h
          obtain ⟨g64, h⟩ := ed_gd h
          obtain ⟨Q8, hQ8, h⟩ := bd1_ed h
          obtain ⟨M8, e8, h⟩ := h
          replace h := hQ8 _ h
          exact ih _ _ (fr_tr (fr_mono (by decide) (by decide +kernel) (f_MLineRows_lay_fr e8)) hM7) (lq_l h)
    exact I3 n3 _ _ (fr_F (by decide) (fr_F (by decide) fr_refl)) hn3
  · replace h := ed_neg q31 h
    exact fr_ret h (fr_F (by decide) fr_refl)
noncomputable def f_MLineRows_width (p0 : Int32) (M : im_M) : Option (Int32 × im_M) := jn0 (fun (_ : Unit) => some ((-1), (im_setI M 96 3 0))) fun k1 => if p0 < 0 then k1 () else if p0 < (im_i (im_setI M 96 3 0) 96 10) then gd (inb p0 800) <| some ((im_i (im_setI M 96 3 0) 103 (Int32.toNatClampNeg p0)), (im_setI M 96 3 0)) else k1 ()
theorem J_MLineRows_width_d0 : decode J_MLineRows_width.2.1 0 = .ok (.aload_n 0, 1) := by decide +kernel
theorem J_MLineRows_width_d1 : decode J_MLineRows_width.2.1 1 = .ok (.iconst 0, 1) := by decide +kernel
theorem J_MLineRows_width_d2 : decode J_MLineRows_width.2.1 2 = .ok (.putfield 149, 3) := by decide +kernel
theorem J_MLineRows_width_d5 : decode J_MLineRows_width.2.1 5 = .ok (.iload_n 1, 1) := by decide +kernel
theorem J_MLineRows_width_d6 : decode J_MLineRows_width.2.1 6 = .ok (.ifCond .lt 11, 3) := by decide +kernel
theorem J_MLineRows_width_d9 : decode J_MLineRows_width.2.1 9 = .ok (.iload_n 1, 1) := by decide +kernel
theorem J_MLineRows_width_d10 : decode J_MLineRows_width.2.1 10 = .ok (.aload_n 0, 1) := by decide +kernel
theorem J_MLineRows_width_d11 : decode J_MLineRows_width.2.1 11 = .ok (.getfield 202, 3) := by decide +kernel
theorem J_MLineRows_width_d14 : decode J_MLineRows_width.2.1 14 = .ok (.if_icmp .lt 7, 3) := by decide +kernel
theorem J_MLineRows_width_d17 : decode J_MLineRows_width.2.1 17 = .ok (.iconst (-1), 1) := by decide +kernel
theorem J_MLineRows_width_d18 : decode J_MLineRows_width.2.1 18 = .ok (.goto 9, 3) := by decide +kernel
theorem J_MLineRows_width_d21 : decode J_MLineRows_width.2.1 21 = .ok (.aload_n 0, 1) := by decide +kernel
theorem J_MLineRows_width_d22 : decode J_MLineRows_width.2.1 22 = .ok (.getfield 134, 3) := by decide +kernel
theorem J_MLineRows_width_d25 : decode J_MLineRows_width.2.1 25 = .ok (.iload_n 1, 1) := by decide +kernel
theorem J_MLineRows_width_d26 : decode J_MLineRows_width.2.1 26 = .ok (.iaload, 1) := by decide +kernel
theorem J_MLineRows_width_d27 : decode J_MLineRows_width.2.1 27 = .ok (.ireturn, 1) := by decide +kernel
theorem f_MLineRows_width_ok {L : Nat} {xs : Nat → Int32} {dep : Nat} {w : Bool} {p0 : Int32} {M : im_M} {Q : Int32 × im_M → Prop} (hM : lw_S w M) (h : ed (f_MLineRows_width p0 M) Q) : ia (tb_G L xs) dep J_MLineRows_width (rwI w Q) (0, lv_args 0 [.ref 96, .int p0], [], M) := by
  have hS : im_St (tb_G L xs) dep J_MLineRows_width (ia (tb_G L xs) dep J_MLineRows_width (rwI w Q)) := ia_St
  unfold f_MLineRows_width at h
  have l0 : im_lk (lv_args 0 [.ref 96, .int p0]) 0 = some (.ref 96) := rfl
  have l1 : im_lk (lv_args 0 [.ref 96, .int p0]) 1 = some (.int p0) := rfl
  refine iq_aload_n hS 1 J_MLineRows_width_d0 l0 rfl ?_
  refine iq_iconst hS 2 J_MLineRows_width_d1 (v := 0) (by decide +kernel) rfl ?_
  refine iq_putI hS 5 J_MLineRows_width_d2 lf_13_149 (Or.inl rfl) rfl (ka_96 hM) rfl ?_
  refine iq_iload_n hS 6 J_MLineRows_width_d5 l1 rfl ?_
  obtain ⟨k1, Q1, hQ1, hk1, h⟩ := jn0_ed h
  have J1 : ∀  (L' : List (Nat × Value)), Q1 () → ia (tb_G L xs) dep J_MLineRows_width (rwI w Q) (17, L', [], (im_setI M 96 3 0)) := by
    intro  L'  h
    replace h := hQ1  h
    refine iq_iconst hS 18 J_MLineRows_width_d17 (v := (-1)) (by decide +kernel) rfl ?_
    refine iq_goto hS J_MLineRows_width_d18 (t := 27) rfl ?_
    exact iq_iret J_MLineRows_width_d27 rfl rfl ⟨_, rfl, (lw_sI hM), ed_some h⟩
  refine iq_if_lt hS 9 J_MLineRows_width_d6 (t := 17) rfl (fun q6 => ?_) rfl (fun q6 => ?_)
  · replace h := ed_pos q6 h
    exact J1  _  (hk1  h)
  · replace h := ed_neg q6 h
    refine iq_iload_n hS 10 J_MLineRows_width_d9 l1 rfl ?_
    refine iq_aload_n hS 11 J_MLineRows_width_d10 l0 rfl ?_
    refine iq_getI hS 14 J_MLineRows_width_d11 lf_13_202 (Or.inl rfl) (ka_96 (lw_sI hM)) rfl ?_
    refine iq_icmp_lt hS 17 J_MLineRows_width_d14 (t := 21) rfl (fun q14 => ?_) rfl (fun q14 => ?_)
    · replace h := ed_pos q14 h
      refine iq_aload_n hS 22 J_MLineRows_width_d21 l0 rfl ?_
      refine iq_getR hS 25 J_MLineRows_width_d22 lf_13_134 (Or.inr ⟨_, rfl⟩) (ka_96 (lw_sI hM)) (ra_96_9 (lw_sI hM)) rfl ?_
      refine iq_iload_n hS 26 J_MLineRows_width_d25 l1 rfl ?_
      obtain ⟨g26, h⟩ := ed_gd h
      refine iq_iaload hS 27 J_MLineRows_width_d26 ⟨(ka_103 (lw_sI hM)).1, (ka_103 (lw_sI hM)).2, g26.1, ix_lt (kl_103 (lw_sI hM)) g26.2⟩ rfl ?_
      exact iq_iret J_MLineRows_width_d27 rfl rfl ⟨_, rfl, (lw_sI hM), ed_some h⟩
    · replace h := ed_neg q14 h
      exact J1  _  (hk1  h)
theorem f_MLineRows_width_fr {p0 : Int32} {M : im_M} {r : Int32 × im_M} (h : f_MLineRows_width p0 M = some r) : fr 0 [(96, 3)] M r.2 := by
  replace h : ed (f_MLineRows_width p0 M) (fun x => x = r) := ⟨r, h, rfl⟩
  unfold f_MLineRows_width at h
  obtain ⟨k1, Q1, hQ1, hk1, h⟩ := jn0_ed h
  have J1 : Q1 () → fr 0 [(96, 3)] M r.2 := by
    intro  h
    replace h := hQ1  h
    exact fr_ret h (fr_F (by decide) fr_refl)
  by_cases q6 : p0 < 0
  · replace h := ed_pos q6 h
    exact J1  (hk1  h)
  · replace h := ed_neg q6 h
    by_cases q14 : p0 < (im_i (im_setI M 96 3 0) 96 10)
    · replace h := ed_pos q14 h
      obtain ⟨g26, h⟩ := ed_gd h
      exact fr_ret h (fr_F (by decide) fr_refl)
    · replace h := ed_neg q14 h
      exact J1  (hk1  h)
noncomputable def f_M_draftWidths_L2 (x2 : Int32) (M3 : im_M) : Option ((Int32 × im_M) ⊕ (im_M)) := bd2 (f_MLineRows_width x2 M3) fun (x4 : Int32) (M4 : im_M) => if x4 ≤ 0 then some (.inr M4) else bd2 (f_MLineRows_width x2 M4) fun (x5 : Int32) (M5 : im_M) => bd1 (f_M_draft x5 M5) fun (M6 : im_M) => some (.inl ((x2 + 1), M6))
noncomputable def f_M_draftWidths (M : im_M) : Option (im_M) := bd1 (lp (uc2 (f_M_draftWidths_L2)) (0, M)) fun (M7 : im_M) => some M7
theorem J_M_draftWidths_d0 : decode J_M_draftWidths.2.1 0 = .ok (.iconst 0, 1) := by decide +kernel
theorem J_M_draftWidths_d1 : decode J_M_draftWidths.2.1 1 = .ok (.istore_n 1, 1) := by decide +kernel
theorem J_M_draftWidths_d2 : decode J_M_draftWidths.2.1 2 = .ok (.aload_n 0, 1) := by decide +kernel
theorem J_M_draftWidths_d3 : decode J_M_draftWidths.2.1 3 = .ok (.getfield 30, 3) := by decide +kernel
theorem J_M_draftWidths_d6 : decode J_M_draftWidths.2.1 6 = .ok (.iload_n 1, 1) := by decide +kernel
theorem J_M_draftWidths_d7 : decode J_M_draftWidths.2.1 7 = .ok (.invokevirtual 112, 3) := by decide +kernel
theorem J_M_draftWidths_d10 : decode J_M_draftWidths.2.1 10 = .ok (.ifCond .le 21, 3) := by decide +kernel
theorem J_M_draftWidths_d13 : decode J_M_draftWidths.2.1 13 = .ok (.aload_n 0, 1) := by decide +kernel
theorem J_M_draftWidths_d14 : decode J_M_draftWidths.2.1 14 = .ok (.aload_n 0, 1) := by decide +kernel
theorem J_M_draftWidths_d15 : decode J_M_draftWidths.2.1 15 = .ok (.getfield 30, 3) := by decide +kernel
theorem J_M_draftWidths_d18 : decode J_M_draftWidths.2.1 18 = .ok (.iload_n 1, 1) := by decide +kernel
theorem J_M_draftWidths_d19 : decode J_M_draftWidths.2.1 19 = .ok (.invokevirtual 112, 3) := by decide +kernel
theorem J_M_draftWidths_d22 : decode J_M_draftWidths.2.1 22 = .ok (.invokevirtual 108, 3) := by decide +kernel
theorem J_M_draftWidths_d25 : decode J_M_draftWidths.2.1 25 = .ok (.iinc 1 1, 3) := by decide +kernel
theorem J_M_draftWidths_d28 : decode J_M_draftWidths.2.1 28 = .ok (.goto (-26), 3) := by decide +kernel
theorem J_M_draftWidths_d31 : decode J_M_draftWidths.2.1 31 = .ok (.return_, 1) := by decide +kernel
theorem f_M_draftWidths_ok {L : Nat} {xs : Nat → Int32} {dep : Nat} {w : Bool} {M : im_M} {Q : im_M → Prop} (hM : lw_S w M) (h : ed (f_M_draftWidths M) Q) : ia (tb_G L xs) (dep + 2) J_M_draftWidths (rwV w Q) (0, lv_args 0 [.ref 69], [], M) := by
  have hS : im_St (tb_G L xs) (dep + 2) J_M_draftWidths (ia (tb_G L xs) (dep + 2) J_M_draftWidths (rwV w Q)) := ia_St
  unfold f_M_draftWidths at h
  have l0 : im_lk (lv_args 0 [.ref 69]) 0 = some (.ref 69) := rfl
  refine iq_iconst hS 1 J_M_draftWidths_d0 (v := 0) (by decide +kernel) rfl ?_
  refine iq_istore_n hS 2 J_M_draftWidths_d1 (by decide) rfl ?_
  obtain ⟨Q1, hQ1, h⟩ := bd1_ed h
  have K1 : ∀ (M2 : im_M) (L' : List (Nat × Value)), lw_S w M2 → Q1 M2 → ia (tb_G L xs) (dep + 2) J_M_draftWidths (rwV w Q) (31, L', [], M2) := by
    intro M2 L' hM2  h
    replace h := hQ1 _ h
    exact iq_ret J_M_draftWidths_d31 rfl ⟨rfl, hM2, ed_some h⟩
  obtain ⟨r1, hr1, hq1⟩ := h
  obtain ⟨n1, hn1⟩ := lp_n hr1
  have I1 : ∀ (n : Nat) (x3 : Int32) (M4 : im_M) (L' : List (Nat × Value)), lw_S w M4 → im_lk L' 0 = some (.ref 69) → im_lk L' 1 = some (.int x3) → lpn (uc2 (f_M_draftWidths_L2)) n (x3, M4) = some r1 → ia (tb_G L xs) (dep + 2) J_M_draftWidths (rwV w Q) (2, L', [], M4) := by
    intro n
    induction n with
    | zero => intro x3 M4 L' hM4 l5 l6 hn; exact (lpn_0 hn).elim
    | succ n ih =>
      intro x3 M4 L' hM4 l5 l6 hn
      have h := lpn_ed2 hn
      unfold f_M_draftWidths_L2 at h
      refine iq_aload_n hS 3 J_M_draftWidths_d2 l5 rfl ?_
      refine iq_getR hS 6 J_M_draftWidths_d3 lf_17_30 (Or.inl ⟨_, rfl⟩) (ka_69 hM4) (ra_69_5 hM4) rfl ?_
      refine iq_iload_n hS 7 J_M_draftWidths_d6 l6 rfl ?_
      obtain ⟨Q7, hQ7, h⟩ := bd2_ed h
      refine iq_cwI hS 10 J_M_draftWidths_d7 rfl (pr_inst (vs := [_]) lc_17_112 lT_376 rfl rfl (by decide) (by decide) rfl (Nat.le_of_ble_eq_true rfl) (Nat.le_of_ble_eq_true rfl) (fun _ => Or.inl (pr_b (ka_96 hM4) (by decide) rfl))) (f_MLineRows_width_ok (dep := dep + 1) hM4 h) rfl ?_
      intro x7 M7 hM7 h
      replace h := hQ7 _ _ h
      refine iq_if_le hS 13 J_M_draftWidths_d10 (t := 31) rfl (fun q10 => ?_) rfl (fun q10 => ?_)
      · replace h := ed_pos q10 h
        exact K1 _ _ hM7  (lq_r h hq1)
      · replace h := ed_neg q10 h
        refine iq_aload_n hS 14 J_M_draftWidths_d13 l5 rfl ?_
        refine iq_aload_n hS 15 J_M_draftWidths_d14 l5 rfl ?_
        refine iq_getR hS 18 J_M_draftWidths_d15 lf_17_30 (Or.inl ⟨_, rfl⟩) (ka_69 hM7) (ra_69_5 hM7) rfl ?_
        refine iq_iload_n hS 19 J_M_draftWidths_d18 l6 rfl ?_
        obtain ⟨Q8, hQ8, h⟩ := bd2_ed h
        refine iq_cwI hS 22 J_M_draftWidths_d19 rfl (pr_inst (vs := [_]) lc_17_112 lT_376 rfl rfl (by decide) (by decide) rfl (Nat.le_of_ble_eq_true rfl) (Nat.le_of_ble_eq_true rfl) (fun _ => Or.inl (pr_b (ka_96 hM7) (by decide) rfl))) (f_MLineRows_width_ok (dep := dep + 1) hM7 h) rfl ?_
        intro x8 M8 hM8 h
        replace h := hQ8 _ _ h
        obtain ⟨Q9, hQ9, h⟩ := bd1_ed h
        refine iq_cwV hS 25 J_M_draftWidths_d22 rfl (pr_inst (vs := [_]) lc_17_108 lT_337 rfl rfl (by decide) (by decide) rfl (Nat.le_of_ble_eq_true rfl) (Nat.le_of_ble_eq_true rfl) (fun _ => Or.inl (pr_b (ka_69 hM8) (by decide) rfl))) (f_M_draft_ok (dep := dep + 0) hM8 h) rfl ?_
        intro M9 hM9 h
        replace h := hQ9 _ h
        refine iq_iincv hS 28 J_M_draftWidths_d25 (c := 1) (by decide +kernel) l6 (by decide) rfl ?_
        refine iq_goto hS J_M_draftWidths_d28 (t := 2) rfl ?_
        exact ih _ _ _ hM9 (lk_1r l5 (by decide)) lk_1s (lq_l h)
  exact I1 n1 _ _ _ hM (lk_1r l0 (by decide)) lk_1s hn1
theorem f_M_draftWidths_fr {M : im_M} {r : im_M} (h : f_M_draftWidths M = some r) : fr 4951760157141521099596496896 [(89, 0), (89, 7), (96, 3)] M r := by
  replace h : ed (f_M_draftWidths M) (fun x => x = r) := ⟨r, h, rfl⟩
  unfold f_M_draftWidths at h
  obtain ⟨Q1, hQ1, h⟩ := bd1_ed h
  have K1 : ∀ (M2 : im_M), fr 4951760157141521099596496896 [(89, 0), (89, 7), (96, 3)] M M2 → Q1 M2 → fr 4951760157141521099596496896 [(89, 0), (89, 7), (96, 3)] M r := by
    intro M2 hM2 h
    replace h := hQ1 _ h
    exact fr_retV h hM2
  obtain ⟨r1, hr1, hq1⟩ := h
  obtain ⟨n1, hn1⟩ := lp_n hr1
  have I1 : ∀ (n : Nat) (x3 : Int32) (M4 : im_M), fr 4951760157141521099596496896 [(89, 0), (89, 7), (96, 3)] M M4 → lpn (uc2 (f_M_draftWidths_L2)) n (x3, M4) = some r1 → fr 4951760157141521099596496896 [(89, 0), (89, 7), (96, 3)] M r := by
    intro n
    induction n with
    | zero => intro x3 M4 hM4 hn; exact (lpn_0 hn).elim
    | succ n ih =>
      intro x3 M4 hM4 hn
      have h := lpn_ed2 hn
      unfold f_M_draftWidths_L2 at h
      obtain ⟨Q5, hQ5, h⟩ := bd2_ed h
      obtain ⟨⟨x5, M5⟩, e5, h⟩ := h
      replace h := hQ5 _ _ h
      by_cases q10 : x5 ≤ 0
      · replace h := ed_pos q10 h
        exact K1 _ (fr_tr (fr_mono (by decide) (by decide +kernel) (f_MLineRows_width_fr e5)) hM4) (lq_r h hq1)
      · replace h := ed_neg q10 h
        obtain ⟨Q6, hQ6, h⟩ := bd2_ed h
        obtain ⟨⟨x6, M6⟩, e6, h⟩ := h
        replace h := hQ6 _ _ h
        obtain ⟨Q7, hQ7, h⟩ := bd1_ed h
        obtain ⟨M7, e7, h⟩ := h
        replace h := hQ7 _ h
        exact ih _ _ (fr_tr (fr_mono (by decide) (by decide +kernel) (f_M_draft_fr e7)) (fr_tr (fr_mono (by decide) (by decide +kernel) (f_MLineRows_width_fr e6)) (fr_tr (fr_mono (by decide) (by decide +kernel) (f_MLineRows_width_fr e5)) hM4))) (lq_l h)
  exact I1 n1 _ _ fr_refl hn1
noncomputable def f_M_draftRow_L22 (v4 : Int32) (v5 : Int32) (x6 : Int32) (M7 : im_M) : Option ((Int32 × im_M) ⊕ ((im_M) ⊕ (Int32 × im_M))) := if v5 ≤ x6 then some (.inr (.inl M7)) else bd2 (f_M_byteOf v4 x6 M7) fun (x8 : Int32) (M8 : im_M) => if 128 < x8 then some (.inr (.inr (0, M8))) else bd2 (f_MLineRows_write 1 (Int32.toInt64 x8) M8) fun (x9 : Int32) (M9 : im_M) => if 0 ≤ x9 then some (.inl ((x6 + 1), M9)) else some (.inr (.inr (0, M9)))
noncomputable def f_M_draftRow (p0 : Int32) (M : im_M) : Option (Int32 × im_M) := bd2 (f_MLineRows_wipe M) fun (x1 : Int32) (M1 : im_M) => bd2 (f_MScriptRows_order p0 8 M1) fun (x2 : Int32) (M2 : im_M) => bs1 (lp (uc2 (f_M_draftRow_L22 p0 x2)) (0, M2)) (fun (M10 : im_M) => bd2 (f_MLineRows_pack M10) fun (x11 : Int32) (M11 : im_M) => bd2 (f_MLineRows_bars 1 M11) fun (x12 : Int32) (M12 : im_M) => bd1 (f_M_draftWidths M12) fun (M13 : im_M) => some (1, M13)) (fun t => some t)
theorem J_M_draftRow_d0 : decode J_M_draftRow.2.1 0 = .ok (.aload_n 0, 1) := by decide +kernel
theorem J_M_draftRow_d1 : decode J_M_draftRow.2.1 1 = .ok (.getfield 30, 3) := by decide +kernel
theorem J_M_draftRow_d4 : decode J_M_draftRow.2.1 4 = .ok (.invokevirtual 116, 3) := by decide +kernel
theorem J_M_draftRow_d7 : decode J_M_draftRow.2.1 7 = .ok (.istore_n 2, 1) := by decide +kernel
theorem J_M_draftRow_d8 : decode J_M_draftRow.2.1 8 = .ok (.aload_n 0, 1) := by decide +kernel
theorem J_M_draftRow_d9 : decode J_M_draftRow.2.1 9 = .ok (.getfield 16, 3) := by decide +kernel
theorem J_M_draftRow_d12 : decode J_M_draftRow.2.1 12 = .ok (.iload_n 1, 1) := by decide +kernel
theorem J_M_draftRow_d13 : decode J_M_draftRow.2.1 13 = .ok (.bipush 8, 2) := by decide +kernel
theorem J_M_draftRow_d15 : decode J_M_draftRow.2.1 15 = .ok (.invokevirtual 97, 3) := by decide +kernel
theorem J_M_draftRow_d18 : decode J_M_draftRow.2.1 18 = .ok (.istore_n 3, 1) := by decide +kernel
theorem J_M_draftRow_d19 : decode J_M_draftRow.2.1 19 = .ok (.iconst 0, 1) := by decide +kernel
theorem J_M_draftRow_d20 : decode J_M_draftRow.2.1 20 = .ok (.istore 4, 2) := by decide +kernel
theorem J_M_draftRow_d22 : decode J_M_draftRow.2.1 22 = .ok (.iload 4, 2) := by decide +kernel
theorem J_M_draftRow_d24 : decode J_M_draftRow.2.1 24 = .ok (.iload_n 3, 1) := by decide +kernel
theorem J_M_draftRow_d25 : decode J_M_draftRow.2.1 25 = .ok (.if_icmp .ge 42, 3) := by decide +kernel
theorem J_M_draftRow_d28 : decode J_M_draftRow.2.1 28 = .ok (.aload_n 0, 1) := by decide +kernel
theorem J_M_draftRow_d29 : decode J_M_draftRow.2.1 29 = .ok (.iload_n 1, 1) := by decide +kernel
theorem J_M_draftRow_d30 : decode J_M_draftRow.2.1 30 = .ok (.iload 4, 2) := by decide +kernel
theorem J_M_draftRow_d32 : decode J_M_draftRow.2.1 32 = .ok (.invokevirtual 105, 3) := by decide +kernel
theorem J_M_draftRow_d35 : decode J_M_draftRow.2.1 35 = .ok (.istore 5, 2) := by decide +kernel
theorem J_M_draftRow_d37 : decode J_M_draftRow.2.1 37 = .ok (.iload 5, 2) := by decide +kernel
theorem J_M_draftRow_d39 : decode J_M_draftRow.2.1 39 = .ok (.sipush 128, 3) := by decide +kernel
theorem J_M_draftRow_d42 : decode J_M_draftRow.2.1 42 = .ok (.if_icmp .gt 17, 3) := by decide +kernel
theorem J_M_draftRow_d45 : decode J_M_draftRow.2.1 45 = .ok (.aload_n 0, 1) := by decide +kernel
theorem J_M_draftRow_d46 : decode J_M_draftRow.2.1 46 = .ok (.getfield 30, 3) := by decide +kernel
theorem J_M_draftRow_d49 : decode J_M_draftRow.2.1 49 = .ok (.iconst 1, 1) := by decide +kernel
theorem J_M_draftRow_d50 : decode J_M_draftRow.2.1 50 = .ok (.iload 5, 2) := by decide +kernel
theorem J_M_draftRow_d52 : decode J_M_draftRow.2.1 52 = .ok (.i2l, 1) := by decide +kernel
theorem J_M_draftRow_d53 : decode J_M_draftRow.2.1 53 = .ok (.invokevirtual 117, 3) := by decide +kernel
theorem J_M_draftRow_d56 : decode J_M_draftRow.2.1 56 = .ok (.ifCond .ge 5, 3) := by decide +kernel
theorem J_M_draftRow_d59 : decode J_M_draftRow.2.1 59 = .ok (.iconst 0, 1) := by decide +kernel
theorem J_M_draftRow_d60 : decode J_M_draftRow.2.1 60 = .ok (.ireturn, 1) := by decide +kernel
theorem J_M_draftRow_d61 : decode J_M_draftRow.2.1 61 = .ok (.iinc 4 1, 3) := by decide +kernel
theorem J_M_draftRow_d64 : decode J_M_draftRow.2.1 64 = .ok (.goto (-42), 3) := by decide +kernel
theorem J_M_draftRow_d67 : decode J_M_draftRow.2.1 67 = .ok (.aload_n 0, 1) := by decide +kernel
theorem J_M_draftRow_d68 : decode J_M_draftRow.2.1 68 = .ok (.getfield 30, 3) := by decide +kernel
theorem J_M_draftRow_d71 : decode J_M_draftRow.2.1 71 = .ok (.invokevirtual 118, 3) := by decide +kernel
theorem J_M_draftRow_d74 : decode J_M_draftRow.2.1 74 = .ok (.istore_n 2, 1) := by decide +kernel
theorem J_M_draftRow_d75 : decode J_M_draftRow.2.1 75 = .ok (.aload_n 0, 1) := by decide +kernel
theorem J_M_draftRow_d76 : decode J_M_draftRow.2.1 76 = .ok (.getfield 30, 3) := by decide +kernel
theorem J_M_draftRow_d79 : decode J_M_draftRow.2.1 79 = .ok (.iconst 1, 1) := by decide +kernel
theorem J_M_draftRow_d80 : decode J_M_draftRow.2.1 80 = .ok (.invokevirtual 121, 3) := by decide +kernel
theorem J_M_draftRow_d83 : decode J_M_draftRow.2.1 83 = .ok (.istore_n 2, 1) := by decide +kernel
theorem J_M_draftRow_d84 : decode J_M_draftRow.2.1 84 = .ok (.aload_n 0, 1) := by decide +kernel
theorem J_M_draftRow_d85 : decode J_M_draftRow.2.1 85 = .ok (.invokevirtual 124, 3) := by decide +kernel
theorem J_M_draftRow_d88 : decode J_M_draftRow.2.1 88 = .ok (.iconst 1, 1) := by decide +kernel
theorem J_M_draftRow_d89 : decode J_M_draftRow.2.1 89 = .ok (.ireturn, 1) := by decide +kernel
theorem f_M_draftRow_ok {L : Nat} {xs : Nat → Int32} {dep : Nat} {w : Bool} {p0 : Int32} {M : im_M} {Q : Int32 × im_M → Prop} (hM : lw_S w M) (h : ed (f_M_draftRow p0 M) Q) : ia (tb_G L xs) (dep + 7) J_M_draftRow (rwI w Q) (0, lv_args 0 [.ref 69, .int p0], [], M) := by
  have hS : im_St (tb_G L xs) (dep + 7) J_M_draftRow (ia (tb_G L xs) (dep + 7) J_M_draftRow (rwI w Q)) := ia_St
  unfold f_M_draftRow at h
  have l0 : im_lk (lv_args 0 [.ref 69, .int p0]) 0 = some (.ref 69) := rfl
  have l1 : im_lk (lv_args 0 [.ref 69, .int p0]) 1 = some (.int p0) := rfl
  refine iq_aload_n hS 1 J_M_draftRow_d0 l0 rfl ?_
  refine iq_getR hS 4 J_M_draftRow_d1 lf_17_30 (Or.inl ⟨_, rfl⟩) (ka_69 hM) (ra_69_5 hM) rfl ?_
  obtain ⟨Q1, hQ1, h⟩ := bd2_ed h
  refine iq_cwI hS 7 J_M_draftRow_d4 rfl (pr_inst (vs := []) lc_17_116 lT_358 rfl rfl (by decide) (by decide) rfl (Nat.le_of_ble_eq_true rfl) (Nat.le_of_ble_eq_true rfl) (fun _ => Or.inl (pr_b (ka_96 hM) (by decide) rfl))) (f_MLineRows_wipe_ok (dep := dep + 6) hM h) rfl ?_
  intro x1 M1 hM1 h
  replace h := hQ1 _ _ h
  refine iq_istore_n hS 8 J_M_draftRow_d7 (by decide) rfl ?_
  refine iq_aload_n hS 9 J_M_draftRow_d8 (lk_1r l0 (by decide)) rfl ?_
  refine iq_getR hS 12 J_M_draftRow_d9 lf_17_16 (Or.inl ⟨_, rfl⟩) (ka_69 hM1) (ra_69_3 hM1) rfl ?_
  refine iq_iload_n hS 13 J_M_draftRow_d12 (lk_1i l1 (by decide)) rfl ?_
  refine iq_bipush hS 15 J_M_draftRow_d13 (v := 8) (by decide +kernel) rfl ?_
  obtain ⟨Q2, hQ2, h⟩ := bd2_ed h
  refine iq_cwI hS 18 J_M_draftRow_d15 rfl (pr_inst (vs := [_, _]) lc_17_97 lT_327 rfl rfl (by decide) (by decide) rfl (Nat.le_of_ble_eq_true rfl) (Nat.le_of_ble_eq_true rfl) (fun _ => Or.inl (pr_b (ka_71 hM1) (by decide) rfl))) (f_MScriptRows_order_ok (dep := dep + 6) hM1 h) rfl ?_
  intro x2 M2 hM2 h
  replace h := hQ2 _ _ h
  refine iq_istore_n hS 19 J_M_draftRow_d18 (by decide) rfl ?_
  refine iq_iconst hS 20 J_M_draftRow_d19 (v := 0) (by decide +kernel) rfl ?_
  refine iq_istore hS 22 J_M_draftRow_d20 (by decide) rfl ?_
  obtain ⟨Q3, hQ3, hR3, h⟩ := bs1_ed h
  have K3 : ∀ (M4 : im_M) (L' : List (Nat × Value)), lw_S w M4 → im_lk L' 0 = some (.ref 69) → Q3 (.inl M4) → ia (tb_G L xs) (dep + 7) J_M_draftRow (rwI w Q) (67, L', [], M4) := by
    intro M4 L' hM4 l5 h
    replace h := hQ3 _ h
    refine iq_aload_n hS 68 J_M_draftRow_d67 l5 rfl ?_
    refine iq_getR hS 71 J_M_draftRow_d68 lf_17_30 (Or.inl ⟨_, rfl⟩) (ka_69 hM4) (ra_69_5 hM4) rfl ?_
    obtain ⟨Q6, hQ6, h⟩ := bd2_ed h
    refine iq_cwI hS 74 J_M_draftRow_d71 rfl (pr_inst (vs := []) lc_17_118 lT_360 rfl rfl (by decide) (by decide) rfl (Nat.le_of_ble_eq_true rfl) (Nat.le_of_ble_eq_true rfl) (fun _ => Or.inl (pr_b (ka_96 hM4) (by decide) rfl))) (f_MLineRows_pack_ok (dep := dep + 0) hM4 h) rfl ?_
    intro x6 M6 hM6 h
    replace h := hQ6 _ _ h
    refine iq_istore_n hS 75 J_M_draftRow_d74 (by decide) rfl ?_
    refine iq_aload_n hS 76 J_M_draftRow_d75 (lk_1r l5 (by decide)) rfl ?_
    refine iq_getR hS 79 J_M_draftRow_d76 lf_17_30 (Or.inl ⟨_, rfl⟩) (ka_69 hM6) (ra_69_5 hM6) rfl ?_
    refine iq_iconst hS 80 J_M_draftRow_d79 (v := 1) (by decide +kernel) rfl ?_
    obtain ⟨Q7, hQ7, h⟩ := bd2_ed h
    refine iq_cwI hS 83 J_M_draftRow_d80 rfl (pr_inst (vs := [_]) lc_17_121 lT_372 rfl rfl (by decide) (by decide) rfl (Nat.le_of_ble_eq_true rfl) (Nat.le_of_ble_eq_true rfl) (fun _ => Or.inl (pr_b (ka_96 hM6) (by decide) rfl))) (f_MLineRows_bars_ok (dep := dep + 5) hM6 h) rfl ?_
    intro x7 M7 hM7 h
    replace h := hQ7 _ _ h
    refine iq_istore_n hS 84 J_M_draftRow_d83 (by decide) rfl ?_
    refine iq_aload_n hS 85 J_M_draftRow_d84 (lk_1r (lk_1r l5 (by decide)) (by decide)) rfl ?_
    obtain ⟨Q8, hQ8, h⟩ := bd1_ed h
    refine iq_cwV hS 88 J_M_draftRow_d85 rfl (pr_inst (vs := []) lc_17_124 lT_375 rfl rfl (by decide) (by decide) rfl (Nat.le_of_ble_eq_true rfl) (Nat.le_of_ble_eq_true rfl) (fun _ => Or.inl (pr_b (ka_69 hM7) (by decide) rfl))) (f_M_draftWidths_ok (dep := dep + 4) hM7 h) rfl ?_
    intro M8 hM8 h
    replace h := hQ8 _ h
    refine iq_iconst hS 89 J_M_draftRow_d88 (v := 1) (by decide +kernel) rfl ?_
    exact iq_iret J_M_draftRow_d89 rfl rfl ⟨_, rfl, hM8, ed_some h⟩
  obtain ⟨r3, hr3, hq3⟩ := h
  obtain ⟨n3, hn3⟩ := lp_n hr3
  have I3 : ∀ (n : Nat) (x9 : Int32) (M10 : im_M) (L' : List (Nat × Value)), lw_S w M10 → im_lk L' 0 = some (.ref 69) → im_lk L' 1 = some (.int p0) → im_lk L' 3 = some (.int x2) → im_lk L' 4 = some (.int x9) → lpn (uc2 (f_M_draftRow_L22 p0 x2)) n (x9, M10) = some r3 → ia (tb_G L xs) (dep + 7) J_M_draftRow (rwI w Q) (22, L', [], M10) := by
    intro n
    induction n with
    | zero => intro x9 M10 L' hM10 l11 l12 l13 l14 hn; exact (lpn_0 hn).elim
    | succ n ih =>
      intro x9 M10 L' hM10 l11 l12 l13 l14 hn
      have h := lpn_ed2 hn
      unfold f_M_draftRow_L22 at h
      refine iq_iload hS 24 J_M_draftRow_d22 l14 rfl ?_
      refine iq_iload_n hS 25 J_M_draftRow_d24 l13 rfl ?_
      refine iq_icmp_ge hS 28 J_M_draftRow_d25 (t := 67) rfl (fun q25 => ?_) rfl (fun q25 => ?_)
      · replace h := ed_pos q25 h
        exact K3 _ _ hM10 l11 (lq_r h hq3)
      · replace h := ed_neg q25 h
        refine iq_aload_n hS 29 J_M_draftRow_d28 l11 rfl ?_
        refine iq_iload_n hS 30 J_M_draftRow_d29 l12 rfl ?_
        refine iq_iload hS 32 J_M_draftRow_d30 l14 rfl ?_
        obtain ⟨Q15, hQ15, h⟩ := bd2_ed h
        refine iq_cwI hS 35 J_M_draftRow_d32 rfl (pr_inst (vs := [_, _]) lc_17_105 lT_336 rfl rfl (by decide) (by decide) rfl (Nat.le_of_ble_eq_true rfl) (Nat.le_of_ble_eq_true rfl) (fun _ => Or.inl (pr_b (ka_69 hM10) (by decide) rfl))) (f_M_byteOf_ok (dep := dep + 5) hM10 h) rfl ?_
        intro x15 M15 hM15 h
        replace h := hQ15 _ _ h
        refine iq_istore hS 37 J_M_draftRow_d35 (by decide) rfl ?_
        refine iq_iload hS 39 J_M_draftRow_d37 lk_1s rfl ?_
        refine iq_sipush hS 42 J_M_draftRow_d39 (v := 128) (by decide +kernel) rfl ?_
        refine iq_icmp_gt hS 45 J_M_draftRow_d42 (t := 59) rfl (fun q42 => ?_) rfl (fun q42 => ?_)
        · replace h := ed_pos q42 h
          refine iq_iconst hS 60 J_M_draftRow_d59 (v := 0) (by decide +kernel) rfl ?_
          exact iq_iret J_M_draftRow_d60 rfl rfl ⟨_, rfl, hM15, ed_some (hR3 _ (lq_r h hq3))⟩
        · replace h := ed_neg q42 h
          refine iq_aload_n hS 46 J_M_draftRow_d45 (lk_1r l11 (by decide)) rfl ?_
          refine iq_getR hS 49 J_M_draftRow_d46 lf_17_30 (Or.inl ⟨_, rfl⟩) (ka_69 hM15) (ra_69_5 hM15) rfl ?_
          refine iq_iconst hS 50 J_M_draftRow_d49 (v := 1) (by decide +kernel) rfl ?_
          refine iq_iload hS 52 J_M_draftRow_d50 lk_1s rfl ?_
          refine iq_i2l hS 53 J_M_draftRow_d52 rfl ?_
          obtain ⟨Q16, hQ16, h⟩ := bd2_ed h
          refine iq_cwI hS 56 J_M_draftRow_d53 rfl (pr_inst (vs := [_, _]) lc_17_117 lT_359 rfl rfl (by decide) (by decide) rfl (Nat.le_of_ble_eq_true rfl) (Nat.le_of_ble_eq_true rfl) (fun _ => Or.inl (pr_b (ka_96 hM15) (by decide) rfl))) (f_MLineRows_write_ok (dep := dep + 6) hM15 h) rfl ?_
          intro x16 M16 hM16 h
          replace h := hQ16 _ _ h
          refine iq_if_ge hS 59 J_M_draftRow_d56 (t := 61) rfl (fun q56 => ?_) rfl (fun q56 => ?_)
          · replace h := ed_pos q56 h
            refine iq_iincv hS 64 J_M_draftRow_d61 (c := 1) (by decide +kernel) (lk_1i l14 (by decide)) (by decide) rfl ?_
            refine iq_goto hS J_M_draftRow_d64 (t := 22) rfl ?_
            exact ih _ _ _ hM16 (lk_1r (lk_1r l11 (by decide)) (by decide)) (lk_1i (lk_1i l12 (by decide)) (by decide)) (lk_1i (lk_1i l13 (by decide)) (by decide)) lk_1s (lq_l h)
          · replace h := ed_neg q56 h
            refine iq_iconst hS 60 J_M_draftRow_d59 (v := 0) (by decide +kernel) rfl ?_
            exact iq_iret J_M_draftRow_d60 rfl rfl ⟨_, rfl, hM16, ed_some (hR3 _ (lq_r h hq3))⟩
  exact I3 n3 _ _ _ hM2 (lk_1r (lk_1r (lk_1r l0 (by decide)) (by decide)) (by decide)) (lk_1i (lk_1i (lk_1i l1 (by decide)) (by decide)) (by decide)) (lk_1i lk_1s (by decide)) lk_1s hn3
theorem f_M_draftRow_fr {p0 : Int32} {M : im_M} {r : Int32 × im_M} (h : f_M_draftRow p0 M = some r) : fr 19019710763580582543550144577536 [(71, 0), (89, 0), (89, 7), (96, 3), (96, 5), (96, 8), (96, 10)] M r.2 := by
  replace h : ed (f_M_draftRow p0 M) (fun x => x = r) := ⟨r, h, rfl⟩
  unfold f_M_draftRow at h
  obtain ⟨Q1, hQ1, h⟩ := bd2_ed h
  obtain ⟨⟨x1, M1⟩, e1, h⟩ := h
  replace h := hQ1 _ _ h
  obtain ⟨Q2, hQ2, h⟩ := bd2_ed h
  obtain ⟨⟨x2, M2⟩, e2, h⟩ := h
  replace h := hQ2 _ _ h
  obtain ⟨Q3, hQ3, hR3, h⟩ := bs1_ed h
  have K3 : ∀ (M4 : im_M), fr 19019710763580582543550144577536 [(71, 0), (89, 0), (89, 7), (96, 3), (96, 5), (96, 8), (96, 10)] M M4 → Q3 (.inl M4) → fr 19019710763580582543550144577536 [(71, 0), (89, 0), (89, 7), (96, 3), (96, 5), (96, 8), (96, 10)] M r.2 := by
    intro M4 hM4 h
    replace h := hQ3 _ h
    obtain ⟨Q5, hQ5, h⟩ := bd2_ed h
    obtain ⟨⟨x5, M5⟩, e5, h⟩ := h
    replace h := hQ5 _ _ h
    obtain ⟨Q6, hQ6, h⟩ := bd2_ed h
    obtain ⟨⟨x6, M6⟩, e6, h⟩ := h
    replace h := hQ6 _ _ h
    obtain ⟨Q7, hQ7, h⟩ := bd1_ed h
    obtain ⟨M7, e7, h⟩ := h
    replace h := hQ7 _ h
    exact fr_ret h (fr_tr (fr_mono (by decide) (by decide +kernel) (f_M_draftWidths_fr e7)) (fr_tr (fr_mono (by decide) (by decide +kernel) (f_MLineRows_bars_fr e6)) (fr_tr (fr_mono (by decide) (by decide +kernel) (f_MLineRows_pack_fr e5)) hM4)))
  obtain ⟨r3, hr3, hq3⟩ := h
  obtain ⟨n3, hn3⟩ := lp_n hr3
  have I3 : ∀ (n : Nat) (x8 : Int32) (M9 : im_M), fr 19019710763580582543550144577536 [(71, 0), (89, 0), (89, 7), (96, 3), (96, 5), (96, 8), (96, 10)] M M9 → lpn (uc2 (f_M_draftRow_L22 p0 x2)) n (x8, M9) = some r3 → fr 19019710763580582543550144577536 [(71, 0), (89, 0), (89, 7), (96, 3), (96, 5), (96, 8), (96, 10)] M r.2 := by
    intro n
    induction n with
    | zero => intro x8 M9 hM9 hn; exact (lpn_0 hn).elim
    | succ n ih =>
      intro x8 M9 hM9 hn
      have h := lpn_ed2 hn
      unfold f_M_draftRow_L22 at h
      by_cases q25 : x2 ≤ x8
      · replace h := ed_pos q25 h
        exact K3 _ hM9 (lq_r h hq3)
      · replace h := ed_neg q25 h
        obtain ⟨Q10, hQ10, h⟩ := bd2_ed h
        obtain ⟨⟨x10, M10⟩, e10, h⟩ := h
        replace h := hQ10 _ _ h
        by_cases q42 : 128 < x10
        · replace h := ed_pos q42 h
          exact fr_ret (hR3 _ (lq_r h hq3)) (fr_tr (fr_mono (by decide) (by decide +kernel) (f_M_byteOf_fr e10)) hM9)
        · replace h := ed_neg q42 h
          obtain ⟨Q11, hQ11, h⟩ := bd2_ed h
          obtain ⟨⟨x11, M11⟩, e11, h⟩ := h
          replace h := hQ11 _ _ h
          by_cases q56 : 0 ≤ x11
          · replace h := ed_pos q56 h
            exact ih _ _ (fr_tr (fr_mono (by decide) (by decide +kernel) (f_MLineRows_write_fr e11)) (fr_tr (fr_mono (by decide) (by decide +kernel) (f_M_byteOf_fr e10)) hM9)) (lq_l h)
          · replace h := ed_neg q56 h
            exact fr_ret (hR3 _ (lq_r h hq3)) (fr_tr (fr_mono (by decide) (by decide +kernel) (f_MLineRows_write_fr e11)) (fr_tr (fr_mono (by decide) (by decide +kernel) (f_M_byteOf_fr e10)) hM9))
  exact I3 n3 _ _ (fr_tr (fr_mono (by decide) (by decide +kernel) (f_MScriptRows_order_fr e2)) (fr_tr (fr_mono (by decide) (by decide +kernel) (f_MLineRows_wipe_fr e1)) fr_refl)) hn3
