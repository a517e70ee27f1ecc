/-! METHODS AS FUNCTIONS -/
noncomputable def f_MSquareRows_reading (p0 : Int32) (M : im_M) : Option (Int32 × im_M) := if (im_i (im_setI M 108 0 ((if p0 < 0 then 1 else (if p0 ≤ 3 then 0 else 1)) : Int32)) 108 0) ≤ 0 then if (im_i (im_setI M 108 0 ((if p0 < 0 then 1 else (if p0 ≤ 3 then 0 else 1)) : Int32)) 108 32) = 0 then some ((-1), (im_setI M 108 0 ((if p0 < 0 then 1 else (if p0 ≤ 3 then 0 else 1)) : Int32))) else gd (inb p0 4) <| some ((im_i (im_setI M 108 0 ((if p0 < 0 then 1 else (if p0 ≤ 3 then 0 else 1)) : Int32)) 129 (Int32.toNatClampNeg p0)), (im_setI M 108 0 ((if p0 < 0 then 1 else (if p0 ≤ 3 then 0 else 1)) : Int32))) else some (0, (im_setI M 108 0 ((if p0 < 0 then 1 else (if p0 ≤ 3 then 0 else 1)) : Int32)))
theorem J_MSquareRows_reading_d0 : decode J_MSquareRows_reading.2.1 0 = .ok (.aload_n 0, 1) := by decide +kernel
theorem J_MSquareRows_reading_d1 : decode J_MSquareRows_reading.2.1 1 = .ok (.iload_n 1, 1) := by decide +kernel
theorem J_MSquareRows_reading_d2 : decode J_MSquareRows_reading.2.1 2 = .ok (.ifCond .lt 8, 3) := by decide +kernel
theorem J_MSquareRows_reading_d5 : decode J_MSquareRows_reading.2.1 5 = .ok (.iload_n 1, 1) := by decide +kernel
theorem J_MSquareRows_reading_d6 : decode J_MSquareRows_reading.2.1 6 = .ok (.iconst 3, 1) := by decide +kernel
theorem J_MSquareRows_reading_d7 : decode J_MSquareRows_reading.2.1 7 = .ok (.if_icmp .le 7, 3) := by decide +kernel
theorem J_MSquareRows_reading_d10 : decode J_MSquareRows_reading.2.1 10 = .ok (.iconst 1, 1) := by decide +kernel
theorem J_MSquareRows_reading_d11 : decode J_MSquareRows_reading.2.1 11 = .ok (.goto 4, 3) := by decide +kernel
theorem J_MSquareRows_reading_d14 : decode J_MSquareRows_reading.2.1 14 = .ok (.iconst 0, 1) := by decide +kernel
theorem J_MSquareRows_reading_d15 : decode J_MSquareRows_reading.2.1 15 = .ok (.putfield 73, 3) := by decide +kernel
theorem J_MSquareRows_reading_d18 : decode J_MSquareRows_reading.2.1 18 = .ok (.aload_n 0, 1) := by decide +kernel
theorem J_MSquareRows_reading_d19 : decode J_MSquareRows_reading.2.1 19 = .ok (.getfield 73, 3) := by decide +kernel
theorem J_MSquareRows_reading_d22 : decode J_MSquareRows_reading.2.1 22 = .ok (.ifCond .le 7, 3) := by decide +kernel
theorem J_MSquareRows_reading_d25 : decode J_MSquareRows_reading.2.1 25 = .ok (.iconst 0, 1) := by decide +kernel
theorem J_MSquareRows_reading_d26 : decode J_MSquareRows_reading.2.1 26 = .ok (.goto 20, 3) := by decide +kernel
theorem J_MSquareRows_reading_d29 : decode J_MSquareRows_reading.2.1 29 = .ok (.aload_n 0, 1) := by decide +kernel
theorem J_MSquareRows_reading_d30 : decode J_MSquareRows_reading.2.1 30 = .ok (.getfield 303, 3) := by decide +kernel
theorem J_MSquareRows_reading_d33 : decode J_MSquareRows_reading.2.1 33 = .ok (.ifCond .eq 12, 3) := by decide +kernel
theorem J_MSquareRows_reading_d36 : decode J_MSquareRows_reading.2.1 36 = .ok (.aload_n 0, 1) := by decide +kernel
theorem J_MSquareRows_reading_d37 : decode J_MSquareRows_reading.2.1 37 = .ok (.getfield 70, 3) := by decide +kernel
theorem J_MSquareRows_reading_d40 : decode J_MSquareRows_reading.2.1 40 = .ok (.iload_n 1, 1) := by decide +kernel
theorem J_MSquareRows_reading_d41 : decode J_MSquareRows_reading.2.1 41 = .ok (.iaload, 1) := by decide +kernel
theorem J_MSquareRows_reading_d42 : decode J_MSquareRows_reading.2.1 42 = .ok (.goto 4, 3) := by decide +kernel
theorem J_MSquareRows_reading_d45 : decode J_MSquareRows_reading.2.1 45 = .ok (.iconst (-1), 1) := by decide +kernel
theorem J_MSquareRows_reading_d46 : decode J_MSquareRows_reading.2.1 46 = .ok (.ireturn, 1) := by decide +kernel
theorem f_MSquareRows_reading_ok {L : Nat} {xs : Nat → Int32} {dep : Nat} {w : Bool} {p0 : Int32} {M : im_M} {Q : Int32 × im_M → Prop} (hM : lw_S w M) (h : ed (f_MSquareRows_reading p0 M) Q) : ia (tb_G L xs) dep J_MSquareRows_reading (rwI w Q) (0, lv_args 0 [.ref 108, .int p0], [], M) := by
  have hS : im_St (tb_G L xs) dep J_MSquareRows_reading (ia (tb_G L xs) dep J_MSquareRows_reading (rwI w Q)) := ia_St
  unfold f_MSquareRows_reading at h
  have l0 : im_lk (lv_args 0 [.ref 108, .int p0]) 0 = some (.ref 108) := rfl
  have l1 : im_lk (lv_args 0 [.ref 108, .int p0]) 1 = some (.int p0) := rfl
  refine iq_aload_n hS 1 J_MSquareRows_reading_d0 l0 rfl ?_
  refine iq_iload_n hS 2 J_MSquareRows_reading_d1 l1 rfl ?_
  have J1 : ∀ (z2 : Int32) (L' : List (Nat × Value)), z2 = ((if p0 < 0 then 1 else (if p0 ≤ 3 then 0 else 1)) : Int32) → im_lk L' 0 = some (.ref 108) → im_lk L' 1 = some (.int p0) → ia (tb_G L xs) dep J_MSquareRows_reading (rwI w Q) (15, L', [.int z2, .ref 108], M) := by
    intro z2 L' e3 l4 l5
    subst e3
    refine iq_putI hS 18 J_MSquareRows_reading_d15 lf_16_73 (Or.inl rfl) rfl (ka_108 hM) rfl ?_
    refine iq_aload_n hS 19 J_MSquareRows_reading_d18 l4 rfl ?_
    refine iq_getI hS 22 J_MSquareRows_reading_d19 lf_16_73 (Or.inl rfl) (ka_108 (lw_sI hM)) rfl ?_
    refine iq_if_le hS 25 J_MSquareRows_reading_d22 (t := 29) rfl (fun q22 => ?_) rfl (fun q22 => ?_)
    · replace h := ed_pos q22 h
      refine iq_aload_n hS 30 J_MSquareRows_reading_d29 l4 rfl ?_
      refine iq_getI hS 33 J_MSquareRows_reading_d30 lf_16_303 (Or.inr rfl) (ka_108 (lw_sI hM)) rfl ?_
      refine iq_if_eq hS 36 J_MSquareRows_reading_d33 (t := 45) rfl (fun q33 => ?_) rfl (fun q33 => ?_)
      · replace h := ed_pos q33 h
        refine iq_iconst hS 46 J_MSquareRows_reading_d45 (v := (-1)) (by decide +kernel) rfl ?_
        exact iq_iret J_MSquareRows_reading_d46 rfl rfl ⟨_, rfl, (lw_sI hM), ed_some h⟩
      · replace h := ed_neg q33 h
        refine iq_aload_n hS 37 J_MSquareRows_reading_d36 l4 rfl ?_
        refine iq_getR hS 40 J_MSquareRows_reading_d37 lf_16_70 (Or.inr ⟨_, rfl⟩) (ka_108 (lw_sI hM)) (ra_108_33 (lw_sI hM)) rfl ?_
        refine iq_iload_n hS 41 J_MSquareRows_reading_d40 l5 rfl ?_
        obtain ⟨g41, h⟩ := ed_gd h
        refine iq_iaload hS 42 J_MSquareRows_reading_d41 ⟨(ka_129 (lw_sI hM)).1, (ka_129 (lw_sI hM)).2, g41.1, ix_lt (kl_129 (lw_sI hM)) g41.2⟩ rfl ?_
        refine iq_goto hS J_MSquareRows_reading_d42 (t := 46) rfl ?_
        exact iq_iret J_MSquareRows_reading_d46 rfl rfl ⟨_, rfl, (lw_sI hM), ed_some h⟩
    · replace h := ed_neg q22 h
      refine iq_iconst hS 26 J_MSquareRows_reading_d25 (v := 0) (by decide +kernel) rfl ?_
      refine iq_goto hS J_MSquareRows_reading_d26 (t := 46) rfl ?_
      exact iq_iret J_MSquareRows_reading_d46 rfl rfl ⟨_, rfl, (lw_sI hM), ed_some h⟩
  refine iq_if_lt hS 5 J_MSquareRows_reading_d2 (t := 10) rfl (fun q2 => ?_) rfl (fun q2 => ?_)
  · refine iq_iconst hS 11 J_MSquareRows_reading_d10 (v := 1) (by decide +kernel) rfl ?_
    refine iq_goto hS J_MSquareRows_reading_d11 (t := 15) rfl ?_
    exact J1 _ _ (by simp only [if_pos q2]) l0 l1
  · refine iq_iload_n hS 6 J_MSquareRows_reading_d5 l1 rfl ?_
    refine iq_iconst hS 7 J_MSquareRows_reading_d6 (v := 3) (by decide +kernel) rfl ?_
    refine iq_icmp_le hS 10 J_MSquareRows_reading_d7 (t := 14) rfl (fun q7 => ?_) rfl (fun q7 => ?_)
    · refine iq_iconst hS 15 J_MSquareRows_reading_d14 (v := 0) (by decide +kernel) rfl ?_
      exact J1 _ _ (by simp only [if_neg q2, if_pos q7]) l0 l1
    · refine iq_iconst hS 11 J_MSquareRows_reading_d10 (v := 1) (by decide +kernel) rfl ?_
      refine iq_goto hS J_MSquareRows_reading_d11 (t := 15) rfl ?_
      exact J1 _ _ (by simp only [if_neg q2, if_neg q7]) l0 l1
theorem f_MSquareRows_reading_fr {p0 : Int32} {M : im_M} {r : Int32 × im_M} (h : f_MSquareRows_reading p0 M = some r) : fr 0 [(108, 0)] M r.2 := by
  replace h : ed (f_MSquareRows_reading p0 M) (fun x => x = r) := ⟨r, h, rfl⟩
  unfold f_MSquareRows_reading at h
  by_cases q22 : (im_i (im_setI M 108 0 ((if p0 < 0 then 1 else (if p0 ≤ 3 then 0 else 1)) : Int32)) 108 0) ≤ 0
  · replace h := ed_pos q22 h
    by_cases q33 : (im_i (im_setI M 108 0 ((if p0 < 0 then 1 else (if p0 ≤ 3 then 0 else 1)) : Int32)) 108 32) = 0
    · replace h := ed_pos q33 h
      exact fr_ret h (fr_F (by decide) fr_refl)
    · replace h := ed_neg q33 h
      obtain ⟨g41, h⟩ := ed_gd h
      exact fr_ret h (fr_F (by decide) fr_refl)
  · replace h := ed_neg q22 h
    exact fr_ret h (fr_F (by decide) fr_refl)
noncomputable def f_MLineRows_backwards (M : im_M) : Option (Int32 × im_M) := gd ((im_i (im_setI M 96 3 0) 96 15) = 0 ∨ (im_i (im_setI M 96 3 0) 96 15) = 1) <| some ((im_i (im_setI M 96 3 0) 96 15), (im_setI M 96 3 0))
theorem J_MLineRows_backwards_d0 : decode J_MLineRows_backwards.2.1 0 = .ok (.aload_n 0, 1) := by decide +kernel
theorem J_MLineRows_backwards_d1 : decode J_MLineRows_backwards.2.1 1 = .ok (.iconst 0, 1) := by decide +kernel
theorem J_MLineRows_backwards_d2 : decode J_MLineRows_backwards.2.1 2 = .ok (.putfield 149, 3) := by decide +kernel
theorem J_MLineRows_backwards_d5 : decode J_MLineRows_backwards.2.1 5 = .ok (.aload_n 0, 1) := by decide +kernel
theorem J_MLineRows_backwards_d6 : decode J_MLineRows_backwards.2.1 6 = .ok (.getfield 266, 3) := by decide +kernel
theorem J_MLineRows_backwards_d9 : decode J_MLineRows_backwards.2.1 9 = .ok (.ireturn, 1) := by decide +kernel
theorem f_MLineRows_backwards_ok {L : Nat} {xs : Nat → Int32} {dep : Nat} {w : Bool} {M : im_M} {Q : Int32 × im_M → Prop} (hM : lw_S w M) (h : ed (f_MLineRows_backwards M) Q) : ia (tb_G L xs) dep J_MLineRows_backwards (rwI w Q) (0, lv_args 0 [.ref 96], [], M) := by
  have hS : im_St (tb_G L xs) dep J_MLineRows_backwards (ia (tb_G L xs) dep J_MLineRows_backwards (rwI w Q)) := ia_St
  unfold f_MLineRows_backwards at h
  have l0 : im_lk (lv_args 0 [.ref 96]) 0 = some (.ref 96) := rfl
  refine iq_aload_n hS 1 J_MLineRows_backwards_d0 l0 rfl ?_
  refine iq_iconst hS 2 J_MLineRows_backwards_d1 (v := 0) (by decide +kernel) rfl ?_
  refine iq_putI hS 5 J_MLineRows_backwards_d2 lf_13_149 (Or.inl rfl) rfl (ka_96 hM) rfl ?_
  refine iq_aload_n hS 6 J_MLineRows_backwards_d5 l0 rfl ?_
  refine iq_getI hS 9 J_MLineRows_backwards_d6 lf_13_266 (Or.inr rfl) (ka_96 (lw_sI hM)) rfl ?_
  obtain ⟨g9, h⟩ := ed_gd h
  exact iq_iret J_MLineRows_backwards_d9 rfl (nar_z g9) ⟨_, rfl, (lw_sI hM), ed_some h⟩
theorem f_MLineRows_backwards_fr {M : im_M} {r : Int32 × im_M} (h : f_MLineRows_backwards M = some r) : fr 0 [(96, 3)] M r.2 := by
  replace h : ed (f_MLineRows_backwards M) (fun x => x = r) := ⟨r, h, rfl⟩
  unfold f_MLineRows_backwards at h
  obtain ⟨g9, h⟩ := ed_gd h
  exact fr_ret h (fr_F (by decide) fr_refl)
noncomputable def f_MSquareRows_fault (M : im_M) : Option (Int32 × im_M) := some ((im_i (im_setI M 108 0 0) 108 31), (im_setI M 108 0 0))
theorem J_MSquareRows_fault_d0 : decode J_MSquareRows_fault.2.1 0 = .ok (.aload_n 0, 1) := by decide +kernel
theorem J_MSquareRows_fault_d1 : decode J_MSquareRows_fault.2.1 1 = .ok (.iconst 0, 1) := by decide +kernel
theorem J_MSquareRows_fault_d2 : decode J_MSquareRows_fault.2.1 2 = .ok (.putfield 73, 3) := by decide +kernel
theorem J_MSquareRows_fault_d5 : decode J_MSquareRows_fault.2.1 5 = .ok (.aload_n 0, 1) := by decide +kernel
theorem J_MSquareRows_fault_d6 : decode J_MSquareRows_fault.2.1 6 = .ok (.getfield 285, 3) := by decide +kernel
theorem J_MSquareRows_fault_d9 : decode J_MSquareRows_fault.2.1 9 = .ok (.ireturn, 1) := by decide +kernel
theorem f_MSquareRows_fault_ok {L : Nat} {xs : Nat → Int32} {dep : Nat} {w : Bool} {M : im_M} {Q : Int32 × im_M → Prop} (hM : lw_S w M) (h : ed (f_MSquareRows_fault M) Q) : ia (tb_G L xs) dep J_MSquareRows_fault (rwI w Q) (0, lv_args 0 [.ref 108], [], M) := by
  have hS : im_St (tb_G L xs) dep J_MSquareRows_fault (ia (tb_G L xs) dep J_MSquareRows_fault (rwI w Q)) := ia_St
  unfold f_MSquareRows_fault at h
  have l0 : im_lk (lv_args 0 [.ref 108]) 0 = some (.ref 108) := rfl
  refine iq_aload_n hS 1 J_MSquareRows_fault_d0 l0 rfl ?_
  refine iq_iconst hS 2 J_MSquareRows_fault_d1 (v := 0) (by decide +kernel) rfl ?_
  refine iq_putI hS 5 J_MSquareRows_fault_d2 lf_16_73 (Or.inl rfl) rfl (ka_108 hM) rfl ?_
  refine iq_aload_n hS 6 J_MSquareRows_fault_d5 l0 rfl ?_
  refine iq_getI hS 9 J_MSquareRows_fault_d6 lf_16_285 (Or.inl rfl) (ka_108 (lw_sI hM)) rfl ?_
  exact iq_iret J_MSquareRows_fault_d9 rfl rfl ⟨_, rfl, (lw_sI hM), ed_some h⟩
theorem f_MSquareRows_fault_fr {M : im_M} {r : Int32 × im_M} (h : f_MSquareRows_fault M = some r) : fr 0 [(108, 0)] M r.2 := by
  replace h : ed (f_MSquareRows_fault M) (fun x => x = r) := ⟨r, h, rfl⟩
  unfold f_MSquareRows_fault at h
  exact fr_ret h (fr_F (by decide) fr_refl)
noncomputable def f_M_reading (p0 : Int32) (M : im_M) : Option (Int32 × im_M) := if (im_i (im_setI M 69 0 ((if p0 < 0 then 1 else (if p0 ≤ 6 then 0 else 1)) : Int32)) 69 0) ≤ 0 then if ¬ p0 = 6 then jn1 (fun (M5 : im_M) => some ((im_i M5 69 10), M5)) fun k2 => if p0 = 0 then k2 (im_setI M 69 0 ((if p0 < 0 then 1 else (if p0 ≤ 6 then 0 else 1)) : Int32)) else if ¬ (im_i (im_setI M 69 0 ((if p0 < 0 then 1 else (if p0 ≤ 6 then 0 else 1)) : Int32)) 69 10) = (-1) then if ¬ p0 = 5 then if ¬ (im_i (im_setI M 69 0 ((if p0 < 0 then 1 else (if p0 ≤ 6 then 0 else 1)) : Int32)) 69 10) = 0 then some ((-1), (im_setI M 69 0 ((if p0 < 0 then 1 else (if p0 ≤ 6 then 0 else 1)) : Int32))) else bd2 (f_MSquareRows_reading (p0 - 1) (im_setI M 69 0 ((if p0 < 0 then 1 else (if p0 ≤ 6 then 0 else 1)) : Int32))) fun (x3 : Int32) (M3 : im_M) => some (x3, M3) else if ¬ (im_i (im_setI M 69 0 ((if p0 < 0 then 1 else (if p0 ≤ 6 then 0 else 1)) : Int32)) 69 10) = 0 then bd2 (f_MLineRows_backwards (im_setI M 69 0 ((if p0 < 0 then 1 else (if p0 ≤ 6 then 0 else 1)) : Int32))) fun (x4 : Int32) (M4 : im_M) => if x4 = 0 then some (0, M4) else some (1, M4) else some ((-1), (im_setI M 69 0 ((if p0 < 0 then 1 else (if p0 ≤ 6 then 0 else 1)) : Int32))) else k2 (im_setI M 69 0 ((if p0 < 0 then 1 else (if p0 ≤ 6 then 0 else 1)) : Int32)) else bd2 (f_MSquareRows_fault (im_setI M 69 0 ((if p0 < 0 then 1 else (if p0 ≤ 6 then 0 else 1)) : Int32))) fun (x7 : Int32) (M7 : im_M) => some (x7, M7) else some (0, (im_setI M 69 0 ((if p0 < 0 then 1 else (if p0 ≤ 6 then 0 else 1)) : Int32)))
theorem J_M_reading_d0 : decode J_M_reading.2.1 0 = .ok (.aload_n 0, 1) := by decide +kernel
theorem J_M_reading_d1 : decode J_M_reading.2.1 1 = .ok (.iload_n 1, 1) := by decide +kernel
theorem J_M_reading_d2 : decode J_M_reading.2.1 2 = .ok (.ifCond .lt 9, 3) := by decide +kernel
theorem J_M_reading_d5 : decode J_M_reading.2.1 5 = .ok (.iload_n 1, 1) := by decide +kernel
theorem J_M_reading_d6 : decode J_M_reading.2.1 6 = .ok (.bipush 6, 2) := by decide +kernel
theorem J_M_reading_d8 : decode J_M_reading.2.1 8 = .ok (.if_icmp .le 7, 3) := by decide +kernel
theorem J_M_reading_d11 : decode J_M_reading.2.1 11 = .ok (.iconst 1, 1) := by decide +kernel
theorem J_M_reading_d12 : decode J_M_reading.2.1 12 = .ok (.goto 4, 3) := by decide +kernel
theorem J_M_reading_d15 : decode J_M_reading.2.1 15 = .ok (.iconst 0, 1) := by decide +kernel
theorem J_M_reading_d16 : decode J_M_reading.2.1 16 = .ok (.putfield 58, 3) := by decide +kernel
theorem J_M_reading_d19 : decode J_M_reading.2.1 19 = .ok (.aload_n 0, 1) := by decide +kernel
theorem J_M_reading_d20 : decode J_M_reading.2.1 20 = .ok (.getfield 58, 3) := by decide +kernel
theorem J_M_reading_d23 : decode J_M_reading.2.1 23 = .ok (.ifCond .le 5, 3) := by decide +kernel
theorem J_M_reading_d26 : decode J_M_reading.2.1 26 = .ok (.iconst 0, 1) := by decide +kernel
theorem J_M_reading_d27 : decode J_M_reading.2.1 27 = .ok (.ireturn, 1) := by decide +kernel
theorem J_M_reading_d28 : decode J_M_reading.2.1 28 = .ok (.iload_n 1, 1) := by decide +kernel
theorem J_M_reading_d29 : decode J_M_reading.2.1 29 = .ok (.bipush 6, 2) := by decide +kernel
theorem J_M_reading_d31 : decode J_M_reading.2.1 31 = .ok (.if_icmp .ne 11, 3) := by decide +kernel
theorem J_M_reading_d34 : decode J_M_reading.2.1 34 = .ok (.aload_n 0, 1) := by decide +kernel
theorem J_M_reading_d35 : decode J_M_reading.2.1 35 = .ok (.getfield 37, 3) := by decide +kernel
theorem J_M_reading_d38 : decode J_M_reading.2.1 38 = .ok (.invokevirtual 259, 3) := by decide +kernel
theorem J_M_reading_d41 : decode J_M_reading.2.1 41 = .ok (.ireturn, 1) := by decide +kernel
theorem J_M_reading_d42 : decode J_M_reading.2.1 42 = .ok (.iload_n 1, 1) := by decide +kernel
theorem J_M_reading_d43 : decode J_M_reading.2.1 43 = .ok (.ifCond .eq 11, 3) := by decide +kernel
theorem J_M_reading_d46 : decode J_M_reading.2.1 46 = .ok (.aload_n 0, 1) := by decide +kernel
theorem J_M_reading_d47 : decode J_M_reading.2.1 47 = .ok (.getfield 51, 3) := by decide +kernel
theorem J_M_reading_d50 : decode J_M_reading.2.1 50 = .ok (.iconst (-1), 1) := by decide +kernel
theorem J_M_reading_d51 : decode J_M_reading.2.1 51 = .ok (.if_icmp .ne 8, 3) := by decide +kernel
theorem J_M_reading_d54 : decode J_M_reading.2.1 54 = .ok (.aload_n 0, 1) := by decide +kernel
theorem J_M_reading_d55 : decode J_M_reading.2.1 55 = .ok (.getfield 51, 3) := by decide +kernel
theorem J_M_reading_d58 : decode J_M_reading.2.1 58 = .ok (.ireturn, 1) := by decide +kernel
theorem J_M_reading_d59 : decode J_M_reading.2.1 59 = .ok (.iload_n 1, 1) := by decide +kernel
theorem J_M_reading_d60 : decode J_M_reading.2.1 60 = .ok (.iconst 5, 1) := by decide +kernel
theorem J_M_reading_d61 : decode J_M_reading.2.1 61 = .ok (.if_icmp .ne 30, 3) := by decide +kernel
theorem J_M_reading_d64 : decode J_M_reading.2.1 64 = .ok (.aload_n 0, 1) := by decide +kernel
theorem J_M_reading_d65 : decode J_M_reading.2.1 65 = .ok (.getfield 51, 3) := by decide +kernel
theorem J_M_reading_d68 : decode J_M_reading.2.1 68 = .ok (.ifCond .ne 7, 3) := by decide +kernel
theorem J_M_reading_d71 : decode J_M_reading.2.1 71 = .ok (.iconst (-1), 1) := by decide +kernel
theorem J_M_reading_d72 : decode J_M_reading.2.1 72 = .ok (.goto 18, 3) := by decide +kernel
theorem J_M_reading_d75 : decode J_M_reading.2.1 75 = .ok (.aload_n 0, 1) := by decide +kernel
theorem J_M_reading_d76 : decode J_M_reading.2.1 76 = .ok (.getfield 30, 3) := by decide +kernel
theorem J_M_reading_d79 : decode J_M_reading.2.1 79 = .ok (.invokevirtual 260, 3) := by decide +kernel
theorem J_M_reading_d82 : decode J_M_reading.2.1 82 = .ok (.ifCond .eq 7, 3) := by decide +kernel
theorem J_M_reading_d85 : decode J_M_reading.2.1 85 = .ok (.iconst 1, 1) := by decide +kernel
theorem J_M_reading_d86 : decode J_M_reading.2.1 86 = .ok (.goto 4, 3) := by decide +kernel
theorem J_M_reading_d89 : decode J_M_reading.2.1 89 = .ok (.iconst 0, 1) := by decide +kernel
theorem J_M_reading_d90 : decode J_M_reading.2.1 90 = .ok (.ireturn, 1) := by decide +kernel
theorem J_M_reading_d91 : decode J_M_reading.2.1 91 = .ok (.aload_n 0, 1) := by decide +kernel
theorem J_M_reading_d92 : decode J_M_reading.2.1 92 = .ok (.getfield 51, 3) := by decide +kernel
theorem J_M_reading_d95 : decode J_M_reading.2.1 95 = .ok (.ifCond .ne 16, 3) := by decide +kernel
theorem J_M_reading_d98 : decode J_M_reading.2.1 98 = .ok (.aload_n 0, 1) := by decide +kernel
theorem J_M_reading_d99 : decode J_M_reading.2.1 99 = .ok (.getfield 37, 3) := by decide +kernel
theorem J_M_reading_d102 : decode J_M_reading.2.1 102 = .ok (.iload_n 1, 1) := by decide +kernel
theorem J_M_reading_d103 : decode J_M_reading.2.1 103 = .ok (.iconst 1, 1) := by decide +kernel
theorem J_M_reading_d104 : decode J_M_reading.2.1 104 = .ok (.isub, 1) := by decide +kernel
theorem J_M_reading_d105 : decode J_M_reading.2.1 105 = .ok (.invokevirtual 264, 3) := by decide +kernel
theorem J_M_reading_d108 : decode J_M_reading.2.1 108 = .ok (.goto 4, 3) := by decide +kernel
theorem J_M_reading_d111 : decode J_M_reading.2.1 111 = .ok (.iconst (-1), 1) := by decide +kernel
theorem J_M_reading_d112 : decode J_M_reading.2.1 112 = .ok (.ireturn, 1) := by decide +kernel
theorem f_M_reading_ok {L : Nat} {xs : Nat → Int32} {dep : Nat} {w : Bool} {p0 : Int32} {M : im_M} {Q : Int32 × im_M → Prop} (hM : lw_S w M) (h : ed (f_M_reading p0 M) Q) : ia (tb_G L xs) (dep + 1) J_M_reading (rwI w Q) (0, lv_args 0 [.ref 69, .int p0], [], M) := by
  have hS : im_St (tb_G L xs) (dep + 1) J_M_reading (ia (tb_G L xs) (dep + 1) J_M_reading (rwI w Q)) := ia_St
  unfold f_M_reading at h
  have l0 : im_lk (lv_args 0 [.ref 69, .int p0]) 0 = some (.ref 69) := rfl
  have l1 : im_lk (lv_args 0 [.ref 69, .int p0]) 1 = some (.int p0) := rfl
  refine iq_aload_n hS 1 J_M_reading_d0 l0 rfl ?_
  refine iq_iload_n hS 2 J_M_reading_d1 l1 rfl ?_
  have J1 : ∀ (z2 : Int32) (L' : List (Nat × Value)), z2 = ((if p0 < 0 then 1 else (if p0 ≤ 6 then 0 else 1)) : Int32) → im_lk L' 0 = some (.ref 69) → im_lk L' 1 = some (.int p0) → ia (tb_G L xs) (dep + 1) J_M_reading (rwI w Q) (16, L', [.int z2, .ref 69], M) := by
    intro z2 L' e3 l4 l5
    subst e3
    refine iq_putI hS 19 J_M_reading_d16 lf_17_58 (Or.inl rfl) rfl (ka_69 hM) rfl ?_
    refine iq_aload_n hS 20 J_M_reading_d19 l4 rfl ?_
    refine iq_getI hS 23 J_M_reading_d20 lf_17_58 (Or.inl rfl) (ka_69 (lw_sI hM)) rfl ?_
    refine iq_if_le hS 26 J_M_reading_d23 (t := 28) rfl (fun q23 => ?_) rfl (fun q23 => ?_)
    · replace h := ed_pos q23 h
      refine iq_iload_n hS 29 J_M_reading_d28 l5 rfl ?_
      refine iq_bipush hS 31 J_M_reading_d29 (v := 6) (by decide +kernel) rfl ?_
      refine iq_icmp_ne hS 34 J_M_reading_d31 (t := 42) rfl (fun q31 => ?_) rfl (fun q31 => ?_)
      · replace h := ed_pos q31 h
        refine iq_iload_n hS 43 J_M_reading_d42 l5 rfl ?_
        obtain ⟨k6, Q6, hQ6, hk6, h⟩ := jn1_ed h
        have J6 : ∀ (M9 : im_M) (L' : List (Nat × Value)), lw_S w M9 → im_lk L' 0 = some (.ref 69) → Q6 M9 → ia (tb_G L xs) (dep + 1) J_M_reading (rwI w Q) (54, L', [], M9) := by
          intro M9 L' hM9 l10 h
          replace h := hQ6 _ h
          refine iq_aload_n hS 55 J_M_reading_d54 l10 rfl ?_
          refine iq_getI hS 58 J_M_reading_d55 lf_17_51 (Or.inl rfl) (ka_69 hM9) rfl ?_
          exact iq_iret J_M_reading_d58 rfl rfl ⟨_, rfl, hM9, ed_some h⟩
        refine iq_if_eq hS 46 J_M_reading_d43 (t := 54) rfl (fun q43 => ?_) rfl (fun q43 => ?_)
        · replace h := ed_pos q43 h
          exact J6 _ _ (lw_sI hM) l4 (hk6 _ h)
        · replace h := ed_neg q43 h
          refine iq_aload_n hS 47 J_M_reading_d46 l4 rfl ?_
          refine iq_getI hS 50 J_M_reading_d47 lf_17_51 (Or.inl rfl) (ka_69 (lw_sI hM)) rfl ?_
          refine iq_iconst hS 51 J_M_reading_d50 (v := (-1)) (by decide +kernel) rfl ?_
          refine iq_icmp_ne hS 54 J_M_reading_d51 (t := 59) rfl (fun q51 => ?_) rfl (fun q51 => ?_)
          · replace h := ed_pos q51 h
            refine iq_iload_n hS 60 J_M_reading_d59 l5 rfl ?_
            refine iq_iconst hS 61 J_M_reading_d60 (v := 5) (by decide +kernel) rfl ?_
            refine iq_icmp_ne hS 64 J_M_reading_d61 (t := 91) rfl (fun q61 => ?_) rfl (fun q61 => ?_)
            · replace h := ed_pos q61 h
              refine iq_aload_n hS 92 J_M_reading_d91 l4 rfl ?_
              refine iq_getI hS 95 J_M_reading_d92 lf_17_51 (Or.inl rfl) (ka_69 (lw_sI hM)) rfl ?_
              refine iq_if_ne hS 98 J_M_reading_d95 (t := 111) rfl (fun q95 => ?_) rfl (fun q95 => ?_)
              · replace h := ed_pos q95 h
                refine iq_iconst hS 112 J_M_reading_d111 (v := (-1)) (by decide +kernel) rfl ?_
                exact iq_iret J_M_reading_d112 rfl rfl ⟨_, rfl, (lw_sI hM), ed_some h⟩
              · replace h := ed_neg q95 h
                refine iq_aload_n hS 99 J_M_reading_d98 l4 rfl ?_
                refine iq_getR hS 102 J_M_reading_d99 lf_17_37 (Or.inl ⟨_, rfl⟩) (ka_69 (lw_sI hM)) (ra_69_6 (lw_sI hM)) rfl ?_
                refine iq_iload_n hS 103 J_M_reading_d102 l5 rfl ?_
                refine iq_iconst hS 104 J_M_reading_d103 (v := 1) (by decide +kernel) rfl ?_
                refine iq_isub hS 105 J_M_reading_d104 rfl ?_
                obtain ⟨Q7, hQ7, h⟩ := bd2_ed h
                refine iq_cwI hS 108 J_M_reading_d105 rfl (pr_inst (vs := [_]) lc_17_264 lT_518 rfl rfl (by decide) (by decide) rfl (Nat.le_of_ble_eq_true rfl) (Nat.le_of_ble_eq_true rfl) (fun _ => Or.inl (pr_b (ka_108 (lw_sI hM)) (by decide) rfl))) (f_MSquareRows_reading_ok (dep := dep + 0) (lw_sI hM) h) rfl ?_
                intro x7 M7 hM7 h
                replace h := hQ7 _ _ h
                refine iq_goto hS J_M_reading_d108 (t := 112) rfl ?_
                exact iq_iret J_M_reading_d112 rfl rfl ⟨_, rfl, hM7, ed_some h⟩
            · replace h := ed_neg q61 h
              refine iq_aload_n hS 65 J_M_reading_d64 l4 rfl ?_
              refine iq_getI hS 68 J_M_reading_d65 lf_17_51 (Or.inl rfl) (ka_69 (lw_sI hM)) rfl ?_
              refine iq_if_ne hS 71 J_M_reading_d68 (t := 75) rfl (fun q68 => ?_) rfl (fun q68 => ?_)
              · replace h := ed_pos q68 h
                refine iq_aload_n hS 76 J_M_reading_d75 l4 rfl ?_
                refine iq_getR hS 79 J_M_reading_d76 lf_17_30 (Or.inl ⟨_, rfl⟩) (ka_69 (lw_sI hM)) (ra_69_5 (lw_sI hM)) rfl ?_
                obtain ⟨Q8, hQ8, h⟩ := bd2_ed h
                refine iq_cwI hS 82 J_M_reading_d79 rfl (pr_inst (vs := []) lc_17_260 lT_517 rfl rfl (by decide) (by decide) rfl (Nat.le_of_ble_eq_true rfl) (Nat.le_of_ble_eq_true rfl) (fun _ => Or.inl (pr_b (ka_96 (lw_sI hM)) (by decide) rfl))) (f_MLineRows_backwards_ok (dep := dep + 0) (lw_sI hM) h) rfl ?_
                intro x8 M8 hM8 h
                replace h := hQ8 _ _ h
                refine iq_if_eq hS 85 J_M_reading_d82 (t := 89) rfl (fun q82 => ?_) rfl (fun q82 => ?_)
                · replace h := ed_pos q82 h
                  refine iq_iconst hS 90 J_M_reading_d89 (v := 0) (by decide +kernel) rfl ?_
                  exact iq_iret J_M_reading_d90 rfl rfl ⟨_, rfl, hM8, ed_some h⟩
                · replace h := ed_neg q82 h
                  refine iq_iconst hS 86 J_M_reading_d85 (v := 1) (by decide +kernel) rfl ?_
                  refine iq_goto hS J_M_reading_d86 (t := 90) rfl ?_
                  exact iq_iret J_M_reading_d90 rfl rfl ⟨_, rfl, hM8, ed_some h⟩
              · replace h := ed_neg q68 h
                refine iq_iconst hS 72 J_M_reading_d71 (v := (-1)) (by decide +kernel) rfl ?_
                refine iq_goto hS J_M_reading_d72 (t := 90) rfl ?_
                exact iq_iret J_M_reading_d90 rfl rfl ⟨_, rfl, (lw_sI hM), ed_some h⟩
          · replace h := ed_neg q51 h
            exact J6 _ _ (lw_sI hM) l4 (hk6 _ h)
      · replace h := ed_neg q31 h
        refine iq_aload_n hS 35 J_M_reading_d34 l4 rfl ?_
        refine iq_getR hS 38 J_M_reading_d35 lf_17_37 (Or.inl ⟨_, rfl⟩) (ka_69 (lw_sI hM)) (ra_69_6 (lw_sI hM)) rfl ?_
        obtain ⟨Q11, hQ11, h⟩ := bd2_ed h
        refine iq_cwI hS 41 J_M_reading_d38 rfl (pr_inst (vs := []) lc_17_259 lT_516 rfl rfl (by decide) (by decide) rfl (Nat.le_of_ble_eq_true rfl) (Nat.le_of_ble_eq_true rfl) (fun _ => Or.inl (pr_b (ka_108 (lw_sI hM)) (by decide) rfl))) (f_MSquareRows_fault_ok (dep := dep + 0) (lw_sI hM) h) rfl ?_
        intro x11 M11 hM11 h
        replace h := hQ11 _ _ h
        exact iq_iret J_M_reading_d41 rfl rfl ⟨_, rfl, hM11, ed_some h⟩
    · replace h := ed_neg q23 h
      refine iq_iconst hS 27 J_M_reading_d26 (v := 0) (by decide +kernel) rfl ?_
      exact iq_iret J_M_reading_d27 rfl rfl ⟨_, rfl, (lw_sI hM), ed_some h⟩
  refine iq_if_lt hS 5 J_M_reading_d2 (t := 11) rfl (fun q2 => ?_) rfl (fun q2 => ?_)
  · refine iq_iconst hS 12 J_M_reading_d11 (v := 1) (by decide +kernel) rfl ?_
    refine iq_goto hS J_M_reading_d12 (t := 16) rfl ?_
    exact J1 _ _ (by simp only [if_pos q2]) l0 l1
  · refine iq_iload_n hS 6 J_M_reading_d5 l1 rfl ?_
    refine iq_bipush hS 8 J_M_reading_d6 (v := 6) (by decide +kernel) rfl ?_
    refine iq_icmp_le hS 11 J_M_reading_d8 (t := 15) rfl (fun q8 => ?_) rfl (fun q8 => ?_)
    · refine iq_iconst hS 16 J_M_reading_d15 (v := 0) (by decide +kernel) rfl ?_
      exact J1 _ _ (by simp only [if_neg q2, if_pos q8]) l0 l1
    · refine iq_iconst hS 12 J_M_reading_d11 (v := 1) (by decide +kernel) rfl ?_
      refine iq_goto hS J_M_reading_d12 (t := 16) rfl ?_
      exact J1 _ _ (by simp only [if_neg q2, if_neg q8]) l0 l1
theorem f_M_reading_fr {p0 : Int32} {M : im_M} {r : Int32 × im_M} (h : f_M_reading p0 M = some r) : fr 0 [(69, 0), (96, 3), (108, 0)] M r.2 := by
  replace h : ed (f_M_reading p0 M) (fun x => x = r) := ⟨r, h, rfl⟩
  unfold f_M_reading at h
  by_cases q23 : (im_i (im_setI M 69 0 ((if p0 < 0 then 1 else (if p0 ≤ 6 then 0 else 1)) : Int32)) 69 0) ≤ 0
  · replace h := ed_pos q23 h
    by_cases q31 : ¬ p0 = 6
    · replace h := ed_pos q31 h
      obtain ⟨k2, Q2, hQ2, hk2, h⟩ := jn1_ed h
      have J2 : ∀ (M5 : im_M), fr 0 [(69, 0), (96, 3), (108, 0)] M M5 → Q2 M5 → fr 0 [(69, 0), (96, 3), (108, 0)] M r.2 := by
        intro M5 hM5 h
        replace h := hQ2 _ h
        exact fr_ret h hM5
      by_cases q43 : p0 = 0
      · replace h := ed_pos q43 h
        exact J2 _ (fr_F (by decide) fr_refl) (hk2 _ h)
      · replace h := ed_neg q43 h
        by_cases q51 : ¬ (im_i (im_setI M 69 0 ((if p0 < 0 then 1 else (if p0 ≤ 6 then 0 else 1)) : Int32)) 69 10) = (-1)
        · replace h := ed_pos q51 h
          by_cases q61 : ¬ p0 = 5
          · replace h := ed_pos q61 h
            by_cases q95 : ¬ (im_i (im_setI M 69 0 ((if p0 < 0 then 1 else (if p0 ≤ 6 then 0 else 1)) : Int32)) 69 10) = 0
            · replace h := ed_pos q95 h
              exact fr_ret h (fr_F (by decide) fr_refl)
            · replace h := ed_neg q95 h
              obtain ⟨Q3, hQ3, h⟩ := bd2_ed h
              obtain ⟨⟨x3, M3⟩, e3, h⟩ := h
              replace h := hQ3 _ _ h
              exact fr_ret h (fr_tr (fr_mono (by decide) (by decide +kernel) (f_MSquareRows_reading_fr e3)) (fr_F (by decide) fr_refl))
          · replace h := ed_neg q61 h
            by_cases q68 : ¬ (im_i (im_setI M 69 0 ((if p0 < 0 then 1 else (if p0 ≤ 6 then 0 else 1)) : Int32)) 69 10) = 0
            · replace h := ed_pos q68 h
              obtain ⟨Q4, hQ4, h⟩ := bd2_ed h
              obtain ⟨⟨x4, M4⟩, e4, h⟩ := h
              replace h := hQ4 _ _ h
              by_cases q82 : x4 = 0
              · replace h := ed_pos q82 h
                exact fr_ret h (fr_tr (fr_mono (by decide) (by decide +kernel) (f_MLineRows_backwards_fr e4)) (fr_F (by decide) fr_refl))
              · replace h := ed_neg q82 h
                exact fr_ret h (fr_tr (fr_mono (by decide) (by decide +kernel) (f_MLineRows_backwards_fr e4)) (fr_F (by decide) fr_refl))
            · replace h := ed_neg q68 h
              exact fr_ret h (fr_F (by decide) fr_refl)
        · replace h := ed_neg q51 h
          exact J2 _ (fr_F (by decide) fr_refl) (hk2 _ h)
    · replace h := ed_neg q31 h
      obtain ⟨Q7, hQ7, h⟩ := bd2_ed h
      obtain ⟨⟨x7, M7⟩, e7, h⟩ := h
      replace h := hQ7 _ _ h
      exact fr_ret h (fr_tr (fr_mono (by decide) (by decide +kernel) (f_MSquareRows_fault_fr e7)) (fr_F (by decide) fr_refl))
  · replace h := ed_neg q23 h
    exact fr_ret h (fr_F (by decide) fr_refl)
noncomputable def f_M_got_L10 (v2 : Int32) (M5 : im_M) (x3 : Int64) (x4 : Int32) : Option ((Int64 × Int32) ⊕ (Int64)) := if 8 ≤ x4 then some (.inr x3) else bd1 (jn0 (fun (_ : Unit) => some x3) fun k7 => if (lg_cmp ((Int32.toInt64 v2) + (Int32.toInt64 x4)) 0) < 0 then k7 () else if 0 ≤ (lg_cmp ((Int32.toInt64 v2) + (Int32.toInt64 x4)) (Int32.toInt64 (im_i M5 69 12))) then k7 () else gd (inb (Int64.toInt32 ((Int32.toInt64 v2) + (Int32.toInt64 x4))) 3000) <| some (x3 ||| ((Int32.toInt64 (im_i M5 137 (Int32.toNatClampNeg (Int64.toInt32 ((Int32.toInt64 v2) + (Int32.toInt64 x4)))))) <<< (Int32.toInt64 ((8 : Int32) * x4) &&& 63) : Int64))) fun (y12 : Int64) => some (.inl (y12, (x4 + 1)))
noncomputable def f_M_got (p0 : Int32) (M : im_M) : Option (Int64 × im_M) := bd1 (lp (uc2 (f_M_got_L10 p0 (im_setI M 69 0 0))) (0, 0)) fun (y16 : Int64) => some (y16, (im_setI M 69 0 0))
theorem J_M_got_d0 : decode J_M_got.2.1 0 = .ok (.aload_n 0, 1) := by decide +kernel
theorem J_M_got_d1 : decode J_M_got.2.1 1 = .ok (.iconst 0, 1) := by decide +kernel
theorem J_M_got_d2 : decode J_M_got.2.1 2 = .ok (.putfield 58, 3) := by decide +kernel
theorem J_M_got_d5 : decode J_M_got.2.1 5 = .ok (.lconst 0, 1) := by decide +kernel
theorem J_M_got_d6 : decode J_M_got.2.1 6 = .ok (.lstore_n 2, 1) := by decide +kernel
theorem J_M_got_d7 : decode J_M_got.2.1 7 = .ok (.iconst 0, 1) := by decide +kernel
theorem J_M_got_d8 : decode J_M_got.2.1 8 = .ok (.istore 4, 2) := by decide +kernel
theorem J_M_got_d10 : decode J_M_got.2.1 10 = .ok (.iload 4, 2) := by decide +kernel
theorem J_M_got_d12 : decode J_M_got.2.1 12 = .ok (.bipush 8, 2) := by decide +kernel
theorem J_M_got_d14 : decode J_M_got.2.1 14 = .ok (.if_icmp .ge 57, 3) := by decide +kernel
theorem J_M_got_d17 : decode J_M_got.2.1 17 = .ok (.iload_n 1, 1) := by decide +kernel
theorem J_M_got_d18 : decode J_M_got.2.1 18 = .ok (.i2l, 1) := by decide +kernel
theorem J_M_got_d19 : decode J_M_got.2.1 19 = .ok (.iload 4, 2) := by decide +kernel
theorem J_M_got_d21 : decode J_M_got.2.1 21 = .ok (.i2l, 1) := by decide +kernel
theorem J_M_got_d22 : decode J_M_got.2.1 22 = .ok (.ladd, 1) := by decide +kernel
theorem J_M_got_d23 : decode J_M_got.2.1 23 = .ok (.lstore 5, 2) := by decide +kernel
theorem J_M_got_d25 : decode J_M_got.2.1 25 = .ok (.lload 5, 2) := by decide +kernel
theorem J_M_got_d27 : decode J_M_got.2.1 27 = .ok (.lconst 0, 1) := by decide +kernel
theorem J_M_got_d28 : decode J_M_got.2.1 28 = .ok (.lcmp, 1) := by decide +kernel
theorem J_M_got_d29 : decode J_M_got.2.1 29 = .ok (.ifCond .lt 34, 3) := by decide +kernel
theorem J_M_got_d32 : decode J_M_got.2.1 32 = .ok (.lload 5, 2) := by decide +kernel
theorem J_M_got_d34 : decode J_M_got.2.1 34 = .ok (.aload_n 0, 1) := by decide +kernel
theorem J_M_got_d35 : decode J_M_got.2.1 35 = .ok (.getfield 229, 3) := by decide +kernel
theorem J_M_got_d38 : decode J_M_got.2.1 38 = .ok (.i2l, 1) := by decide +kernel
theorem J_M_got_d39 : decode J_M_got.2.1 39 = .ok (.lcmp, 1) := by decide +kernel
theorem J_M_got_d40 : decode J_M_got.2.1 40 = .ok (.ifCond .ge 23, 3) := by decide +kernel
theorem J_M_got_d43 : decode J_M_got.2.1 43 = .ok (.lload_n 2, 1) := by decide +kernel
theorem J_M_got_d44 : decode J_M_got.2.1 44 = .ok (.aload_n 0, 1) := by decide +kernel
theorem J_M_got_d45 : decode J_M_got.2.1 45 = .ok (.getfield 55, 3) := by decide +kernel
theorem J_M_got_d48 : decode J_M_got.2.1 48 = .ok (.lload 5, 2) := by decide +kernel
theorem J_M_got_d50 : decode J_M_got.2.1 50 = .ok (.l2i, 1) := by decide +kernel
theorem J_M_got_d51 : decode J_M_got.2.1 51 = .ok (.iaload, 1) := by decide +kernel
theorem J_M_got_d52 : decode J_M_got.2.1 52 = .ok (.i2l, 1) := by decide +kernel
theorem J_M_got_d53 : decode J_M_got.2.1 53 = .ok (.bipush 8, 2) := by decide +kernel
theorem J_M_got_d55 : decode J_M_got.2.1 55 = .ok (.iload 4, 2) := by decide +kernel
theorem J_M_got_d57 : decode J_M_got.2.1 57 = .ok (.imul, 1) := by decide +kernel
theorem J_M_got_d58 : decode J_M_got.2.1 58 = .ok (.lshl, 1) := by decide +kernel
theorem J_M_got_d59 : decode J_M_got.2.1 59 = .ok (.lor, 1) := by decide +kernel
theorem J_M_got_d60 : decode J_M_got.2.1 60 = .ok (.goto 4, 3) := by decide +kernel
theorem J_M_got_d63 : decode J_M_got.2.1 63 = .ok (.lload_n 2, 1) := by decide +kernel
theorem J_M_got_d64 : decode J_M_got.2.1 64 = .ok (.lstore_n 2, 1) := by decide +kernel
theorem J_M_got_d65 : decode J_M_got.2.1 65 = .ok (.iinc 4 1, 3) := by decide +kernel
theorem J_M_got_d68 : decode J_M_got.2.1 68 = .ok (.goto (-58), 3) := by decide +kernel
theorem J_M_got_d71 : decode J_M_got.2.1 71 = .ok (.lload_n 2, 1) := by decide +kernel
theorem J_M_got_d72 : decode J_M_got.2.1 72 = .ok (.lreturn, 1) := by decide +kernel
theorem f_M_got_ok {L : Nat} {xs : Nat → Int32} {dep : Nat} {w : Bool} {p0 : Int32} {M : im_M} {Q : Int64 × im_M → Prop} (hM : lw_S w M) (h : ed (f_M_got p0 M) Q) : ia (tb_G L xs) dep J_M_got (rwL w Q) (0, lv_args 0 [.ref 69, .int p0], [], M) := by
  have hS : im_St (tb_G L xs) dep J_M_got (ia (tb_G L xs) dep J_M_got (rwL w Q)) := ia_St
  unfold f_M_got at h
  have l0 : im_lk (lv_args 0 [.ref 69, .int p0]) 0 = some (.ref 69) := rfl
  have l1 : im_lk (lv_args 0 [.ref 69, .int p0]) 1 = some (.int p0) := rfl
  refine iq_aload_n hS 1 J_M_got_d0 l0 rfl ?_
  refine iq_iconst hS 2 J_M_got_d1 (v := 0) (by decide +kernel) rfl ?_
  refine iq_putI hS 5 J_M_got_d2 lf_17_58 (Or.inl rfl) rfl (ka_69 hM) rfl ?_
  refine iq_lconst hS 6 J_M_got_d5 (v := 0) (by decide +kernel) rfl ?_
  refine iq_lstore_n hS 7 J_M_got_d6 (by decide) rfl ?_
  refine iq_iconst hS 8 J_M_got_d7 (v := 0) (by decide +kernel) rfl ?_
  refine iq_istore hS 10 J_M_got_d8 (by decide) rfl ?_
  obtain ⟨Q1, hQ1, h⟩ := bd1_ed h
  have K1 : ∀ (y2 : Int64) (L' : List (Nat × Value)), im_lk L' 2 = some (.long y2) → Q1 y2 → ia (tb_G L xs) dep J_M_got (rwL w Q) (71, L', [], (im_setI M 69 0 0)) := by
    intro y2 L' l3 h
    replace h := hQ1 _ h
    refine iq_lload_n hS 72 J_M_got_d71 l3 rfl ?_
    exact iq_lret J_M_got_d72 rfl ⟨_, rfl, (lw_sI hM), ed_some h⟩
  obtain ⟨r1, hr1, hq1⟩ := h
  obtain ⟨n1, hn1⟩ := lp_n hr1
  have I1 : ∀ (n : Nat) (x4 : Int64) (x5 : Int32) (L' : List (Nat × Value)), im_lk L' 0 = some (.ref 69) → im_lk L' 1 = some (.int p0) → im_lk L' 2 = some (.long x4) → im_lk L' 4 = some (.int x5) → lpn (uc2 (f_M_got_L10 p0 (im_setI M 69 0 0))) n (x4, x5) = some r1 → ia (tb_G L xs) dep J_M_got (rwL w Q) (10, L', [], (im_setI M 69 0 0)) := by
    intro n
    induction n with
    | zero => intro x4 x5 L' l6 l7 l8 l9 hn; exact (lpn_0 hn).elim
    | succ n ih =>
      intro x4 x5 L' l6 l7 l8 l9 hn
      have h := lpn_ed2 hn
      unfold f_M_got_L10 at h
      refine iq_iload hS 12 J_M_got_d10 l9 rfl ?_
      refine iq_bipush hS 14 J_M_got_d12 (v := 8) (by decide +kernel) rfl ?_
      refine iq_icmp_ge hS 17 J_M_got_d14 (t := 71) rfl (fun q14 => ?_) rfl (fun q14 => ?_)
      · replace h := ed_pos q14 h
        exact K1 _ _ l8 (lq_r h hq1)
      · replace h := ed_neg q14 h
        refine iq_iload_n hS 18 J_M_got_d17 l7 rfl ?_
        refine iq_i2l hS 19 J_M_got_d18 rfl ?_
        refine iq_iload hS 21 J_M_got_d19 l9 rfl ?_
        refine iq_i2l hS 22 J_M_got_d21 rfl ?_
        refine iq_ladd hS 23 J_M_got_d22 rfl ?_
        refine iq_lstore hS 25 J_M_got_d23 (by decide) rfl ?_
        refine iq_lload hS 27 J_M_got_d25 lk_2s rfl ?_
        refine iq_lconst hS 28 J_M_got_d27 (v := 0) (by decide +kernel) rfl ?_
        refine iq_lcmp hS 29 J_M_got_d28 rfl ?_
        obtain ⟨Q10, hQ10, h⟩ := bd1_ed h
        have J10 : ∀ (y16 : Int64) (L' : List (Nat × Value)), im_lk L' 0 = some (.ref 69) → im_lk L' 1 = some (.int p0) → im_lk L' 4 = some (.int x5) → Q10 y16 → ia (tb_G L xs) dep J_M_got (rwL w Q) (64, L', [.long y16], (im_setI M 69 0 0)) := by
          intro y16 L' l17 l18 l19 h
          replace h := hQ10 _ h
          refine iq_lstore_n hS 65 J_M_got_d64 (by decide) rfl ?_
          refine iq_iincv hS 68 J_M_got_d65 (c := 1) (by decide +kernel) (lk_2i l19 (by decide) (by decide)) (by decide) rfl ?_
          refine iq_goto hS J_M_got_d68 (t := 10) rfl ?_
          exact ih _ _ _ (lk_1r (lk_2r l17 (by decide) (by decide)) (by decide)) (lk_1i (lk_2i l18 (by decide) (by decide)) (by decide)) (lk_1l lk_2s (by decide) (by decide)) lk_1s (lq_l h)
        obtain ⟨k11, Q11, hQ11, hk11, h⟩ := jn0_ed h
        have J11 : ∀  (L' : List (Nat × Value)), im_lk L' 0 = some (.ref 69) → im_lk L' 1 = some (.int p0) → im_lk L' 2 = some (.long x4) → im_lk L' 4 = some (.int x5) → Q11 () → ia (tb_G L xs) dep J_M_got (rwL w Q) (63, L', [], (im_setI M 69 0 0)) := by
          intro  L' l12 l13 l14 l15 h
          replace h := hQ11  h
          refine iq_lload_n hS 64 J_M_got_d63 l14 rfl ?_
          exact J10 _ _ l12 l13 l15 (ed_some h)
        refine iq_if_lt hS 32 J_M_got_d29 (t := 63) rfl (fun q29 => ?_) rfl (fun q29 => ?_)
        · replace h := ed_pos q29 h
          exact J11  _ (lk_2r l6 (by decide) (by decide)) (lk_2i l7 (by decide) (by decide)) (lk_2l l8 (by decide) (by decide) (by decide)) (lk_2i l9 (by decide) (by decide)) (hk11  h)
        · replace h := ed_neg q29 h
          refine iq_lload hS 34 J_M_got_d32 lk_2s rfl ?_
          refine iq_aload_n hS 35 J_M_got_d34 (lk_2r l6 (by decide) (by decide)) rfl ?_
          refine iq_getI hS 38 J_M_got_d35 lf_17_229 (Or.inl rfl) (ka_69 (lw_sI hM)) rfl ?_
          refine iq_i2l hS 39 J_M_got_d38 rfl ?_
          refine iq_lcmp hS 40 J_M_got_d39 rfl ?_
          refine iq_if_ge hS 43 J_M_got_d40 (t := 63) rfl (fun q40 => ?_) rfl (fun q40 => ?_)
          · replace h := ed_pos q40 h
            exact J11  _ (lk_2r l6 (by decide) (by decide)) (lk_2i l7 (by decide) (by decide)) (lk_2l l8 (by decide) (by decide) (by decide)) (lk_2i l9 (by decide) (by decide)) (hk11  h)
          · replace h := ed_neg q40 h
            refine iq_lload_n hS 44 J_M_got_d43 (lk_2l l8 (by decide) (by decide) (by decide)) rfl ?_
            refine iq_aload_n hS 45 J_M_got_d44 (lk_2r l6 (by decide) (by decide)) rfl ?_
            refine iq_getR hS 48 J_M_got_d45 lf_17_55 (Or.inr ⟨_, rfl⟩) (ka_69 (lw_sI hM)) (ra_69_11 (lw_sI hM)) rfl ?_
            refine iq_lload hS 50 J_M_got_d48 lk_2s rfl ?_
            refine iq_l2i hS 51 J_M_got_d50 rfl ?_
            obtain ⟨g51, h⟩ := ed_gd h
            refine iq_iaload hS 52 J_M_got_d51 ⟨(ka_137 (lw_sI hM)).1, (ka_137 (lw_sI hM)).2, g51.1, ix_lt (kl_137 (lw_sI hM)) g51.2⟩ rfl ?_
            refine iq_i2l hS 53 J_M_got_d52 rfl ?_
            refine iq_bipush hS 55 J_M_got_d53 (v := 8) (by decide +kernel) rfl ?_
            refine iq_iload hS 57 J_M_got_d55 (lk_2i l9 (by decide) (by decide)) rfl ?_
            refine iq_imul hS 58 J_M_got_d57 rfl ?_
            refine iq_lshl hS 59 J_M_got_d58 rfl ?_
            refine iq_lor hS 60 J_M_got_d59 rfl ?_
            refine iq_goto hS J_M_got_d60 (t := 64) rfl ?_
            exact J10 _ _ (lk_2r l6 (by decide) (by decide)) (lk_2i l7 (by decide) (by decide)) (lk_2i l9 (by decide) (by decide)) (ed_some h)
  exact I1 n1 _ _ _ (lk_1r (lk_2r l0 (by decide) (by decide)) (by decide)) (lk_1i (lk_2i l1 (by decide) (by decide)) (by decide)) (lk_1l lk_2s (by decide) (by decide)) lk_1s hn1
theorem f_M_got_fr {p0 : Int32} {M : im_M} {r : Int64 × im_M} (h : f_M_got p0 M = some r) : fr 0 [(69, 0)] M r.2 := by
  replace h : ed (f_M_got p0 M) (fun x => x = r) := ⟨r, h, rfl⟩
  unfold f_M_got at h
  obtain ⟨Q1, hQ1, h⟩ := bd1_ed h
  have K1 : ∀ (y2 : Int64), Q1 y2 → fr 0 [(69, 0)] M r.2 := by
    intro y2 h
    replace h := hQ1 _ h
    exact fr_ret h (fr_F (by decide) fr_refl)
  obtain ⟨r1, hr1, hq1⟩ := h
  obtain ⟨n1, hn1⟩ := lp_n hr1
  have I1 : ∀ (n : Nat) (x3 : Int64) (x4 : Int32), lpn (uc2 (f_M_got_L10 p0 (im_setI M 69 0 0))) n (x3, x4) = some r1 → fr 0 [(69, 0)] M r.2 := by
    intro n
    induction n with
    | zero => intro x3 x4 hn; exact (lpn_0 hn).elim
    | succ n ih =>
      intro x3 x4 hn
      have h := lpn_ed2 hn
      unfold f_M_got_L10 at h
      by_cases q14 : 8 ≤ x4
      · replace h := ed_pos q14 h
        exact K1 _ (lq_r h hq1)
      · replace h := ed_neg q14 h
        obtain ⟨Q5, hQ5, h⟩ := bd1_ed h
        have J5 : ∀ (y11 : Int64), Q5 y11 → fr 0 [(69, 0)] M r.2 := by
          intro y11 h
          replace h := hQ5 _ h
          exact ih _ _ (lq_l h)
        obtain ⟨k6, Q6, hQ6, hk6, h⟩ := jn0_ed h
        have J6 : Q6 () → fr 0 [(69, 0)] M r.2 := by
          intro  h
          replace h := hQ6  h
          exact J5 _ (ed_some h)
        by_cases q29 : (lg_cmp ((Int32.toInt64 p0) + (Int32.toInt64 x4)) 0) < 0
        · replace h := ed_pos q29 h
          exact J6  (hk6  h)
        · replace h := ed_neg q29 h
          by_cases q40 : 0 ≤ (lg_cmp ((Int32.toInt64 p0) + (Int32.toInt64 x4)) (Int32.toInt64 (im_i (im_setI M 69 0 0) 69 12)))
          · replace h := ed_pos q40 h
            exact J6  (hk6  h)
          · replace h := ed_neg q40 h
            obtain ⟨g51, h⟩ := ed_gd h
            exact J5 _ (ed_some h)
  exact I1 n1 _ _ hn1
