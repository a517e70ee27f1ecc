/-! METHODS AS FUNCTIONS: those that read signs -/
theorem J_Preconditions_checkIndex_d0 : decode J_Preconditions_checkIndex.2.1 0 = .ok (.iload_n 0, 1) := by decide +kernel
theorem J_Preconditions_checkIndex_d1 : decode J_Preconditions_checkIndex.2.1 1 = .ok (.ifCond .lt 8, 3) := by decide +kernel
theorem J_Preconditions_checkIndex_d4 : decode J_Preconditions_checkIndex.2.1 4 = .ok (.iload_n 0, 1) := by decide +kernel
theorem J_Preconditions_checkIndex_d5 : decode J_Preconditions_checkIndex.2.1 5 = .ok (.iload_n 1, 1) := by decide +kernel
theorem J_Preconditions_checkIndex_d6 : decode J_Preconditions_checkIndex.2.1 6 = .ok (.if_icmp .lt 10, 3) := by decide +kernel
theorem J_Preconditions_checkIndex_d16 : decode J_Preconditions_checkIndex.2.1 16 = .ok (.iload_n 0, 1) := by decide +kernel
theorem J_Preconditions_checkIndex_d17 : decode J_Preconditions_checkIndex.2.1 17 = .ok (.ireturn, 1) := by decide +kernel
theorem J_String_checkIndex_d0 : decode J_String_checkIndex.2.1 0 = .ok (.iload_n 0, 1) := by decide +kernel
theorem J_String_checkIndex_d1 : decode J_String_checkIndex.2.1 1 = .ok (.iload_n 1, 1) := by decide +kernel
theorem J_String_checkIndex_d2 : decode J_String_checkIndex.2.1 2 = .ok (.getstatic 1053, 3) := by decide +kernel
theorem J_String_checkIndex_d5 : decode J_String_checkIndex.2.1 5 = .ok (.invokestatic 1059, 3) := by decide +kernel
theorem J_String_checkIndex_d8 : decode J_String_checkIndex.2.1 8 = .ok (.pop, 1) := by decide +kernel
theorem J_String_checkIndex_d9 : decode J_String_checkIndex.2.1 9 = .ok (.return_, 1) := by decide +kernel
theorem f_Preconditions_checkIndex_ok {L : Nat} {xs : Nat → Int32} {dep : Nat} {p0 p1 : Int32} {v : Value} {M : im_M} {Q : Int32 → Prop} (h : 0 ≤ p0 ∧ p0 < p1) (hq : Q p0) : ia (tb_G L xs) dep J_Preconditions_checkIndex (rpI M Q) (0, lv_args 0 [.int p0, .int p1, v], [], M) := by
  have hS : im_St (tb_G L xs) dep J_Preconditions_checkIndex (ia (tb_G L xs) dep J_Preconditions_checkIndex (rpI M Q)) := ia_St
  have l0 : im_lk (lv_args 0 [.int p0, .int p1, v]) 0 = some (.int p0) := rfl
  have l1 : im_lk (lv_args 0 [.int p0, .int p1, v]) 1 = some (.int p1) := rfl
  refine iq_iload_n hS 1 J_Preconditions_checkIndex_d0 l0 rfl ?_
  refine iq_if_lt hS 4 J_Preconditions_checkIndex_d1 (t := 9) rfl (fun q1 => ?_) rfl (fun q1 => ?_)
  · exact absurd q1 (Int32.not_lt.mpr h.1)
  · refine iq_iload_n hS 5 J_Preconditions_checkIndex_d4 l0 rfl ?_
    refine iq_iload_n hS 6 J_Preconditions_checkIndex_d5 l1 rfl ?_
    refine iq_icmp_lt hS 9 J_Preconditions_checkIndex_d6 (t := 16) rfl (fun q6 => ?_) rfl (fun q6 => ?_)
    · refine iq_iload_n hS 17 J_Preconditions_checkIndex_d16 l0 rfl ?_
      exact iq_iret J_Preconditions_checkIndex_d17 rfl rfl ⟨_, rfl, rfl, hq⟩
    · exact absurd h.2 q6
theorem gs_19_1053 {L : Nat} {xs : Nat → Int32} : ig_gT (tb_G L xs) 19 1053 = some .null ∨ ig_gT (tb_G L xs) 19 1053 = some (.ref 4000000) := by
  show tb_gT xs 19 1053 = _ ∨ tb_gT xs 19 1053 = _
  unfold tb_gT
  rw [if_pos ⟨rfl, rfl⟩]
  by_cases c : xs 1000000000 = 0
  · left; rw [if_pos c]
  · right; rw [if_neg c]
/-- an index that is within -/
def f_String_checkIndex (p0 p1 : Int32) (M : im_M) : Option Unit := gd (0 ≤ p0 ∧ p0 < p1) (some ())
theorem f_String_checkIndex_ok {L : Nat} {xs : Nat → Int32} {dep : Nat} {w : Bool} {p0 p1 : Int32} {M : im_M} {Q : Unit → Prop} (hM : lw_S w M) (h : ed (f_String_checkIndex p0 p1 M) Q) : ia (tb_G L xs) (dep + 1) J_String_checkIndex (rpV M Q) (0, lv_args 0 [.int p0, .int p1], [], M) := by
  have hS : im_St (tb_G L xs) (dep + 1) J_String_checkIndex (ia (tb_G L xs) (dep + 1) J_String_checkIndex (rpV M Q)) := ia_St
  unfold f_String_checkIndex at h
  have l0 : im_lk (lv_args 0 [.int p0, .int p1]) 0 = some (.int p0) := rfl
  have l1 : im_lk (lv_args 0 [.int p0, .int p1]) 1 = some (.int p1) := rfl
  obtain ⟨g, h⟩ := ed_gd h
  refine iq_iload_n hS 1 J_String_checkIndex_d0 l0 rfl ?_
  refine iq_iload_n hS 2 J_String_checkIndex_d1 l1 rfl ?_
  rcases gs_19_1053 (L := L) (xs := xs) with e | e
  · refine iq_getstatic hS 5 J_String_checkIndex_d2 e rfl ?_
    refine iq_cpI hS 8 J_String_checkIndex_d5 rfl (pr_stat (vs := [_, _, _]) lc_19_1059 lT_526 rfl rfl (by decide) rfl (Nat.le_of_ble_eq_true rfl) (Nat.le_of_ble_eq_true rfl)) (f_Preconditions_checkIndex_ok (dep := dep) (Q := fun _ => True) g trivial) rfl ?_
    intro x1 _
    refine iq_pop hS 9 J_String_checkIndex_d8 rfl rfl ?_
    exact iq_ret J_String_checkIndex_d9 rfl ⟨rfl, rfl, ed_some h⟩
  · refine iq_getstatic hS 5 J_String_checkIndex_d2 e rfl ?_
    refine iq_cpI hS 8 J_String_checkIndex_d5 rfl (pr_stat (vs := [_, _, _]) lc_19_1059 lT_526 rfl rfl (by decide) rfl (Nat.le_of_ble_eq_true rfl) (Nat.le_of_ble_eq_true rfl)) (f_Preconditions_checkIndex_ok (dep := dep) (Q := fun _ => True) g trivial) rfl ?_
    intro x1 _
    refine iq_pop hS 9 J_String_checkIndex_d8 rfl rfl ?_
    exact iq_ret J_String_checkIndex_d9 rfl ⟨rfl, rfl, ed_some h⟩
theorem nar_c1 {x : Int32} (h : (Int32.toUInt32 x % 65536).toInt32 = x) : narrow FieldType.char (Value.int x) = Value.int x := by
  show Value.int ((Int32.toUInt32 x % 65536).toInt32) = _
  rw [h]
theorem nar_cc {x : UInt32} : narrow FieldType.char (Value.int (x % 65536).toInt32) = Value.int (x % 65536).toInt32 := nar_c1 (by
  show ((x % 65536) % 65536).toInt32 = _
  congr 1
  exact UInt32.toBitVec_inj.mp (BitVec.eq_of_toNat_eq (by
    show (x.toBitVec % 65536 % 65536).toNat = (x.toBitVec % 65536).toNat
    rw [BitVec.toNat_umod, BitVec.toNat_umod]
    exact Nat.mod_mod _ _)))
noncomputable def f_StringLatin1_charAt (p1 : Int32) (M : im_M) : Option (Int32) := bd0 (f_String_checkIndex p1 (Int32.ofNat 45) M) fun (_ : Unit) => gd (inb p1 45) <| some (((Int32.toUInt32 ((xb_1 p1) &&& 255)) % 65536).toInt32)
theorem J_StringLatin1_charAt_d0 : decode J_StringLatin1_charAt.2.1 0 = .ok (.iload_n 1, 1) := by decide +kernel
theorem J_StringLatin1_charAt_d1 : decode J_StringLatin1_charAt.2.1 1 = .ok (.aload_n 0, 1) := by decide +kernel
theorem J_StringLatin1_charAt_d2 : decode J_StringLatin1_charAt.2.1 2 = .ok (.arraylength, 1) := by decide +kernel
theorem J_StringLatin1_charAt_d3 : decode J_StringLatin1_charAt.2.1 3 = .ok (.invokestatic 9, 3) := by decide +kernel
theorem J_StringLatin1_charAt_d6 : decode J_StringLatin1_charAt.2.1 6 = .ok (.aload_n 0, 1) := by decide +kernel
theorem J_StringLatin1_charAt_d7 : decode J_StringLatin1_charAt.2.1 7 = .ok (.iload_n 1, 1) := by decide +kernel
theorem J_StringLatin1_charAt_d8 : decode J_StringLatin1_charAt.2.1 8 = .ok (.baload, 1) := by decide +kernel
theorem J_StringLatin1_charAt_d9 : decode J_StringLatin1_charAt.2.1 9 = .ok (.sipush 255, 3) := by decide +kernel
theorem J_StringLatin1_charAt_d12 : decode J_StringLatin1_charAt.2.1 12 = .ok (.iand, 1) := by decide +kernel
theorem J_StringLatin1_charAt_d13 : decode J_StringLatin1_charAt.2.1 13 = .ok (.i2c, 1) := by decide +kernel
theorem J_StringLatin1_charAt_d14 : decode J_StringLatin1_charAt.2.1 14 = .ok (.ireturn, 1) := by decide +kernel
theorem f_StringLatin1_charAt_ok {L : Nat} {xs : Nat → Int32} {dep : Nat} {w : Bool} {p1 : Int32} {M : im_M} {Q : Int32 → Prop} (hM : lw_S w M) (h : ed (f_StringLatin1_charAt p1 M) Q) : ia (tb_G L xs) (dep + 2) J_StringLatin1_charAt (rpI M Q) (0, lv_args 0 [.ref 3000001, .int p1], [], M) := by
  have hS : im_St (tb_G L xs) (dep + 2) J_StringLatin1_charAt (ia (tb_G L xs) (dep + 2) J_StringLatin1_charAt (rpI M Q)) := ia_St
  unfold f_StringLatin1_charAt at h
  have l0 : im_lk (lv_args 0 [.ref 3000001, .int p1]) 0 = some (.ref 3000001) := rfl
  have l1 : im_lk (lv_args 0 [.ref 3000001, .int p1]) 1 = some (.int p1) := rfl
  refine iq_iload_n hS 1 J_StringLatin1_charAt_d0 l1 rfl ?_
  refine iq_aload_n hS 2 J_StringLatin1_charAt_d1 l0 rfl ?_
  refine iq_xalen hS 3 J_StringLatin1_charAt_d2 (by rw [(hM).1]; decide) (Or.inr (by rw [xkb_1])) rfl ?_
  rw [xkb_1]
  obtain ⟨Q1, hQ1, h⟩ := bd0_ed h
  refine iq_cpV hS 6 J_StringLatin1_charAt_d3 rfl (pr_stat (vs := [_, _]) lc_20_9 lT_247 rfl rfl (by decide) rfl (Nat.le_of_ble_eq_true rfl) (Nat.le_of_ble_eq_true rfl)) (f_String_checkIndex_ok (dep := dep + 0) hM h) rfl ?_
  intro h
  replace h := hQ1  h
  refine iq_aload_n hS 7 J_StringLatin1_charAt_d6 l0 rfl ?_
  refine iq_iload_n hS 8 J_StringLatin1_charAt_d7 l1 rfl ?_
  obtain ⟨g8, h⟩ := ed_gd h
  refine iq_xlb_1 hS 9 J_StringLatin1_charAt_d8 hM g8 rfl ?_
  refine iq_sipush hS 12 J_StringLatin1_charAt_d9 (v := 255) (by decide +kernel) rfl ?_
  refine iq_iand hS 13 J_StringLatin1_charAt_d12 rfl ?_
  refine iq_i2c hS 14 J_StringLatin1_charAt_d13 rfl ?_
  exact iq_iret J_StringLatin1_charAt_d14 rfl nar_cc ⟨_, rfl, rfl, ed_some h⟩
noncomputable def f_String_charAt (p0 : Int32) (M : im_M) : Option (Int32) := bd1 (f_String_isLatin1_1 M) fun (x1 : Int32) => if x1 = 0 then none else bd1 (f_StringLatin1_charAt p0 M) fun (x2 : Int32) => gd ((Int32.toUInt32 x2 % 65536).toInt32 = x2) <| some x2
theorem J_String_charAt_d0 : decode J_String_charAt.2.1 0 = .ok (.aload_n 0, 1) := by decide +kernel
theorem J_String_charAt_d1 : decode J_String_charAt.2.1 1 = .ok (.invokevirtual 492, 3) := by decide +kernel
theorem J_String_charAt_d4 : decode J_String_charAt.2.1 4 = .ok (.ifCond .eq 12, 3) := by decide +kernel
theorem J_String_charAt_d7 : decode J_String_charAt.2.1 7 = .ok (.aload_n 0, 1) := by decide +kernel
theorem J_String_charAt_d8 : decode J_String_charAt.2.1 8 = .ok (.getfield 9, 3) := by decide +kernel
theorem J_String_charAt_d11 : decode J_String_charAt.2.1 11 = .ok (.iload_n 1, 1) := by decide +kernel
theorem J_String_charAt_d12 : decode J_String_charAt.2.1 12 = .ok (.invokestatic 495, 3) := by decide +kernel
theorem J_String_charAt_d15 : decode J_String_charAt.2.1 15 = .ok (.ireturn, 1) := by decide +kernel
theorem J_String_charAt_d16 : decode J_String_charAt.2.1 16 = .ok (.aload_n 0, 1) := by decide +kernel
theorem J_String_charAt_d17 : decode J_String_charAt.2.1 17 = .ok (.getfield 9, 3) := by decide +kernel
theorem J_String_charAt_d20 : decode J_String_charAt.2.1 20 = .ok (.iload_n 1, 1) := by decide +kernel
theorem f_String_charAt_ok {L : Nat} {xs : Nat → Int32} {dep : Nat} {w : Bool} {p0 : Int32} {M : im_M} {Q : Int32 → Prop} (hM : lw_S w M) (h : ed (f_String_charAt p0 M) Q) : ia (tb_G L xs) (dep + 3) J_String_charAt (rpI M Q) (0, lv_args 0 [.ref 2000001, .int p0], [], M) := by
  have hS : im_St (tb_G L xs) (dep + 3) J_String_charAt (ia (tb_G L xs) (dep + 3) J_String_charAt (rpI M Q)) := ia_St
  unfold f_String_charAt at h
  have l0 : im_lk (lv_args 0 [.ref 2000001, .int p0]) 0 = some (.ref 2000001) := rfl
  have l1 : im_lk (lv_args 0 [.ref 2000001, .int p0]) 1 = some (.int p0) := rfl
  refine iq_aload_n hS 1 J_String_charAt_d0 l0 rfl ?_
  obtain ⟨Q1, hQ1, h⟩ := bd1_ed h
  refine iq_cpI hS 4 J_String_charAt_d1 rfl (pr_inst (vs := []) lc_19_492 lT_22 rfl rfl (by decide) (by decide) rfl (Nat.le_of_ble_eq_true rfl) (Nat.le_of_ble_eq_true rfl) (fun _ => Or.inr ⟨xks_1, rfl⟩)) (f_String_isLatin1_1_ok (dep := dep + 2) hM h) rfl ?_
  intro x1 h
  replace h := hQ1 _ h
  refine iq_if_eq hS 7 J_String_charAt_d4 (t := 16) rfl (fun q4 => ?_) rfl (fun q4 => ?_)
  · replace h := ed_pos q4 h
    refine iq_aload_n hS 17 J_String_charAt_d16 l0 rfl ?_
    refine iq_xval hS 20 J_String_charAt_d17 (gf_of (by decide +kernel)) (gvT_of (by decide +kernel)) xks_1 (b := 3000001) rfl rfl ?_
    refine iq_iload_n hS 21 J_String_charAt_d20 l1 rfl ?_
    exact (ed_none h).elim
  · replace h := ed_neg q4 h
    refine iq_aload_n hS 8 J_String_charAt_d7 l0 rfl ?_
    refine iq_xval hS 11 J_String_charAt_d8 (gf_of (by decide +kernel)) (gvT_of (by decide +kernel)) xks_1 (b := 3000001) rfl rfl ?_
    refine iq_iload_n hS 12 J_String_charAt_d11 l1 rfl ?_
    obtain ⟨Q2, hQ2, h⟩ := bd1_ed h
    refine iq_cpI hS 15 J_String_charAt_d12 rfl (pr_stat (vs := [_, _]) lc_19_495 lT_246 rfl rfl (by decide) rfl (Nat.le_of_ble_eq_true rfl) (Nat.le_of_ble_eq_true rfl)) (f_StringLatin1_charAt_ok (dep := dep + 0) hM h) rfl ?_
    intro x2 h
    replace h := hQ2 _ h
    obtain ⟨gc, h⟩ := ed_gd h
    exact iq_iret J_String_charAt_d15 rfl (nar_c1 gc) ⟨_, rfl, rfl, ed_some h⟩
noncomputable def f_HSegments_unpackPart_L34 (v2 : Int32) (v3 : Int32) (x4 : Int32) (x5 : Int32) (M6 : im_M) : Option ((Int32 × Int32 × im_M) ⊕ (Int32 × im_M)) := if x5 < 0 then some (.inr (x4, M6)) else bd1 (f_HSegments_base v2 M6) fun (x7 : Int32) => gd (¬ x7 = (0 : Int32)) <| bd1 (f_String_charAt (x4 - x4 / x7 * x7) M6) fun (x8 : Int32) => gd (inb ((im_i M6 39 2) + x5) 3000) <| bd1 (f_HSegments_base v2 (im_setI M6 68 (Int32.toNatClampNeg ((im_i M6 39 2) + x5)) (vp_nar .byte ((Int32.toInt8 x8).toInt32)))) fun (x9 : Int32) => gd (¬ x9 = (0 : Int32)) <| some (.inl ((x4 / x9), (x5 + (-1)), (im_setI M6 68 (Int32.toNatClampNeg ((im_i M6 39 2) + x5)) (vp_nar .byte ((Int32.toInt8 x8).toInt32)))))
noncomputable def f_HSegments_unpackPart (p0 : Int32) (p1 : Int32) (p2 : Int32) (M : im_M) : Option (Int32 × im_M) := if ¬ p1 = 2 then bd2 (lp (uc3 (f_HSegments_unpackPart_L34 p1 p2)) (p0, (p2 - 1), M)) fun (y10 : Int32) (M11 : im_M) => if ¬ y10 = 0 then some (0, (im_setI M11 39 2 ((im_i M11 39 2) + p2))) else some (1, (im_setI M11 39 2 ((im_i M11 39 2) + p2))) else gd (inb (im_i M 39 2) 3000) <| some (1, (im_setI (im_setI M 68 (Int32.toNatClampNeg (im_i M 39 2)) (vp_nar .byte ((Int32.toInt8 p0).toInt32))) 39 2 ((im_i (im_setI M 68 (Int32.toNatClampNeg (im_i M 39 2)) (vp_nar .byte ((Int32.toInt8 p0).toInt32))) 39 2) + 1)))
theorem J_HSegments_unpackPart_d0 : decode J_HSegments_unpackPart.2.1 0 = .ok (.iload_n 2, 1) := by decide +kernel
theorem J_HSegments_unpackPart_d1 : decode J_HSegments_unpackPart.2.1 1 = .ok (.iconst 2, 1) := by decide +kernel
theorem J_HSegments_unpackPart_d2 : decode J_HSegments_unpackPart.2.1 2 = .ok (.if_icmp .ne 24, 3) := by decide +kernel
theorem J_HSegments_unpackPart_d5 : decode J_HSegments_unpackPart.2.1 5 = .ok (.aload 4, 2) := by decide +kernel
theorem J_HSegments_unpackPart_d7 : decode J_HSegments_unpackPart.2.1 7 = .ok (.aload_n 0, 1) := by decide +kernel
theorem J_HSegments_unpackPart_d8 : decode J_HSegments_unpackPart.2.1 8 = .ok (.getfield 110, 3) := by decide +kernel
theorem J_HSegments_unpackPart_d11 : decode J_HSegments_unpackPart.2.1 11 = .ok (.iload_n 1, 1) := by decide +kernel
theorem J_HSegments_unpackPart_d12 : decode J_HSegments_unpackPart.2.1 12 = .ok (.i2b, 1) := by decide +kernel
theorem J_HSegments_unpackPart_d13 : decode J_HSegments_unpackPart.2.1 13 = .ok (.bastore, 1) := by decide +kernel
theorem J_HSegments_unpackPart_d14 : decode J_HSegments_unpackPart.2.1 14 = .ok (.aload_n 0, 1) := by decide +kernel
theorem J_HSegments_unpackPart_d15 : decode J_HSegments_unpackPart.2.1 15 = .ok (.dup, 1) := by decide +kernel
theorem J_HSegments_unpackPart_d16 : decode J_HSegments_unpackPart.2.1 16 = .ok (.getfield 110, 3) := by decide +kernel
theorem J_HSegments_unpackPart_d19 : decode J_HSegments_unpackPart.2.1 19 = .ok (.iconst 1, 1) := by decide +kernel
theorem J_HSegments_unpackPart_d20 : decode J_HSegments_unpackPart.2.1 20 = .ok (.iadd, 1) := by decide +kernel
theorem J_HSegments_unpackPart_d21 : decode J_HSegments_unpackPart.2.1 21 = .ok (.putfield 110, 3) := by decide +kernel
theorem J_HSegments_unpackPart_d24 : decode J_HSegments_unpackPart.2.1 24 = .ok (.iconst 1, 1) := by decide +kernel
theorem J_HSegments_unpackPart_d25 : decode J_HSegments_unpackPart.2.1 25 = .ok (.ireturn, 1) := by decide +kernel
theorem J_HSegments_unpackPart_d26 : decode J_HSegments_unpackPart.2.1 26 = .ok (.iload_n 1, 1) := by decide +kernel
theorem J_HSegments_unpackPart_d27 : decode J_HSegments_unpackPart.2.1 27 = .ok (.istore 5, 2) := by decide +kernel
theorem J_HSegments_unpackPart_d29 : decode J_HSegments_unpackPart.2.1 29 = .ok (.iload_n 3, 1) := by decide +kernel
theorem J_HSegments_unpackPart_d30 : decode J_HSegments_unpackPart.2.1 30 = .ok (.iconst 1, 1) := by decide +kernel
theorem J_HSegments_unpackPart_d31 : decode J_HSegments_unpackPart.2.1 31 = .ok (.isub, 1) := by decide +kernel
theorem J_HSegments_unpackPart_d32 : decode J_HSegments_unpackPart.2.1 32 = .ok (.istore 6, 2) := by decide +kernel
theorem J_HSegments_unpackPart_d34 : decode J_HSegments_unpackPart.2.1 34 = .ok (.iload 6, 2) := by decide +kernel
theorem J_HSegments_unpackPart_d36 : decode J_HSegments_unpackPart.2.1 36 = .ok (.ifCond .lt 41, 3) := by decide +kernel
theorem J_HSegments_unpackPart_d39 : decode J_HSegments_unpackPart.2.1 39 = .ok (.aload 4, 2) := by decide +kernel
theorem J_HSegments_unpackPart_d41 : decode J_HSegments_unpackPart.2.1 41 = .ok (.aload_n 0, 1) := by decide +kernel
theorem J_HSegments_unpackPart_d42 : decode J_HSegments_unpackPart.2.1 42 = .ok (.getfield 110, 3) := by decide +kernel
theorem J_HSegments_unpackPart_d45 : decode J_HSegments_unpackPart.2.1 45 = .ok (.iload 6, 2) := by decide +kernel
theorem J_HSegments_unpackPart_d47 : decode J_HSegments_unpackPart.2.1 47 = .ok (.iadd, 1) := by decide +kernel
theorem J_HSegments_unpackPart_d48 : decode J_HSegments_unpackPart.2.1 48 = .ok (.ldc 42, 2) := by decide +kernel
theorem J_HSegments_unpackPart_d50 : decode J_HSegments_unpackPart.2.1 50 = .ok (.iload 5, 2) := by decide +kernel
theorem J_HSegments_unpackPart_d52 : decode J_HSegments_unpackPart.2.1 52 = .ok (.iload_n 2, 1) := by decide +kernel
theorem J_HSegments_unpackPart_d53 : decode J_HSegments_unpackPart.2.1 53 = .ok (.invokestatic 98, 3) := by decide +kernel
theorem J_HSegments_unpackPart_d56 : decode J_HSegments_unpackPart.2.1 56 = .ok (.irem, 1) := by decide +kernel
theorem J_HSegments_unpackPart_d57 : decode J_HSegments_unpackPart.2.1 57 = .ok (.invokevirtual 127, 3) := by decide +kernel
theorem J_HSegments_unpackPart_d60 : decode J_HSegments_unpackPart.2.1 60 = .ok (.i2b, 1) := by decide +kernel
theorem J_HSegments_unpackPart_d61 : decode J_HSegments_unpackPart.2.1 61 = .ok (.bastore, 1) := by decide +kernel
theorem J_HSegments_unpackPart_d62 : decode J_HSegments_unpackPart.2.1 62 = .ok (.iload 5, 2) := by decide +kernel
theorem J_HSegments_unpackPart_d64 : decode J_HSegments_unpackPart.2.1 64 = .ok (.iload_n 2, 1) := by decide +kernel
theorem J_HSegments_unpackPart_d65 : decode J_HSegments_unpackPart.2.1 65 = .ok (.invokestatic 98, 3) := by decide +kernel
theorem J_HSegments_unpackPart_d68 : decode J_HSegments_unpackPart.2.1 68 = .ok (.idiv, 1) := by decide +kernel
theorem J_HSegments_unpackPart_d69 : decode J_HSegments_unpackPart.2.1 69 = .ok (.istore 5, 2) := by decide +kernel
theorem J_HSegments_unpackPart_d71 : decode J_HSegments_unpackPart.2.1 71 = .ok (.iinc 6 (-1), 3) := by decide +kernel
theorem J_HSegments_unpackPart_d74 : decode J_HSegments_unpackPart.2.1 74 = .ok (.goto (-40), 3) := by decide +kernel
theorem J_HSegments_unpackPart_d77 : decode J_HSegments_unpackPart.2.1 77 = .ok (.aload_n 0, 1) := by decide +kernel
theorem J_HSegments_unpackPart_d78 : decode J_HSegments_unpackPart.2.1 78 = .ok (.dup, 1) := by decide +kernel
theorem J_HSegments_unpackPart_d79 : decode J_HSegments_unpackPart.2.1 79 = .ok (.getfield 110, 3) := by decide +kernel
theorem J_HSegments_unpackPart_d82 : decode J_HSegments_unpackPart.2.1 82 = .ok (.iload_n 3, 1) := by decide +kernel
theorem J_HSegments_unpackPart_d83 : decode J_HSegments_unpackPart.2.1 83 = .ok (.iadd, 1) := by decide +kernel
theorem J_HSegments_unpackPart_d84 : decode J_HSegments_unpackPart.2.1 84 = .ok (.putfield 110, 3) := by decide +kernel
theorem J_HSegments_unpackPart_d87 : decode J_HSegments_unpackPart.2.1 87 = .ok (.iload 5, 2) := by decide +kernel
theorem J_HSegments_unpackPart_d89 : decode J_HSegments_unpackPart.2.1 89 = .ok (.ifCond .ne 7, 3) := by decide +kernel
theorem J_HSegments_unpackPart_d92 : decode J_HSegments_unpackPart.2.1 92 = .ok (.iconst 1, 1) := by decide +kernel
theorem J_HSegments_unpackPart_d93 : decode J_HSegments_unpackPart.2.1 93 = .ok (.goto 4, 3) := by decide +kernel
theorem J_HSegments_unpackPart_d96 : decode J_HSegments_unpackPart.2.1 96 = .ok (.iconst 0, 1) := by decide +kernel
theorem J_HSegments_unpackPart_d97 : decode J_HSegments_unpackPart.2.1 97 = .ok (.ireturn, 1) := by decide +kernel
theorem f_HSegments_unpackPart_ok {L : Nat} {xs : Nat → Int32} {dep : Nat} {w : Bool} {p0 : Int32} {p1 : Int32} {p2 : Int32} {M : im_M} {Q : Int32 × im_M → Prop} (hM : lw_S w M) (h : ed (f_HSegments_unpackPart p0 p1 p2 M) Q) : ia (tb_G L xs) (dep + 4) J_HSegments_unpackPart (rwI w Q) (0, lv_args 0 [.ref 39, .int p0, .int p1, .int p2, .ref 68], [], M) := by
  have hS : im_St (tb_G L xs) (dep + 4) J_HSegments_unpackPart (ia (tb_G L xs) (dep + 4) J_HSegments_unpackPart (rwI w Q)) := ia_St
  unfold f_HSegments_unpackPart at h
  have l0 : im_lk (lv_args 0 [.ref 39, .int p0, .int p1, .int p2, .ref 68]) 0 = some (.ref 39) := rfl
  have l1 : im_lk (lv_args 0 [.ref 39, .int p0, .int p1, .int p2, .ref 68]) 1 = some (.int p0) := rfl
  have l2 : im_lk (lv_args 0 [.ref 39, .int p0, .int p1, .int p2, .ref 68]) 2 = some (.int p1) := rfl
  have l3 : im_lk (lv_args 0 [.ref 39, .int p0, .int p1, .int p2, .ref 68]) 3 = some (.int p2) := rfl
  have l4 : im_lk (lv_args 0 [.ref 39, .int p0, .int p1, .int p2, .ref 68]) 4 = some (.ref 68) := rfl
  refine iq_iload_n hS 1 J_HSegments_unpackPart_d0 l2 rfl ?_
  refine iq_iconst hS 2 J_HSegments_unpackPart_d1 (v := 2) (by decide +kernel) rfl ?_
  refine iq_icmp_ne hS 5 J_HSegments_unpackPart_d2 (t := 26) rfl (fun q2 => ?_) rfl (fun q2 => ?_)
  · replace h := ed_pos q2 h
    refine iq_iload_n hS 27 J_HSegments_unpackPart_d26 l1 rfl ?_
    refine iq_istore hS 29 J_HSegments_unpackPart_d27 (by decide) rfl ?_
    refine iq_iload_n hS 30 J_HSegments_unpackPart_d29 (lk_1i l3 (by decide)) rfl ?_
    refine iq_iconst hS 31 J_HSegments_unpackPart_d30 (v := 1) (by decide +kernel) rfl ?_
    refine iq_isub hS 32 J_HSegments_unpackPart_d31 rfl ?_
    refine iq_istore hS 34 J_HSegments_unpackPart_d32 (by decide) rfl ?_
    obtain ⟨Q1, hQ1, h⟩ := bd2_ed h
    have K1 : ∀ (y2 : Int32) (M3 : im_M) (L' : List (Nat × Value)), lw_S w M3 → im_lk L' 0 = some (.ref 39) → im_lk L' 3 = some (.int p2) → im_lk L' 5 = some (.int y2) → Q1 (y2, M3) → ia (tb_G L xs) (dep + 4) J_HSegments_unpackPart (rwI w Q) (77, L', [], M3) := by
      intro y2 M3 L' hM3 l4 l5 l6 h
      replace h := hQ1 _ _ h
      refine iq_aload_n hS 78 J_HSegments_unpackPart_d77 l4 rfl ?_
      refine iq_dup hS 79 J_HSegments_unpackPart_d78 rfl rfl ?_
      refine iq_getI hS 82 J_HSegments_unpackPart_d79 lf_7_110 (Or.inl rfl) (ka_39 hM3) rfl ?_
      refine iq_iload_n hS 83 J_HSegments_unpackPart_d82 l5 rfl ?_
      refine iq_iadd hS 84 J_HSegments_unpackPart_d83 rfl ?_
      refine iq_putI hS 87 J_HSegments_unpackPart_d84 lf_7_110 (Or.inl rfl) rfl (ka_39 hM3) rfl ?_
      refine iq_iload hS 89 J_HSegments_unpackPart_d87 l6 rfl ?_
      refine iq_if_ne hS 92 J_HSegments_unpackPart_d89 (t := 96) rfl (fun q89 => ?_) rfl (fun q89 => ?_)
      · replace h := ed_pos q89 h
        refine iq_iconst hS 97 J_HSegments_unpackPart_d96 (v := 0) (by decide +kernel) rfl ?_
        exact iq_iret J_HSegments_unpackPart_d97 rfl rfl ⟨_, rfl, (lw_sI hM3), ed_some h⟩
      · replace h := ed_neg q89 h
        refine iq_iconst hS 93 J_HSegments_unpackPart_d92 (v := 1) (by decide +kernel) rfl ?_
        refine iq_goto hS J_HSegments_unpackPart_d93 (t := 97) rfl ?_
        exact iq_iret J_HSegments_unpackPart_d97 rfl rfl ⟨_, rfl, (lw_sI hM3), ed_some h⟩
    obtain ⟨r1, hr1, hq1⟩ := h
    obtain ⟨n1, hn1⟩ := lp_n hr1
    have I1 : ∀ (n : Nat) (x7 : Int32) (x8 : Int32) (M9 : im_M) (L' : List (Nat × Value)), lw_S w M9 → im_lk L' 0 = some (.ref 39) → im_lk L' 2 = some (.int p1) → im_lk L' 3 = some (.int p2) → im_lk L' 4 = some (.ref 68) → im_lk L' 5 = some (.int x7) → im_lk L' 6 = some (.int x8) → lpn (uc3 (f_HSegments_unpackPart_L34 p1 p2)) n (x7, x8, M9) = some r1 → ia (tb_G L xs) (dep + 4) J_HSegments_unpackPart (rwI w Q) (34, L', [], M9) := by
      intro n
      induction n with
      | zero => intro x7 x8 M9 L' hM9 l10 l11 l12 l13 l14 l15 hn; exact (lpn_0 hn).elim
      | succ n ih =>
        intro x7 x8 M9 L' hM9 l10 l11 l12 l13 l14 l15 hn
        have h := lpn_ed3 hn
        unfold f_HSegments_unpackPart_L34 at h
        refine iq_iload hS 36 J_HSegments_unpackPart_d34 l15 rfl ?_
        refine iq_if_lt hS 39 J_HSegments_unpackPart_d36 (t := 77) rfl (fun q36 => ?_) rfl (fun q36 => ?_)
        · replace h := ed_pos q36 h
          exact K1 _ _ _ hM9 l10 l12 l14 (lq_r h hq1)
        · replace h := ed_neg q36 h
          refine iq_aload hS 41 J_HSegments_unpackPart_d39 l13 rfl ?_
          refine iq_aload_n hS 42 J_HSegments_unpackPart_d41 l10 rfl ?_
          refine iq_getI hS 45 J_HSegments_unpackPart_d42 lf_7_110 (Or.inl rfl) (ka_39 hM9) rfl ?_
          refine iq_iload hS 47 J_HSegments_unpackPart_d45 l15 rfl ?_
          refine iq_iadd hS 48 J_HSegments_unpackPart_d47 rfl ?_
          refine iq_ldcs hS 50 J_HSegments_unpackPart_d48 (a := 2000001) (gk_of (by decide +kernel)) (gsT_of (by decide +kernel)) rfl ?_
          refine iq_iload hS 52 J_HSegments_unpackPart_d50 l14 rfl ?_
          refine iq_iload_n hS 53 J_HSegments_unpackPart_d52 l11 rfl ?_
          obtain ⟨Q16, hQ16, h⟩ := bd1_ed h
          refine iq_cpI hS 56 J_HSegments_unpackPart_d53 rfl (pr_stat (vs := [_]) lc_7_98 lT_145 rfl rfl (by decide) rfl (Nat.le_of_ble_eq_true rfl) (Nat.le_of_ble_eq_true rfl)) (f_HSegments_base_ok (dep := dep + 3) hM9 h) rfl ?_
          intro x16 h
          replace h := hQ16 _ h
          obtain ⟨g56, h⟩ := ed_gd h
          refine iq_irem hS 57 J_HSegments_unpackPart_d56 g56 rfl ?_
          obtain ⟨Q17, hQ17, h⟩ := bd1_ed h
          refine iq_cpI hS 60 J_HSegments_unpackPart_d57 rfl (pr_inst (vs := [_]) lc_7_127 lT_245 rfl rfl (by decide) (by decide) rfl (Nat.le_of_ble_eq_true rfl) (Nat.le_of_ble_eq_true rfl) (fun _ => Or.inr ⟨xks_1, rfl⟩)) (f_String_charAt_ok (dep := dep + 0) hM9 h) rfl ?_
          intro x17 h
          replace h := hQ17 _ h
          refine iq_i2b hS 61 J_HSegments_unpackPart_d60 rfl ?_
          obtain ⟨g61, h⟩ := ed_gd h
          refine iq_bastore hS 62 J_HSegments_unpackPart_d61 ⟨(ka_68 hM9).1, (ka_68 hM9).2, g61.1, ix_lt (kl_68 hM9) g61.2⟩ rfl ?_
          refine iq_iload hS 64 J_HSegments_unpackPart_d62 l14 rfl ?_
          refine iq_iload_n hS 65 J_HSegments_unpackPart_d64 l11 rfl ?_
          obtain ⟨Q18, hQ18, h⟩ := bd1_ed h
          refine iq_cpI hS 68 J_HSegments_unpackPart_d65 rfl (pr_stat (vs := [_]) lc_7_98 lT_145 rfl rfl (by decide) rfl (Nat.le_of_ble_eq_true rfl) (Nat.le_of_ble_eq_true rfl)) (f_HSegments_base_ok (dep := dep + 3) (lw_sI hM9) h) rfl ?_
          intro x18 h
          replace h := hQ18 _ h
          obtain ⟨g68, h⟩ := ed_gd h
          refine iq_idiv hS 69 J_HSegments_unpackPart_d68 g68 rfl ?_
          refine iq_istore hS 71 J_HSegments_unpackPart_d69 (by decide) rfl ?_
          refine iq_iincv hS 74 J_HSegments_unpackPart_d71 (c := (-1)) (by decide +kernel) (lk_1i l15 (by decide)) (by decide) rfl ?_
          refine iq_goto hS J_HSegments_unpackPart_d74 (t := 34) rfl ?_
          exact ih _ _ _ _ (lw_sI hM9) (lk_1r (lk_1r l10 (by decide)) (by decide)) (lk_1i (lk_1i l11 (by decide)) (by decide)) (lk_1i (lk_1i l12 (by decide)) (by decide)) (lk_1r (lk_1r l13 (by decide)) (by decide)) (lk_1i lk_1s (by decide)) lk_1s (lq_l h)
    exact I1 n1 _ _ _ _ hM (lk_1r (lk_1r l0 (by decide)) (by decide)) (lk_1i (lk_1i l2 (by decide)) (by decide)) (lk_1i (lk_1i l3 (by decide)) (by decide)) (lk_1r (lk_1r l4 (by decide)) (by decide)) (lk_1i lk_1s (by decide)) lk_1s hn1
  · replace h := ed_neg q2 h
    refine iq_aload hS 7 J_HSegments_unpackPart_d5 l4 rfl ?_
    refine iq_aload_n hS 8 J_HSegments_unpackPart_d7 l0 rfl ?_
    refine iq_getI hS 11 J_HSegments_unpackPart_d8 lf_7_110 (Or.inl rfl) (ka_39 hM) rfl ?_
    refine iq_iload_n hS 12 J_HSegments_unpackPart_d11 l1 rfl ?_
    refine iq_i2b hS 13 J_HSegments_unpackPart_d12 rfl ?_
    obtain ⟨g13, h⟩ := ed_gd h
    refine iq_bastore hS 14 J_HSegments_unpackPart_d13 ⟨(ka_68 hM).1, (ka_68 hM).2, g13.1, ix_lt (kl_68 hM) g13.2⟩ rfl ?_
    refine iq_aload_n hS 15 J_HSegments_unpackPart_d14 l0 rfl ?_
    refine iq_dup hS 16 J_HSegments_unpackPart_d15 rfl rfl ?_
    refine iq_getI hS 19 J_HSegments_unpackPart_d16 lf_7_110 (Or.inl rfl) (ka_39 (lw_sI hM)) rfl ?_
    refine iq_iconst hS 20 J_HSegments_unpackPart_d19 (v := 1) (by decide +kernel) rfl ?_
    refine iq_iadd hS 21 J_HSegments_unpackPart_d20 rfl ?_
    refine iq_putI hS 24 J_HSegments_unpackPart_d21 lf_7_110 (Or.inl rfl) rfl (ka_39 (lw_sI hM)) rfl ?_
    refine iq_iconst hS 25 J_HSegments_unpackPart_d24 (v := 1) (by decide +kernel) rfl ?_
    exact iq_iret J_HSegments_unpackPart_d25 rfl rfl ⟨_, rfl, (lw_sI (lw_sI hM)), ed_some h⟩
theorem f_HSegments_unpackPart_fr {p0 : Int32} {p1 : Int32} {p2 : Int32} {M : im_M} {r : Int32 × im_M} (h : f_HSegments_unpackPart p0 p1 p2 M = some r) : fr 295147905179352825856 [(39, 2)] M r.2 := by
  replace h : ed (f_HSegments_unpackPart p0 p1 p2 M) (fun x => x = r) := ⟨r, h, rfl⟩
  unfold f_HSegments_unpackPart at h
  by_cases q2 : ¬ p1 = 2
  · replace h := ed_pos q2 h
    obtain ⟨Q1, hQ1, h⟩ := bd2_ed h
    have K1 : ∀ (y2 : Int32) (M3 : im_M), fr 295147905179352825856 [(39, 2)] M M3 → Q1 (y2, M3) → fr 295147905179352825856 [(39, 2)] M r.2 := by
      intro y2 M3 hM3 h
      replace h := hQ1 _ _ h
      by_cases q89 : ¬ y2 = 0
      · replace h := ed_pos q89 h
        exact fr_ret h (fr_F (by decide) hM3)
      · replace h := ed_neg q89 h
        exact fr_ret h (fr_F (by decide) hM3)
    obtain ⟨r1, hr1, hq1⟩ := h
    obtain ⟨n1, hn1⟩ := lp_n hr1
    have I1 : ∀ (n : Nat) (x4 : Int32) (x5 : Int32) (M6 : im_M), fr 295147905179352825856 [(39, 2)] M M6 → lpn (uc3 (f_HSegments_unpackPart_L34 p1 p2)) n (x4, x5, M6) = some r1 → fr 295147905179352825856 [(39, 2)] M r.2 := by
      intro n
      induction n with
      | zero => intro x4 x5 M6 hM6 hn; exact (lpn_0 hn).elim
      | succ n ih =>
        intro x4 x5 M6 hM6 hn
        have h := lpn_ed3 hn
        unfold f_HSegments_unpackPart_L34 at h
        by_cases q36 : x5 < 0
        · replace h := ed_pos q36 h
          exact K1 _ _ hM6 (lq_r h hq1)
        · replace h := ed_neg q36 h
          obtain ⟨Q7, hQ7, h⟩ := bd1_ed h
          obtain ⟨x7, e7, h⟩ := h
          replace h := hQ7 _ h
          obtain ⟨g56, h⟩ := ed_gd h
          obtain ⟨Q8, hQ8, h⟩ := bd1_ed h
          obtain ⟨x8, e8, h⟩ := h
          replace h := hQ8 _ h
          obtain ⟨g61, h⟩ := ed_gd h
          obtain ⟨Q9, hQ9, h⟩ := bd1_ed h
          obtain ⟨x9, e9, h⟩ := h
          replace h := hQ9 _ h
          obtain ⟨g68, h⟩ := ed_gd h
          exact ih _ _ _ (fr_I (by decide) hM6) (lq_l h)
    exact I1 n1 _ _ _ fr_refl hn1
  · replace h := ed_neg q2 h
    obtain ⟨g13, h⟩ := ed_gd h
    exact fr_ret h (fr_F (by decide) (fr_I (by decide) fr_refl))
noncomputable def f_HSegments_unpackOne_L59 (v3 : Int32) (v4 : Int32) (v5 : Int32) (x6 : Int32) (M7 : im_M) : Option ((Int32 × im_M) ⊕ ((im_M) ⊕ (Int32 × im_M))) := if v4 ≤ x6 then some (.inr (.inl M7)) else bd1 (f_Math_min v5 (v4 - x6) M7) fun (x8 : Int32) => bd1 (f_HSegments_partBits v3 x8 M7) fun (x9 : Int32) => if x9 ≤ ((im_i M7 39 6) - (im_i M7 39 5)) then bd1 (f_HSegments_partBits v3 x8 M7) fun (x10 : Int32) => bd2 (f_HSegments_take x10 M7) fun (x11 : Int32) (M11 : im_M) => bd2 (f_HSegments_unpackPart x11 v3 x8 M11) fun (x12 : Int32) (M12 : im_M) => if ¬ x12 = 0 then some (.inl ((x6 + v5), M12)) else some (.inr (.inr (5, M12))) else some (.inr (.inr (4, M7)))
noncomputable def f_HSegments_unpackOne (p0 : Int32) (p1 : Int32) (M : im_M) : Option (Int32 × im_M) := gd (inb (((3 : Int32) * p1) + p0) 9) <| if (xa_9 (((3 : Int32) * p1) + p0)) ≤ ((im_i M 39 6) - (im_i M 39 5)) then bd2 (f_HSegments_take (xa_9 (((3 : Int32) * p1) + p0)) M) fun (x1 : Int32) (M1 : im_M) => if ((im_i M1 39 2) + x1) ≤ 3000 then bs1 (lp (uc2 (f_HSegments_unpackOne_L59 p0 x1 ((3 : Int32) - p0))) (0, M1)) (fun (M13 : im_M) => some (0, M13)) (fun t => some t) else some (6, M1) else some (4, M)
theorem J_HSegments_unpackOne_d0 : decode J_HSegments_unpackOne.2.1 0 = .ok (.getstatic 72, 3) := by decide +kernel
theorem J_HSegments_unpackOne_d3 : decode J_HSegments_unpackOne.2.1 3 = .ok (.iconst 3, 1) := by decide +kernel
theorem J_HSegments_unpackOne_d4 : decode J_HSegments_unpackOne.2.1 4 = .ok (.iload_n 2, 1) := by decide +kernel
theorem J_HSegments_unpackOne_d5 : decode J_HSegments_unpackOne.2.1 5 = .ok (.imul, 1) := by decide +kernel
theorem J_HSegments_unpackOne_d6 : decode J_HSegments_unpackOne.2.1 6 = .ok (.iload_n 1, 1) := by decide +kernel
theorem J_HSegments_unpackOne_d7 : decode J_HSegments_unpackOne.2.1 7 = .ok (.iadd, 1) := by decide +kernel
theorem J_HSegments_unpackOne_d8 : decode J_HSegments_unpackOne.2.1 8 = .ok (.iaload, 1) := by decide +kernel
theorem J_HSegments_unpackOne_d9 : decode J_HSegments_unpackOne.2.1 9 = .ok (.istore 4, 2) := by decide +kernel
theorem J_HSegments_unpackOne_d11 : decode J_HSegments_unpackOne.2.1 11 = .ok (.aload_n 0, 1) := by decide +kernel
theorem J_HSegments_unpackOne_d12 : decode J_HSegments_unpackOne.2.1 12 = .ok (.getfield 104, 3) := by decide +kernel
theorem J_HSegments_unpackOne_d15 : decode J_HSegments_unpackOne.2.1 15 = .ok (.aload_n 0, 1) := by decide +kernel
theorem J_HSegments_unpackOne_d16 : decode J_HSegments_unpackOne.2.1 16 = .ok (.getfield 81, 3) := by decide +kernel
theorem J_HSegments_unpackOne_d19 : decode J_HSegments_unpackOne.2.1 19 = .ok (.isub, 1) := by decide +kernel
theorem J_HSegments_unpackOne_d20 : decode J_HSegments_unpackOne.2.1 20 = .ok (.iload 4, 2) := by decide +kernel
theorem J_HSegments_unpackOne_d22 : decode J_HSegments_unpackOne.2.1 22 = .ok (.if_icmp .ge 5, 3) := by decide +kernel
theorem J_HSegments_unpackOne_d25 : decode J_HSegments_unpackOne.2.1 25 = .ok (.iconst 4, 1) := by decide +kernel
theorem J_HSegments_unpackOne_d26 : decode J_HSegments_unpackOne.2.1 26 = .ok (.ireturn, 1) := by decide +kernel
theorem J_HSegments_unpackOne_d27 : decode J_HSegments_unpackOne.2.1 27 = .ok (.aload_n 0, 1) := by decide +kernel
theorem J_HSegments_unpackOne_d28 : decode J_HSegments_unpackOne.2.1 28 = .ok (.iload 4, 2) := by decide +kernel
theorem J_HSegments_unpackOne_d30 : decode J_HSegments_unpackOne.2.1 30 = .ok (.invokevirtual 113, 3) := by decide +kernel
theorem J_HSegments_unpackOne_d33 : decode J_HSegments_unpackOne.2.1 33 = .ok (.istore 5, 2) := by decide +kernel
theorem J_HSegments_unpackOne_d35 : decode J_HSegments_unpackOne.2.1 35 = .ok (.aload_n 0, 1) := by decide +kernel
theorem J_HSegments_unpackOne_d36 : decode J_HSegments_unpackOne.2.1 36 = .ok (.getfield 110, 3) := by decide +kernel
theorem J_HSegments_unpackOne_d39 : decode J_HSegments_unpackOne.2.1 39 = .ok (.iload 5, 2) := by decide +kernel
theorem J_HSegments_unpackOne_d41 : decode J_HSegments_unpackOne.2.1 41 = .ok (.iadd, 1) := by decide +kernel
theorem J_HSegments_unpackOne_d42 : decode J_HSegments_unpackOne.2.1 42 = .ok (.sipush 3000, 3) := by decide +kernel
theorem J_HSegments_unpackOne_d45 : decode J_HSegments_unpackOne.2.1 45 = .ok (.if_icmp .le 6, 3) := by decide +kernel
theorem J_HSegments_unpackOne_d48 : decode J_HSegments_unpackOne.2.1 48 = .ok (.bipush 6, 2) := by decide +kernel
theorem J_HSegments_unpackOne_d50 : decode J_HSegments_unpackOne.2.1 50 = .ok (.ireturn, 1) := by decide +kernel
theorem J_HSegments_unpackOne_d51 : decode J_HSegments_unpackOne.2.1 51 = .ok (.iconst 3, 1) := by decide +kernel
theorem J_HSegments_unpackOne_d52 : decode J_HSegments_unpackOne.2.1 52 = .ok (.iload_n 1, 1) := by decide +kernel
theorem J_HSegments_unpackOne_d53 : decode J_HSegments_unpackOne.2.1 53 = .ok (.isub, 1) := by decide +kernel
theorem J_HSegments_unpackOne_d54 : decode J_HSegments_unpackOne.2.1 54 = .ok (.istore 6, 2) := by decide +kernel
theorem J_HSegments_unpackOne_d56 : decode J_HSegments_unpackOne.2.1 56 = .ok (.iconst 0, 1) := by decide +kernel
theorem J_HSegments_unpackOne_d57 : decode J_HSegments_unpackOne.2.1 57 = .ok (.istore 7, 2) := by decide +kernel
theorem J_HSegments_unpackOne_d59 : decode J_HSegments_unpackOne.2.1 59 = .ok (.iload 7, 2) := by decide +kernel
theorem J_HSegments_unpackOne_d61 : decode J_HSegments_unpackOne.2.1 61 = .ok (.iload 5, 2) := by decide +kernel
theorem J_HSegments_unpackOne_d63 : decode J_HSegments_unpackOne.2.1 63 = .ok (.if_icmp .ge 68, 3) := by decide +kernel
theorem J_HSegments_unpackOne_d66 : decode J_HSegments_unpackOne.2.1 66 = .ok (.iload 6, 2) := by decide +kernel
theorem J_HSegments_unpackOne_d68 : decode J_HSegments_unpackOne.2.1 68 = .ok (.iload 5, 2) := by decide +kernel
theorem J_HSegments_unpackOne_d70 : decode J_HSegments_unpackOne.2.1 70 = .ok (.iload 7, 2) := by decide +kernel
theorem J_HSegments_unpackOne_d72 : decode J_HSegments_unpackOne.2.1 72 = .ok (.isub, 1) := by decide +kernel
theorem J_HSegments_unpackOne_d73 : decode J_HSegments_unpackOne.2.1 73 = .ok (.invokestatic 93, 3) := by decide +kernel
theorem J_HSegments_unpackOne_d76 : decode J_HSegments_unpackOne.2.1 76 = .ok (.istore 8, 2) := by decide +kernel
theorem J_HSegments_unpackOne_d78 : decode J_HSegments_unpackOne.2.1 78 = .ok (.aload_n 0, 1) := by decide +kernel
theorem J_HSegments_unpackOne_d79 : decode J_HSegments_unpackOne.2.1 79 = .ok (.getfield 104, 3) := by decide +kernel
theorem J_HSegments_unpackOne_d82 : decode J_HSegments_unpackOne.2.1 82 = .ok (.aload_n 0, 1) := by decide +kernel
theorem J_HSegments_unpackOne_d83 : decode J_HSegments_unpackOne.2.1 83 = .ok (.getfield 81, 3) := by decide +kernel
theorem J_HSegments_unpackOne_d86 : decode J_HSegments_unpackOne.2.1 86 = .ok (.isub, 1) := by decide +kernel
theorem J_HSegments_unpackOne_d87 : decode J_HSegments_unpackOne.2.1 87 = .ok (.iload_n 1, 1) := by decide +kernel
theorem J_HSegments_unpackOne_d88 : decode J_HSegments_unpackOne.2.1 88 = .ok (.iload 8, 2) := by decide +kernel
theorem J_HSegments_unpackOne_d90 : decode J_HSegments_unpackOne.2.1 90 = .ok (.invokestatic 101, 3) := by decide +kernel
theorem J_HSegments_unpackOne_d93 : decode J_HSegments_unpackOne.2.1 93 = .ok (.if_icmp .ge 5, 3) := by decide +kernel
theorem J_HSegments_unpackOne_d96 : decode J_HSegments_unpackOne.2.1 96 = .ok (.iconst 4, 1) := by decide +kernel
theorem J_HSegments_unpackOne_d97 : decode J_HSegments_unpackOne.2.1 97 = .ok (.ireturn, 1) := by decide +kernel
theorem J_HSegments_unpackOne_d98 : decode J_HSegments_unpackOne.2.1 98 = .ok (.aload_n 0, 1) := by decide +kernel
theorem J_HSegments_unpackOne_d99 : decode J_HSegments_unpackOne.2.1 99 = .ok (.aload_n 0, 1) := by decide +kernel
theorem J_HSegments_unpackOne_d100 : decode J_HSegments_unpackOne.2.1 100 = .ok (.iload_n 1, 1) := by decide +kernel
theorem J_HSegments_unpackOne_d101 : decode J_HSegments_unpackOne.2.1 101 = .ok (.iload 8, 2) := by decide +kernel
theorem J_HSegments_unpackOne_d103 : decode J_HSegments_unpackOne.2.1 103 = .ok (.invokestatic 101, 3) := by decide +kernel
theorem J_HSegments_unpackOne_d106 : decode J_HSegments_unpackOne.2.1 106 = .ok (.invokevirtual 113, 3) := by decide +kernel
theorem J_HSegments_unpackOne_d109 : decode J_HSegments_unpackOne.2.1 109 = .ok (.iload_n 1, 1) := by decide +kernel
theorem J_HSegments_unpackOne_d110 : decode J_HSegments_unpackOne.2.1 110 = .ok (.iload 8, 2) := by decide +kernel
theorem J_HSegments_unpackOne_d112 : decode J_HSegments_unpackOne.2.1 112 = .ok (.aload_n 3, 1) := by decide +kernel
theorem J_HSegments_unpackOne_d113 : decode J_HSegments_unpackOne.2.1 113 = .ok (.invokevirtual 123, 3) := by decide +kernel
theorem J_HSegments_unpackOne_d116 : decode J_HSegments_unpackOne.2.1 116 = .ok (.ifCond .ne 5, 3) := by decide +kernel
theorem J_HSegments_unpackOne_d119 : decode J_HSegments_unpackOne.2.1 119 = .ok (.iconst 5, 1) := by decide +kernel
theorem J_HSegments_unpackOne_d120 : decode J_HSegments_unpackOne.2.1 120 = .ok (.ireturn, 1) := by decide +kernel
theorem J_HSegments_unpackOne_d121 : decode J_HSegments_unpackOne.2.1 121 = .ok (.iload 7, 2) := by decide +kernel
theorem J_HSegments_unpackOne_d123 : decode J_HSegments_unpackOne.2.1 123 = .ok (.iload 6, 2) := by decide +kernel
theorem J_HSegments_unpackOne_d125 : decode J_HSegments_unpackOne.2.1 125 = .ok (.iadd, 1) := by decide +kernel
theorem J_HSegments_unpackOne_d126 : decode J_HSegments_unpackOne.2.1 126 = .ok (.istore 7, 2) := by decide +kernel
theorem J_HSegments_unpackOne_d128 : decode J_HSegments_unpackOne.2.1 128 = .ok (.goto (-69), 3) := by decide +kernel
theorem J_HSegments_unpackOne_d131 : decode J_HSegments_unpackOne.2.1 131 = .ok (.iconst 0, 1) := by decide +kernel
theorem J_HSegments_unpackOne_d132 : decode J_HSegments_unpackOne.2.1 132 = .ok (.ireturn, 1) := by decide +kernel
theorem f_HSegments_unpackOne_ok {L : Nat} {xs : Nat → Int32} {dep : Nat} {w : Bool} {p0 : Int32} {p1 : Int32} {M : im_M} {Q : Int32 × im_M → Prop} (hM : lw_S w M) (h : ed (f_HSegments_unpackOne p0 p1 M) Q) : ia (tb_G L xs) (dep + 5) J_HSegments_unpackOne (rwI w Q) (0, lv_args 0 [.ref 39, .int p0, .int p1, .ref 68], [], M) := by
  have hS : im_St (tb_G L xs) (dep + 5) J_HSegments_unpackOne (ia (tb_G L xs) (dep + 5) J_HSegments_unpackOne (rwI w Q)) := ia_St
  unfold f_HSegments_unpackOne at h
  have l0 : im_lk (lv_args 0 [.ref 39, .int p0, .int p1, .ref 68]) 0 = some (.ref 39) := rfl
  have l1 : im_lk (lv_args 0 [.ref 39, .int p0, .int p1, .ref 68]) 1 = some (.int p0) := rfl
  have l2 : im_lk (lv_args 0 [.ref 39, .int p0, .int p1, .ref 68]) 2 = some (.int p1) := rfl
  have l3 : im_lk (lv_args 0 [.ref 39, .int p0, .int p1, .ref 68]) 3 = some (.ref 68) := rfl
  refine iq_getstatic hS 3 J_HSegments_unpackOne_d0 gs_7_72 rfl ?_
  refine iq_iconst hS 4 J_HSegments_unpackOne_d3 (v := 3) (by decide +kernel) rfl ?_
  refine iq_iload_n hS 5 J_HSegments_unpackOne_d4 l2 rfl ?_
  refine iq_imul hS 6 J_HSegments_unpackOne_d5 rfl ?_
  refine iq_iload_n hS 7 J_HSegments_unpackOne_d6 l1 rfl ?_
  refine iq_iadd hS 8 J_HSegments_unpackOne_d7 rfl ?_
  obtain ⟨g8, h⟩ := ed_gd h
  refine iq_xl_9 hS 9 J_HSegments_unpackOne_d8 hM g8 rfl ?_
  refine iq_istore hS 11 J_HSegments_unpackOne_d9 (by decide) rfl ?_
  refine iq_aload_n hS 12 J_HSegments_unpackOne_d11 (lk_1r l0 (by decide)) rfl ?_
  refine iq_getI hS 15 J_HSegments_unpackOne_d12 lf_7_104 (Or.inl rfl) (ka_39 hM) rfl ?_
  refine iq_aload_n hS 16 J_HSegments_unpackOne_d15 (lk_1r l0 (by decide)) rfl ?_
  refine iq_getI hS 19 J_HSegments_unpackOne_d16 lf_7_81 (Or.inl rfl) (ka_39 hM) rfl ?_
  refine iq_isub hS 20 J_HSegments_unpackOne_d19 rfl ?_
  refine iq_iload hS 22 J_HSegments_unpackOne_d20 lk_1s rfl ?_
  refine iq_icmp_ge hS 25 J_HSegments_unpackOne_d22 (t := 27) rfl (fun q22 => ?_) rfl (fun q22 => ?_)
  · replace h := ed_pos q22 h
    refine iq_aload_n hS 28 J_HSegments_unpackOne_d27 (lk_1r l0 (by decide)) rfl ?_
    refine iq_iload hS 30 J_HSegments_unpackOne_d28 lk_1s rfl ?_
    obtain ⟨Q1, hQ1, h⟩ := bd2_ed h
    refine iq_cwI hS 33 J_HSegments_unpackOne_d30 rfl (pr_inst (vs := [_]) lc_7_113 lT_241 rfl rfl (by decide) (by decide) rfl (Nat.le_of_ble_eq_true rfl) (Nat.le_of_ble_eq_true rfl) (fun _ => Or.inl (pr_b (ka_39 hM) (by decide) rfl))) (f_HSegments_take_ok (dep := dep + 4) hM h) rfl ?_
    intro x1 M1 hM1 h
    replace h := hQ1 _ _ h
    refine iq_istore hS 35 J_HSegments_unpackOne_d33 (by decide) rfl ?_
    refine iq_aload_n hS 36 J_HSegments_unpackOne_d35 (lk_1r (lk_1r l0 (by decide)) (by decide)) rfl ?_
    refine iq_getI hS 39 J_HSegments_unpackOne_d36 lf_7_110 (Or.inl rfl) (ka_39 hM1) rfl ?_
    refine iq_iload hS 41 J_HSegments_unpackOne_d39 lk_1s rfl ?_
    refine iq_iadd hS 42 J_HSegments_unpackOne_d41 rfl ?_
    refine iq_sipush hS 45 J_HSegments_unpackOne_d42 (v := 3000) (by decide +kernel) rfl ?_
    refine iq_icmp_le hS 48 J_HSegments_unpackOne_d45 (t := 51) rfl (fun q45 => ?_) rfl (fun q45 => ?_)
    · replace h := ed_pos q45 h
      refine iq_iconst hS 52 J_HSegments_unpackOne_d51 (v := 3) (by decide +kernel) rfl ?_
      refine iq_iload_n hS 53 J_HSegments_unpackOne_d52 (lk_1i (lk_1i l1 (by decide)) (by decide)) rfl ?_
      refine iq_isub hS 54 J_HSegments_unpackOne_d53 rfl ?_
      refine iq_istore hS 56 J_HSegments_unpackOne_d54 (by decide) rfl ?_
      refine iq_iconst hS 57 J_HSegments_unpackOne_d56 (v := 0) (by decide +kernel) rfl ?_
      refine iq_istore hS 59 J_HSegments_unpackOne_d57 (by decide) rfl ?_
      obtain ⟨Q2, hQ2, hR2, h⟩ := bs1_ed h
      have K2 : ∀ (M3 : im_M) (L' : List (Nat × Value)), lw_S w M3 → Q2 (.inl M3) → ia (tb_G L xs) (dep + 5) J_HSegments_unpackOne (rwI w Q) (131, L', [], M3) := by
        intro M3 L' hM3  h
        replace h := hQ2 _ h
        refine iq_iconst hS 132 J_HSegments_unpackOne_d131 (v := 0) (by decide +kernel) rfl ?_
        exact iq_iret J_HSegments_unpackOne_d132 rfl rfl ⟨_, rfl, hM3, ed_some h⟩
      obtain ⟨r2, hr2, hq2⟩ := h
      obtain ⟨n2, hn2⟩ := lp_n hr2
      have I2 : ∀ (n : Nat) (x4 : Int32) (M5 : im_M) (L' : List (Nat × Value)), lw_S w M5 → im_lk L' 0 = some (.ref 39) → im_lk L' 1 = some (.int p0) → im_lk L' 3 = some (.ref 68) → im_lk L' 5 = some (.int x1) → im_lk L' 6 = some (.int ((3 : Int32) - p0)) → im_lk L' 7 = some (.int x4) → lpn (uc2 (f_HSegments_unpackOne_L59 p0 x1 ((3 : Int32) - p0))) n (x4, M5) = some r2 → ia (tb_G L xs) (dep + 5) J_HSegments_unpackOne (rwI w Q) (59, L', [], M5) := by
        intro n
        induction n with
        | zero => intro x4 M5 L' hM5 l6 l7 l8 l9 l10 l11 hn; exact (lpn_0 hn).elim
        | succ n ih =>
          intro x4 M5 L' hM5 l6 l7 l8 l9 l10 l11 hn
          have h := lpn_ed2 hn
          unfold f_HSegments_unpackOne_L59 at h
          refine iq_iload hS 61 J_HSegments_unpackOne_d59 l11 rfl ?_
          refine iq_iload hS 63 J_HSegments_unpackOne_d61 l9 rfl ?_
          refine iq_icmp_ge hS 66 J_HSegments_unpackOne_d63 (t := 131) rfl (fun q63 => ?_) rfl (fun q63 => ?_)
          · replace h := ed_pos q63 h
            exact K2 _ _ hM5  (lq_r h hq2)
          · replace h := ed_neg q63 h
            refine iq_iload hS 68 J_HSegments_unpackOne_d66 l10 rfl ?_
            refine iq_iload hS 70 J_HSegments_unpackOne_d68 l9 rfl ?_
            refine iq_iload hS 72 J_HSegments_unpackOne_d70 l11 rfl ?_
            refine iq_isub hS 73 J_HSegments_unpackOne_d72 rfl ?_
            obtain ⟨Q12, hQ12, h⟩ := bd1_ed h
            refine iq_cpI hS 76 J_HSegments_unpackOne_d73 rfl (pr_stat (vs := [_, _]) lc_7_93 lT_28 rfl rfl (by decide) rfl (Nat.le_of_ble_eq_true rfl) (Nat.le_of_ble_eq_true rfl)) (f_Math_min_ok (dep := dep + 4) hM5 h) rfl ?_
            intro x12 h
            replace h := hQ12 _ h
            refine iq_istore hS 78 J_HSegments_unpackOne_d76 (by decide) rfl ?_
            refine iq_aload_n hS 79 J_HSegments_unpackOne_d78 (lk_1r l6 (by decide)) rfl ?_
            refine iq_getI hS 82 J_HSegments_unpackOne_d79 lf_7_104 (Or.inl rfl) (ka_39 hM5) rfl ?_
            refine iq_aload_n hS 83 J_HSegments_unpackOne_d82 (lk_1r l6 (by decide)) rfl ?_
            refine iq_getI hS 86 J_HSegments_unpackOne_d83 lf_7_81 (Or.inl rfl) (ka_39 hM5) rfl ?_
            refine iq_isub hS 87 J_HSegments_unpackOne_d86 rfl ?_
            refine iq_iload_n hS 88 J_HSegments_unpackOne_d87 (lk_1i l7 (by decide)) rfl ?_
            refine iq_iload hS 90 J_HSegments_unpackOne_d88 lk_1s rfl ?_
            obtain ⟨Q13, hQ13, h⟩ := bd1_ed h
            refine iq_cpI hS 93 J_HSegments_unpackOne_d90 rfl (pr_stat (vs := [_, _]) lc_7_101 lT_146 rfl rfl (by decide) rfl (Nat.le_of_ble_eq_true rfl) (Nat.le_of_ble_eq_true rfl)) (f_HSegments_partBits_ok (dep := dep + 4) hM5 h) rfl ?_
            intro x13 h
            replace h := hQ13 _ h
            refine iq_icmp_ge hS 96 J_HSegments_unpackOne_d93 (t := 98) rfl (fun q93 => ?_) rfl (fun q93 => ?_)
            · replace h := ed_pos q93 h
              refine iq_aload_n hS 99 J_HSegments_unpackOne_d98 (lk_1r l6 (by decide)) rfl ?_
              refine iq_aload_n hS 100 J_HSegments_unpackOne_d99 (lk_1r l6 (by decide)) rfl ?_
              refine iq_iload_n hS 101 J_HSegments_unpackOne_d100 (lk_1i l7 (by decide)) rfl ?_
              refine iq_iload hS 103 J_HSegments_unpackOne_d101 lk_1s rfl ?_
              obtain ⟨Q14, hQ14, h⟩ := bd1_ed h
              refine iq_cpI hS 106 J_HSegments_unpackOne_d103 rfl (pr_stat (vs := [_, _]) lc_7_101 lT_146 rfl rfl (by decide) rfl (Nat.le_of_ble_eq_true rfl) (Nat.le_of_ble_eq_true rfl)) (f_HSegments_partBits_ok (dep := dep + 4) hM5 h) rfl ?_
              intro x14 h
              replace h := hQ14 _ h
              obtain ⟨Q15, hQ15, h⟩ := bd2_ed h
              refine iq_cwI hS 109 J_HSegments_unpackOne_d106 rfl (pr_inst (vs := [_]) lc_7_113 lT_241 rfl rfl (by decide) (by decide) rfl (Nat.le_of_ble_eq_true rfl) (Nat.le_of_ble_eq_true rfl) (fun _ => Or.inl (pr_b (ka_39 hM5) (by decide) rfl))) (f_HSegments_take_ok (dep := dep + 4) hM5 h) rfl ?_
              intro x15 M15 hM15 h
              replace h := hQ15 _ _ h
              refine iq_iload_n hS 110 J_HSegments_unpackOne_d109 (lk_1i l7 (by decide)) rfl ?_
              refine iq_iload hS 112 J_HSegments_unpackOne_d110 lk_1s rfl ?_
              refine iq_aload_n hS 113 J_HSegments_unpackOne_d112 (lk_1r l8 (by decide)) rfl ?_
              obtain ⟨Q16, hQ16, h⟩ := bd2_ed h
              refine iq_cwI hS 116 J_HSegments_unpackOne_d113 rfl (pr_inst (vs := [_, _, _, _]) lc_7_123 lT_244 rfl rfl (by decide) (by decide) rfl (Nat.le_of_ble_eq_true rfl) (Nat.le_of_ble_eq_true rfl) (fun _ => Or.inl (pr_b (ka_39 hM15) (by decide) rfl))) (f_HSegments_unpackPart_ok (dep := dep + 0) hM15 h) rfl ?_
              intro x16 M16 hM16 h
              replace h := hQ16 _ _ h
              refine iq_if_ne hS 119 J_HSegments_unpackOne_d116 (t := 121) rfl (fun q116 => ?_) rfl (fun q116 => ?_)
              · replace h := ed_pos q116 h
                refine iq_iload hS 123 J_HSegments_unpackOne_d121 (lk_1i l11 (by decide)) rfl ?_
                refine iq_iload hS 125 J_HSegments_unpackOne_d123 (lk_1i l10 (by decide)) rfl ?_
                refine iq_iadd hS 126 J_HSegments_unpackOne_d125 rfl ?_
                refine iq_istore hS 128 J_HSegments_unpackOne_d126 (by decide) rfl ?_
                refine iq_goto hS J_HSegments_unpackOne_d128 (t := 59) rfl ?_
                exact ih _ _ _ hM16 (lk_1r (lk_1r l6 (by decide)) (by decide)) (lk_1i (lk_1i l7 (by decide)) (by decide)) (lk_1r (lk_1r l8 (by decide)) (by decide)) (lk_1i (lk_1i l9 (by decide)) (by decide)) (lk_1i (lk_1i l10 (by decide)) (by decide)) lk_1s (lq_l h)
              · replace h := ed_neg q116 h
                refine iq_iconst hS 120 J_HSegments_unpackOne_d119 (v := 5) (by decide +kernel) rfl ?_
                exact iq_iret J_HSegments_unpackOne_d120 rfl rfl ⟨_, rfl, hM16, ed_some (hR2 _ (lq_r h hq2))⟩
            · replace h := ed_neg q93 h
              refine iq_iconst hS 97 J_HSegments_unpackOne_d96 (v := 4) (by decide +kernel) rfl ?_
              exact iq_iret J_HSegments_unpackOne_d97 rfl rfl ⟨_, rfl, hM5, ed_some (hR2 _ (lq_r h hq2))⟩
      exact I2 n2 _ _ _ hM1 (lk_1r (lk_1r (lk_1r (lk_1r l0 (by decide)) (by decide)) (by decide)) (by decide)) (lk_1i (lk_1i (lk_1i (lk_1i l1 (by decide)) (by decide)) (by decide)) (by decide)) (lk_1r (lk_1r (lk_1r (lk_1r l3 (by decide)) (by decide)) (by decide)) (by decide)) (lk_1i (lk_1i lk_1s (by decide)) (by decide)) (lk_1i lk_1s (by decide)) lk_1s hn2
    · replace h := ed_neg q45 h
      refine iq_bipush hS 50 J_HSegments_unpackOne_d48 (v := 6) (by decide +kernel) rfl ?_
      exact iq_iret J_HSegments_unpackOne_d50 rfl rfl ⟨_, rfl, hM1, ed_some h⟩
  · replace h := ed_neg q22 h
    refine iq_iconst hS 26 J_HSegments_unpackOne_d25 (v := 4) (by decide +kernel) rfl ?_
    exact iq_iret J_HSegments_unpackOne_d26 rfl rfl ⟨_, rfl, hM, ed_some h⟩
theorem f_HSegments_unpackOne_fr {p0 : Int32} {p1 : Int32} {M : im_M} {r : Int32 × im_M} (h : f_HSegments_unpackOne p0 p1 M = some r) : fr 295147905179352825856 [(39, 2), (39, 5)] M r.2 := by
  replace h : ed (f_HSegments_unpackOne p0 p1 M) (fun x => x = r) := ⟨r, h, rfl⟩
  unfold f_HSegments_unpackOne at h
  obtain ⟨g8, h⟩ := ed_gd h
  by_cases q22 : (xa_9 (((3 : Int32) * p1) + p0)) ≤ ((im_i M 39 6) - (im_i M 39 5))
  · replace h := ed_pos q22 h
    obtain ⟨Q1, hQ1, h⟩ := bd2_ed h
    obtain ⟨⟨x1, M1⟩, e1, h⟩ := h
    replace h := hQ1 _ _ h
    by_cases q45 : ((im_i M1 39 2) + x1) ≤ 3000
    · replace h := ed_pos q45 h
      obtain ⟨Q2, hQ2, hR2, h⟩ := bs1_ed h
      have K2 : ∀ (M3 : im_M), fr 295147905179352825856 [(39, 2), (39, 5)] M M3 → Q2 (.inl M3) → fr 295147905179352825856 [(39, 2), (39, 5)] M r.2 := by
        intro M3 hM3 h
        replace h := hQ2 _ h
        exact fr_ret h hM3
      obtain ⟨r2, hr2, hq2⟩ := h
      obtain ⟨n2, hn2⟩ := lp_n hr2
      have I2 : ∀ (n : Nat) (x4 : Int32) (M5 : im_M), fr 295147905179352825856 [(39, 2), (39, 5)] M M5 → lpn (uc2 (f_HSegments_unpackOne_L59 p0 x1 ((3 : Int32) - p0))) n (x4, M5) = some r2 → fr 295147905179352825856 [(39, 2), (39, 5)] M r.2 := by
        intro n
        induction n with
        | zero => intro x4 M5 hM5 hn; exact (lpn_0 hn).elim
        | succ n ih =>
          intro x4 M5 hM5 hn
          have h := lpn_ed2 hn
          unfold f_HSegments_unpackOne_L59 at h
          by_cases q63 : x1 ≤ x4
          · replace h := ed_pos q63 h
            exact K2 _ hM5 (lq_r h hq2)
          · replace h := ed_neg q63 h
            obtain ⟨Q6, hQ6, h⟩ := bd1_ed h
            obtain ⟨x6, e6, h⟩ := h
            replace h := hQ6 _ h
            obtain ⟨Q7, hQ7, h⟩ := bd1_ed h
            obtain ⟨x7, e7, h⟩ := h
            replace h := hQ7 _ h
            by_cases q93 : x7 ≤ ((im_i M5 39 6) - (im_i M5 39 5))
            · replace h := ed_pos q93 h
              obtain ⟨Q8, hQ8, h⟩ := bd1_ed h
              obtain ⟨x8, e8, h⟩ := h
              replace h := hQ8 _ h
              obtain ⟨Q9, hQ9, h⟩ := bd2_ed h
              obtain ⟨⟨x9, M9⟩, e9, h⟩ := h
              replace h := hQ9 _ _ h
              obtain ⟨Q10, hQ10, h⟩ := bd2_ed h
              obtain ⟨⟨x10, M10⟩, e10, h⟩ := h
              replace h := hQ10 _ _ h
              by_cases q116 : ¬ x10 = 0
              · replace h := ed_pos q116 h
                exact ih _ _ (fr_tr (fr_mono (by decide) (by decide +kernel) (f_HSegments_unpackPart_fr e10)) (fr_tr (fr_mono (by decide) (by decide +kernel) (f_HSegments_take_fr e9)) hM5)) (lq_l h)
              · replace h := ed_neg q116 h
                exact fr_ret (hR2 _ (lq_r h hq2)) (fr_tr (fr_mono (by decide) (by decide +kernel) (f_HSegments_unpackPart_fr e10)) (fr_tr (fr_mono (by decide) (by decide +kernel) (f_HSegments_take_fr e9)) hM5))
            · replace h := ed_neg q93 h
              exact fr_ret (hR2 _ (lq_r h hq2)) hM5
      exact I2 n2 _ _ (fr_tr (fr_mono (by decide) (by decide +kernel) (f_HSegments_take_fr e1)) fr_refl) hn2
    · replace h := ed_neg q45 h
      exact fr_ret h (fr_tr (fr_mono (by decide) (by decide +kernel) (f_HSegments_take_fr e1)) fr_refl)
  · replace h := ed_neg q22 h
    exact fr_ret h fr_refl
noncomputable def f_HSegments_unpack_L33 (v3 : Int32) (x4 : Int32) (x5 : Int32) (M6 : im_M) : Option ((Int32 × Int32 × im_M) ⊕ ((Int32 × im_M) ⊕ (Int32 × im_M))) := if (im_i M6 39 6) ≤ x5 then some (.inr (.inl (x4, M6))) else if ¬ x4 = 0 then some (.inr (.inl (x4, M6))) else if ((im_i M6 39 6) - (im_i M6 39 5)) < 4 then some (.inr (.inl (x4, M6))) else bd2 (f_HSegments_take 4 M6) fun (x7 : Int32) (M7 : im_M) => bd1 (f_HSegments_modeOf x7 M7) fun (x8 : Int32) => if ¬ x8 = 3 then bd2 (if ¬ x8 = (-1) then bd1 (f_HSegments_groupOf v3 M7) fun (x10 : Int32) => bd2 (f_HSegments_unpackOne x8 x10 M7) fun (x11 : Int32) (M11 : im_M) => some (x11, M11) else some (3, M7)) fun (y12 : Int32) (M13 : im_M) => some (.inl (y12, (x5 + 1), (im_setI M13 39 1 ((im_i M13 39 1) + 1)))) else some (.inr (.inr (0, M7)))
noncomputable def f_HSegments_unpack (p0 : Int32) (p1 : Int32) (M : im_M) : Option (Int32 × im_M) := bd1 (f_HBlocks_holds p0 p1 M) fun (x1 : Int32) => bs2 (lp (uc3 (f_HSegments_unpack_L33 p0)) (0, 0, (im_setI (im_setI (im_setI (im_setI M 39 6 ((8 : Int32) * x1)) 39 5 0) 39 1 0) 39 2 0))) (fun (y18 : Int32) (M19 : im_M) => some (y18, M19)) (fun t => some t)
theorem J_HSegments_unpack_d0 : decode J_HSegments_unpack.2.1 0 = .ok (.aload_n 0, 1) := by decide +kernel
theorem J_HSegments_unpack_d1 : decode J_HSegments_unpack.2.1 1 = .ok (.bipush 8, 2) := by decide +kernel
theorem J_HSegments_unpack_d3 : decode J_HSegments_unpack.2.1 3 = .ok (.iload_n 1, 1) := by decide +kernel
theorem J_HSegments_unpack_d4 : decode J_HSegments_unpack.2.1 4 = .ok (.iload_n 2, 1) := by decide +kernel
theorem J_HSegments_unpack_d5 : decode J_HSegments_unpack.2.1 5 = .ok (.invokestatic 32, 3) := by decide +kernel
theorem J_HSegments_unpack_d8 : decode J_HSegments_unpack.2.1 8 = .ok (.imul, 1) := by decide +kernel
theorem J_HSegments_unpack_d9 : decode J_HSegments_unpack.2.1 9 = .ok (.putfield 104, 3) := by decide +kernel
theorem J_HSegments_unpack_d12 : decode J_HSegments_unpack.2.1 12 = .ok (.aload_n 0, 1) := by decide +kernel
theorem J_HSegments_unpack_d13 : decode J_HSegments_unpack.2.1 13 = .ok (.iconst 0, 1) := by decide +kernel
theorem J_HSegments_unpack_d14 : decode J_HSegments_unpack.2.1 14 = .ok (.putfield 81, 3) := by decide +kernel
theorem J_HSegments_unpack_d17 : decode J_HSegments_unpack.2.1 17 = .ok (.aload_n 0, 1) := by decide +kernel
theorem J_HSegments_unpack_d18 : decode J_HSegments_unpack.2.1 18 = .ok (.iconst 0, 1) := by decide +kernel
theorem J_HSegments_unpack_d19 : decode J_HSegments_unpack.2.1 19 = .ok (.putfield 107, 3) := by decide +kernel
theorem J_HSegments_unpack_d22 : decode J_HSegments_unpack.2.1 22 = .ok (.aload_n 0, 1) := by decide +kernel
theorem J_HSegments_unpack_d23 : decode J_HSegments_unpack.2.1 23 = .ok (.iconst 0, 1) := by decide +kernel
theorem J_HSegments_unpack_d24 : decode J_HSegments_unpack.2.1 24 = .ok (.putfield 110, 3) := by decide +kernel
theorem J_HSegments_unpack_d27 : decode J_HSegments_unpack.2.1 27 = .ok (.iconst 0, 1) := by decide +kernel
theorem J_HSegments_unpack_d28 : decode J_HSegments_unpack.2.1 28 = .ok (.istore 4, 2) := by decide +kernel
theorem J_HSegments_unpack_d30 : decode J_HSegments_unpack.2.1 30 = .ok (.iconst 0, 1) := by decide +kernel
theorem J_HSegments_unpack_d31 : decode J_HSegments_unpack.2.1 31 = .ok (.istore 5, 2) := by decide +kernel
theorem J_HSegments_unpack_d33 : decode J_HSegments_unpack.2.1 33 = .ok (.iload 5, 2) := by decide +kernel
theorem J_HSegments_unpack_d35 : decode J_HSegments_unpack.2.1 35 = .ok (.aload_n 0, 1) := by decide +kernel
theorem J_HSegments_unpack_d36 : decode J_HSegments_unpack.2.1 36 = .ok (.getfield 104, 3) := by decide +kernel
theorem J_HSegments_unpack_d39 : decode J_HSegments_unpack.2.1 39 = .ok (.if_icmp .ge 78, 3) := by decide +kernel
theorem J_HSegments_unpack_d42 : decode J_HSegments_unpack.2.1 42 = .ok (.iload 4, 2) := by decide +kernel
theorem J_HSegments_unpack_d44 : decode J_HSegments_unpack.2.1 44 = .ok (.ifCond .ne 73, 3) := by decide +kernel
theorem J_HSegments_unpack_d47 : decode J_HSegments_unpack.2.1 47 = .ok (.aload_n 0, 1) := by decide +kernel
theorem J_HSegments_unpack_d48 : decode J_HSegments_unpack.2.1 48 = .ok (.getfield 104, 3) := by decide +kernel
theorem J_HSegments_unpack_d51 : decode J_HSegments_unpack.2.1 51 = .ok (.aload_n 0, 1) := by decide +kernel
theorem J_HSegments_unpack_d52 : decode J_HSegments_unpack.2.1 52 = .ok (.getfield 81, 3) := by decide +kernel
theorem J_HSegments_unpack_d55 : decode J_HSegments_unpack.2.1 55 = .ok (.isub, 1) := by decide +kernel
theorem J_HSegments_unpack_d56 : decode J_HSegments_unpack.2.1 56 = .ok (.iconst 4, 1) := by decide +kernel
theorem J_HSegments_unpack_d57 : decode J_HSegments_unpack.2.1 57 = .ok (.if_icmp .lt 60, 3) := by decide +kernel
theorem J_HSegments_unpack_d60 : decode J_HSegments_unpack.2.1 60 = .ok (.aload_n 0, 1) := by decide +kernel
theorem J_HSegments_unpack_d61 : decode J_HSegments_unpack.2.1 61 = .ok (.iconst 4, 1) := by decide +kernel
theorem J_HSegments_unpack_d62 : decode J_HSegments_unpack.2.1 62 = .ok (.invokevirtual 113, 3) := by decide +kernel
theorem J_HSegments_unpack_d65 : decode J_HSegments_unpack.2.1 65 = .ok (.invokestatic 116, 3) := by decide +kernel
theorem J_HSegments_unpack_d68 : decode J_HSegments_unpack.2.1 68 = .ok (.istore 6, 2) := by decide +kernel
theorem J_HSegments_unpack_d70 : decode J_HSegments_unpack.2.1 70 = .ok (.iload 6, 2) := by decide +kernel
theorem J_HSegments_unpack_d72 : decode J_HSegments_unpack.2.1 72 = .ok (.iconst 3, 1) := by decide +kernel
theorem J_HSegments_unpack_d73 : decode J_HSegments_unpack.2.1 73 = .ok (.if_icmp .ne 5, 3) := by decide +kernel
theorem J_HSegments_unpack_d76 : decode J_HSegments_unpack.2.1 76 = .ok (.iconst 0, 1) := by decide +kernel
theorem J_HSegments_unpack_d77 : decode J_HSegments_unpack.2.1 77 = .ok (.ireturn, 1) := by decide +kernel
theorem J_HSegments_unpack_d78 : decode J_HSegments_unpack.2.1 78 = .ok (.iload 6, 2) := by decide +kernel
theorem J_HSegments_unpack_d80 : decode J_HSegments_unpack.2.1 80 = .ok (.iconst (-1), 1) := by decide +kernel
theorem J_HSegments_unpack_d81 : decode J_HSegments_unpack.2.1 81 = .ok (.if_icmp .ne 7, 3) := by decide +kernel
theorem J_HSegments_unpack_d84 : decode J_HSegments_unpack.2.1 84 = .ok (.iconst 3, 1) := by decide +kernel
theorem J_HSegments_unpack_d85 : decode J_HSegments_unpack.2.1 85 = .ok (.goto 14, 3) := by decide +kernel
theorem J_HSegments_unpack_d88 : decode J_HSegments_unpack.2.1 88 = .ok (.aload_n 0, 1) := by decide +kernel
theorem J_HSegments_unpack_d89 : decode J_HSegments_unpack.2.1 89 = .ok (.iload 6, 2) := by decide +kernel
theorem J_HSegments_unpack_d91 : decode J_HSegments_unpack.2.1 91 = .ok (.iload_n 1, 1) := by decide +kernel
theorem J_HSegments_unpack_d92 : decode J_HSegments_unpack.2.1 92 = .ok (.invokestatic 24, 3) := by decide +kernel
theorem J_HSegments_unpack_d95 : decode J_HSegments_unpack.2.1 95 = .ok (.aload_n 3, 1) := by decide +kernel
theorem J_HSegments_unpack_d96 : decode J_HSegments_unpack.2.1 96 = .ok (.invokevirtual 119, 3) := by decide +kernel
theorem J_HSegments_unpack_d99 : decode J_HSegments_unpack.2.1 99 = .ok (.istore 4, 2) := by decide +kernel
theorem J_HSegments_unpack_d101 : decode J_HSegments_unpack.2.1 101 = .ok (.aload_n 0, 1) := by decide +kernel
theorem J_HSegments_unpack_d102 : decode J_HSegments_unpack.2.1 102 = .ok (.dup, 1) := by decide +kernel
theorem J_HSegments_unpack_d103 : decode J_HSegments_unpack.2.1 103 = .ok (.getfield 107, 3) := by decide +kernel
theorem J_HSegments_unpack_d106 : decode J_HSegments_unpack.2.1 106 = .ok (.iconst 1, 1) := by decide +kernel
theorem J_HSegments_unpack_d107 : decode J_HSegments_unpack.2.1 107 = .ok (.iadd, 1) := by decide +kernel
theorem J_HSegments_unpack_d108 : decode J_HSegments_unpack.2.1 108 = .ok (.putfield 107, 3) := by decide +kernel
theorem J_HSegments_unpack_d111 : decode J_HSegments_unpack.2.1 111 = .ok (.iinc 5 1, 3) := by decide +kernel
theorem J_HSegments_unpack_d114 : decode J_HSegments_unpack.2.1 114 = .ok (.goto (-81), 3) := by decide +kernel
theorem J_HSegments_unpack_d117 : decode J_HSegments_unpack.2.1 117 = .ok (.iload 4, 2) := by decide +kernel
theorem J_HSegments_unpack_d119 : decode J_HSegments_unpack.2.1 119 = .ok (.ireturn, 1) := by decide +kernel
theorem f_HSegments_unpack_ok {L : Nat} {xs : Nat → Int32} {dep : Nat} {w : Bool} {p0 : Int32} {p1 : Int32} {M : im_M} {Q : Int32 × im_M → Prop} (hM : lw_S w M) (h : ed (f_HSegments_unpack p0 p1 M) Q) : ia (tb_G L xs) (dep + 6) J_HSegments_unpack (rwI w Q) (0, lv_args 0 [.ref 39, .int p0, .int p1, .ref 68], [], M) := by
  have hS : im_St (tb_G L xs) (dep + 6) J_HSegments_unpack (ia (tb_G L xs) (dep + 6) J_HSegments_unpack (rwI w Q)) := ia_St
  unfold f_HSegments_unpack at h
  have l0 : im_lk (lv_args 0 [.ref 39, .int p0, .int p1, .ref 68]) 0 = some (.ref 39) := rfl
  have l1 : im_lk (lv_args 0 [.ref 39, .int p0, .int p1, .ref 68]) 1 = some (.int p0) := rfl
  have l2 : im_lk (lv_args 0 [.ref 39, .int p0, .int p1, .ref 68]) 2 = some (.int p1) := rfl
  have l3 : im_lk (lv_args 0 [.ref 39, .int p0, .int p1, .ref 68]) 3 = some (.ref 68) := rfl
  refine iq_aload_n hS 1 J_HSegments_unpack_d0 l0 rfl ?_
  refine iq_bipush hS 3 J_HSegments_unpack_d1 (v := 8) (by decide +kernel) rfl ?_
  refine iq_iload_n hS 4 J_HSegments_unpack_d3 l1 rfl ?_
  refine iq_iload_n hS 5 J_HSegments_unpack_d4 l2 rfl ?_
  obtain ⟨Q1, hQ1, h⟩ := bd1_ed h
  refine iq_cpI hS 8 J_HSegments_unpack_d5 rfl (pr_stat (vs := [_, _]) lc_7_32 lT_139 rfl rfl (by decide) rfl (Nat.le_of_ble_eq_true rfl) (Nat.le_of_ble_eq_true rfl)) (f_HBlocks_holds_ok (dep := dep + 4) hM h) rfl ?_
  intro x1 h
  replace h := hQ1 _ h
  refine iq_imul hS 9 J_HSegments_unpack_d8 rfl ?_
  refine iq_putI hS 12 J_HSegments_unpack_d9 lf_7_104 (Or.inl rfl) rfl (ka_39 hM) rfl ?_
  refine iq_aload_n hS 13 J_HSegments_unpack_d12 l0 rfl ?_
  refine iq_iconst hS 14 J_HSegments_unpack_d13 (v := 0) (by decide +kernel) rfl ?_
  refine iq_putI hS 17 J_HSegments_unpack_d14 lf_7_81 (Or.inl rfl) rfl (ka_39 (lw_sI hM)) rfl ?_
  refine iq_aload_n hS 18 J_HSegments_unpack_d17 l0 rfl ?_
  refine iq_iconst hS 19 J_HSegments_unpack_d18 (v := 0) (by decide +kernel) rfl ?_
  refine iq_putI hS 22 J_HSegments_unpack_d19 lf_7_107 (Or.inl rfl) rfl (ka_39 (lw_sI (lw_sI hM))) rfl ?_
  refine iq_aload_n hS 23 J_HSegments_unpack_d22 l0 rfl ?_
  refine iq_iconst hS 24 J_HSegments_unpack_d23 (v := 0) (by decide +kernel) rfl ?_
  refine iq_putI hS 27 J_HSegments_unpack_d24 lf_7_110 (Or.inl rfl) rfl (ka_39 (lw_sI (lw_sI (lw_sI hM)))) rfl ?_
  refine iq_iconst hS 28 J_HSegments_unpack_d27 (v := 0) (by decide +kernel) rfl ?_
  refine iq_istore hS 30 J_HSegments_unpack_d28 (by decide) rfl ?_
  refine iq_iconst hS 31 J_HSegments_unpack_d30 (v := 0) (by decide +kernel) rfl ?_
  refine iq_istore hS 33 J_HSegments_unpack_d31 (by decide) rfl ?_
  obtain ⟨Q2, hQ2, hR2, h⟩ := bs2_ed h
  have K2 : ∀ (y3 : Int32) (M4 : im_M) (L' : List (Nat × Value)), lw_S w M4 → im_lk L' 4 = some (.int y3) → Q2 (.inl (y3, M4)) → ia (tb_G L xs) (dep + 6) J_HSegments_unpack (rwI w Q) (117, L', [], M4) := by
    intro y3 M4 L' hM4 l5 h
    replace h := hQ2 _ _ h
    refine iq_iload hS 119 J_HSegments_unpack_d117 l5 rfl ?_
    exact iq_iret J_HSegments_unpack_d119 rfl rfl ⟨_, rfl, hM4, ed_some h⟩
  obtain ⟨r2, hr2, hq2⟩ := h
  obtain ⟨n2, hn2⟩ := lp_n hr2
  have I2 : ∀ (n : Nat) (x6 : Int32) (x7 : Int32) (M8 : im_M) (L' : List (Nat × Value)), lw_S w M8 → im_lk L' 0 = some (.ref 39) → im_lk L' 1 = some (.int p0) → im_lk L' 3 = some (.ref 68) → im_lk L' 4 = some (.int x6) → im_lk L' 5 = some (.int x7) → lpn (uc3 (f_HSegments_unpack_L33 p0)) n (x6, x7, M8) = some r2 → ia (tb_G L xs) (dep + 6) J_HSegments_unpack (rwI w Q) (33, L', [], M8) := by
    intro n
    induction n with
    | zero => intro x6 x7 M8 L' hM8 l9 l10 l11 l12 l13 hn; exact (lpn_0 hn).elim
    | succ n ih =>
      intro x6 x7 M8 L' hM8 l9 l10 l11 l12 l13 hn
      have h := lpn_ed3 hn
      unfold f_HSegments_unpack_L33 at h
      refine iq_iload hS 35 J_HSegments_unpack_d33 l13 rfl ?_
      refine iq_aload_n hS 36 J_HSegments_unpack_d35 l9 rfl ?_
      refine iq_getI hS 39 J_HSegments_unpack_d36 lf_7_104 (Or.inl rfl) (ka_39 hM8) rfl ?_
      refine iq_icmp_ge hS 42 J_HSegments_unpack_d39 (t := 117) rfl (fun q39 => ?_) rfl (fun q39 => ?_)
      · replace h := ed_pos q39 h
        exact K2 _ _ _ hM8 l12 (lq_r h hq2)
      · replace h := ed_neg q39 h
        refine iq_iload hS 44 J_HSegments_unpack_d42 l12 rfl ?_
        refine iq_if_ne hS 47 J_HSegments_unpack_d44 (t := 117) rfl (fun q44 => ?_) rfl (fun q44 => ?_)
        · replace h := ed_pos q44 h
          exact K2 _ _ _ hM8 l12 (lq_r h hq2)
        · replace h := ed_neg q44 h
          refine iq_aload_n hS 48 J_HSegments_unpack_d47 l9 rfl ?_
          refine iq_getI hS 51 J_HSegments_unpack_d48 lf_7_104 (Or.inl rfl) (ka_39 hM8) rfl ?_
          refine iq_aload_n hS 52 J_HSegments_unpack_d51 l9 rfl ?_
          refine iq_getI hS 55 J_HSegments_unpack_d52 lf_7_81 (Or.inl rfl) (ka_39 hM8) rfl ?_
          refine iq_isub hS 56 J_HSegments_unpack_d55 rfl ?_
          refine iq_iconst hS 57 J_HSegments_unpack_d56 (v := 4) (by decide +kernel) rfl ?_
          refine iq_icmp_lt hS 60 J_HSegments_unpack_d57 (t := 117) rfl (fun q57 => ?_) rfl (fun q57 => ?_)
          · replace h := ed_pos q57 h
            exact K2 _ _ _ hM8 l12 (lq_r h hq2)
          · replace h := ed_neg q57 h
            refine iq_aload_n hS 61 J_HSegments_unpack_d60 l9 rfl ?_
            refine iq_iconst hS 62 J_HSegments_unpack_d61 (v := 4) (by decide +kernel) rfl ?_
            obtain ⟨Q14, hQ14, h⟩ := bd2_ed h
            refine iq_cwI hS 65 J_HSegments_unpack_d62 rfl (pr_inst (vs := [_]) lc_7_113 lT_241 rfl rfl (by decide) (by decide) rfl (Nat.le_of_ble_eq_true rfl) (Nat.le_of_ble_eq_true rfl) (fun _ => Or.inl (pr_b (ka_39 hM8) (by decide) rfl))) (f_HSegments_take_ok (dep := dep + 5) hM8 h) rfl ?_
            intro x14 M14 hM14 h
            replace h := hQ14 _ _ h
            obtain ⟨Q15, hQ15, h⟩ := bd1_ed h
            refine iq_cpI hS 68 J_HSegments_unpack_d65 rfl (pr_stat (vs := [_]) lc_7_116 lT_242 rfl rfl (by decide) rfl (Nat.le_of_ble_eq_true rfl) (Nat.le_of_ble_eq_true rfl)) (f_HSegments_modeOf_ok (dep := dep + 5) hM14 h) rfl ?_
            intro x15 h
            replace h := hQ15 _ h
            refine iq_istore hS 70 J_HSegments_unpack_d68 (by decide) rfl ?_
            refine iq_iload hS 72 J_HSegments_unpack_d70 lk_1s rfl ?_
            refine iq_iconst hS 73 J_HSegments_unpack_d72 (v := 3) (by decide +kernel) rfl ?_
            refine iq_icmp_ne hS 76 J_HSegments_unpack_d73 (t := 78) rfl (fun q73 => ?_) rfl (fun q73 => ?_)
            · replace h := ed_pos q73 h
              refine iq_iload hS 80 J_HSegments_unpack_d78 lk_1s rfl ?_
              refine iq_iconst hS 81 J_HSegments_unpack_d80 (v := (-1)) (by decide +kernel) rfl ?_
              obtain ⟨Q16, hQ16, h⟩ := bd2_ed h
              have J16 : ∀ (y19 : Int32) (M20 : im_M) (L' : List (Nat × Value)), lw_S w M20 → im_lk L' 0 = some (.ref 39) → im_lk L' 1 = some (.int p0) → im_lk L' 3 = some (.ref 68) → im_lk L' 5 = some (.int x7) → Q16 (y19, M20) → ia (tb_G L xs) (dep + 6) J_HSegments_unpack (rwI w Q) (99, L', [.int y19], M20) := by
                intro y19 M20 L' hM20 l21 l22 l23 l24 h
                replace h := hQ16 _ _ h
                refine iq_istore hS 101 J_HSegments_unpack_d99 (by decide) rfl ?_
                refine iq_aload_n hS 102 J_HSegments_unpack_d101 (lk_1r l21 (by decide)) rfl ?_
                refine iq_dup hS 103 J_HSegments_unpack_d102 rfl rfl ?_
                refine iq_getI hS 106 J_HSegments_unpack_d103 lf_7_107 (Or.inl rfl) (ka_39 hM20) rfl ?_
                refine iq_iconst hS 107 J_HSegments_unpack_d106 (v := 1) (by decide +kernel) rfl ?_
                refine iq_iadd hS 108 J_HSegments_unpack_d107 rfl ?_
                refine iq_putI hS 111 J_HSegments_unpack_d108 lf_7_107 (Or.inl rfl) rfl (ka_39 hM20) rfl ?_
                refine iq_iincv hS 114 J_HSegments_unpack_d111 (c := 1) (by decide +kernel) (lk_1i l24 (by decide)) (by decide) rfl ?_
                refine iq_goto hS J_HSegments_unpack_d114 (t := 33) rfl ?_
                exact ih _ _ _ _ (lw_sI hM20) (lk_1r (lk_1r l21 (by decide)) (by decide)) (lk_1i (lk_1i l22 (by decide)) (by decide)) (lk_1r (lk_1r l23 (by decide)) (by decide)) (lk_1i lk_1s (by decide)) lk_1s (lq_l h)
              refine iq_icmp_ne hS 84 J_HSegments_unpack_d81 (t := 88) rfl (fun q81 => ?_) rfl (fun q81 => ?_)
              · replace h := ed_pos q81 h
                refine iq_aload_n hS 89 J_HSegments_unpack_d88 (lk_1r l9 (by decide)) rfl ?_
                refine iq_iload hS 91 J_HSegments_unpack_d89 lk_1s rfl ?_
                refine iq_iload_n hS 92 J_HSegments_unpack_d91 (lk_1i l10 (by decide)) rfl ?_
                obtain ⟨Q17, hQ17, h⟩ := bd1_ed h
                refine iq_cpI hS 95 J_HSegments_unpack_d92 rfl (pr_stat (vs := [_]) lc_7_24 lT_134 rfl rfl (by decide) rfl (Nat.le_of_ble_eq_true rfl) (Nat.le_of_ble_eq_true rfl)) (f_HSegments_groupOf_ok (dep := dep + 5) hM14 h) rfl ?_
                intro x17 h
                replace h := hQ17 _ h
                refine iq_aload_n hS 96 J_HSegments_unpack_d95 (lk_1r l11 (by decide)) rfl ?_
                obtain ⟨Q18, hQ18, h⟩ := bd2_ed h
                refine iq_cwI hS 99 J_HSegments_unpack_d96 rfl (pr_inst (vs := [_, _, _]) lc_7_119 lT_243 rfl rfl (by decide) (by decide) rfl (Nat.le_of_ble_eq_true rfl) (Nat.le_of_ble_eq_true rfl) (fun _ => Or.inl (pr_b (ka_39 hM14) (by decide) rfl))) (f_HSegments_unpackOne_ok (dep := dep + 0) hM14 h) rfl ?_
                intro x18 M18 hM18 h
                replace h := hQ18 _ _ h
                exact J16 _ _ _ hM18 (lk_1r l9 (by decide)) (lk_1i l10 (by decide)) (lk_1r l11 (by decide)) (lk_1i l13 (by decide)) (ed_some h)
              · replace h := ed_neg q81 h
                refine iq_iconst hS 85 J_HSegments_unpack_d84 (v := 3) (by decide +kernel) rfl ?_
                refine iq_goto hS J_HSegments_unpack_d85 (t := 99) rfl ?_
                exact J16 _ _ _ hM14 (lk_1r l9 (by decide)) (lk_1i l10 (by decide)) (lk_1r l11 (by decide)) (lk_1i l13 (by decide)) (ed_some h)
            · replace h := ed_neg q73 h
              refine iq_iconst hS 77 J_HSegments_unpack_d76 (v := 0) (by decide +kernel) rfl ?_
              exact iq_iret J_HSegments_unpack_d77 rfl rfl ⟨_, rfl, hM14, ed_some (hR2 _ (lq_r h hq2))⟩
  exact I2 n2 _ _ _ _ (lw_sI (lw_sI (lw_sI (lw_sI hM)))) (lk_1r (lk_1r l0 (by decide)) (by decide)) (lk_1i (lk_1i l1 (by decide)) (by decide)) (lk_1r (lk_1r l3 (by decide)) (by decide)) (lk_1i lk_1s (by decide)) lk_1s hn2
theorem f_HSegments_unpack_fr {p0 : Int32} {p1 : Int32} {M : im_M} {r : Int32 × im_M} (h : f_HSegments_unpack p0 p1 M = some r) : fr 295147905179352825856 [(39, 1), (39, 2), (39, 5), (39, 6)] M r.2 := by
  replace h : ed (f_HSegments_unpack p0 p1 M) (fun x => x = r) := ⟨r, h, rfl⟩
  unfold f_HSegments_unpack at h
  obtain ⟨Q1, hQ1, h⟩ := bd1_ed h
  obtain ⟨x1, e1, h⟩ := h
  replace h := hQ1 _ h
  obtain ⟨Q2, hQ2, hR2, h⟩ := bs2_ed h
  have K2 : ∀ (y3 : Int32) (M4 : im_M), fr 295147905179352825856 [(39, 1), (39, 2), (39, 5), (39, 6)] M M4 → Q2 (.inl (y3, M4)) → fr 295147905179352825856 [(39, 1), (39, 2), (39, 5), (39, 6)] M r.2 := by
    intro y3 M4 hM4 h
    replace h := hQ2 _ _ h
    exact fr_ret h hM4
  obtain ⟨r2, hr2, hq2⟩ := h
  obtain ⟨n2, hn2⟩ := lp_n hr2
  have I2 : ∀ (n : Nat) (x5 : Int32) (x6 : Int32) (M7 : im_M), fr 295147905179352825856 [(39, 1), (39, 2), (39, 5), (39, 6)] M M7 → lpn (uc3 (f_HSegments_unpack_L33 p0)) n (x5, x6, M7) = some r2 → fr 295147905179352825856 [(39, 1), (39, 2), (39, 5), (39, 6)] M r.2 := by
    intro n
    induction n with
    | zero => intro x5 x6 M7 hM7 hn; exact (lpn_0 hn).elim
    | succ n ih =>
      intro x5 x6 M7 hM7 hn
      have h := lpn_ed3 hn
      unfold f_HSegments_unpack_L33 at h
      by_cases q39 : (im_i M7 39 6) ≤ x6
      · replace h := ed_pos q39 h
        exact K2 _ _ hM7 (lq_r h hq2)
      · replace h := ed_neg q39 h
        by_cases q44 : ¬ x5 = 0
        · replace h := ed_pos q44 h
          exact K2 _ _ hM7 (lq_r h hq2)
        · replace h := ed_neg q44 h
          by_cases q57 : ((im_i M7 39 6) - (im_i M7 39 5)) < 4
          · replace h := ed_pos q57 h
            exact K2 _ _ hM7 (lq_r h hq2)
          · replace h := ed_neg q57 h
            obtain ⟨Q8, hQ8, h⟩ := bd2_ed h
            obtain ⟨⟨x8, M8⟩, e8, h⟩ := h
            replace h := hQ8 _ _ h
            obtain ⟨Q9, hQ9, h⟩ := bd1_ed h
            obtain ⟨x9, e9, h⟩ := h
            replace h := hQ9 _ h
            by_cases q73 : ¬ x9 = 3
            · replace h := ed_pos q73 h
              obtain ⟨Q10, hQ10, h⟩ := bd2_ed h
              have J10 : ∀ (y13 : Int32) (M14 : im_M), fr 295147905179352825856 [(39, 1), (39, 2), (39, 5), (39, 6)] M M14 → Q10 (y13, M14) → fr 295147905179352825856 [(39, 1), (39, 2), (39, 5), (39, 6)] M r.2 := by
                intro y13 M14 hM14 h
                replace h := hQ10 _ _ h
                exact ih _ _ _ (fr_F (by decide) hM14) (lq_l h)
              by_cases q81 : ¬ x9 = (-1)
              · replace h := ed_pos q81 h
                obtain ⟨Q11, hQ11, h⟩ := bd1_ed h
                obtain ⟨x11, e11, h⟩ := h
                replace h := hQ11 _ h
                obtain ⟨Q12, hQ12, h⟩ := bd2_ed h
                obtain ⟨⟨x12, M12⟩, e12, h⟩ := h
                replace h := hQ12 _ _ h
                exact J10 _ _ (fr_tr (fr_mono (by decide) (by decide +kernel) (f_HSegments_unpackOne_fr e12)) (fr_tr (fr_mono (by decide) (by decide +kernel) (f_HSegments_take_fr e8)) hM7)) (ed_some h)
              · replace h := ed_neg q81 h
                exact J10 _ _ (fr_tr (fr_mono (by decide) (by decide +kernel) (f_HSegments_take_fr e8)) hM7) (ed_some h)
            · replace h := ed_neg q73 h
              exact fr_ret (hR2 _ (lq_r h hq2)) (fr_tr (fr_mono (by decide) (by decide +kernel) (f_HSegments_take_fr e8)) hM7)
  exact I2 n2 _ _ _ (fr_F (by decide) (fr_F (by decide) (fr_F (by decide) (fr_F (by decide) fr_refl)))) hn2
noncomputable def f_HGrid_understand (M : im_M) : Option (Int32 × im_M) := bd1 (f_HGrid_formNumber M) fun (x1 : Int32) => if ¬ x1 = (-1) then bd1 (f_HGrid_turnMask (im_i (im_setI (im_setI M 38 2 ((x1 >>> (3 &&& 31 : Int32) : Int32) ^^^ 1)) 38 3 (x1 &&& 7)) 38 3) (im_setI (im_setI M 38 2 ((x1 >>> (3 &&& 31 : Int32) : Int32) ^^^ 1)) 38 3 (x1 &&& 7))) fun (M2 : im_M) => bd1 (f_HGrid_carry 0 M2) fun (M3 : im_M) => bd2 (f_HBlocks_mend (im_i M3 38 6) (im_i M3 38 2) M3) fun (x4 : Int32) (M4 : im_M) => if ¬ (im_i (im_setI M4 38 4 x4) 38 4) = (-1) then bd2 (f_HSegments_unpack (im_i (im_setI M4 38 4 x4) 38 6) (im_i (im_setI M4 38 4 x4) 38 2) (im_setI M4 38 4 x4)) fun (x5 : Int32) (M5 : im_M) => some (x5, M5) else some (2, (im_setI M4 38 4 x4)) else some (1, M)
theorem J_HGrid_understand_d0 : decode J_HGrid_understand.2.1 0 = .ok (.aload_n 0, 1) := by decide +kernel
theorem J_HGrid_understand_d1 : decode J_HGrid_understand.2.1 1 = .ok (.invokevirtual 151, 3) := by decide +kernel
theorem J_HGrid_understand_d4 : decode J_HGrid_understand.2.1 4 = .ok (.istore_n 2, 1) := by decide +kernel
theorem J_HGrid_understand_d5 : decode J_HGrid_understand.2.1 5 = .ok (.iload_n 2, 1) := by decide +kernel
theorem J_HGrid_understand_d6 : decode J_HGrid_understand.2.1 6 = .ok (.iconst (-1), 1) := by decide +kernel
theorem J_HGrid_understand_d7 : decode J_HGrid_understand.2.1 7 = .ok (.if_icmp .ne 5, 3) := by decide +kernel
theorem J_HGrid_understand_d10 : decode J_HGrid_understand.2.1 10 = .ok (.iconst 1, 1) := by decide +kernel
theorem J_HGrid_understand_d11 : decode J_HGrid_understand.2.1 11 = .ok (.ireturn, 1) := by decide +kernel
theorem J_HGrid_understand_d12 : decode J_HGrid_understand.2.1 12 = .ok (.aload_n 0, 1) := by decide +kernel
theorem J_HGrid_understand_d13 : decode J_HGrid_understand.2.1 13 = .ok (.iload_n 2, 1) := by decide +kernel
theorem J_HGrid_understand_d14 : decode J_HGrid_understand.2.1 14 = .ok (.iconst 3, 1) := by decide +kernel
theorem J_HGrid_understand_d15 : decode J_HGrid_understand.2.1 15 = .ok (.ishr, 1) := by decide +kernel
theorem J_HGrid_understand_d16 : decode J_HGrid_understand.2.1 16 = .ok (.iconst 1, 1) := by decide +kernel
theorem J_HGrid_understand_d17 : decode J_HGrid_understand.2.1 17 = .ok (.ixor, 1) := by decide +kernel
theorem J_HGrid_understand_d18 : decode J_HGrid_understand.2.1 18 = .ok (.putfield 154, 3) := by decide +kernel
theorem J_HGrid_understand_d21 : decode J_HGrid_understand.2.1 21 = .ok (.aload_n 0, 1) := by decide +kernel
theorem J_HGrid_understand_d22 : decode J_HGrid_understand.2.1 22 = .ok (.iload_n 2, 1) := by decide +kernel
theorem J_HGrid_understand_d23 : decode J_HGrid_understand.2.1 23 = .ok (.bipush 7, 2) := by decide +kernel
theorem J_HGrid_understand_d25 : decode J_HGrid_understand.2.1 25 = .ok (.iand, 1) := by decide +kernel
theorem J_HGrid_understand_d26 : decode J_HGrid_understand.2.1 26 = .ok (.putfield 55, 3) := by decide +kernel
theorem J_HGrid_understand_d29 : decode J_HGrid_understand.2.1 29 = .ok (.aload_n 0, 1) := by decide +kernel
theorem J_HGrid_understand_d30 : decode J_HGrid_understand.2.1 30 = .ok (.aload_n 0, 1) := by decide +kernel
theorem J_HGrid_understand_d31 : decode J_HGrid_understand.2.1 31 = .ok (.getfield 55, 3) := by decide +kernel
theorem J_HGrid_understand_d34 : decode J_HGrid_understand.2.1 34 = .ok (.invokevirtual 59, 3) := by decide +kernel
theorem J_HGrid_understand_d37 : decode J_HGrid_understand.2.1 37 = .ok (.aload_n 0, 1) := by decide +kernel
theorem J_HGrid_understand_d38 : decode J_HGrid_understand.2.1 38 = .ok (.iconst 0, 1) := by decide +kernel
theorem J_HGrid_understand_d39 : decode J_HGrid_understand.2.1 39 = .ok (.invokevirtual 47, 3) := by decide +kernel
theorem J_HGrid_understand_d42 : decode J_HGrid_understand.2.1 42 = .ok (.aload_n 0, 1) := by decide +kernel
theorem J_HGrid_understand_d43 : decode J_HGrid_understand.2.1 43 = .ok (.aload_n 0, 1) := by decide +kernel
theorem J_HGrid_understand_d44 : decode J_HGrid_understand.2.1 44 = .ok (.getfield 21, 3) := by decide +kernel
theorem J_HGrid_understand_d47 : decode J_HGrid_understand.2.1 47 = .ok (.aload_n 0, 1) := by decide +kernel
theorem J_HGrid_understand_d48 : decode J_HGrid_understand.2.1 48 = .ok (.getfield 71, 3) := by decide +kernel
theorem J_HGrid_understand_d51 : decode J_HGrid_understand.2.1 51 = .ok (.aload_n 0, 1) := by decide +kernel
theorem J_HGrid_understand_d52 : decode J_HGrid_understand.2.1 52 = .ok (.getfield 154, 3) := by decide +kernel
theorem J_HGrid_understand_d55 : decode J_HGrid_understand.2.1 55 = .ok (.aload_n 0, 1) := by decide +kernel
theorem J_HGrid_understand_d56 : decode J_HGrid_understand.2.1 56 = .ok (.getfield 12, 3) := by decide +kernel
theorem J_HGrid_understand_d59 : decode J_HGrid_understand.2.1 59 = .ok (.getfield 36, 3) := by decide +kernel
theorem J_HGrid_understand_d62 : decode J_HGrid_understand.2.1 62 = .ok (.invokevirtual 157, 3) := by decide +kernel
theorem J_HGrid_understand_d65 : decode J_HGrid_understand.2.1 65 = .ok (.putfield 161, 3) := by decide +kernel
theorem J_HGrid_understand_d68 : decode J_HGrid_understand.2.1 68 = .ok (.aload_n 0, 1) := by decide +kernel
theorem J_HGrid_understand_d69 : decode J_HGrid_understand.2.1 69 = .ok (.getfield 161, 3) := by decide +kernel
theorem J_HGrid_understand_d72 : decode J_HGrid_understand.2.1 72 = .ok (.iconst (-1), 1) := by decide +kernel
theorem J_HGrid_understand_d73 : decode J_HGrid_understand.2.1 73 = .ok (.if_icmp .ne 7, 3) := by decide +kernel
theorem J_HGrid_understand_d76 : decode J_HGrid_understand.2.1 76 = .ok (.iconst 2, 1) := by decide +kernel
theorem J_HGrid_understand_d77 : decode J_HGrid_understand.2.1 77 = .ok (.goto 19, 3) := by decide +kernel
theorem J_HGrid_understand_d80 : decode J_HGrid_understand.2.1 80 = .ok (.aload_n 0, 1) := by decide +kernel
theorem J_HGrid_understand_d81 : decode J_HGrid_understand.2.1 81 = .ok (.getfield 12, 3) := by decide +kernel
theorem J_HGrid_understand_d84 : decode J_HGrid_understand.2.1 84 = .ok (.aload_n 0, 1) := by decide +kernel
theorem J_HGrid_understand_d85 : decode J_HGrid_understand.2.1 85 = .ok (.getfield 71, 3) := by decide +kernel
theorem J_HGrid_understand_d88 : decode J_HGrid_understand.2.1 88 = .ok (.aload_n 0, 1) := by decide +kernel
theorem J_HGrid_understand_d89 : decode J_HGrid_understand.2.1 89 = .ok (.getfield 154, 3) := by decide +kernel
theorem J_HGrid_understand_d92 : decode J_HGrid_understand.2.1 92 = .ok (.aload_n 1, 1) := by decide +kernel
theorem J_HGrid_understand_d93 : decode J_HGrid_understand.2.1 93 = .ok (.invokevirtual 164, 3) := by decide +kernel
theorem J_HGrid_understand_d96 : decode J_HGrid_understand.2.1 96 = .ok (.ireturn, 1) := by decide +kernel
theorem f_HGrid_understand_ok {L : Nat} {xs : Nat → Int32} {dep : Nat} {w : Bool} {M : im_M} {Q : Int32 × im_M → Prop} (hM : lw_S w M) (h : ed (f_HGrid_understand M) Q) : ia (tb_G L xs) (dep + 7) J_HGrid_understand (rwI w Q) (0, lv_args 0 [.ref 38, .ref 68], [], M) := by
  have hS : im_St (tb_G L xs) (dep + 7) J_HGrid_understand (ia (tb_G L xs) (dep + 7) J_HGrid_understand (rwI w Q)) := ia_St
  unfold f_HGrid_understand at h
  have l0 : im_lk (lv_args 0 [.ref 38, .ref 68]) 0 = some (.ref 38) := rfl
  have l1 : im_lk (lv_args 0 [.ref 38, .ref 68]) 1 = some (.ref 68) := rfl
  refine iq_aload_n hS 1 J_HGrid_understand_d0 l0 rfl ?_
  obtain ⟨Q1, hQ1, h⟩ := bd1_ed h
  refine iq_cpI hS 4 J_HGrid_understand_d1 rfl (pr_inst (vs := []) lc_4_151 lT_229 rfl rfl (by decide) (by decide) rfl (Nat.le_of_ble_eq_true rfl) (Nat.le_of_ble_eq_true rfl) (fun _ => Or.inl (pr_b (ka_38 hM) (by decide) rfl))) (f_HGrid_formNumber_ok (dep := dep + 4) hM h) rfl ?_
  intro x1 h
  replace h := hQ1 _ h
  refine iq_istore_n hS 5 J_HGrid_understand_d4 (by decide) rfl ?_
  refine iq_iload_n hS 6 J_HGrid_understand_d5 lk_1s rfl ?_
  refine iq_iconst hS 7 J_HGrid_understand_d6 (v := (-1)) (by decide +kernel) rfl ?_
  refine iq_icmp_ne hS 10 J_HGrid_understand_d7 (t := 12) rfl (fun q7 => ?_) rfl (fun q7 => ?_)
  · replace h := ed_pos q7 h
    refine iq_aload_n hS 13 J_HGrid_understand_d12 (lk_1r l0 (by decide)) rfl ?_
    refine iq_iload_n hS 14 J_HGrid_understand_d13 lk_1s rfl ?_
    refine iq_iconst hS 15 J_HGrid_understand_d14 (v := 3) (by decide +kernel) rfl ?_
    refine iq_ishr hS 16 J_HGrid_understand_d15 rfl ?_
    refine iq_iconst hS 17 J_HGrid_understand_d16 (v := 1) (by decide +kernel) rfl ?_
    refine iq_ixor hS 18 J_HGrid_understand_d17 rfl ?_
    refine iq_putI hS 21 J_HGrid_understand_d18 lf_4_154 (Or.inl rfl) rfl (ka_38 hM) rfl ?_
    refine iq_aload_n hS 22 J_HGrid_understand_d21 (lk_1r l0 (by decide)) rfl ?_
    refine iq_iload_n hS 23 J_HGrid_understand_d22 lk_1s rfl ?_
    refine iq_bipush hS 25 J_HGrid_understand_d23 (v := 7) (by decide +kernel) rfl ?_
    refine iq_iand hS 26 J_HGrid_understand_d25 rfl ?_
    refine iq_putI hS 29 J_HGrid_understand_d26 lf_4_55 (Or.inl rfl) rfl (ka_38 (lw_sI hM)) rfl ?_
    refine iq_aload_n hS 30 J_HGrid_understand_d29 (lk_1r l0 (by decide)) rfl ?_
    refine iq_aload_n hS 31 J_HGrid_understand_d30 (lk_1r l0 (by decide)) rfl ?_
    refine iq_getI hS 34 J_HGrid_understand_d31 lf_4_55 (Or.inl rfl) (ka_38 (lw_sI (lw_sI hM))) rfl ?_
    obtain ⟨Q2, hQ2, h⟩ := bd1_ed h
    refine iq_cwV hS 37 J_HGrid_understand_d34 rfl (pr_inst (vs := [_]) lc_4_59 lT_174 rfl rfl (by decide) (by decide) rfl (Nat.le_of_ble_eq_true rfl) (Nat.le_of_ble_eq_true rfl) (fun _ => Or.inl (pr_b (ka_38 (lw_sI (lw_sI hM))) (by decide) rfl))) (f_HGrid_turnMask_ok (dep := dep + 5) (lw_sI (lw_sI hM)) h) rfl ?_
    intro M2 hM2 h
    replace h := hQ2 _ h
    refine iq_aload_n hS 38 J_HGrid_understand_d37 (lk_1r l0 (by decide)) rfl ?_
    refine iq_iconst hS 39 J_HGrid_understand_d38 (v := 0) (by decide +kernel) rfl ?_
    obtain ⟨Q3, hQ3, h⟩ := bd1_ed h
    refine iq_cwV hS 42 J_HGrid_understand_d39 rfl (pr_inst (vs := [_]) lc_4_47 lT_167 rfl rfl (by decide) (by decide) rfl (Nat.le_of_ble_eq_true rfl) (Nat.le_of_ble_eq_true rfl) (fun _ => Or.inl (pr_b (ka_38 hM2) (by decide) rfl))) (f_HGrid_carry_ok (dep := dep + 4) hM2 h) rfl ?_
    intro M3 hM3 h
    replace h := hQ3 _ h
    refine iq_aload_n hS 43 J_HGrid_understand_d42 (lk_1r l0 (by decide)) rfl ?_
    refine iq_aload_n hS 44 J_HGrid_understand_d43 (lk_1r l0 (by decide)) rfl ?_
    refine iq_getR hS 47 J_HGrid_understand_d44 lf_4_21 (Or.inl ⟨_, rfl⟩) (ka_38 hM3) (ra_38_5 hM3) rfl ?_
    refine iq_aload_n hS 48 J_HGrid_understand_d47 (lk_1r l0 (by decide)) rfl ?_
    refine iq_getI hS 51 J_HGrid_understand_d48 lf_4_71 (Or.inl rfl) (ka_38 hM3) rfl ?_
    refine iq_aload_n hS 52 J_HGrid_understand_d51 (lk_1r l0 (by decide)) rfl ?_
    refine iq_getI hS 55 J_HGrid_understand_d52 lf_4_154 (Or.inl rfl) (ka_38 hM3) rfl ?_
    refine iq_aload_n hS 56 J_HGrid_understand_d55 (lk_1r l0 (by decide)) rfl ?_
    refine iq_getR hS 59 J_HGrid_understand_d56 lf_4_12 (Or.inl ⟨_, rfl⟩) (ka_38 hM3) (ra_38_0 hM3) rfl ?_
    refine iq_getR hS 62 J_HGrid_understand_d59 lf_4_36 (Or.inr ⟨_, rfl⟩) (ka_39 hM3) (ra_39_0 hM3) rfl ?_
    obtain ⟨Q4, hQ4, h⟩ := bd2_ed h
    refine iq_cwI hS 65 J_HGrid_understand_d62 rfl (pr_inst (vs := [_, _, _]) lc_4_157 lT_231 rfl rfl (by decide) (by decide) rfl (Nat.le_of_ble_eq_true rfl) (Nat.le_of_ble_eq_true rfl) (fun _ => Or.inl (pr_b (ka_43 hM3) (by decide) rfl))) (f_HBlocks_mend_ok (dep := dep + 3) hM3 h) rfl ?_
    intro x4 M4 hM4 h
    replace h := hQ4 _ _ h
    refine iq_putI hS 68 J_HGrid_understand_d65 lf_4_161 (Or.inl rfl) rfl (ka_38 hM4) rfl ?_
    refine iq_aload_n hS 69 J_HGrid_understand_d68 (lk_1r l0 (by decide)) rfl ?_
    refine iq_getI hS 72 J_HGrid_understand_d69 lf_4_161 (Or.inl rfl) (ka_38 (lw_sI hM4)) rfl ?_
    refine iq_iconst hS 73 J_HGrid_understand_d72 (v := (-1)) (by decide +kernel) rfl ?_
    refine iq_icmp_ne hS 76 J_HGrid_understand_d73 (t := 80) rfl (fun q73 => ?_) rfl (fun q73 => ?_)
    · replace h := ed_pos q73 h
      refine iq_aload_n hS 81 J_HGrid_understand_d80 (lk_1r l0 (by decide)) rfl ?_
      refine iq_getR hS 84 J_HGrid_understand_d81 lf_4_12 (Or.inl ⟨_, rfl⟩) (ka_38 (lw_sI hM4)) (ra_38_0 (lw_sI hM4)) rfl ?_
      refine iq_aload_n hS 85 J_HGrid_understand_d84 (lk_1r l0 (by decide)) rfl ?_
      refine iq_getI hS 88 J_HGrid_understand_d85 lf_4_71 (Or.inl rfl) (ka_38 (lw_sI hM4)) rfl ?_
      refine iq_aload_n hS 89 J_HGrid_understand_d88 (lk_1r l0 (by decide)) rfl ?_
      refine iq_getI hS 92 J_HGrid_understand_d89 lf_4_154 (Or.inl rfl) (ka_38 (lw_sI hM4)) rfl ?_
      refine iq_aload_n hS 93 J_HGrid_understand_d92 (lk_1r l1 (by decide)) rfl ?_
      obtain ⟨Q5, hQ5, h⟩ := bd2_ed h
      refine iq_cwI hS 96 J_HGrid_understand_d93 rfl (pr_inst (vs := [_, _, _]) lc_4_164 lT_240 rfl rfl (by decide) (by decide) rfl (Nat.le_of_ble_eq_true rfl) (Nat.le_of_ble_eq_true rfl) (fun _ => Or.inl (pr_b (ka_39 (lw_sI hM4)) (by decide) rfl))) (f_HSegments_unpack_ok (dep := dep + 0) (lw_sI hM4) h) rfl ?_
      intro x5 M5 hM5 h
      replace h := hQ5 _ _ h
      exact iq_iret J_HGrid_understand_d96 rfl rfl ⟨_, rfl, hM5, ed_some h⟩
    · replace h := ed_neg q73 h
      refine iq_iconst hS 77 J_HGrid_understand_d76 (v := 2) (by decide +kernel) rfl ?_
      refine iq_goto hS J_HGrid_understand_d77 (t := 96) rfl ?_
      exact iq_iret J_HGrid_understand_d96 rfl rfl ⟨_, rfl, (lw_sI hM4), ed_some h⟩
  · replace h := ed_neg q7 h
    refine iq_iconst hS 11 J_HGrid_understand_d10 (v := 1) (by decide +kernel) rfl ?_
    exact iq_iret J_HGrid_understand_d11 rfl rfl ⟨_, rfl, hM, ed_some h⟩
theorem f_HGrid_understand_fr {M : im_M} {r : Int32 × im_M} (h : f_HGrid_understand M = some r) : fr 295183671193092751360 [(38, 2), (38, 3), (38, 4), (39, 1), (39, 2), (39, 5), (39, 6), (43, 10), (43, 11), (43, 12), (43, 13)] M r.2 := by
  replace h : ed (f_HGrid_understand M) (fun x => x = r) := ⟨r, h, rfl⟩
  unfold f_HGrid_understand at h
  obtain ⟨Q1, hQ1, h⟩ := bd1_ed h
  obtain ⟨x1, e1, h⟩ := h
  replace h := hQ1 _ h
  by_cases q7 : ¬ x1 = (-1)
  · replace h := ed_pos q7 h
    obtain ⟨Q2, hQ2, h⟩ := bd1_ed h
    obtain ⟨M2, e2, h⟩ := h
    replace h := hQ2 _ h
    obtain ⟨Q3, hQ3, h⟩ := bd1_ed h
    obtain ⟨M3, e3, h⟩ := h
    replace h := hQ3 _ h
    obtain ⟨Q4, hQ4, h⟩ := bd2_ed h
    obtain ⟨⟨x4, M4⟩, e4, h⟩ := h
    replace h := hQ4 _ _ h
    by_cases q73 : ¬ (im_i (im_setI M4 38 4 x4) 38 4) = (-1)
    · replace h := ed_pos q73 h
      obtain ⟨Q5, hQ5, h⟩ := bd2_ed h
      obtain ⟨⟨x5, M5⟩, e5, h⟩ := h
      replace h := hQ5 _ _ h
      exact fr_ret h (fr_tr (fr_mono (by decide) (by decide +kernel) (f_HSegments_unpack_fr e5)) (fr_F (by decide) (fr_tr (fr_mono (by decide) (by decide +kernel) (f_HBlocks_mend_fr e4)) (fr_tr (fr_mono (by decide) (by decide +kernel) (f_HGrid_carry_fr e3)) (fr_tr (fr_mono (by decide) (by decide +kernel) (f_HGrid_turnMask_fr e2)) (fr_F (by decide) (fr_F (by decide) fr_refl)))))))
    · replace h := ed_neg q73 h
      exact fr_ret h (fr_F (by decide) (fr_tr (fr_mono (by decide) (by decide +kernel) (f_HBlocks_mend_fr e4)) (fr_tr (fr_mono (by decide) (by decide +kernel) (f_HGrid_carry_fr e3)) (fr_tr (fr_mono (by decide) (by decide +kernel) (f_HGrid_turnMask_fr e2)) (fr_F (by decide) (fr_F (by decide) fr_refl))))))
  · replace h := ed_neg q7 h
    exact fr_ret h fr_refl
noncomputable def f_H_decode (w : Bool) (p0 : Int32) (M : im_M) : Option (Int32 × im_M) := if p0 < 0 then none else if p0 < (im_i M 59 0) then bd1 (f_H_forgetReading M) fun (M1 : im_M) => bd1 (f_HFinder_part p0 3 M1) fun (x2 : Int32) => bd1 (f_HGrid_begin x2 M1) fun (M3 : im_M) => bd1 (f_HFinder_fill w p0 M3) fun (M4 : im_M) => bd2 (f_HGrid_understand M4) fun (x5 : Int32) (M5 : im_M) => gd (inb 6 7) <| if x5 = 0 then gd (inb 0 7) <| gd (inb 1 7) <| gd (inb 2 7) <| gd (inb 3 7) <| gd (inb 4 7) <| some ((im_i (im_setI (im_setI (im_setI (im_setI (im_setI (im_setI (im_setI M5 67 (Int32.toNatClampNeg 6) x5) 67 (Int32.toNatClampNeg 0) 0) 67 (Int32.toNatClampNeg 1) (im_i (im_setI (im_setI M5 67 (Int32.toNatClampNeg 6) x5) 67 (Int32.toNatClampNeg 0) 0) 38 2)) 67 (Int32.toNatClampNeg 2) (im_i (im_setI (im_setI (im_setI M5 67 (Int32.toNatClampNeg 6) x5) 67 (Int32.toNatClampNeg 0) 0) 67 (Int32.toNatClampNeg 1) (im_i (im_setI (im_setI M5 67 (Int32.toNatClampNeg 6) x5) 67 (Int32.toNatClampNeg 0) 0) 38 2)) 38 3)) 67 (Int32.toNatClampNeg 3) (im_i (im_setI (im_setI (im_setI (im_setI M5 67 (Int32.toNatClampNeg 6) x5) 67 (Int32.toNatClampNeg 0) 0) 67 (Int32.toNatClampNeg 1) (im_i (im_setI (im_setI M5 67 (Int32.toNatClampNeg 6) x5) 67 (Int32.toNatClampNeg 0) 0) 38 2)) 67 (Int32.toNatClampNeg 2) (im_i (im_setI (im_setI (im_setI M5 67 (Int32.toNatClampNeg 6) x5) 67 (Int32.toNatClampNeg 0) 0) 67 (Int32.toNatClampNeg 1) (im_i (im_setI (im_setI M5 67 (Int32.toNatClampNeg 6) x5) 67 (Int32.toNatClampNeg 0) 0) 38 2)) 38 3)) 38 4)) 67 (Int32.toNatClampNeg 4) (im_i (im_setI (im_setI (im_setI (im_setI (im_setI M5 67 (Int32.toNatClampNeg 6) x5) 67 (Int32.toNatClampNeg 0) 0) 67 (Int32.toNatClampNeg 1) (im_i (im_setI (im_setI M5 67 (Int32.toNatClampNeg 6) x5) 67 (Int32.toNatClampNeg 0) 0) 38 2)) 67 (Int32.toNatClampNeg 2) (im_i (im_setI (im_setI (im_setI M5 67 (Int32.toNatClampNeg 6) x5) 67 (Int32.toNatClampNeg 0) 0) 67 (Int32.toNatClampNeg 1) (im_i (im_setI (im_setI M5 67 (Int32.toNatClampNeg 6) x5) 67 (Int32.toNatClampNeg 0) 0) 38 2)) 38 3)) 67 (Int32.toNatClampNeg 3) (im_i (im_setI (im_setI (im_setI (im_setI M5 67 (Int32.toNatClampNeg 6) x5) 67 (Int32.toNatClampNeg 0) 0) 67 (Int32.toNatClampNeg 1) (im_i (im_setI (im_setI M5 67 (Int32.toNatClampNeg 6) x5) 67 (Int32.toNatClampNeg 0) 0) 38 2)) 67 (Int32.toNatClampNeg 2) (im_i (im_setI (im_setI (im_setI M5 67 (Int32.toNatClampNeg 6) x5) 67 (Int32.toNatClampNeg 0) 0) 67 (Int32.toNatClampNeg 1) (im_i (im_setI (im_setI M5 67 (Int32.toNatClampNeg 6) x5) 67 (Int32.toNatClampNeg 0) 0) 38 2)) 38 3)) 38 4)) 39 1)) 0 12 (im_i (im_setI (im_setI (im_setI (im_setI (im_setI (im_setI M5 67 (Int32.toNatClampNeg 6) x5) 67 (Int32.toNatClampNeg 0) 0) 67 (Int32.toNatClampNeg 1) (im_i (im_setI (im_setI M5 67 (Int32.toNatClampNeg 6) x5) 67 (Int32.toNatClampNeg 0) 0) 38 2)) 67 (Int32.toNatClampNeg 2) (im_i (im_setI (im_setI (im_setI M5 67 (Int32.toNatClampNeg 6) x5) 67 (Int32.toNatClampNeg 0) 0) 67 (Int32.toNatClampNeg 1) (im_i (im_setI (im_setI M5 67 (Int32.toNatClampNeg 6) x5) 67 (Int32.toNatClampNeg 0) 0) 38 2)) 38 3)) 67 (Int32.toNatClampNeg 3) (im_i (im_setI (im_setI (im_setI (im_setI M5 67 (Int32.toNatClampNeg 6) x5) 67 (Int32.toNatClampNeg 0) 0) 67 (Int32.toNatClampNeg 1) (im_i (im_setI (im_setI M5 67 (Int32.toNatClampNeg 6) x5) 67 (Int32.toNatClampNeg 0) 0) 38 2)) 67 (Int32.toNatClampNeg 2) (im_i (im_setI (im_setI (im_setI M5 67 (Int32.toNatClampNeg 6) x5) 67 (Int32.toNatClampNeg 0) 0) 67 (Int32.toNatClampNeg 1) (im_i (im_setI (im_setI M5 67 (Int32.toNatClampNeg 6) x5) 67 (Int32.toNatClampNeg 0) 0) 38 2)) 38 3)) 38 4)) 67 (Int32.toNatClampNeg 4) (im_i (im_setI (im_setI (im_setI (im_setI (im_setI M5 67 (Int32.toNatClampNeg 6) x5) 67 (Int32.toNatClampNeg 0) 0) 67 (Int32.toNatClampNeg 1) (im_i (im_setI (im_setI M5 67 (Int32.toNatClampNeg 6) x5) 67 (Int32.toNatClampNeg 0) 0) 38 2)) 67 (Int32.toNatClampNeg 2) (im_i (im_setI (im_setI (im_setI M5 67 (Int32.toNatClampNeg 6) x5) 67 (Int32.toNatClampNeg 0) 0) 67 (Int32.toNatClampNeg 1) (im_i (im_setI (im_setI M5 67 (Int32.toNatClampNeg 6) x5) 67 (Int32.toNatClampNeg 0) 0) 38 2)) 38 3)) 67 (Int32.toNatClampNeg 3) (im_i (im_setI (im_setI (im_setI (im_setI M5 67 (Int32.toNatClampNeg 6) x5) 67 (Int32.toNatClampNeg 0) 0) 67 (Int32.toNatClampNeg 1) (im_i (im_setI (im_setI M5 67 (Int32.toNatClampNeg 6) x5) 67 (Int32.toNatClampNeg 0) 0) 38 2)) 67 (Int32.toNatClampNeg 2) (im_i (im_setI (im_setI (im_setI M5 67 (Int32.toNatClampNeg 6) x5) 67 (Int32.toNatClampNeg 0) 0) 67 (Int32.toNatClampNeg 1) (im_i (im_setI (im_setI M5 67 (Int32.toNatClampNeg 6) x5) 67 (Int32.toNatClampNeg 0) 0) 38 2)) 38 3)) 38 4)) 39 1)) 39 2)) 0 12), (im_setI (im_setI (im_setI (im_setI (im_setI (im_setI (im_setI M5 67 (Int32.toNatClampNeg 6) x5) 67 (Int32.toNatClampNeg 0) 0) 67 (Int32.toNatClampNeg 1) (im_i (im_setI (im_setI M5 67 (Int32.toNatClampNeg 6) x5) 67 (Int32.toNatClampNeg 0) 0) 38 2)) 67 (Int32.toNatClampNeg 2) (im_i (im_setI (im_setI (im_setI M5 67 (Int32.toNatClampNeg 6) x5) 67 (Int32.toNatClampNeg 0) 0) 67 (Int32.toNatClampNeg 1) (im_i (im_setI (im_setI M5 67 (Int32.toNatClampNeg 6) x5) 67 (Int32.toNatClampNeg 0) 0) 38 2)) 38 3)) 67 (Int32.toNatClampNeg 3) (im_i (im_setI (im_setI (im_setI (im_setI M5 67 (Int32.toNatClampNeg 6) x5) 67 (Int32.toNatClampNeg 0) 0) 67 (Int32.toNatClampNeg 1) (im_i (im_setI (im_setI M5 67 (Int32.toNatClampNeg 6) x5) 67 (Int32.toNatClampNeg 0) 0) 38 2)) 67 (Int32.toNatClampNeg 2) (im_i (im_setI (im_setI (im_setI M5 67 (Int32.toNatClampNeg 6) x5) 67 (Int32.toNatClampNeg 0) 0) 67 (Int32.toNatClampNeg 1) (im_i (im_setI (im_setI M5 67 (Int32.toNatClampNeg 6) x5) 67 (Int32.toNatClampNeg 0) 0) 38 2)) 38 3)) 38 4)) 67 (Int32.toNatClampNeg 4) (im_i (im_setI (im_setI (im_setI (im_setI (im_setI M5 67 (Int32.toNatClampNeg 6) x5) 67 (Int32.toNatClampNeg 0) 0) 67 (Int32.toNatClampNeg 1) (im_i (im_setI (im_setI M5 67 (Int32.toNatClampNeg 6) x5) 67 (Int32.toNatClampNeg 0) 0) 38 2)) 67 (Int32.toNatClampNeg 2) (im_i (im_setI (im_setI (im_setI M5 67 (Int32.toNatClampNeg 6) x5) 67 (Int32.toNatClampNeg 0) 0) 67 (Int32.toNatClampNeg 1) (im_i (im_setI (im_setI M5 67 (Int32.toNatClampNeg 6) x5) 67 (Int32.toNatClampNeg 0) 0) 38 2)) 38 3)) 67 (Int32.toNatClampNeg 3) (im_i (im_setI (im_setI (im_setI (im_setI M5 67 (Int32.toNatClampNeg 6) x5) 67 (Int32.toNatClampNeg 0) 0) 67 (Int32.toNatClampNeg 1) (im_i (im_setI (im_setI M5 67 (Int32.toNatClampNeg 6) x5) 67 (Int32.toNatClampNeg 0) 0) 38 2)) 67 (Int32.toNatClampNeg 2) (im_i (im_setI (im_setI (im_setI M5 67 (Int32.toNatClampNeg 6) x5) 67 (Int32.toNatClampNeg 0) 0) 67 (Int32.toNatClampNeg 1) (im_i (im_setI (im_setI M5 67 (Int32.toNatClampNeg 6) x5) 67 (Int32.toNatClampNeg 0) 0) 38 2)) 38 3)) 38 4)) 39 1)) 0 12 (im_i (im_setI (im_setI (im_setI (im_setI (im_setI (im_setI M5 67 (Int32.toNatClampNeg 6) x5) 67 (Int32.toNatClampNeg 0) 0) 67 (Int32.toNatClampNeg 1) (im_i (im_setI (im_setI M5 67 (Int32.toNatClampNeg 6) x5) 67 (Int32.toNatClampNeg 0) 0) 38 2)) 67 (Int32.toNatClampNeg 2) (im_i (im_setI (im_setI (im_setI M5 67 (Int32.toNatClampNeg 6) x5) 67 (Int32.toNatClampNeg 0) 0) 67 (Int32.toNatClampNeg 1) (im_i (im_setI (im_setI M5 67 (Int32.toNatClampNeg 6) x5) 67 (Int32.toNatClampNeg 0) 0) 38 2)) 38 3)) 67 (Int32.toNatClampNeg 3) (im_i (im_setI (im_setI (im_setI (im_setI M5 67 (Int32.toNatClampNeg 6) x5) 67 (Int32.toNatClampNeg 0) 0) 67 (Int32.toNatClampNeg 1) (im_i (im_setI (im_setI M5 67 (Int32.toNatClampNeg 6) x5) 67 (Int32.toNatClampNeg 0) 0) 38 2)) 67 (Int32.toNatClampNeg 2) (im_i (im_setI (im_setI (im_setI M5 67 (Int32.toNatClampNeg 6) x5) 67 (Int32.toNatClampNeg 0) 0) 67 (Int32.toNatClampNeg 1) (im_i (im_setI (im_setI M5 67 (Int32.toNatClampNeg 6) x5) 67 (Int32.toNatClampNeg 0) 0) 38 2)) 38 3)) 38 4)) 67 (Int32.toNatClampNeg 4) (im_i (im_setI (im_setI (im_setI (im_setI (im_setI M5 67 (Int32.toNatClampNeg 6) x5) 67 (Int32.toNatClampNeg 0) 0) 67 (Int32.toNatClampNeg 1) (im_i (im_setI (im_setI M5 67 (Int32.toNatClampNeg 6) x5) 67 (Int32.toNatClampNeg 0) 0) 38 2)) 67 (Int32.toNatClampNeg 2) (im_i (im_setI (im_setI (im_setI M5 67 (Int32.toNatClampNeg 6) x5) 67 (Int32.toNatClampNeg 0) 0) 67 (Int32.toNatClampNeg 1) (im_i (im_setI (im_setI M5 67 (Int32.toNatClampNeg 6) x5) 67 (Int32.toNatClampNeg 0) 0) 38 2)) 38 3)) 67 (Int32.toNatClampNeg 3) (im_i (im_setI (im_setI (im_setI (im_setI M5 67 (Int32.toNatClampNeg 6) x5) 67 (Int32.toNatClampNeg 0) 0) 67 (Int32.toNatClampNeg 1) (im_i (im_setI (im_setI M5 67 (Int32.toNatClampNeg 6) x5) 67 (Int32.toNatClampNeg 0) 0) 38 2)) 67 (Int32.toNatClampNeg 2) (im_i (im_setI (im_setI (im_setI M5 67 (Int32.toNatClampNeg 6) x5) 67 (Int32.toNatClampNeg 0) 0) 67 (Int32.toNatClampNeg 1) (im_i (im_setI (im_setI M5 67 (Int32.toNatClampNeg 6) x5) 67 (Int32.toNatClampNeg 0) 0) 38 2)) 38 3)) 38 4)) 39 1)) 39 2))) else some ((-1), (im_setI M5 67 (Int32.toNatClampNeg 6) x5)) else none
theorem J_H_decode_d23 : decode J_H_decode.2.1 23 = .ok (.aload_n 0, 1) := by decide +kernel
theorem J_H_decode_d24 : decode J_H_decode.2.1 24 = .ok (.invokevirtual 200, 3) := by decide +kernel
theorem J_H_decode_d27 : decode J_H_decode.2.1 27 = .ok (.aload_n 0, 1) := by decide +kernel
theorem J_H_decode_d28 : decode J_H_decode.2.1 28 = .ok (.getfield 51, 3) := by decide +kernel
theorem J_H_decode_d31 : decode J_H_decode.2.1 31 = .ok (.aload_n 0, 1) := by decide +kernel
theorem J_H_decode_d32 : decode J_H_decode.2.1 32 = .ok (.getfield 69, 3) := by decide +kernel
theorem J_H_decode_d35 : decode J_H_decode.2.1 35 = .ok (.iload_n 1, 1) := by decide +kernel
theorem J_H_decode_d36 : decode J_H_decode.2.1 36 = .ok (.iconst 3, 1) := by decide +kernel
theorem J_H_decode_d37 : decode J_H_decode.2.1 37 = .ok (.invokevirtual 197, 3) := by decide +kernel
theorem J_H_decode_d40 : decode J_H_decode.2.1 40 = .ok (.invokevirtual 203, 3) := by decide +kernel
theorem J_H_decode_d43 : decode J_H_decode.2.1 43 = .ok (.aload_n 0, 1) := by decide +kernel
theorem J_H_decode_d44 : decode J_H_decode.2.1 44 = .ok (.getfield 69, 3) := by decide +kernel
theorem J_H_decode_d47 : decode J_H_decode.2.1 47 = .ok (.iload_n 1, 1) := by decide +kernel
theorem J_H_decode_d48 : decode J_H_decode.2.1 48 = .ok (.aload_n 0, 1) := by decide +kernel
theorem J_H_decode_d49 : decode J_H_decode.2.1 49 = .ok (.getfield 51, 3) := by decide +kernel
theorem J_H_decode_d52 : decode J_H_decode.2.1 52 = .ok (.invokevirtual 206, 3) := by decide +kernel
theorem J_H_decode_d55 : decode J_H_decode.2.1 55 = .ok (.aload_n 0, 1) := by decide +kernel
theorem J_H_decode_d56 : decode J_H_decode.2.1 56 = .ok (.getfield 51, 3) := by decide +kernel
theorem J_H_decode_d59 : decode J_H_decode.2.1 59 = .ok (.aload_n 0, 1) := by decide +kernel
theorem J_H_decode_d60 : decode J_H_decode.2.1 60 = .ok (.getfield 80, 3) := by decide +kernel
theorem J_H_decode_d63 : decode J_H_decode.2.1 63 = .ok (.invokevirtual 210, 3) := by decide +kernel
theorem J_H_decode_d66 : decode J_H_decode.2.1 66 = .ok (.istore_n 2, 1) := by decide +kernel
theorem J_H_decode_d67 : decode J_H_decode.2.1 67 = .ok (.aload_n 0, 1) := by decide +kernel
theorem J_H_decode_d68 : decode J_H_decode.2.1 68 = .ok (.getfield 77, 3) := by decide +kernel
theorem J_H_decode_d71 : decode J_H_decode.2.1 71 = .ok (.bipush 6, 2) := by decide +kernel
theorem J_H_decode_d73 : decode J_H_decode.2.1 73 = .ok (.iload_n 2, 1) := by decide +kernel
theorem J_H_decode_d74 : decode J_H_decode.2.1 74 = .ok (.iastore, 1) := by decide +kernel
theorem J_H_decode_d75 : decode J_H_decode.2.1 75 = .ok (.iload_n 2, 1) := by decide +kernel
theorem J_H_decode_d76 : decode J_H_decode.2.1 76 = .ok (.ifCond .eq 5, 3) := by decide +kernel
theorem J_H_decode_d79 : decode J_H_decode.2.1 79 = .ok (.iconst (-1), 1) := by decide +kernel
theorem J_H_decode_d80 : decode J_H_decode.2.1 80 = .ok (.ireturn, 1) := by decide +kernel
theorem J_H_decode_d81 : decode J_H_decode.2.1 81 = .ok (.aload_n 0, 1) := by decide +kernel
theorem J_H_decode_d82 : decode J_H_decode.2.1 82 = .ok (.getfield 77, 3) := by decide +kernel
theorem J_H_decode_d85 : decode J_H_decode.2.1 85 = .ok (.iconst 0, 1) := by decide +kernel
theorem J_H_decode_d86 : decode J_H_decode.2.1 86 = .ok (.iconst 0, 1) := by decide +kernel
theorem J_H_decode_d87 : decode J_H_decode.2.1 87 = .ok (.iastore, 1) := by decide +kernel
theorem J_H_decode_d88 : decode J_H_decode.2.1 88 = .ok (.aload_n 0, 1) := by decide +kernel
theorem J_H_decode_d89 : decode J_H_decode.2.1 89 = .ok (.getfield 77, 3) := by decide +kernel
theorem J_H_decode_d92 : decode J_H_decode.2.1 92 = .ok (.iconst 1, 1) := by decide +kernel
theorem J_H_decode_d93 : decode J_H_decode.2.1 93 = .ok (.aload_n 0, 1) := by decide +kernel
theorem J_H_decode_d94 : decode J_H_decode.2.1 94 = .ok (.getfield 51, 3) := by decide +kernel
theorem J_H_decode_d97 : decode J_H_decode.2.1 97 = .ok (.getfield 214, 3) := by decide +kernel
theorem J_H_decode_d100 : decode J_H_decode.2.1 100 = .ok (.iastore, 1) := by decide +kernel
theorem J_H_decode_d101 : decode J_H_decode.2.1 101 = .ok (.aload_n 0, 1) := by decide +kernel
theorem J_H_decode_d102 : decode J_H_decode.2.1 102 = .ok (.getfield 77, 3) := by decide +kernel
theorem J_H_decode_d105 : decode J_H_decode.2.1 105 = .ok (.iconst 2, 1) := by decide +kernel
theorem J_H_decode_d106 : decode J_H_decode.2.1 106 = .ok (.aload_n 0, 1) := by decide +kernel
theorem J_H_decode_d107 : decode J_H_decode.2.1 107 = .ok (.getfield 51, 3) := by decide +kernel
theorem J_H_decode_d110 : decode J_H_decode.2.1 110 = .ok (.getfield 217, 3) := by decide +kernel
theorem J_H_decode_d113 : decode J_H_decode.2.1 113 = .ok (.iastore, 1) := by decide +kernel
theorem J_H_decode_d114 : decode J_H_decode.2.1 114 = .ok (.aload_n 0, 1) := by decide +kernel
theorem J_H_decode_d115 : decode J_H_decode.2.1 115 = .ok (.getfield 77, 3) := by decide +kernel
theorem J_H_decode_d118 : decode J_H_decode.2.1 118 = .ok (.iconst 3, 1) := by decide +kernel
theorem J_H_decode_d119 : decode J_H_decode.2.1 119 = .ok (.aload_n 0, 1) := by decide +kernel
theorem J_H_decode_d120 : decode J_H_decode.2.1 120 = .ok (.getfield 51, 3) := by decide +kernel
theorem J_H_decode_d123 : decode J_H_decode.2.1 123 = .ok (.getfield 220, 3) := by decide +kernel
theorem J_H_decode_d126 : decode J_H_decode.2.1 126 = .ok (.iastore, 1) := by decide +kernel
theorem J_H_decode_d127 : decode J_H_decode.2.1 127 = .ok (.aload_n 0, 1) := by decide +kernel
theorem J_H_decode_d128 : decode J_H_decode.2.1 128 = .ok (.getfield 77, 3) := by decide +kernel
theorem J_H_decode_d131 : decode J_H_decode.2.1 131 = .ok (.iconst 4, 1) := by decide +kernel
theorem J_H_decode_d132 : decode J_H_decode.2.1 132 = .ok (.aload_n 0, 1) := by decide +kernel
theorem J_H_decode_d133 : decode J_H_decode.2.1 133 = .ok (.getfield 51, 3) := by decide +kernel
theorem J_H_decode_d136 : decode J_H_decode.2.1 136 = .ok (.getfield 223, 3) := by decide +kernel
theorem J_H_decode_d139 : decode J_H_decode.2.1 139 = .ok (.getfield 227, 3) := by decide +kernel
theorem J_H_decode_d142 : decode J_H_decode.2.1 142 = .ok (.iastore, 1) := by decide +kernel
theorem J_H_decode_d143 : decode J_H_decode.2.1 143 = .ok (.aload_n 0, 1) := by decide +kernel
theorem J_H_decode_d144 : decode J_H_decode.2.1 144 = .ok (.aload_n 0, 1) := by decide +kernel
theorem J_H_decode_d145 : decode J_H_decode.2.1 145 = .ok (.getfield 51, 3) := by decide +kernel
theorem J_H_decode_d148 : decode J_H_decode.2.1 148 = .ok (.getfield 223, 3) := by decide +kernel
theorem J_H_decode_d151 : decode J_H_decode.2.1 151 = .ok (.getfield 230, 3) := by decide +kernel
theorem J_H_decode_d154 : decode J_H_decode.2.1 154 = .ok (.putfield 231, 3) := by decide +kernel
theorem J_H_decode_d157 : decode J_H_decode.2.1 157 = .ok (.aload_n 0, 1) := by decide +kernel
theorem J_H_decode_d158 : decode J_H_decode.2.1 158 = .ok (.getfield 231, 3) := by decide +kernel
theorem J_H_decode_d161 : decode J_H_decode.2.1 161 = .ok (.ireturn, 1) := by decide +kernel
theorem f_H_decode_ok {L : Nat} {xs : Nat → Int32} {dep : Nat} {w : Bool} {p0 : Int32} {M : im_M} {Q : Int32 × im_M → Prop} (hM : lw_S w M) (h : ed (f_H_decode w p0 M) Q) : ia (tb_G L xs) (dep + 8) J_H_decode (rwI w Q) (0, lv_args 0 [.ref 0, .int p0], [], M) := by
  have hS : im_St (tb_G L xs) (dep + 8) J_H_decode (ia (tb_G L xs) (dep + 8) J_H_decode (rwI w Q)) := ia_St
  unfold f_H_decode at h
  have l0 : im_lk (lv_args 0 [.ref 0, .int p0]) 0 = some (.ref 0) := rfl
  have l1 : im_lk (lv_args 0 [.ref 0, .int p0]) 1 = some (.int p0) := rfl
  refine iq_iload_n hS 1 J_H_decode_d0 l1 rfl ?_
  refine iq_if_lt hS 4 J_H_decode_d1 (t := 15) rfl (fun q1 => ?_) rfl (fun q1 => ?_)
  · replace h := ed_pos q1 h
    exact (ed_none h).elim
  · replace h := ed_neg q1 h
    refine iq_iload_n hS 5 J_H_decode_d4 l1 rfl ?_
    refine iq_aload_n hS 6 J_H_decode_d5 l0 rfl ?_
    refine iq_getR hS 9 J_H_decode_d6 lf_11_69 (Or.inl ⟨_, rfl⟩) (ka_0 hM) (ra_0_7 hM) rfl ?_
    refine iq_getI hS 12 J_H_decode_d9 lf_11_146 (Or.inl rfl) (ka_59 hM) rfl ?_
    refine iq_icmp_lt hS 15 J_H_decode_d12 (t := 23) rfl (fun q12 => ?_) rfl (fun q12 => ?_)
    · replace h := ed_pos q12 h
      refine iq_aload_n hS 24 J_H_decode_d23 l0 rfl ?_
      obtain ⟨Q1, hQ1, h⟩ := bd1_ed h
      refine iq_cwV hS 27 J_H_decode_d24 rfl (pr_inst (vs := []) lc_11_200 lT_225 rfl rfl (by decide) (by decide) rfl (Nat.le_of_ble_eq_true rfl) (Nat.le_of_ble_eq_true rfl) (fun _ => Or.inl (pr_b (ka_0 hM) (by decide) rfl))) (f_H_forgetReading_ok (dep := dep + 5) hM h) rfl ?_
      intro M1 hM1 h
      replace h := hQ1 _ h
      refine iq_aload_n hS 28 J_H_decode_d27 l0 rfl ?_
      refine iq_getR hS 31 J_H_decode_d28 lf_11_51 (Or.inl ⟨_, rfl⟩) (ka_0 hM1) (ra_0_6 hM1) rfl ?_
      refine iq_aload_n hS 32 J_H_decode_d31 l0 rfl ?_
      refine iq_getR hS 35 J_H_decode_d32 lf_11_69 (Or.inl ⟨_, rfl⟩) (ka_0 hM1) (ra_0_7 hM1) rfl ?_
      refine iq_iload_n hS 36 J_H_decode_d35 l1 rfl ?_
      refine iq_iconst hS 37 J_H_decode_d36 (v := 3) (by decide +kernel) rfl ?_
      obtain ⟨Q2, hQ2, h⟩ := bd1_ed h
      refine iq_cpI hS 40 J_H_decode_d37 rfl (pr_inst (vs := [_, _]) lc_11_197 lT_222 rfl rfl (by decide) (by decide) rfl (Nat.le_of_ble_eq_true rfl) (Nat.le_of_ble_eq_true rfl) (fun _ => Or.inl (pr_b (ka_59 hM1) (by decide) rfl))) (f_HFinder_part_ok (dep := dep + 7) hM1 h) rfl ?_
      intro x2 h
      replace h := hQ2 _ h
      obtain ⟨Q3, hQ3, h⟩ := bd1_ed h
      refine iq_cwV hS 43 J_H_decode_d40 rfl (pr_inst (vs := [_]) lc_11_203 lT_155 rfl rfl (by decide) (by decide) rfl (Nat.le_of_ble_eq_true rfl) (Nat.le_of_ble_eq_true rfl) (fun _ => Or.inl (pr_b (ka_38 hM1) (by decide) rfl))) (f_HGrid_begin_ok (dep := dep + 4) hM1 h) rfl ?_
      intro M3 hM3 h
      replace h := hQ3 _ h
      refine iq_aload_n hS 44 J_H_decode_d43 l0 rfl ?_
      refine iq_getR hS 47 J_H_decode_d44 lf_11_69 (Or.inl ⟨_, rfl⟩) (ka_0 hM3) (ra_0_7 hM3) rfl ?_
      refine iq_iload_n hS 48 J_H_decode_d47 l1 rfl ?_
      refine iq_aload_n hS 49 J_H_decode_d48 l0 rfl ?_
      refine iq_getR hS 52 J_H_decode_d49 lf_11_51 (Or.inl ⟨_, rfl⟩) (ka_0 hM3) (ra_0_6 hM3) rfl ?_
      obtain ⟨Q4, hQ4, h⟩ := bd1_ed h
      refine iq_cwV hS 55 J_H_decode_d52 rfl (pr_inst (vs := [_, _]) lc_11_206 lT_226 rfl rfl (by decide) (by decide) rfl (Nat.le_of_ble_eq_true rfl) (Nat.le_of_ble_eq_true rfl) (fun _ => Or.inl (pr_b (ka_59 hM3) (by decide) rfl))) (f_HFinder_fill_ok (dep := dep + 4) hM3 h) rfl ?_
      intro M4 hM4 h
      replace h := hQ4 _ h
      refine iq_aload_n hS 56 J_H_decode_d55 l0 rfl ?_
      refine iq_getR hS 59 J_H_decode_d56 lf_11_51 (Or.inl ⟨_, rfl⟩) (ka_0 hM4) (ra_0_6 hM4) rfl ?_
      refine iq_aload_n hS 60 J_H_decode_d59 l0 rfl ?_
      refine iq_getR hS 63 J_H_decode_d60 lf_11_80 (Or.inr ⟨_, rfl⟩) (ka_0 hM4) (ra_0_11 hM4) rfl ?_
      obtain ⟨Q5, hQ5, h⟩ := bd2_ed h
      refine iq_cwI hS 66 J_H_decode_d63 rfl (pr_inst (vs := [_]) lc_11_210 lT_228 rfl rfl (by decide) (by decide) rfl (Nat.le_of_ble_eq_true rfl) (Nat.le_of_ble_eq_true rfl) (fun _ => Or.inl (pr_b (ka_38 hM4) (by decide) rfl))) (f_HGrid_understand_ok (dep := dep + 0) hM4 h) rfl ?_
      intro x5 M5 hM5 h
      replace h := hQ5 _ _ h
      refine iq_istore_n hS 67 J_H_decode_d66 (by decide) rfl ?_
      refine iq_aload_n hS 68 J_H_decode_d67 (lk_1r l0 (by decide)) rfl ?_
      refine iq_getR hS 71 J_H_decode_d68 lf_11_77 (Or.inr ⟨_, rfl⟩) (ka_0 hM5) (ra_0_10 hM5) rfl ?_
      refine iq_bipush hS 73 J_H_decode_d71 (v := 6) (by decide +kernel) rfl ?_
      refine iq_iload_n hS 74 J_H_decode_d73 lk_1s rfl ?_
      obtain ⟨g74, h⟩ := ed_gd h
      refine iq_iastore hS 75 J_H_decode_d74 ⟨(ka_67 hM5).1, (ka_67 hM5).2, g74.1, ix_lt (kl_67 hM5) g74.2⟩ rfl ?_
      refine iq_iload_n hS 76 J_H_decode_d75 lk_1s rfl ?_
      refine iq_if_eq hS 79 J_H_decode_d76 (t := 81) rfl (fun q76 => ?_) rfl (fun q76 => ?_)
      · replace h := ed_pos q76 h
        refine iq_aload_n hS 82 J_H_decode_d81 (lk_1r l0 (by decide)) rfl ?_
        refine iq_getR hS 85 J_H_decode_d82 lf_11_77 (Or.inr ⟨_, rfl⟩) (ka_0 (lw_sI hM5)) (ra_0_10 (lw_sI hM5)) rfl ?_
        refine iq_iconst hS 86 J_H_decode_d85 (v := 0) (by decide +kernel) rfl ?_
        refine iq_iconst hS 87 J_H_decode_d86 (v := 0) (by decide +kernel) rfl ?_
        obtain ⟨g87, h⟩ := ed_gd h
        refine iq_iastore hS 88 J_H_decode_d87 ⟨(ka_67 (lw_sI hM5)).1, (ka_67 (lw_sI hM5)).2, g87.1, ix_lt (kl_67 (lw_sI hM5)) g87.2⟩ rfl ?_
        refine iq_aload_n hS 89 J_H_decode_d88 (lk_1r l0 (by decide)) rfl ?_
        refine iq_getR hS 92 J_H_decode_d89 lf_11_77 (Or.inr ⟨_, rfl⟩) (ka_0 (lw_sI (lw_sI hM5))) (ra_0_10 (lw_sI (lw_sI hM5))) rfl ?_
        refine iq_iconst hS 93 J_H_decode_d92 (v := 1) (by decide +kernel) rfl ?_
        refine iq_aload_n hS 94 J_H_decode_d93 (lk_1r l0 (by decide)) rfl ?_
        refine iq_getR hS 97 J_H_decode_d94 lf_11_51 (Or.inl ⟨_, rfl⟩) (ka_0 (lw_sI (lw_sI hM5))) (ra_0_6 (lw_sI (lw_sI hM5))) rfl ?_
        refine iq_getI hS 100 J_H_decode_d97 lf_11_214 (Or.inl rfl) (ka_38 (lw_sI (lw_sI hM5))) rfl ?_
        obtain ⟨g100, h⟩ := ed_gd h
        refine iq_iastore hS 101 J_H_decode_d100 ⟨(ka_67 (lw_sI (lw_sI hM5))).1, (ka_67 (lw_sI (lw_sI hM5))).2, g100.1, ix_lt (kl_67 (lw_sI (lw_sI hM5))) g100.2⟩ rfl ?_
        refine iq_aload_n hS 102 J_H_decode_d101 (lk_1r l0 (by decide)) rfl ?_
        refine iq_getR hS 105 J_H_decode_d102 lf_11_77 (Or.inr ⟨_, rfl⟩) (ka_0 (lw_sI (lw_sI (lw_sI hM5)))) (ra_0_10 (lw_sI (lw_sI (lw_sI hM5)))) rfl ?_
        refine iq_iconst hS 106 J_H_decode_d105 (v := 2) (by decide +kernel) rfl ?_
        refine iq_aload_n hS 107 J_H_decode_d106 (lk_1r l0 (by decide)) rfl ?_
        refine iq_getR hS 110 J_H_decode_d107 lf_11_51 (Or.inl ⟨_, rfl⟩) (ka_0 (lw_sI (lw_sI (lw_sI hM5)))) (ra_0_6 (lw_sI (lw_sI (lw_sI hM5)))) rfl ?_
        refine iq_getI hS 113 J_H_decode_d110 lf_11_217 (Or.inl rfl) (ka_38 (lw_sI (lw_sI (lw_sI hM5)))) rfl ?_
        obtain ⟨g113, h⟩ := ed_gd h
        refine iq_iastore hS 114 J_H_decode_d113 ⟨(ka_67 (lw_sI (lw_sI (lw_sI hM5)))).1, (ka_67 (lw_sI (lw_sI (lw_sI hM5)))).2, g113.1, ix_lt (kl_67 (lw_sI (lw_sI (lw_sI hM5)))) g113.2⟩ rfl ?_
        refine iq_aload_n hS 115 J_H_decode_d114 (lk_1r l0 (by decide)) rfl ?_
        refine iq_getR hS 118 J_H_decode_d115 lf_11_77 (Or.inr ⟨_, rfl⟩) (ka_0 (lw_sI (lw_sI (lw_sI (lw_sI hM5))))) (ra_0_10 (lw_sI (lw_sI (lw_sI (lw_sI hM5))))) rfl ?_
        refine iq_iconst hS 119 J_H_decode_d118 (v := 3) (by decide +kernel) rfl ?_
        refine iq_aload_n hS 120 J_H_decode_d119 (lk_1r l0 (by decide)) rfl ?_
        refine iq_getR hS 123 J_H_decode_d120 lf_11_51 (Or.inl ⟨_, rfl⟩) (ka_0 (lw_sI (lw_sI (lw_sI (lw_sI hM5))))) (ra_0_6 (lw_sI (lw_sI (lw_sI (lw_sI hM5))))) rfl ?_
        refine iq_getI hS 126 J_H_decode_d123 lf_11_220 (Or.inl rfl) (ka_38 (lw_sI (lw_sI (lw_sI (lw_sI hM5))))) rfl ?_
        obtain ⟨g126, h⟩ := ed_gd h
        refine iq_iastore hS 127 J_H_decode_d126 ⟨(ka_67 (lw_sI (lw_sI (lw_sI (lw_sI hM5))))).1, (ka_67 (lw_sI (lw_sI (lw_sI (lw_sI hM5))))).2, g126.1, ix_lt (kl_67 (lw_sI (lw_sI (lw_sI (lw_sI hM5))))) g126.2⟩ rfl ?_
        refine iq_aload_n hS 128 J_H_decode_d127 (lk_1r l0 (by decide)) rfl ?_
        refine iq_getR hS 131 J_H_decode_d128 lf_11_77 (Or.inr ⟨_, rfl⟩) (ka_0 (lw_sI (lw_sI (lw_sI (lw_sI (lw_sI hM5)))))) (ra_0_10 (lw_sI (lw_sI (lw_sI (lw_sI (lw_sI hM5)))))) rfl ?_
        refine iq_iconst hS 132 J_H_decode_d131 (v := 4) (by decide +kernel) rfl ?_
        refine iq_aload_n hS 133 J_H_decode_d132 (lk_1r l0 (by decide)) rfl ?_
        refine iq_getR hS 136 J_H_decode_d133 lf_11_51 (Or.inl ⟨_, rfl⟩) (ka_0 (lw_sI (lw_sI (lw_sI (lw_sI (lw_sI hM5)))))) (ra_0_6 (lw_sI (lw_sI (lw_sI (lw_sI (lw_sI hM5)))))) rfl ?_
        refine iq_getR hS 139 J_H_decode_d136 lf_11_223 (Or.inl ⟨_, rfl⟩) (ka_38 (lw_sI (lw_sI (lw_sI (lw_sI (lw_sI hM5)))))) (ra_38_0 (lw_sI (lw_sI (lw_sI (lw_sI (lw_sI hM5)))))) rfl ?_
        refine iq_getI hS 142 J_H_decode_d139 lf_11_227 (Or.inl rfl) (ka_39 (lw_sI (lw_sI (lw_sI (lw_sI (lw_sI hM5)))))) rfl ?_
        obtain ⟨g142, h⟩ := ed_gd h
        refine iq_iastore hS 143 J_H_decode_d142 ⟨(ka_67 (lw_sI (lw_sI (lw_sI (lw_sI (lw_sI hM5)))))).1, (ka_67 (lw_sI (lw_sI (lw_sI (lw_sI (lw_sI hM5)))))).2, g142.1, ix_lt (kl_67 (lw_sI (lw_sI (lw_sI (lw_sI (lw_sI hM5)))))) g142.2⟩ rfl ?_
        refine iq_aload_n hS 144 J_H_decode_d143 (lk_1r l0 (by decide)) rfl ?_
        refine iq_aload_n hS 145 J_H_decode_d144 (lk_1r l0 (by decide)) rfl ?_
        refine iq_getR hS 148 J_H_decode_d145 lf_11_51 (Or.inl ⟨_, rfl⟩) (ka_0 (lw_sI (lw_sI (lw_sI (lw_sI (lw_sI (lw_sI hM5))))))) (ra_0_6 (lw_sI (lw_sI (lw_sI (lw_sI (lw_sI (lw_sI hM5))))))) rfl ?_
        refine iq_getR hS 151 J_H_decode_d148 lf_11_223 (Or.inl ⟨_, rfl⟩) (ka_38 (lw_sI (lw_sI (lw_sI (lw_sI (lw_sI (lw_sI hM5))))))) (ra_38_0 (lw_sI (lw_sI (lw_sI (lw_sI (lw_sI (lw_sI hM5))))))) rfl ?_
        refine iq_getI hS 154 J_H_decode_d151 lf_11_230 (Or.inl rfl) (ka_39 (lw_sI (lw_sI (lw_sI (lw_sI (lw_sI (lw_sI hM5))))))) rfl ?_
        refine iq_putI hS 157 J_H_decode_d154 lf_11_231 (Or.inl rfl) rfl (ka_0 (lw_sI (lw_sI (lw_sI (lw_sI (lw_sI (lw_sI hM5))))))) rfl ?_
        refine iq_aload_n hS 158 J_H_decode_d157 (lk_1r l0 (by decide)) rfl ?_
        refine iq_getI hS 161 J_H_decode_d158 lf_11_231 (Or.inl rfl) (ka_0 (lw_sI (lw_sI (lw_sI (lw_sI (lw_sI (lw_sI (lw_sI hM5)))))))) rfl ?_
        exact iq_iret J_H_decode_d161 rfl rfl ⟨_, rfl, (lw_sI (lw_sI (lw_sI (lw_sI (lw_sI (lw_sI (lw_sI hM5))))))), ed_some h⟩
      · replace h := ed_neg q76 h
        refine iq_iconst hS 80 J_H_decode_d79 (v := (-1)) (by decide +kernel) rfl ?_
        exact iq_iret J_H_decode_d80 rfl rfl ⟨_, rfl, (lw_sI hM5), ed_some h⟩
    · replace h := ed_neg q12 h
      exact (ed_none h).elim
theorem f_H_decode_fr {w : Bool} {p0 : Int32} {M : im_M} {r : Int32 × im_M} (h : f_H_decode w p0 M = some r) : fr 442793652579788128256 [(0, 12), (38, 1), (38, 2), (38, 3), (38, 4), (38, 6), (39, 1), (39, 2), (39, 5), (39, 6), (43, 10), (43, 11), (43, 12), (43, 13)] M r.2 := by
  replace h : ed (f_H_decode w p0 M) (fun x => x = r) := ⟨r, h, rfl⟩
  unfold f_H_decode at h
  by_cases q1 : p0 < 0
  · replace h := ed_pos q1 h
    exact (ed_none h).elim
  · replace h := ed_neg q1 h
    by_cases q12 : p0 < (im_i M 59 0)
    · replace h := ed_pos q12 h
      obtain ⟨Q1, hQ1, h⟩ := bd1_ed h
      obtain ⟨M1, e1, h⟩ := h
      replace h := hQ1 _ h
      obtain ⟨Q2, hQ2, h⟩ := bd1_ed h
      obtain ⟨x2, e2, h⟩ := h
      replace h := hQ2 _ h
      obtain ⟨Q3, hQ3, h⟩ := bd1_ed h
      obtain ⟨M3, e3, h⟩ := h
      replace h := hQ3 _ h
      obtain ⟨Q4, hQ4, h⟩ := bd1_ed h
      obtain ⟨M4, e4, h⟩ := h
      replace h := hQ4 _ h
      obtain ⟨Q5, hQ5, h⟩ := bd2_ed h
      obtain ⟨⟨x5, M5⟩, e5, h⟩ := h
      replace h := hQ5 _ _ h
      obtain ⟨g74, h⟩ := ed_gd h
      by_cases q76 : x5 = 0
      · replace h := ed_pos q76 h
        obtain ⟨g87, h⟩ := ed_gd h
        obtain ⟨g100, h⟩ := ed_gd h
        obtain ⟨g113, h⟩ := ed_gd h
        obtain ⟨g126, h⟩ := ed_gd h
        obtain ⟨g142, h⟩ := ed_gd h
        exact fr_ret h (fr_F (by decide) (fr_I (by decide) (fr_I (by decide) (fr_I (by decide) (fr_I (by decide) (fr_I (by decide) (fr_I (by decide) (fr_tr (fr_mono (by decide) (by decide +kernel) (f_HGrid_understand_fr e5)) (fr_tr (fr_mono (by decide) (by decide +kernel) (f_HFinder_fill_fr e4)) (fr_tr (fr_mono (by decide) (by decide +kernel) (f_HGrid_begin_fr e3)) (fr_tr (fr_mono (by decide) (by decide +kernel) (f_H_forgetReading_fr e1)) fr_refl)))))))))))
      · replace h := ed_neg q76 h
        exact fr_ret h (fr_I (by decide) (fr_tr (fr_mono (by decide) (by decide +kernel) (f_HGrid_understand_fr e5)) (fr_tr (fr_mono (by decide) (by decide +kernel) (f_HFinder_fill_fr e4)) (fr_tr (fr_mono (by decide) (by decide +kernel) (f_HGrid_begin_fr e3)) (fr_tr (fr_mono (by decide) (by decide +kernel) (f_H_forgetReading_fr e1)) fr_refl)))))
    · replace h := ed_neg q12 h
      exact (ed_none h).elim
