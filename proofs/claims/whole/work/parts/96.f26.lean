/-! METHODS AS FUNCTIONS -/
noncomputable def f_MSquareRows_group_L135 (v6 : Int32) (x7 : Int32) (x8 : Int32) (M9 : im_M) : Option ((Int32 × Int32 × im_M) ⊕ (im_M)) := if x8 ≤ 0 then some (.inr M9) else gd (¬ x8 = (0 : Int32)) <| gd (¬ x8 = (0 : Int32)) <| bd1 (if ¬ v6 = 0 then if ¬ v6 = 1 then some (x7 / x8) else bd1 (f_MSquareRows_byteOf (x7 / x8) M9) fun (x11 : Int32) => some x11 else some ((48 : Int32) + (x7 / x8))) fun (y12 : Int32) => bd1 (f_MSquareRows_take y12 M9) fun (M17 : im_M) => gd (¬ ((if ¬ v6 = 0 then (if ¬ v6 = 1 then 256 else 45) else 10) : Int32) = (0 : Int32)) <| some (.inl ((x7 - x7 / x8 * x8), (x8 / ((if ¬ v6 = 0 then (if ¬ v6 = 1 then 256 else 45) else 10) : Int32)), M17))
noncomputable def f_MSquareRows_group (p0 : Int32) (p1 : Int32) (M : im_M) : Option (im_M) := bd2 (f_MSquareRows_next ((if ¬ p0 = 0 then (if ¬ p0 = 1 then 8 else (((5 : Int32) * p1) + 1)) else (((3 : Int32) * p1) + 1)) : Int32) M) fun (x2 : Int32) (M2 : im_M) => if (im_i M2 108 31) ≤ 0 then if x2 < ((if ¬ p0 = 0 then (if ¬ p0 = 1 then 256 else (if ¬ p1 = 2 then 45 else 2025)) else (if ¬ p1 = 3 then (if ¬ p1 = 2 then 10 else 100) else 1000)) : Int32) then gd (¬ ((if ¬ p0 = 0 then (if ¬ p0 = 1 then 256 else 45) else 10) : Int32) = (0 : Int32)) <| bd1 (lp (uc3 (f_MSquareRows_group_L135 p0)) (x2, (((if ¬ p0 = 0 then (if ¬ p0 = 1 then 256 else (if ¬ p1 = 2 then 45 else 2025)) else (if ¬ p1 = 3 then (if ¬ p1 = 2 then 10 else 100) else 1000)) : Int32) / ((if ¬ p0 = 0 then (if ¬ p0 = 1 then 256 else 45) else 10) : Int32)), M2)) fun (M19 : im_M) => some M19 else some (im_setI M2 108 31 5) else some M2
theorem J_MSquareRows_group_d0 : decode J_MSquareRows_group.2.1 0 = .ok (.aload_n 0, 1) := by decide +kernel
theorem J_MSquareRows_group_d1 : decode J_MSquareRows_group.2.1 1 = .ok (.iload_n 1, 1) := by decide +kernel
theorem J_MSquareRows_group_d2 : decode J_MSquareRows_group.2.1 2 = .ok (.ifCond .ne 11, 3) := by decide +kernel
theorem J_MSquareRows_group_d5 : decode J_MSquareRows_group.2.1 5 = .ok (.iconst 3, 1) := by decide +kernel
theorem J_MSquareRows_group_d6 : decode J_MSquareRows_group.2.1 6 = .ok (.iload_n 2, 1) := by decide +kernel
theorem J_MSquareRows_group_d7 : decode J_MSquareRows_group.2.1 7 = .ok (.imul, 1) := by decide +kernel
theorem J_MSquareRows_group_d8 : decode J_MSquareRows_group.2.1 8 = .ok (.iconst 1, 1) := by decide +kernel
theorem J_MSquareRows_group_d9 : decode J_MSquareRows_group.2.1 9 = .ok (.iadd, 1) := by decide +kernel
theorem J_MSquareRows_group_d10 : decode J_MSquareRows_group.2.1 10 = .ok (.goto 18, 3) := by decide +kernel
theorem J_MSquareRows_group_d13 : decode J_MSquareRows_group.2.1 13 = .ok (.iload_n 1, 1) := by decide +kernel
theorem J_MSquareRows_group_d14 : decode J_MSquareRows_group.2.1 14 = .ok (.iconst 1, 1) := by decide +kernel
theorem J_MSquareRows_group_d15 : decode J_MSquareRows_group.2.1 15 = .ok (.if_icmp .ne 11, 3) := by decide +kernel
theorem J_MSquareRows_group_d18 : decode J_MSquareRows_group.2.1 18 = .ok (.iconst 5, 1) := by decide +kernel
theorem J_MSquareRows_group_d19 : decode J_MSquareRows_group.2.1 19 = .ok (.iload_n 2, 1) := by decide +kernel
theorem J_MSquareRows_group_d20 : decode J_MSquareRows_group.2.1 20 = .ok (.imul, 1) := by decide +kernel
theorem J_MSquareRows_group_d21 : decode J_MSquareRows_group.2.1 21 = .ok (.iconst 1, 1) := by decide +kernel
theorem J_MSquareRows_group_d22 : decode J_MSquareRows_group.2.1 22 = .ok (.iadd, 1) := by decide +kernel
theorem J_MSquareRows_group_d23 : decode J_MSquareRows_group.2.1 23 = .ok (.goto 5, 3) := by decide +kernel
theorem J_MSquareRows_group_d26 : decode J_MSquareRows_group.2.1 26 = .ok (.bipush 8, 2) := by decide +kernel
theorem J_MSquareRows_group_d28 : decode J_MSquareRows_group.2.1 28 = .ok (.invokevirtual 291, 3) := by decide +kernel
theorem J_MSquareRows_group_d31 : decode J_MSquareRows_group.2.1 31 = .ok (.istore_n 3, 1) := by decide +kernel
theorem J_MSquareRows_group_d32 : decode J_MSquareRows_group.2.1 32 = .ok (.aload_n 0, 1) := by decide +kernel
theorem J_MSquareRows_group_d33 : decode J_MSquareRows_group.2.1 33 = .ok (.getfield 285, 3) := by decide +kernel
theorem J_MSquareRows_group_d36 : decode J_MSquareRows_group.2.1 36 = .ok (.ifCond .le 4, 3) := by decide +kernel
theorem J_MSquareRows_group_d39 : decode J_MSquareRows_group.2.1 39 = .ok (.return_, 1) := by decide +kernel
theorem J_MSquareRows_group_d40 : decode J_MSquareRows_group.2.1 40 = .ok (.iload_n 1, 1) := by decide +kernel
theorem J_MSquareRows_group_d41 : decode J_MSquareRows_group.2.1 41 = .ok (.ifCond .ne 29, 3) := by decide +kernel
theorem J_MSquareRows_group_d44 : decode J_MSquareRows_group.2.1 44 = .ok (.iload_n 2, 1) := by decide +kernel
theorem J_MSquareRows_group_d45 : decode J_MSquareRows_group.2.1 45 = .ok (.iconst 3, 1) := by decide +kernel
theorem J_MSquareRows_group_d46 : decode J_MSquareRows_group.2.1 46 = .ok (.if_icmp .ne 9, 3) := by decide +kernel
theorem J_MSquareRows_group_d49 : decode J_MSquareRows_group.2.1 49 = .ok (.sipush 1000, 3) := by decide +kernel
theorem J_MSquareRows_group_d52 : decode J_MSquareRows_group.2.1 52 = .ok (.goto 42, 3) := by decide +kernel
theorem J_MSquareRows_group_d55 : decode J_MSquareRows_group.2.1 55 = .ok (.iload_n 2, 1) := by decide +kernel
theorem J_MSquareRows_group_d56 : decode J_MSquareRows_group.2.1 56 = .ok (.iconst 2, 1) := by decide +kernel
theorem J_MSquareRows_group_d57 : decode J_MSquareRows_group.2.1 57 = .ok (.if_icmp .ne 8, 3) := by decide +kernel
theorem J_MSquareRows_group_d60 : decode J_MSquareRows_group.2.1 60 = .ok (.bipush 100, 2) := by decide +kernel
theorem J_MSquareRows_group_d62 : decode J_MSquareRows_group.2.1 62 = .ok (.goto 32, 3) := by decide +kernel
theorem J_MSquareRows_group_d65 : decode J_MSquareRows_group.2.1 65 = .ok (.bipush 10, 2) := by decide +kernel
theorem J_MSquareRows_group_d67 : decode J_MSquareRows_group.2.1 67 = .ok (.goto 27, 3) := by decide +kernel
theorem J_MSquareRows_group_d70 : decode J_MSquareRows_group.2.1 70 = .ok (.iload_n 1, 1) := by decide +kernel
theorem J_MSquareRows_group_d71 : decode J_MSquareRows_group.2.1 71 = .ok (.iconst 1, 1) := by decide +kernel
theorem J_MSquareRows_group_d72 : decode J_MSquareRows_group.2.1 72 = .ok (.if_icmp .ne 19, 3) := by decide +kernel
theorem J_MSquareRows_group_d75 : decode J_MSquareRows_group.2.1 75 = .ok (.iload_n 2, 1) := by decide +kernel
theorem J_MSquareRows_group_d76 : decode J_MSquareRows_group.2.1 76 = .ok (.iconst 2, 1) := by decide +kernel
theorem J_MSquareRows_group_d77 : decode J_MSquareRows_group.2.1 77 = .ok (.if_icmp .ne 9, 3) := by decide +kernel
theorem J_MSquareRows_group_d80 : decode J_MSquareRows_group.2.1 80 = .ok (.sipush 2025, 3) := by decide +kernel
theorem J_MSquareRows_group_d83 : decode J_MSquareRows_group.2.1 83 = .ok (.goto 11, 3) := by decide +kernel
theorem J_MSquareRows_group_d86 : decode J_MSquareRows_group.2.1 86 = .ok (.bipush 45, 2) := by decide +kernel
theorem J_MSquareRows_group_d88 : decode J_MSquareRows_group.2.1 88 = .ok (.goto 6, 3) := by decide +kernel
theorem J_MSquareRows_group_d91 : decode J_MSquareRows_group.2.1 91 = .ok (.sipush 256, 3) := by decide +kernel
theorem J_MSquareRows_group_d94 : decode J_MSquareRows_group.2.1 94 = .ok (.istore 4, 2) := by decide +kernel
theorem J_MSquareRows_group_d96 : decode J_MSquareRows_group.2.1 96 = .ok (.iload_n 3, 1) := by decide +kernel
theorem J_MSquareRows_group_d97 : decode J_MSquareRows_group.2.1 97 = .ok (.iload 4, 2) := by decide +kernel
theorem J_MSquareRows_group_d99 : decode J_MSquareRows_group.2.1 99 = .ok (.if_icmp .lt 9, 3) := by decide +kernel
theorem J_MSquareRows_group_d102 : decode J_MSquareRows_group.2.1 102 = .ok (.aload_n 0, 1) := by decide +kernel
theorem J_MSquareRows_group_d103 : decode J_MSquareRows_group.2.1 103 = .ok (.iconst 5, 1) := by decide +kernel
theorem J_MSquareRows_group_d104 : decode J_MSquareRows_group.2.1 104 = .ok (.putfield 285, 3) := by decide +kernel
theorem J_MSquareRows_group_d107 : decode J_MSquareRows_group.2.1 107 = .ok (.return_, 1) := by decide +kernel
theorem J_MSquareRows_group_d108 : decode J_MSquareRows_group.2.1 108 = .ok (.iload 4, 2) := by decide +kernel
theorem J_MSquareRows_group_d110 : decode J_MSquareRows_group.2.1 110 = .ok (.iload_n 1, 1) := by decide +kernel
theorem J_MSquareRows_group_d111 : decode J_MSquareRows_group.2.1 111 = .ok (.ifCond .ne 8, 3) := by decide +kernel
theorem J_MSquareRows_group_d114 : decode J_MSquareRows_group.2.1 114 = .ok (.bipush 10, 2) := by decide +kernel
theorem J_MSquareRows_group_d116 : decode J_MSquareRows_group.2.1 116 = .ok (.goto 16, 3) := by decide +kernel
theorem J_MSquareRows_group_d119 : decode J_MSquareRows_group.2.1 119 = .ok (.iload_n 1, 1) := by decide +kernel
theorem J_MSquareRows_group_d120 : decode J_MSquareRows_group.2.1 120 = .ok (.iconst 1, 1) := by decide +kernel
theorem J_MSquareRows_group_d121 : decode J_MSquareRows_group.2.1 121 = .ok (.if_icmp .ne 8, 3) := by decide +kernel
theorem J_MSquareRows_group_d124 : decode J_MSquareRows_group.2.1 124 = .ok (.bipush 45, 2) := by decide +kernel
theorem J_MSquareRows_group_d126 : decode J_MSquareRows_group.2.1 126 = .ok (.goto 6, 3) := by decide +kernel
theorem J_MSquareRows_group_d129 : decode J_MSquareRows_group.2.1 129 = .ok (.sipush 256, 3) := by decide +kernel
theorem J_MSquareRows_group_d132 : decode J_MSquareRows_group.2.1 132 = .ok (.idiv, 1) := by decide +kernel
theorem J_MSquareRows_group_d133 : decode J_MSquareRows_group.2.1 133 = .ok (.istore 5, 2) := by decide +kernel
theorem J_MSquareRows_group_d135 : decode J_MSquareRows_group.2.1 135 = .ok (.iload 5, 2) := by decide +kernel
theorem J_MSquareRows_group_d137 : decode J_MSquareRows_group.2.1 137 = .ok (.ifCond .le 75, 3) := by decide +kernel
theorem J_MSquareRows_group_d140 : decode J_MSquareRows_group.2.1 140 = .ok (.iload_n 3, 1) := by decide +kernel
theorem J_MSquareRows_group_d141 : decode J_MSquareRows_group.2.1 141 = .ok (.iload 5, 2) := by decide +kernel
theorem J_MSquareRows_group_d143 : decode J_MSquareRows_group.2.1 143 = .ok (.idiv, 1) := by decide +kernel
theorem J_MSquareRows_group_d144 : decode J_MSquareRows_group.2.1 144 = .ok (.istore 6, 2) := by decide +kernel
theorem J_MSquareRows_group_d146 : decode J_MSquareRows_group.2.1 146 = .ok (.iload_n 3, 1) := by decide +kernel
theorem J_MSquareRows_group_d147 : decode J_MSquareRows_group.2.1 147 = .ok (.iload 5, 2) := by decide +kernel
theorem J_MSquareRows_group_d149 : decode J_MSquareRows_group.2.1 149 = .ok (.irem, 1) := by decide +kernel
theorem J_MSquareRows_group_d150 : decode J_MSquareRows_group.2.1 150 = .ok (.istore_n 3, 1) := by decide +kernel
theorem J_MSquareRows_group_d151 : decode J_MSquareRows_group.2.1 151 = .ok (.aload_n 0, 1) := by decide +kernel
theorem J_MSquareRows_group_d152 : decode J_MSquareRows_group.2.1 152 = .ok (.iload_n 1, 1) := by decide +kernel
theorem J_MSquareRows_group_d153 : decode J_MSquareRows_group.2.1 153 = .ok (.ifCond .ne 11, 3) := by decide +kernel
theorem J_MSquareRows_group_d156 : decode J_MSquareRows_group.2.1 156 = .ok (.bipush 48, 2) := by decide +kernel
theorem J_MSquareRows_group_d158 : decode J_MSquareRows_group.2.1 158 = .ok (.iload 6, 2) := by decide +kernel
theorem J_MSquareRows_group_d160 : decode J_MSquareRows_group.2.1 160 = .ok (.iadd, 1) := by decide +kernel
theorem J_MSquareRows_group_d161 : decode J_MSquareRows_group.2.1 161 = .ok (.goto 18, 3) := by decide +kernel
theorem J_MSquareRows_group_d164 : decode J_MSquareRows_group.2.1 164 = .ok (.iload_n 1, 1) := by decide +kernel
theorem J_MSquareRows_group_d165 : decode J_MSquareRows_group.2.1 165 = .ok (.iconst 1, 1) := by decide +kernel
theorem J_MSquareRows_group_d166 : decode J_MSquareRows_group.2.1 166 = .ok (.if_icmp .ne 11, 3) := by decide +kernel
theorem J_MSquareRows_group_d169 : decode J_MSquareRows_group.2.1 169 = .ok (.iload 6, 2) := by decide +kernel
theorem J_MSquareRows_group_d171 : decode J_MSquareRows_group.2.1 171 = .ok (.invokestatic 294, 3) := by decide +kernel
theorem J_MSquareRows_group_d174 : decode J_MSquareRows_group.2.1 174 = .ok (.goto 5, 3) := by decide +kernel
theorem J_MSquareRows_group_d177 : decode J_MSquareRows_group.2.1 177 = .ok (.iload 6, 2) := by decide +kernel
theorem J_MSquareRows_group_d179 : decode J_MSquareRows_group.2.1 179 = .ok (.invokevirtual 297, 3) := by decide +kernel
theorem J_MSquareRows_group_d182 : decode J_MSquareRows_group.2.1 182 = .ok (.iload 5, 2) := by decide +kernel
theorem J_MSquareRows_group_d184 : decode J_MSquareRows_group.2.1 184 = .ok (.iload_n 1, 1) := by decide +kernel
theorem J_MSquareRows_group_d185 : decode J_MSquareRows_group.2.1 185 = .ok (.ifCond .ne 8, 3) := by decide +kernel
theorem J_MSquareRows_group_d188 : decode J_MSquareRows_group.2.1 188 = .ok (.bipush 10, 2) := by decide +kernel
theorem J_MSquareRows_group_d190 : decode J_MSquareRows_group.2.1 190 = .ok (.goto 16, 3) := by decide +kernel
theorem J_MSquareRows_group_d193 : decode J_MSquareRows_group.2.1 193 = .ok (.iload_n 1, 1) := by decide +kernel
theorem J_MSquareRows_group_d194 : decode J_MSquareRows_group.2.1 194 = .ok (.iconst 1, 1) := by decide +kernel
theorem J_MSquareRows_group_d195 : decode J_MSquareRows_group.2.1 195 = .ok (.if_icmp .ne 8, 3) := by decide +kernel
theorem J_MSquareRows_group_d198 : decode J_MSquareRows_group.2.1 198 = .ok (.bipush 45, 2) := by decide +kernel
theorem J_MSquareRows_group_d200 : decode J_MSquareRows_group.2.1 200 = .ok (.goto 6, 3) := by decide +kernel
theorem J_MSquareRows_group_d203 : decode J_MSquareRows_group.2.1 203 = .ok (.sipush 256, 3) := by decide +kernel
theorem J_MSquareRows_group_d206 : decode J_MSquareRows_group.2.1 206 = .ok (.idiv, 1) := by decide +kernel
theorem J_MSquareRows_group_d207 : decode J_MSquareRows_group.2.1 207 = .ok (.istore 5, 2) := by decide +kernel
theorem J_MSquareRows_group_d209 : decode J_MSquareRows_group.2.1 209 = .ok (.goto (-74), 3) := by decide +kernel
theorem J_MSquareRows_group_d212 : decode J_MSquareRows_group.2.1 212 = .ok (.return_, 1) := by decide +kernel
theorem f_MSquareRows_group_ok {L : Nat} {xs : Nat → Int32} {dep : Nat} {w : Bool} {p0 : Int32} {p1 : Int32} {M : im_M} {Q : im_M → Prop} (hM : lw_S w M) (h : ed (f_MSquareRows_group p0 p1 M) Q) : ia (tb_G L xs) (dep + 1) J_MSquareRows_group (rwV w Q) (0, lv_args 0 [.ref 108, .int p0, .int p1], [], M) := by
  have hS : im_St (tb_G L xs) (dep + 1) J_MSquareRows_group (ia (tb_G L xs) (dep + 1) J_MSquareRows_group (rwV w Q)) := ia_St
  unfold f_MSquareRows_group at h
  have l0 : im_lk (lv_args 0 [.ref 108, .int p0, .int p1]) 0 = some (.ref 108) := rfl
  have l1 : im_lk (lv_args 0 [.ref 108, .int p0, .int p1]) 1 = some (.int p0) := rfl
  have l2 : im_lk (lv_args 0 [.ref 108, .int p0, .int p1]) 2 = some (.int p1) := rfl
  refine iq_aload_n hS 1 J_MSquareRows_group_d0 l0 rfl ?_
  refine iq_iload_n hS 2 J_MSquareRows_group_d1 l1 rfl ?_
  have J1 : ∀ (z2 : Int32) (L' : List (Nat × Value)), z2 = ((if ¬ p0 = 0 then (if ¬ p0 = 1 then 8 else (((5 : Int32) * p1) + 1)) else (((3 : Int32) * p1) + 1)) : Int32) → im_lk L' 0 = some (.ref 108) → im_lk L' 1 = some (.int p0) → im_lk L' 2 = some (.int p1) → ia (tb_G L xs) (dep + 1) J_MSquareRows_group (rwV w Q) (28, L', [.int z2, .ref 108], M) := by
    intro z2 L' e3 l4 l5 l6
    subst e3
    obtain ⟨Q7, hQ7, h⟩ := bd2_ed h
    refine iq_cwI hS 31 J_MSquareRows_group_d28 rfl (pr_inst (vs := [_]) lc_16_291 lT_495 rfl rfl (by decide) (by decide) rfl (Nat.le_of_ble_eq_true rfl) (Nat.le_of_ble_eq_true rfl) (fun _ => Or.inl (pr_b (ka_108 hM) (by decide) rfl))) (f_MSquareRows_next_ok (dep := dep + 0) hM h) rfl ?_
    intro x7 M7 hM7 h
    replace h := hQ7 _ _ h
    refine iq_istore_n hS 32 J_MSquareRows_group_d31 (by decide) rfl ?_
    refine iq_aload_n hS 33 J_MSquareRows_group_d32 (lk_1r l4 (by decide)) rfl ?_
    refine iq_getI hS 36 J_MSquareRows_group_d33 lf_16_285 (Or.inl rfl) (ka_108 hM7) rfl ?_
    refine iq_if_le hS 39 J_MSquareRows_group_d36 (t := 40) rfl (fun q36 => ?_) rfl (fun q36 => ?_)
    · replace h := ed_pos q36 h
      refine iq_iload_n hS 41 J_MSquareRows_group_d40 (lk_1i l5 (by decide)) rfl ?_
      have J8 : ∀ (z9 : Int32) (L' : List (Nat × Value)), z9 = ((if ¬ p0 = 0 then (if ¬ p0 = 1 then 256 else (if ¬ p1 = 2 then 45 else 2025)) else (if ¬ p1 = 3 then (if ¬ p1 = 2 then 10 else 100) else 1000)) : Int32) → im_lk L' 0 = some (.ref 108) → im_lk L' 1 = some (.int p0) → im_lk L' 3 = some (.int x7) → ia (tb_G L xs) (dep + 1) J_MSquareRows_group (rwV w Q) (94, L', [.int z9], M7) := by
        intro z9 L' e10 l11 l12 l13
        subst e10
        refine iq_istore hS 96 J_MSquareRows_group_d94 (by decide) rfl ?_
        refine iq_iload_n hS 97 J_MSquareRows_group_d96 (lk_1i l13 (by decide)) rfl ?_
        refine iq_iload hS 99 J_MSquareRows_group_d97 lk_1s rfl ?_
        refine iq_icmp_lt hS 102 J_MSquareRows_group_d99 (t := 108) rfl (fun q99 => ?_) rfl (fun q99 => ?_)
        · replace h := ed_pos q99 h
          refine iq_iload hS 110 J_MSquareRows_group_d108 lk_1s rfl ?_
          refine iq_iload_n hS 111 J_MSquareRows_group_d110 (lk_1i l12 (by decide)) rfl ?_
          have J14 : ∀ (z15 : Int32) (L' : List (Nat × Value)), z15 = ((if ¬ p0 = 0 then (if ¬ p0 = 1 then 256 else 45) else 10) : Int32) → im_lk L' 0 = some (.ref 108) → im_lk L' 1 = some (.int p0) → im_lk L' 3 = some (.int x7) → ia (tb_G L xs) (dep + 1) J_MSquareRows_group (rwV w Q) (132, L', [.int z15, .int ((if ¬ p0 = 0 then (if ¬ p0 = 1 then 256 else (if ¬ p1 = 2 then 45 else 2025)) else (if ¬ p1 = 3 then (if ¬ p1 = 2 then 10 else 100) else 1000)) : Int32)], M7) := by
            intro z15 L' e16 l17 l18 l19
            subst e16
            obtain ⟨g132, h⟩ := ed_gd h
            refine iq_idiv hS 133 J_MSquareRows_group_d132 g132 rfl ?_
            refine iq_istore hS 135 J_MSquareRows_group_d133 (by decide) rfl ?_
            obtain ⟨Q20, hQ20, h⟩ := bd1_ed h
            have K20 : ∀ (M21 : im_M) (L' : List (Nat × Value)), lw_S w M21 → Q20 M21 → ia (tb_G L xs) (dep + 1) J_MSquareRows_group (rwV w Q) (212, L', [], M21) := by
              intro M21 L' hM21  h
              replace h := hQ20 _ h
              exact iq_ret J_MSquareRows_group_d212 rfl ⟨rfl, hM21, ed_some h⟩
            obtain ⟨r20, hr20, hq20⟩ := h
            obtain ⟨n20, hn20⟩ := lp_n hr20
            have I20 : ∀ (n : Nat) (x22 : Int32) (x23 : Int32) (M24 : im_M) (L' : List (Nat × Value)), lw_S w M24 → im_lk L' 0 = some (.ref 108) → im_lk L' 1 = some (.int p0) → im_lk L' 3 = some (.int x22) → im_lk L' 5 = some (.int x23) → lpn (uc3 (f_MSquareRows_group_L135 p0)) n (x22, x23, M24) = some r20 → ia (tb_G L xs) (dep + 1) J_MSquareRows_group (rwV w Q) (135, L', [], M24) := by
              intro n
              induction n with
              | zero => intro x22 x23 M24 L' hM24 l25 l26 l27 l28 hn; exact (lpn_0 hn).elim
              | succ n ih =>
                intro x22 x23 M24 L' hM24 l25 l26 l27 l28 hn
                have h := lpn_ed3 hn
                unfold f_MSquareRows_group_L135 at h
                refine iq_iload hS 137 J_MSquareRows_group_d135 l28 rfl ?_
                refine iq_if_le hS 140 J_MSquareRows_group_d137 (t := 212) rfl (fun q137 => ?_) rfl (fun q137 => ?_)
                · replace h := ed_pos q137 h
                  exact K20 _ _ hM24  (lq_r h hq20)
                · replace h := ed_neg q137 h
                  refine iq_iload_n hS 141 J_MSquareRows_group_d140 l27 rfl ?_
                  refine iq_iload hS 143 J_MSquareRows_group_d141 l28 rfl ?_
                  obtain ⟨g143, h⟩ := ed_gd h
                  refine iq_idiv hS 144 J_MSquareRows_group_d143 g143 rfl ?_
                  refine iq_istore hS 146 J_MSquareRows_group_d144 (by decide) rfl ?_
                  refine iq_iload_n hS 147 J_MSquareRows_group_d146 (lk_1i l27 (by decide)) rfl ?_
                  refine iq_iload hS 149 J_MSquareRows_group_d147 (lk_1i l28 (by decide)) rfl ?_
                  obtain ⟨g149, h⟩ := ed_gd h
                  refine iq_irem hS 150 J_MSquareRows_group_d149 g149 rfl ?_
                  refine iq_istore_n hS 151 J_MSquareRows_group_d150 (by decide) rfl ?_
                  refine iq_aload_n hS 152 J_MSquareRows_group_d151 (lk_1r (lk_1r l25 (by decide)) (by decide)) rfl ?_
                  refine iq_iload_n hS 153 J_MSquareRows_group_d152 (lk_1i (lk_1i l26 (by decide)) (by decide)) rfl ?_
                  obtain ⟨Q29, hQ29, h⟩ := bd1_ed h
                  have J29 : ∀ (y31 : Int32) (L' : List (Nat × Value)), im_lk L' 0 = some (.ref 108) → im_lk L' 1 = some (.int p0) → im_lk L' 3 = some (.int (x22 - x22 / x23 * x23)) → im_lk L' 5 = some (.int x23) → Q29 y31 → ia (tb_G L xs) (dep + 1) J_MSquareRows_group (rwV w Q) (179, L', [.int y31, .ref 108], M24) := by
                    intro y31 L' l32 l33 l34 l35 h
                    replace h := hQ29 _ h
                    obtain ⟨Q36, hQ36, h⟩ := bd1_ed h
                    refine iq_cwV hS 182 J_MSquareRows_group_d179 rfl (pr_inst (vs := [_]) lc_16_297 lT_498 rfl rfl (by decide) (by decide) rfl (Nat.le_of_ble_eq_true rfl) (Nat.le_of_ble_eq_true rfl) (fun _ => Or.inl (pr_b (ka_108 hM24) (by decide) rfl))) (f_MSquareRows_take_ok (dep := dep + 0) hM24 h) rfl ?_
                    intro M36 hM36 h
                    replace h := hQ36 _ h
                    refine iq_iload hS 184 J_MSquareRows_group_d182 l35 rfl ?_
                    refine iq_iload_n hS 185 J_MSquareRows_group_d184 l33 rfl ?_
                    have J37 : ∀ (z38 : Int32) (L' : List (Nat × Value)), z38 = ((if ¬ p0 = 0 then (if ¬ p0 = 1 then 256 else 45) else 10) : Int32) → im_lk L' 0 = some (.ref 108) → im_lk L' 1 = some (.int p0) → im_lk L' 3 = some (.int (x22 - x22 / x23 * x23)) → ia (tb_G L xs) (dep + 1) J_MSquareRows_group (rwV w Q) (206, L', [.int z38, .int x23], M36) := by
                      intro z38 L' e39 l40 l41 l42
                      subst e39
                      obtain ⟨g206, h⟩ := ed_gd h
                      refine iq_idiv hS 207 J_MSquareRows_group_d206 g206 rfl ?_
                      refine iq_istore hS 209 J_MSquareRows_group_d207 (by decide) rfl ?_
                      refine iq_goto hS J_MSquareRows_group_d209 (t := 135) rfl ?_
                      exact ih _ _ _ _ hM36 (lk_1r l40 (by decide)) (lk_1i l41 (by decide)) (lk_1i l42 (by decide)) lk_1s (lq_l h)
                    refine iq_if_ne hS 188 J_MSquareRows_group_d185 (t := 193) rfl (fun q185 => ?_) rfl (fun q185 => ?_)
                    · refine iq_iload_n hS 194 J_MSquareRows_group_d193 l33 rfl ?_
                      refine iq_iconst hS 195 J_MSquareRows_group_d194 (v := 1) (by decide +kernel) rfl ?_
                      refine iq_icmp_ne hS 198 J_MSquareRows_group_d195 (t := 203) rfl (fun q195 => ?_) rfl (fun q195 => ?_)
                      · refine iq_sipush hS 206 J_MSquareRows_group_d203 (v := 256) (by decide +kernel) rfl ?_
                        exact J37 _ _ (by rw [if_pos q185, if_pos q195]) l32 l33 l34
                      · refine iq_bipush hS 200 J_MSquareRows_group_d198 (v := 45) (by decide +kernel) rfl ?_
                        refine iq_goto hS J_MSquareRows_group_d200 (t := 206) rfl ?_
                        exact J37 _ _ (by rw [if_pos q185, if_neg q195]) l32 l33 l34
                    · refine iq_bipush hS 190 J_MSquareRows_group_d188 (v := 10) (by decide +kernel) rfl ?_
                      refine iq_goto hS J_MSquareRows_group_d190 (t := 206) rfl ?_
                      exact J37 _ _ (by rw [if_neg q185]) l32 l33 l34
                  refine iq_if_ne hS 156 J_MSquareRows_group_d153 (t := 164) rfl (fun q153 => ?_) rfl (fun q153 => ?_)
                  · replace h := ed_pos q153 h
                    refine iq_iload_n hS 165 J_MSquareRows_group_d164 (lk_1i (lk_1i l26 (by decide)) (by decide)) rfl ?_
                    refine iq_iconst hS 166 J_MSquareRows_group_d165 (v := 1) (by decide +kernel) rfl ?_
                    refine iq_icmp_ne hS 169 J_MSquareRows_group_d166 (t := 177) rfl (fun q166 => ?_) rfl (fun q166 => ?_)
                    · replace h := ed_pos q166 h
                      refine iq_iload hS 179 J_MSquareRows_group_d177 (lk_1i lk_1s (by decide)) rfl ?_
                      exact J29 _ _ (lk_1r (lk_1r l25 (by decide)) (by decide)) (lk_1i (lk_1i l26 (by decide)) (by decide)) lk_1s (lk_1i (lk_1i l28 (by decide)) (by decide)) (ed_some h)
                    · replace h := ed_neg q166 h
                      refine iq_iload hS 171 J_MSquareRows_group_d169 (lk_1i lk_1s (by decide)) rfl ?_
                      obtain ⟨Q30, hQ30, h⟩ := bd1_ed h
                      refine iq_cpI hS 174 J_MSquareRows_group_d171 rfl (pr_stat (vs := [_]) lc_16_294 lT_497 rfl rfl (by decide) rfl (Nat.le_of_ble_eq_true rfl) (Nat.le_of_ble_eq_true rfl)) (f_MSquareRows_byteOf_ok (dep := dep + 0) hM24 h) rfl ?_
                      intro x30 h
                      replace h := hQ30 _ h
                      refine iq_goto hS J_MSquareRows_group_d174 (t := 179) rfl ?_
                      exact J29 _ _ (lk_1r (lk_1r l25 (by decide)) (by decide)) (lk_1i (lk_1i l26 (by decide)) (by decide)) lk_1s (lk_1i (lk_1i l28 (by decide)) (by decide)) (ed_some h)
                  · replace h := ed_neg q153 h
                    refine iq_bipush hS 158 J_MSquareRows_group_d156 (v := 48) (by decide +kernel) rfl ?_
                    refine iq_iload hS 160 J_MSquareRows_group_d158 (lk_1i lk_1s (by decide)) rfl ?_
                    refine iq_iadd hS 161 J_MSquareRows_group_d160 rfl ?_
                    refine iq_goto hS J_MSquareRows_group_d161 (t := 179) rfl ?_
                    exact J29 _ _ (lk_1r (lk_1r l25 (by decide)) (by decide)) (lk_1i (lk_1i l26 (by decide)) (by decide)) lk_1s (lk_1i (lk_1i l28 (by decide)) (by decide)) (ed_some h)
            exact I20 n20 _ _ _ _ hM7 (lk_1r l17 (by decide)) (lk_1i l18 (by decide)) (lk_1i l19 (by decide)) lk_1s hn20
          refine iq_if_ne hS 114 J_MSquareRows_group_d111 (t := 119) rfl (fun q111 => ?_) rfl (fun q111 => ?_)
          · refine iq_iload_n hS 120 J_MSquareRows_group_d119 (lk_1i l12 (by decide)) rfl ?_
            refine iq_iconst hS 121 J_MSquareRows_group_d120 (v := 1) (by decide +kernel) rfl ?_
            refine iq_icmp_ne hS 124 J_MSquareRows_group_d121 (t := 129) rfl (fun q121 => ?_) rfl (fun q121 => ?_)
            · refine iq_sipush hS 132 J_MSquareRows_group_d129 (v := 256) (by decide +kernel) rfl ?_
              exact J14 _ _ (by rw [if_pos q111, if_pos q121]) (lk_1r l11 (by decide)) (lk_1i l12 (by decide)) (lk_1i l13 (by decide))
            · refine iq_bipush hS 126 J_MSquareRows_group_d124 (v := 45) (by decide +kernel) rfl ?_
              refine iq_goto hS J_MSquareRows_group_d126 (t := 132) rfl ?_
              exact J14 _ _ (by rw [if_pos q111, if_neg q121]) (lk_1r l11 (by decide)) (lk_1i l12 (by decide)) (lk_1i l13 (by decide))
          · refine iq_bipush hS 116 J_MSquareRows_group_d114 (v := 10) (by decide +kernel) rfl ?_
            refine iq_goto hS J_MSquareRows_group_d116 (t := 132) rfl ?_
            exact J14 _ _ (by rw [if_neg q111]) (lk_1r l11 (by decide)) (lk_1i l12 (by decide)) (lk_1i l13 (by decide))
        · replace h := ed_neg q99 h
          refine iq_aload_n hS 103 J_MSquareRows_group_d102 (lk_1r l11 (by decide)) rfl ?_
          refine iq_iconst hS 104 J_MSquareRows_group_d103 (v := 5) (by decide +kernel) rfl ?_
          refine iq_putI hS 107 J_MSquareRows_group_d104 lf_16_285 (Or.inl rfl) rfl (ka_108 hM7) rfl ?_
          exact iq_ret J_MSquareRows_group_d107 rfl ⟨rfl, hM7, ed_some h⟩
      refine iq_if_ne hS 44 J_MSquareRows_group_d41 (t := 70) rfl (fun q41 => ?_) rfl (fun q41 => ?_)
      · refine iq_iload_n hS 71 J_MSquareRows_group_d70 (lk_1i l5 (by decide)) rfl ?_
        refine iq_iconst hS 72 J_MSquareRows_group_d71 (v := 1) (by decide +kernel) rfl ?_
        refine iq_icmp_ne hS 75 J_MSquareRows_group_d72 (t := 91) rfl (fun q72 => ?_) rfl (fun q72 => ?_)
        · refine iq_sipush hS 94 J_MSquareRows_group_d91 (v := 256) (by decide +kernel) rfl ?_
          exact J8 _ _ (by rw [if_pos q41, if_pos q72]) (lk_1r l4 (by decide)) (lk_1i l5 (by decide)) lk_1s
        · refine iq_iload_n hS 76 J_MSquareRows_group_d75 (lk_1i l6 (by decide)) rfl ?_
          refine iq_iconst hS 77 J_MSquareRows_group_d76 (v := 2) (by decide +kernel) rfl ?_
          refine iq_icmp_ne hS 80 J_MSquareRows_group_d77 (t := 86) rfl (fun q77 => ?_) rfl (fun q77 => ?_)
          · refine iq_bipush hS 88 J_MSquareRows_group_d86 (v := 45) (by decide +kernel) rfl ?_
            refine iq_goto hS J_MSquareRows_group_d88 (t := 94) rfl ?_
            exact J8 _ _ (by rw [if_pos q41, if_neg q72, if_pos q77]) (lk_1r l4 (by decide)) (lk_1i l5 (by decide)) lk_1s
          · refine iq_sipush hS 83 J_MSquareRows_group_d80 (v := 2025) (by decide +kernel) rfl ?_
            refine iq_goto hS J_MSquareRows_group_d83 (t := 94) rfl ?_
            exact J8 _ _ (by rw [if_pos q41, if_neg q72, if_neg q77]) (lk_1r l4 (by decide)) (lk_1i l5 (by decide)) lk_1s
      · refine iq_iload_n hS 45 J_MSquareRows_group_d44 (lk_1i l6 (by decide)) rfl ?_
        refine iq_iconst hS 46 J_MSquareRows_group_d45 (v := 3) (by decide +kernel) rfl ?_
        refine iq_icmp_ne hS 49 J_MSquareRows_group_d46 (t := 55) rfl (fun q46 => ?_) rfl (fun q46 => ?_)
        · refine iq_iload_n hS 56 J_MSquareRows_group_d55 (lk_1i l6 (by decide)) rfl ?_
          refine iq_iconst hS 57 J_MSquareRows_group_d56 (v := 2) (by decide +kernel) rfl ?_
          refine iq_icmp_ne hS 60 J_MSquareRows_group_d57 (t := 65) rfl (fun q57 => ?_) rfl (fun q57 => ?_)
          · refine iq_bipush hS 67 J_MSquareRows_group_d65 (v := 10) (by decide +kernel) rfl ?_
            refine iq_goto hS J_MSquareRows_group_d67 (t := 94) rfl ?_
            exact J8 _ _ (by rw [if_neg q41, if_pos q46, if_pos q57]) (lk_1r l4 (by decide)) (lk_1i l5 (by decide)) lk_1s
          · refine iq_bipush hS 62 J_MSquareRows_group_d60 (v := 100) (by decide +kernel) rfl ?_
            refine iq_goto hS J_MSquareRows_group_d62 (t := 94) rfl ?_
            exact J8 _ _ (by rw [if_neg q41, if_pos q46, if_neg q57]) (lk_1r l4 (by decide)) (lk_1i l5 (by decide)) lk_1s
        · refine iq_sipush hS 52 J_MSquareRows_group_d49 (v := 1000) (by decide +kernel) rfl ?_
          refine iq_goto hS J_MSquareRows_group_d52 (t := 94) rfl ?_
          exact J8 _ _ (by rw [if_neg q41, if_neg q46]) (lk_1r l4 (by decide)) (lk_1i l5 (by decide)) lk_1s
    · replace h := ed_neg q36 h
      exact iq_ret J_MSquareRows_group_d39 rfl ⟨rfl, hM7, ed_some h⟩
  refine iq_if_ne hS 5 J_MSquareRows_group_d2 (t := 13) rfl (fun q2 => ?_) rfl (fun q2 => ?_)
  · refine iq_iload_n hS 14 J_MSquareRows_group_d13 l1 rfl ?_
    refine iq_iconst hS 15 J_MSquareRows_group_d14 (v := 1) (by decide +kernel) rfl ?_
    refine iq_icmp_ne hS 18 J_MSquareRows_group_d15 (t := 26) rfl (fun q15 => ?_) rfl (fun q15 => ?_)
    · refine iq_bipush hS 28 J_MSquareRows_group_d26 (v := 8) (by decide +kernel) rfl ?_
      exact J1 _ _ (by rw [if_pos q2, if_pos q15]) l0 l1 l2
    · refine iq_iconst hS 19 J_MSquareRows_group_d18 (v := 5) (by decide +kernel) rfl ?_
      refine iq_iload_n hS 20 J_MSquareRows_group_d19 l2 rfl ?_
      refine iq_imul hS 21 J_MSquareRows_group_d20 rfl ?_
      refine iq_iconst hS 22 J_MSquareRows_group_d21 (v := 1) (by decide +kernel) rfl ?_
      refine iq_iadd hS 23 J_MSquareRows_group_d22 rfl ?_
      refine iq_goto hS J_MSquareRows_group_d23 (t := 28) rfl ?_
      exact J1 _ _ (by rw [if_pos q2, if_neg q15]) l0 l1 l2
  · refine iq_iconst hS 6 J_MSquareRows_group_d5 (v := 3) (by decide +kernel) rfl ?_
    refine iq_iload_n hS 7 J_MSquareRows_group_d6 l2 rfl ?_
    refine iq_imul hS 8 J_MSquareRows_group_d7 rfl ?_
    refine iq_iconst hS 9 J_MSquareRows_group_d8 (v := 1) (by decide +kernel) rfl ?_
    refine iq_iadd hS 10 J_MSquareRows_group_d9 rfl ?_
    refine iq_goto hS J_MSquareRows_group_d10 (t := 28) rfl ?_
    exact J1 _ _ (by rw [if_neg q2]) l0 l1 l2
noncomputable def f_MSquareRows_segments_L139 (v19 : Int32) (v20 : Int32) (v21 : Int32) (v22 : Int32) (x23 : Int32) (M24 : im_M) : Option ((Int32 × im_M) ⊕ (im_M)) := if ¬ (im_i M24 108 31) = 0 then some (.inr M24) else if x23 ≤ 0 then some (.inr M24) else bd1 (f_MSquareRows_group v21 ((if v22 ≤ x23 then v22 else x23) : Int32) M24) fun (M26 : im_M) => some (.inl ((x23 - v22), M26))
noncomputable def f_MSquareRows_segments_L2 (v2 : Int32) (x3 : Int32) (M4 : im_M) : Option ((Int32 × im_M) ⊕ ((Int32 × im_M) ⊕ (im_M))) := if ¬ (im_i M4 108 31) = 0 then some (.inr (.inl (x3, M4))) else if ((im_i M4 108 30) - (im_i M4 108 29)) < 4 then some (.inr (.inl (x3, M4))) else bd2 (f_MSquareRows_next 4 M4) fun (x5 : Int32) (M5 : im_M) => if ¬ x5 = 0 then if 0 ≤ ((if ¬ x5 = 1 then (if ¬ x5 = 2 then (if ¬ x5 = 4 then (-1) else 2) else 1) else 0) : Int32) then bd1 (f_MSquareRows_rank v2 M5) fun (x7 : Int32) => bd1 (f_MSquareRows_lengthBits ((if ¬ x5 = 1 then (if ¬ x5 = 2 then (if ¬ x5 = 4 then (-1) else 2) else 1) else 0) : Int32) x7 M5) fun (x8 : Int32) => bd2 (f_MSquareRows_next x8 M5) fun (x9 : Int32) (M9 : im_M) => bd1 (if ¬ (im_i M9 108 31) = 0 then some M9 else if ((im_i M9 108 28) + x9) ≤ 3000 then some M9 else some (im_setI M9 108 31 6)) fun (M11 : im_M) => bd1 (lp (uc2 (f_MSquareRows_segments_L139 v2 x3 ((if ¬ x5 = 1 then (if ¬ x5 = 2 then (if ¬ x5 = 4 then (-1) else 2) else 1) else 0) : Int32) ((if ¬ ((if ¬ x5 = 1 then (if ¬ x5 = 2 then (if ¬ x5 = 4 then (-1) else 2) else 1) else 0) : Int32) = 0 then (if ¬ ((if ¬ x5 = 1 then (if ¬ x5 = 2 then (if ¬ x5 = 4 then (-1) else 2) else 1) else 0) : Int32) = 1 then 1 else 2) else 3) : Int32))) (x9, M11)) fun (M27 : im_M) => some (.inl ((x3 + 1), M27)) else some (.inr (.inr (im_setI M5 108 31 3))) else some (.inr (.inl (x3, M5)))
noncomputable def f_MSquareRows_segments (p0 : Int32) (M : im_M) : Option (im_M) := bs2 (lp (uc2 (f_MSquareRows_segments_L2 p0)) (0, M)) (fun (y28 : Int32) (M29 : im_M) => gd (inb 3 4) <| some (im_setI M29 129 (Int32.toNatClampNeg 3) y28)) (fun t => some t)
theorem J_MSquareRows_segments_d0 : decode J_MSquareRows_segments.2.1 0 = .ok (.iconst 0, 1) := by decide +kernel
theorem J_MSquareRows_segments_d1 : decode J_MSquareRows_segments.2.1 1 = .ok (.istore_n 2, 1) := by decide +kernel
theorem J_MSquareRows_segments_d2 : decode J_MSquareRows_segments.2.1 2 = .ok (.aload_n 0, 1) := by decide +kernel
theorem J_MSquareRows_segments_d3 : decode J_MSquareRows_segments.2.1 3 = .ok (.getfield 285, 3) := by decide +kernel
theorem J_MSquareRows_segments_d6 : decode J_MSquareRows_segments.2.1 6 = .ok (.ifCond .ne 181, 3) := by decide +kernel
theorem J_MSquareRows_segments_d9 : decode J_MSquareRows_segments.2.1 9 = .ok (.aload_n 0, 1) := by decide +kernel
theorem J_MSquareRows_segments_d10 : decode J_MSquareRows_segments.2.1 10 = .ok (.getfield 282, 3) := by decide +kernel
theorem J_MSquareRows_segments_d13 : decode J_MSquareRows_segments.2.1 13 = .ok (.aload_n 0, 1) := by decide +kernel
theorem J_MSquareRows_segments_d14 : decode J_MSquareRows_segments.2.1 14 = .ok (.getfield 279, 3) := by decide +kernel
theorem J_MSquareRows_segments_d17 : decode J_MSquareRows_segments.2.1 17 = .ok (.isub, 1) := by decide +kernel
theorem J_MSquareRows_segments_d18 : decode J_MSquareRows_segments.2.1 18 = .ok (.iconst 4, 1) := by decide +kernel
theorem J_MSquareRows_segments_d19 : decode J_MSquareRows_segments.2.1 19 = .ok (.if_icmp .lt 168, 3) := by decide +kernel
theorem J_MSquareRows_segments_d22 : decode J_MSquareRows_segments.2.1 22 = .ok (.aload_n 0, 1) := by decide +kernel
theorem J_MSquareRows_segments_d23 : decode J_MSquareRows_segments.2.1 23 = .ok (.iconst 4, 1) := by decide +kernel
theorem J_MSquareRows_segments_d24 : decode J_MSquareRows_segments.2.1 24 = .ok (.invokevirtual 291, 3) := by decide +kernel
theorem J_MSquareRows_segments_d27 : decode J_MSquareRows_segments.2.1 27 = .ok (.istore_n 3, 1) := by decide +kernel
theorem J_MSquareRows_segments_d28 : decode J_MSquareRows_segments.2.1 28 = .ok (.iload_n 3, 1) := by decide +kernel
theorem J_MSquareRows_segments_d29 : decode J_MSquareRows_segments.2.1 29 = .ok (.ifCond .ne 6, 3) := by decide +kernel
theorem J_MSquareRows_segments_d32 : decode J_MSquareRows_segments.2.1 32 = .ok (.goto 155, 3) := by decide +kernel
theorem J_MSquareRows_segments_d35 : decode J_MSquareRows_segments.2.1 35 = .ok (.iload_n 3, 1) := by decide +kernel
theorem J_MSquareRows_segments_d36 : decode J_MSquareRows_segments.2.1 36 = .ok (.iconst 1, 1) := by decide +kernel
theorem J_MSquareRows_segments_d37 : decode J_MSquareRows_segments.2.1 37 = .ok (.if_icmp .ne 7, 3) := by decide +kernel
theorem J_MSquareRows_segments_d40 : decode J_MSquareRows_segments.2.1 40 = .ok (.iconst 0, 1) := by decide +kernel
theorem J_MSquareRows_segments_d41 : decode J_MSquareRows_segments.2.1 41 = .ok (.goto 22, 3) := by decide +kernel
theorem J_MSquareRows_segments_d44 : decode J_MSquareRows_segments.2.1 44 = .ok (.iload_n 3, 1) := by decide +kernel
theorem J_MSquareRows_segments_d45 : decode J_MSquareRows_segments.2.1 45 = .ok (.iconst 2, 1) := by decide +kernel
theorem J_MSquareRows_segments_d46 : decode J_MSquareRows_segments.2.1 46 = .ok (.if_icmp .ne 7, 3) := by decide +kernel
theorem J_MSquareRows_segments_d49 : decode J_MSquareRows_segments.2.1 49 = .ok (.iconst 1, 1) := by decide +kernel
theorem J_MSquareRows_segments_d50 : decode J_MSquareRows_segments.2.1 50 = .ok (.goto 13, 3) := by decide +kernel
theorem J_MSquareRows_segments_d53 : decode J_MSquareRows_segments.2.1 53 = .ok (.iload_n 3, 1) := by decide +kernel
theorem J_MSquareRows_segments_d54 : decode J_MSquareRows_segments.2.1 54 = .ok (.iconst 4, 1) := by decide +kernel
theorem J_MSquareRows_segments_d55 : decode J_MSquareRows_segments.2.1 55 = .ok (.if_icmp .ne 7, 3) := by decide +kernel
theorem J_MSquareRows_segments_d58 : decode J_MSquareRows_segments.2.1 58 = .ok (.iconst 2, 1) := by decide +kernel
theorem J_MSquareRows_segments_d59 : decode J_MSquareRows_segments.2.1 59 = .ok (.goto 4, 3) := by decide +kernel
theorem J_MSquareRows_segments_d62 : decode J_MSquareRows_segments.2.1 62 = .ok (.iconst (-1), 1) := by decide +kernel
theorem J_MSquareRows_segments_d63 : decode J_MSquareRows_segments.2.1 63 = .ok (.istore 4, 2) := by decide +kernel
theorem J_MSquareRows_segments_d65 : decode J_MSquareRows_segments.2.1 65 = .ok (.iload 4, 2) := by decide +kernel
theorem J_MSquareRows_segments_d67 : decode J_MSquareRows_segments.2.1 67 = .ok (.ifCond .ge 9, 3) := by decide +kernel
theorem J_MSquareRows_segments_d70 : decode J_MSquareRows_segments.2.1 70 = .ok (.aload_n 0, 1) := by decide +kernel
theorem J_MSquareRows_segments_d71 : decode J_MSquareRows_segments.2.1 71 = .ok (.iconst 3, 1) := by decide +kernel
theorem J_MSquareRows_segments_d72 : decode J_MSquareRows_segments.2.1 72 = .ok (.putfield 285, 3) := by decide +kernel
theorem J_MSquareRows_segments_d75 : decode J_MSquareRows_segments.2.1 75 = .ok (.return_, 1) := by decide +kernel
theorem J_MSquareRows_segments_d76 : decode J_MSquareRows_segments.2.1 76 = .ok (.aload_n 0, 1) := by decide +kernel
theorem J_MSquareRows_segments_d77 : decode J_MSquareRows_segments.2.1 77 = .ok (.iload 4, 2) := by decide +kernel
theorem J_MSquareRows_segments_d79 : decode J_MSquareRows_segments.2.1 79 = .ok (.iload_n 1, 1) := by decide +kernel
theorem J_MSquareRows_segments_d80 : decode J_MSquareRows_segments.2.1 80 = .ok (.invokestatic 134, 3) := by decide +kernel
theorem J_MSquareRows_segments_d83 : decode J_MSquareRows_segments.2.1 83 = .ok (.invokestatic 99, 3) := by decide +kernel
theorem J_MSquareRows_segments_d86 : decode J_MSquareRows_segments.2.1 86 = .ok (.invokevirtual 291, 3) := by decide +kernel
theorem J_MSquareRows_segments_d89 : decode J_MSquareRows_segments.2.1 89 = .ok (.istore 5, 2) := by decide +kernel
theorem J_MSquareRows_segments_d91 : decode J_MSquareRows_segments.2.1 91 = .ok (.aload_n 0, 1) := by decide +kernel
theorem J_MSquareRows_segments_d92 : decode J_MSquareRows_segments.2.1 92 = .ok (.getfield 285, 3) := by decide +kernel
theorem J_MSquareRows_segments_d95 : decode J_MSquareRows_segments.2.1 95 = .ok (.ifCond .ne 22, 3) := by decide +kernel
theorem J_MSquareRows_segments_d98 : decode J_MSquareRows_segments.2.1 98 = .ok (.aload_n 0, 1) := by decide +kernel
theorem J_MSquareRows_segments_d99 : decode J_MSquareRows_segments.2.1 99 = .ok (.getfield 288, 3) := by decide +kernel
theorem J_MSquareRows_segments_d102 : decode J_MSquareRows_segments.2.1 102 = .ok (.iload 5, 2) := by decide +kernel
theorem J_MSquareRows_segments_d104 : decode J_MSquareRows_segments.2.1 104 = .ok (.iadd, 1) := by decide +kernel
theorem J_MSquareRows_segments_d105 : decode J_MSquareRows_segments.2.1 105 = .ok (.sipush 3000, 3) := by decide +kernel
theorem J_MSquareRows_segments_d108 : decode J_MSquareRows_segments.2.1 108 = .ok (.if_icmp .le 9, 3) := by decide +kernel
theorem J_MSquareRows_segments_d111 : decode J_MSquareRows_segments.2.1 111 = .ok (.aload_n 0, 1) := by decide +kernel
theorem J_MSquareRows_segments_d112 : decode J_MSquareRows_segments.2.1 112 = .ok (.bipush 6, 2) := by decide +kernel
theorem J_MSquareRows_segments_d114 : decode J_MSquareRows_segments.2.1 114 = .ok (.putfield 285, 3) := by decide +kernel
theorem J_MSquareRows_segments_d117 : decode J_MSquareRows_segments.2.1 117 = .ok (.iload 4, 2) := by decide +kernel
theorem J_MSquareRows_segments_d119 : decode J_MSquareRows_segments.2.1 119 = .ok (.ifCond .ne 7, 3) := by decide +kernel
theorem J_MSquareRows_segments_d122 : decode J_MSquareRows_segments.2.1 122 = .ok (.iconst 3, 1) := by decide +kernel
theorem J_MSquareRows_segments_d123 : decode J_MSquareRows_segments.2.1 123 = .ok (.goto 14, 3) := by decide +kernel
theorem J_MSquareRows_segments_d126 : decode J_MSquareRows_segments.2.1 126 = .ok (.iload 4, 2) := by decide +kernel
theorem J_MSquareRows_segments_d128 : decode J_MSquareRows_segments.2.1 128 = .ok (.iconst 1, 1) := by decide +kernel
theorem J_MSquareRows_segments_d129 : decode J_MSquareRows_segments.2.1 129 = .ok (.if_icmp .ne 7, 3) := by decide +kernel
theorem J_MSquareRows_segments_d132 : decode J_MSquareRows_segments.2.1 132 = .ok (.iconst 2, 1) := by decide +kernel
theorem J_MSquareRows_segments_d133 : decode J_MSquareRows_segments.2.1 133 = .ok (.goto 4, 3) := by decide +kernel
theorem J_MSquareRows_segments_d136 : decode J_MSquareRows_segments.2.1 136 = .ok (.iconst 1, 1) := by decide +kernel
theorem J_MSquareRows_segments_d137 : decode J_MSquareRows_segments.2.1 137 = .ok (.istore 6, 2) := by decide +kernel
theorem J_MSquareRows_segments_d139 : decode J_MSquareRows_segments.2.1 139 = .ok (.aload_n 0, 1) := by decide +kernel
theorem J_MSquareRows_segments_d140 : decode J_MSquareRows_segments.2.1 140 = .ok (.getfield 285, 3) := by decide +kernel
theorem J_MSquareRows_segments_d143 : decode J_MSquareRows_segments.2.1 143 = .ok (.ifCond .ne 38, 3) := by decide +kernel
theorem J_MSquareRows_segments_d146 : decode J_MSquareRows_segments.2.1 146 = .ok (.iload 5, 2) := by decide +kernel
theorem J_MSquareRows_segments_d148 : decode J_MSquareRows_segments.2.1 148 = .ok (.ifCond .le 33, 3) := by decide +kernel
theorem J_MSquareRows_segments_d151 : decode J_MSquareRows_segments.2.1 151 = .ok (.aload_n 0, 1) := by decide +kernel
theorem J_MSquareRows_segments_d152 : decode J_MSquareRows_segments.2.1 152 = .ok (.iload 4, 2) := by decide +kernel
theorem J_MSquareRows_segments_d154 : decode J_MSquareRows_segments.2.1 154 = .ok (.iload 5, 2) := by decide +kernel
theorem J_MSquareRows_segments_d156 : decode J_MSquareRows_segments.2.1 156 = .ok (.iload 6, 2) := by decide +kernel
theorem J_MSquareRows_segments_d158 : decode J_MSquareRows_segments.2.1 158 = .ok (.if_icmp .ge 8, 3) := by decide +kernel
theorem J_MSquareRows_segments_d161 : decode J_MSquareRows_segments.2.1 161 = .ok (.iload 5, 2) := by decide +kernel
theorem J_MSquareRows_segments_d163 : decode J_MSquareRows_segments.2.1 163 = .ok (.goto 5, 3) := by decide +kernel
theorem J_MSquareRows_segments_d166 : decode J_MSquareRows_segments.2.1 166 = .ok (.iload 6, 2) := by decide +kernel
theorem J_MSquareRows_segments_d168 : decode J_MSquareRows_segments.2.1 168 = .ok (.invokevirtual 300, 3) := by decide +kernel
theorem J_MSquareRows_segments_d171 : decode J_MSquareRows_segments.2.1 171 = .ok (.iload 5, 2) := by decide +kernel
theorem J_MSquareRows_segments_d173 : decode J_MSquareRows_segments.2.1 173 = .ok (.iload 6, 2) := by decide +kernel
theorem J_MSquareRows_segments_d175 : decode J_MSquareRows_segments.2.1 175 = .ok (.isub, 1) := by decide +kernel
theorem J_MSquareRows_segments_d176 : decode J_MSquareRows_segments.2.1 176 = .ok (.istore 5, 2) := by decide +kernel
theorem J_MSquareRows_segments_d178 : decode J_MSquareRows_segments.2.1 178 = .ok (.goto (-39), 3) := by decide +kernel
theorem J_MSquareRows_segments_d181 : decode J_MSquareRows_segments.2.1 181 = .ok (.iinc 2 1, 3) := by decide +kernel
theorem J_MSquareRows_segments_d184 : decode J_MSquareRows_segments.2.1 184 = .ok (.goto (-182), 3) := by decide +kernel
theorem J_MSquareRows_segments_d187 : decode J_MSquareRows_segments.2.1 187 = .ok (.aload_n 0, 1) := by decide +kernel
theorem J_MSquareRows_segments_d188 : decode J_MSquareRows_segments.2.1 188 = .ok (.getfield 70, 3) := by decide +kernel
theorem J_MSquareRows_segments_d191 : decode J_MSquareRows_segments.2.1 191 = .ok (.iconst 3, 1) := by decide +kernel
theorem J_MSquareRows_segments_d192 : decode J_MSquareRows_segments.2.1 192 = .ok (.iload_n 2, 1) := by decide +kernel
theorem J_MSquareRows_segments_d193 : decode J_MSquareRows_segments.2.1 193 = .ok (.iastore, 1) := by decide +kernel
theorem J_MSquareRows_segments_d194 : decode J_MSquareRows_segments.2.1 194 = .ok (.return_, 1) := by decide +kernel
theorem f_MSquareRows_segments_ok {L : Nat} {xs : Nat → Int32} {dep : Nat} {w : Bool} {p0 : Int32} {M : im_M} {Q : im_M → Prop} (hM : lw_S w M) (h : ed (f_MSquareRows_segments p0 M) Q) : ia (tb_G L xs) (dep + 2) J_MSquareRows_segments (rwV w Q) (0, lv_args 0 [.ref 108, .int p0], [], M) := by
  have hS : im_St (tb_G L xs) (dep + 2) J_MSquareRows_segments (ia (tb_G L xs) (dep + 2) J_MSquareRows_segments (rwV w Q)) := ia_St
  unfold f_MSquareRows_segments at h
  have l0 : im_lk (lv_args 0 [.ref 108, .int p0]) 0 = some (.ref 108) := rfl
  have l1 : im_lk (lv_args 0 [.ref 108, .int p0]) 1 = some (.int p0) := rfl
  refine iq_iconst hS 1 J_MSquareRows_segments_d0 (v := 0) (by decide +kernel) rfl ?_
  refine iq_istore_n hS 2 J_MSquareRows_segments_d1 (by decide) rfl ?_
  obtain ⟨Q1, hQ1, hR1, h⟩ := bs2_ed h
  have K1 : ∀ (y2 : Int32) (M3 : im_M) (L' : List (Nat × Value)), lw_S w M3 → im_lk L' 0 = some (.ref 108) → im_lk L' 2 = some (.int y2) → Q1 (.inl (y2, M3)) → ia (tb_G L xs) (dep + 2) J_MSquareRows_segments (rwV w Q) (187, L', [], M3) := by
    intro y2 M3 L' hM3 l4 l5 h
    replace h := hQ1 _ _ h
    refine iq_aload_n hS 188 J_MSquareRows_segments_d187 l4 rfl ?_
    refine iq_getR hS 191 J_MSquareRows_segments_d188 lf_16_70 (Or.inr ⟨_, rfl⟩) (ka_108 hM3) (ra_108_33 hM3) rfl ?_
    refine iq_iconst hS 192 J_MSquareRows_segments_d191 (v := 3) (by decide +kernel) rfl ?_
    refine iq_iload_n hS 193 J_MSquareRows_segments_d192 l5 rfl ?_
    obtain ⟨g193, h⟩ := ed_gd h
    refine iq_iastore hS 194 J_MSquareRows_segments_d193 ⟨(ka_129 hM3).1, (ka_129 hM3).2, g193.1, ix_lt (kl_129 hM3) g193.2⟩ rfl ?_
    exact iq_ret J_MSquareRows_segments_d194 rfl ⟨rfl, hM3, ed_some h⟩
  obtain ⟨r1, hr1, hq1⟩ := h
  obtain ⟨n1, hn1⟩ := lp_n hr1
  have I1 : ∀ (n : Nat) (x6 : Int32) (M7 : im_M) (L' : List (Nat × Value)), lw_S w M7 → im_lk L' 0 = some (.ref 108) → im_lk L' 1 = some (.int p0) → im_lk L' 2 = some (.int x6) → lpn (uc2 (f_MSquareRows_segments_L2 p0)) n (x6, M7) = some r1 → ia (tb_G L xs) (dep + 2) J_MSquareRows_segments (rwV w Q) (2, L', [], M7) := by
    intro n
    induction n with
    | zero => intro x6 M7 L' hM7 l8 l9 l10 hn; exact (lpn_0 hn).elim
    | succ n ih =>
      intro x6 M7 L' hM7 l8 l9 l10 hn
      have h := lpn_ed2 hn
      unfold f_MSquareRows_segments_L2 at h
      refine iq_aload_n hS 3 J_MSquareRows_segments_d2 l8 rfl ?_
      refine iq_getI hS 6 J_MSquareRows_segments_d3 lf_16_285 (Or.inl rfl) (ka_108 hM7) rfl ?_
      refine iq_if_ne hS 9 J_MSquareRows_segments_d6 (t := 187) rfl (fun q6 => ?_) rfl (fun q6 => ?_)
      · replace h := ed_pos q6 h
        exact K1 _ _ _ hM7 l8 l10 (lq_r h hq1)
      · replace h := ed_neg q6 h
        refine iq_aload_n hS 10 J_MSquareRows_segments_d9 l8 rfl ?_
        refine iq_getI hS 13 J_MSquareRows_segments_d10 lf_16_282 (Or.inl rfl) (ka_108 hM7) rfl ?_
        refine iq_aload_n hS 14 J_MSquareRows_segments_d13 l8 rfl ?_
        refine iq_getI hS 17 J_MSquareRows_segments_d14 lf_16_279 (Or.inl rfl) (ka_108 hM7) rfl ?_
        refine iq_isub hS 18 J_MSquareRows_segments_d17 rfl ?_
        refine iq_iconst hS 19 J_MSquareRows_segments_d18 (v := 4) (by decide +kernel) rfl ?_
        refine iq_icmp_lt hS 22 J_MSquareRows_segments_d19 (t := 187) rfl (fun q19 => ?_) rfl (fun q19 => ?_)
        · replace h := ed_pos q19 h
          exact K1 _ _ _ hM7 l8 l10 (lq_r h hq1)
        · replace h := ed_neg q19 h
          refine iq_aload_n hS 23 J_MSquareRows_segments_d22 l8 rfl ?_
          refine iq_iconst hS 24 J_MSquareRows_segments_d23 (v := 4) (by decide +kernel) rfl ?_
          obtain ⟨Q11, hQ11, h⟩ := bd2_ed h
          refine iq_cwI hS 27 J_MSquareRows_segments_d24 rfl (pr_inst (vs := [_]) lc_16_291 lT_495 rfl rfl (by decide) (by decide) rfl (Nat.le_of_ble_eq_true rfl) (Nat.le_of_ble_eq_true rfl) (fun _ => Or.inl (pr_b (ka_108 hM7) (by decide) rfl))) (f_MSquareRows_next_ok (dep := dep + 1) hM7 h) rfl ?_
          intro x11 M11 hM11 h
          replace h := hQ11 _ _ h
          refine iq_istore_n hS 28 J_MSquareRows_segments_d27 (by decide) rfl ?_
          refine iq_iload_n hS 29 J_MSquareRows_segments_d28 lk_1s rfl ?_
          refine iq_if_ne hS 32 J_MSquareRows_segments_d29 (t := 35) rfl (fun q29 => ?_) rfl (fun q29 => ?_)
          · replace h := ed_pos q29 h
            refine iq_iload_n hS 36 J_MSquareRows_segments_d35 lk_1s rfl ?_
            refine iq_iconst hS 37 J_MSquareRows_segments_d36 (v := 1) (by decide +kernel) rfl ?_
            have J12 : ∀ (z13 : Int32) (L' : List (Nat × Value)), z13 = ((if ¬ x11 = 1 then (if ¬ x11 = 2 then (if ¬ x11 = 4 then (-1) else 2) else 1) else 0) : Int32) → im_lk L' 0 = some (.ref 108) → im_lk L' 1 = some (.int p0) → im_lk L' 2 = some (.int x6) → ia (tb_G L xs) (dep + 2) J_MSquareRows_segments (rwV w Q) (63, L', [.int z13], M11) := by
              intro z13 L' e14 l15 l16 l17
              subst e14
              refine iq_istore hS 65 J_MSquareRows_segments_d63 (by decide) rfl ?_
              refine iq_iload hS 67 J_MSquareRows_segments_d65 lk_1s rfl ?_
              refine iq_if_ge hS 70 J_MSquareRows_segments_d67 (t := 76) rfl (fun q67 => ?_) rfl (fun q67 => ?_)
              · replace h := ed_pos q67 h
                refine iq_aload_n hS 77 J_MSquareRows_segments_d76 (lk_1r l15 (by decide)) rfl ?_
                refine iq_iload hS 79 J_MSquareRows_segments_d77 lk_1s rfl ?_
                refine iq_iload_n hS 80 J_MSquareRows_segments_d79 (lk_1i l16 (by decide)) rfl ?_
                obtain ⟨Q18, hQ18, h⟩ := bd1_ed h
                refine iq_cpI hS 83 J_MSquareRows_segments_d80 rfl (pr_stat (vs := [_]) lc_16_134 lT_385 rfl rfl (by decide) rfl (Nat.le_of_ble_eq_true rfl) (Nat.le_of_ble_eq_true rfl)) (f_MSquareRows_rank_ok (dep := dep + 1) hM11 h) rfl ?_
                intro x18 h
                replace h := hQ18 _ h
                obtain ⟨Q19, hQ19, h⟩ := bd1_ed h
                refine iq_cpI hS 86 J_MSquareRows_segments_d83 rfl (pr_stat (vs := [_, _]) lc_16_99 lT_393 rfl rfl (by decide) rfl (Nat.le_of_ble_eq_true rfl) (Nat.le_of_ble_eq_true rfl)) (f_MSquareRows_lengthBits_ok (dep := dep + 1) hM11 h) rfl ?_
                intro x19 h
                replace h := hQ19 _ h
                obtain ⟨Q20, hQ20, h⟩ := bd2_ed h
                refine iq_cwI hS 89 J_MSquareRows_segments_d86 rfl (pr_inst (vs := [_]) lc_16_291 lT_495 rfl rfl (by decide) (by decide) rfl (Nat.le_of_ble_eq_true rfl) (Nat.le_of_ble_eq_true rfl) (fun _ => Or.inl (pr_b (ka_108 hM11) (by decide) rfl))) (f_MSquareRows_next_ok (dep := dep + 1) hM11 h) rfl ?_
                intro x20 M20 hM20 h
                replace h := hQ20 _ _ h
                refine iq_istore hS 91 J_MSquareRows_segments_d89 (by decide) rfl ?_
                refine iq_aload_n hS 92 J_MSquareRows_segments_d91 (lk_1r (lk_1r l15 (by decide)) (by decide)) rfl ?_
                refine iq_getI hS 95 J_MSquareRows_segments_d92 lf_16_285 (Or.inl rfl) (ka_108 hM20) rfl ?_
                obtain ⟨Q21, hQ21, h⟩ := bd1_ed h
                have J21 : ∀ (M22 : im_M) (L' : List (Nat × Value)), lw_S w M22 → im_lk L' 0 = some (.ref 108) → im_lk L' 1 = some (.int p0) → im_lk L' 2 = some (.int x6) → im_lk L' 4 = some (.int ((if ¬ x11 = 1 then (if ¬ x11 = 2 then (if ¬ x11 = 4 then (-1) else 2) else 1) else 0) : Int32)) → im_lk L' 5 = some (.int x20) → Q21 M22 → ia (tb_G L xs) (dep + 2) J_MSquareRows_segments (rwV w Q) (117, L', [], M22) := by
                  intro M22 L' hM22 l23 l24 l25 l26 l27 h
                  replace h := hQ21 _ h
                  refine iq_iload hS 119 J_MSquareRows_segments_d117 l26 rfl ?_
                  have J28 : ∀ (z29 : Int32) (L' : List (Nat × Value)), z29 = ((if ¬ ((if ¬ x11 = 1 then (if ¬ x11 = 2 then (if ¬ x11 = 4 then (-1) else 2) else 1) else 0) : Int32) = 0 then (if ¬ ((if ¬ x11 = 1 then (if ¬ x11 = 2 then (if ¬ x11 = 4 then (-1) else 2) else 1) else 0) : Int32) = 1 then 1 else 2) else 3) : Int32) → im_lk L' 0 = some (.ref 108) → im_lk L' 1 = some (.int p0) → im_lk L' 2 = some (.int x6) → im_lk L' 4 = some (.int ((if ¬ x11 = 1 then (if ¬ x11 = 2 then (if ¬ x11 = 4 then (-1) else 2) else 1) else 0) : Int32)) → im_lk L' 5 = some (.int x20) → ia (tb_G L xs) (dep + 2) J_MSquareRows_segments (rwV w Q) (137, L', [.int z29], M22) := by
                    intro z29 L' e30 l31 l32 l33 l34 l35
                    subst e30
                    refine iq_istore hS 139 J_MSquareRows_segments_d137 (by decide) rfl ?_
                    obtain ⟨Q36, hQ36, h⟩ := bd1_ed h
                    have K36 : ∀ (M37 : im_M) (L' : List (Nat × Value)), lw_S w M37 → im_lk L' 0 = some (.ref 108) → im_lk L' 1 = some (.int p0) → im_lk L' 2 = some (.int x6) → Q36 M37 → ia (tb_G L xs) (dep + 2) J_MSquareRows_segments (rwV w Q) (181, L', [], M37) := by
                      intro M37 L' hM37 l38 l39 l40 h
                      replace h := hQ36 _ h
                      refine iq_iincv hS 184 J_MSquareRows_segments_d181 (c := 1) (by decide +kernel) l40 (by decide) rfl ?_
                      refine iq_goto hS J_MSquareRows_segments_d184 (t := 2) rfl ?_
                      exact ih _ _ _ hM37 (lk_1r l38 (by decide)) (lk_1i l39 (by decide)) lk_1s (lq_l h)
                    obtain ⟨r36, hr36, hq36⟩ := h
                    obtain ⟨n36, hn36⟩ := lp_n hr36
                    have I36 : ∀ (n : Nat) (x41 : Int32) (M42 : im_M) (L' : List (Nat × Value)), lw_S w M42 → im_lk L' 0 = some (.ref 108) → im_lk L' 1 = some (.int p0) → im_lk L' 2 = some (.int x6) → im_lk L' 4 = some (.int ((if ¬ x11 = 1 then (if ¬ x11 = 2 then (if ¬ x11 = 4 then (-1) else 2) else 1) else 0) : Int32)) → im_lk L' 5 = some (.int x41) → im_lk L' 6 = some (.int ((if ¬ ((if ¬ x11 = 1 then (if ¬ x11 = 2 then (if ¬ x11 = 4 then (-1) else 2) else 1) else 0) : Int32) = 0 then (if ¬ ((if ¬ x11 = 1 then (if ¬ x11 = 2 then (if ¬ x11 = 4 then (-1) else 2) else 1) else 0) : Int32) = 1 then 1 else 2) else 3) : Int32)) → lpn (uc2 (f_MSquareRows_segments_L139 p0 x6 ((if ¬ x11 = 1 then (if ¬ x11 = 2 then (if ¬ x11 = 4 then (-1) else 2) else 1) else 0) : Int32) ((if ¬ ((if ¬ x11 = 1 then (if ¬ x11 = 2 then (if ¬ x11 = 4 then (-1) else 2) else 1) else 0) : Int32) = 0 then (if ¬ ((if ¬ x11 = 1 then (if ¬ x11 = 2 then (if ¬ x11 = 4 then (-1) else 2) else 1) else 0) : Int32) = 1 then 1 else 2) else 3) : Int32))) n (x41, M42) = some r36 → ia (tb_G L xs) (dep + 2) J_MSquareRows_segments (rwV w Q) (139, L', [], M42) := by
                      intro n
                      induction n with
                      | zero => intro x41 M42 L' hM42 l43 l44 l45 l46 l47 l48 hn; exact (lpn_0 hn).elim
                      | succ n ih =>
                        intro x41 M42 L' hM42 l43 l44 l45 l46 l47 l48 hn
                        have h := lpn_ed2 hn
                        unfold f_MSquareRows_segments_L139 at h
                        refine iq_aload_n hS 140 J_MSquareRows_segments_d139 l43 rfl ?_
                        refine iq_getI hS 143 J_MSquareRows_segments_d140 lf_16_285 (Or.inl rfl) (ka_108 hM42) rfl ?_
                        refine iq_if_ne hS 146 J_MSquareRows_segments_d143 (t := 181) rfl (fun q143 => ?_) rfl (fun q143 => ?_)
                        · replace h := ed_pos q143 h
                          exact K36 _ _ hM42 l43 l44 l45 (lq_r h hq36)
                        · replace h := ed_neg q143 h
                          refine iq_iload hS 148 J_MSquareRows_segments_d146 l47 rfl ?_
                          refine iq_if_le hS 151 J_MSquareRows_segments_d148 (t := 181) rfl (fun q148 => ?_) rfl (fun q148 => ?_)
                          · replace h := ed_pos q148 h
                            exact K36 _ _ hM42 l43 l44 l45 (lq_r h hq36)
                          · replace h := ed_neg q148 h
                            refine iq_aload_n hS 152 J_MSquareRows_segments_d151 l43 rfl ?_
                            refine iq_iload hS 154 J_MSquareRows_segments_d152 l46 rfl ?_
                            refine iq_iload hS 156 J_MSquareRows_segments_d154 l47 rfl ?_
                            refine iq_iload hS 158 J_MSquareRows_segments_d156 l48 rfl ?_
                            have J49 : ∀ (z50 : Int32) (L' : List (Nat × Value)), z50 = ((if ((if ¬ ((if ¬ x11 = 1 then (if ¬ x11 = 2 then (if ¬ x11 = 4 then (-1) else 2) else 1) else 0) : Int32) = 0 then (if ¬ ((if ¬ x11 = 1 then (if ¬ x11 = 2 then (if ¬ x11 = 4 then (-1) else 2) else 1) else 0) : Int32) = 1 then 1 else 2) else 3) : Int32) ≤ x41 then ((if ¬ ((if ¬ x11 = 1 then (if ¬ x11 = 2 then (if ¬ x11 = 4 then (-1) else 2) else 1) else 0) : Int32) = 0 then (if ¬ ((if ¬ x11 = 1 then (if ¬ x11 = 2 then (if ¬ x11 = 4 then (-1) else 2) else 1) else 0) : Int32) = 1 then 1 else 2) else 3) : Int32) else x41) : Int32) → im_lk L' 0 = some (.ref 108) → im_lk L' 1 = some (.int p0) → im_lk L' 2 = some (.int x6) → im_lk L' 4 = some (.int ((if ¬ x11 = 1 then (if ¬ x11 = 2 then (if ¬ x11 = 4 then (-1) else 2) else 1) else 0) : Int32)) → im_lk L' 5 = some (.int x41) → im_lk L' 6 = some (.int ((if ¬ ((if ¬ x11 = 1 then (if ¬ x11 = 2 then (if ¬ x11 = 4 then (-1) else 2) else 1) else 0) : Int32) = 0 then (if ¬ ((if ¬ x11 = 1 then (if ¬ x11 = 2 then (if ¬ x11 = 4 then (-1) else 2) else 1) else 0) : Int32) = 1 then 1 else 2) else 3) : Int32)) → ia (tb_G L xs) (dep + 2) J_MSquareRows_segments (rwV w Q) (168, L', [.int z50, .int ((if ¬ x11 = 1 then (if ¬ x11 = 2 then (if ¬ x11 = 4 then (-1) else 2) else 1) else 0) : Int32), .ref 108], M42) := by
                              intro z50 L' e51 l52 l53 l54 l55 l56 l57
                              subst e51
                              obtain ⟨Q58, hQ58, h⟩ := bd1_ed h
                              refine iq_cwV hS 171 J_MSquareRows_segments_d168 rfl (pr_inst (vs := [_, _]) lc_16_300 lT_496 rfl rfl (by decide) (by decide) rfl (Nat.le_of_ble_eq_true rfl) (Nat.le_of_ble_eq_true rfl) (fun _ => Or.inl (pr_b (ka_108 hM42) (by decide) rfl))) (f_MSquareRows_group_ok (dep := dep + 0) hM42 h) rfl ?_
                              intro M58 hM58 h
                              replace h := hQ58 _ h
                              refine iq_iload hS 173 J_MSquareRows_segments_d171 l56 rfl ?_
                              refine iq_iload hS 175 J_MSquareRows_segments_d173 l57 rfl ?_
                              refine iq_isub hS 176 J_MSquareRows_segments_d175 rfl ?_
                              refine iq_istore hS 178 J_MSquareRows_segments_d176 (by decide) rfl ?_
                              refine iq_goto hS J_MSquareRows_segments_d178 (t := 139) rfl ?_
                              exact ih _ _ _ hM58 (lk_1r l52 (by decide)) (lk_1i l53 (by decide)) (lk_1i l54 (by decide)) (lk_1i l55 (by decide)) lk_1s (lk_1i l57 (by decide)) (lq_l h)
                            refine iq_icmp_ge hS 161 J_MSquareRows_segments_d158 (t := 166) rfl (fun q158 => ?_) rfl (fun q158 => ?_)
                            · refine iq_iload hS 168 J_MSquareRows_segments_d166 l48 rfl ?_
                              exact J49 _ _ (by rw [if_pos q158]) l43 l44 l45 l46 l47 l48
                            · refine iq_iload hS 163 J_MSquareRows_segments_d161 l47 rfl ?_
                              refine iq_goto hS J_MSquareRows_segments_d163 (t := 168) rfl ?_
                              exact J49 _ _ (by rw [if_neg q158]) l43 l44 l45 l46 l47 l48
                    exact I36 n36 _ _ _ hM22 (lk_1r l31 (by decide)) (lk_1i l32 (by decide)) (lk_1i l33 (by decide)) (lk_1i l34 (by decide)) (lk_1i l35 (by decide)) lk_1s hn36
                  refine iq_if_ne hS 122 J_MSquareRows_segments_d119 (t := 126) rfl (fun q119 => ?_) rfl (fun q119 => ?_)
                  · refine iq_iload hS 128 J_MSquareRows_segments_d126 l26 rfl ?_
                    refine iq_iconst hS 129 J_MSquareRows_segments_d128 (v := 1) (by decide +kernel) rfl ?_
                    refine iq_icmp_ne hS 132 J_MSquareRows_segments_d129 (t := 136) rfl (fun q129 => ?_) rfl (fun q129 => ?_)
                    · refine iq_iconst hS 137 J_MSquareRows_segments_d136 (v := 1) (by decide +kernel) rfl ?_
                      exact J28 _ _ (by rw [if_pos q119, if_pos q129]) l23 l24 l25 l26 l27
                    · refine iq_iconst hS 133 J_MSquareRows_segments_d132 (v := 2) (by decide +kernel) rfl ?_
                      refine iq_goto hS J_MSquareRows_segments_d133 (t := 137) rfl ?_
                      exact J28 _ _ (by rw [if_pos q119, if_neg q129]) l23 l24 l25 l26 l27
                  · refine iq_iconst hS 123 J_MSquareRows_segments_d122 (v := 3) (by decide +kernel) rfl ?_
                    refine iq_goto hS J_MSquareRows_segments_d123 (t := 137) rfl ?_
                    exact J28 _ _ (by rw [if_neg q119]) l23 l24 l25 l26 l27
                refine iq_if_ne hS 98 J_MSquareRows_segments_d95 (t := 117) rfl (fun q95 => ?_) rfl (fun q95 => ?_)
                · replace h := ed_pos q95 h
                  exact J21 _ _ hM20 (lk_1r (lk_1r l15 (by decide)) (by decide)) (lk_1i (lk_1i l16 (by decide)) (by decide)) (lk_1i (lk_1i l17 (by decide)) (by decide)) (lk_1i lk_1s (by decide)) lk_1s (ed_some h)
                · replace h := ed_neg q95 h
                  refine iq_aload_n hS 99 J_MSquareRows_segments_d98 (lk_1r (lk_1r l15 (by decide)) (by decide)) rfl ?_
                  refine iq_getI hS 102 J_MSquareRows_segments_d99 lf_16_288 (Or.inl rfl) (ka_108 hM20) rfl ?_
                  refine iq_iload hS 104 J_MSquareRows_segments_d102 lk_1s rfl ?_
                  refine iq_iadd hS 105 J_MSquareRows_segments_d104 rfl ?_
                  refine iq_sipush hS 108 J_MSquareRows_segments_d105 (v := 3000) (by decide +kernel) rfl ?_
                  refine iq_icmp_le hS 111 J_MSquareRows_segments_d108 (t := 117) rfl (fun q108 => ?_) rfl (fun q108 => ?_)
                  · replace h := ed_pos q108 h
                    exact J21 _ _ hM20 (lk_1r (lk_1r l15 (by decide)) (by decide)) (lk_1i (lk_1i l16 (by decide)) (by decide)) (lk_1i (lk_1i l17 (by decide)) (by decide)) (lk_1i lk_1s (by decide)) lk_1s (ed_some h)
                  · replace h := ed_neg q108 h
                    refine iq_aload_n hS 112 J_MSquareRows_segments_d111 (lk_1r (lk_1r l15 (by decide)) (by decide)) rfl ?_
                    refine iq_bipush hS 114 J_MSquareRows_segments_d112 (v := 6) (by decide +kernel) rfl ?_
                    refine iq_putI hS 117 J_MSquareRows_segments_d114 lf_16_285 (Or.inl rfl) rfl (ka_108 hM20) rfl ?_
                    exact J21 _ _ hM20 (lk_1r (lk_1r l15 (by decide)) (by decide)) (lk_1i (lk_1i l16 (by decide)) (by decide)) (lk_1i (lk_1i l17 (by decide)) (by decide)) (lk_1i lk_1s (by decide)) lk_1s (ed_some h)
              · replace h := ed_neg q67 h
                refine iq_aload_n hS 71 J_MSquareRows_segments_d70 (lk_1r l15 (by decide)) rfl ?_
                refine iq_iconst hS 72 J_MSquareRows_segments_d71 (v := 3) (by decide +kernel) rfl ?_
                refine iq_putI hS 75 J_MSquareRows_segments_d72 lf_16_285 (Or.inl rfl) rfl (ka_108 hM11) rfl ?_
                exact iq_ret J_MSquareRows_segments_d75 rfl ⟨rfl, hM11, ed_some (hR1 _ (lq_r h hq1))⟩
            refine iq_icmp_ne hS 40 J_MSquareRows_segments_d37 (t := 44) rfl (fun q37 => ?_) rfl (fun q37 => ?_)
            · refine iq_iload_n hS 45 J_MSquareRows_segments_d44 lk_1s rfl ?_
              refine iq_iconst hS 46 J_MSquareRows_segments_d45 (v := 2) (by decide +kernel) rfl ?_
              refine iq_icmp_ne hS 49 J_MSquareRows_segments_d46 (t := 53) rfl (fun q46 => ?_) rfl (fun q46 => ?_)
              · refine iq_iload_n hS 54 J_MSquareRows_segments_d53 lk_1s rfl ?_
                refine iq_iconst hS 55 J_MSquareRows_segments_d54 (v := 4) (by decide +kernel) rfl ?_
                refine iq_icmp_ne hS 58 J_MSquareRows_segments_d55 (t := 62) rfl (fun q55 => ?_) rfl (fun q55 => ?_)
                · refine iq_iconst hS 63 J_MSquareRows_segments_d62 (v := (-1)) (by decide +kernel) rfl ?_
                  exact J12 _ _ (by rw [if_pos q37, if_pos q46, if_pos q55]) (lk_1r l8 (by decide)) (lk_1i l9 (by decide)) (lk_1i l10 (by decide))
                · refine iq_iconst hS 59 J_MSquareRows_segments_d58 (v := 2) (by decide +kernel) rfl ?_
                  refine iq_goto hS J_MSquareRows_segments_d59 (t := 63) rfl ?_
                  exact J12 _ _ (by rw [if_pos q37, if_pos q46, if_neg q55]) (lk_1r l8 (by decide)) (lk_1i l9 (by decide)) (lk_1i l10 (by decide))
              · refine iq_iconst hS 50 J_MSquareRows_segments_d49 (v := 1) (by decide +kernel) rfl ?_
                refine iq_goto hS J_MSquareRows_segments_d50 (t := 63) rfl ?_
                exact J12 _ _ (by rw [if_pos q37, if_neg q46]) (lk_1r l8 (by decide)) (lk_1i l9 (by decide)) (lk_1i l10 (by decide))
            · refine iq_iconst hS 41 J_MSquareRows_segments_d40 (v := 0) (by decide +kernel) rfl ?_
              refine iq_goto hS J_MSquareRows_segments_d41 (t := 63) rfl ?_
              exact J12 _ _ (by rw [if_neg q37]) (lk_1r l8 (by decide)) (lk_1i l9 (by decide)) (lk_1i l10 (by decide))
          · replace h := ed_neg q29 h
            refine iq_goto hS J_MSquareRows_segments_d32 (t := 187) rfl ?_
            exact K1 _ _ _ hM11 (lk_1r l8 (by decide)) (lk_1i l10 (by decide)) (lq_r h hq1)
  exact I1 n1 _ _ _ hM (lk_1r l0 (by decide)) (lk_1i l1 (by decide)) lk_1s hn1
noncomputable def f_MSquareRows_read_L195 (x9 : Int32) (M10 : im_M) : Option ((Int32 × im_M) ⊕ (im_M)) := if (im_i M10 108 4) ≤ x9 then some (.inr M10) else gd (inb x9 3000) <| gd (inb x9 3000) <| some (.inl ((x9 + 1), (im_setI M10 111 (Int32.toNatClampNeg x9) (im_i M10 128 (Int32.toNatClampNeg x9)))))
noncomputable def f_MSquareRows_read (M : im_M) : Option (Int32 × im_M) := if ¬ (im_i (im_setI (im_setI M 108 0 0) 108 31 0) 108 7) = 0 then bd1 (f_MSquareRows_formNumberRead (im_setI (im_setI (im_setI M 108 0 0) 108 31 0) 108 32 0)) fun (x1 : Int32) => if 0 ≤ x1 then bd1 (f_MSquareRows_allCodewords (im_i (im_setI (im_setI (im_setI M 108 0 0) 108 31 0) 108 32 0) 108 7) (im_setI (im_setI (im_setI M 108 0 0) 108 31 0) 108 32 0)) fun (x3 : Int32) => bd1 (f_MSquareRows_goThrough (x1 &&& 7) 1 x3 (im_setI (im_setI (im_setI M 108 0 0) 108 31 0) 108 32 0)) fun (M4 : im_M) => bd2 (f_MSquareRows_allBlocks (im_i M4 108 7) ((if ¬ (x1 >>> (3 &&& 31)) = 1 then (if ¬ (x1 >>> (3 &&& 31)) = 0 then (if ¬ (x1 >>> (3 &&& 31)) = 3 then 3 else 2) else 1) else 0) : Int32) M4) fun (x5 : Int32) (M5 : im_M) => if 0 ≤ x5 then bd1 (f_MSquareRows_holds (im_i (im_setI M5 108 29 0) 108 7) ((if ¬ (x1 >>> (3 &&& 31)) = 1 then (if ¬ (x1 >>> (3 &&& 31)) = 0 then (if ¬ (x1 >>> (3 &&& 31)) = 3 then 3 else 2) else 1) else 0) : Int32) (im_setI M5 108 29 0)) fun (x6 : Int32) => bd1 (f_MSquareRows_segments (im_i (im_setI (im_setI (im_setI M5 108 29 0) 108 30 ((8 : Int32) * x6)) 108 28 0) 108 7) (im_setI (im_setI (im_setI M5 108 29 0) 108 30 ((8 : Int32) * x6)) 108 28 0)) fun (M7 : im_M) => if (im_i M7 108 31) ≤ 0 then gd (inb 0 4) <| gd (inb 1 4) <| gd (inb 2 4) <| bd1 (lp (uc2 (f_MSquareRows_read_L195)) (0, (im_setI (im_setI (im_setI (im_setI (im_setI M7 129 (Int32.toNatClampNeg 0) ((if ¬ (x1 >>> (3 &&& 31)) = 1 then (if ¬ (x1 >>> (3 &&& 31)) = 0 then (if ¬ (x1 >>> (3 &&& 31)) = 3 then 3 else 2) else 1) else 0) : Int32)) 129 (Int32.toNatClampNeg 1) (x1 &&& 7)) 129 (Int32.toNatClampNeg 2) x5) 108 32 1) 108 4 (im_i (im_setI (im_setI (im_setI (im_setI M7 129 (Int32.toNatClampNeg 0) ((if ¬ (x1 >>> (3 &&& 31)) = 1 then (if ¬ (x1 >>> (3 &&& 31)) = 0 then (if ¬ (x1 >>> (3 &&& 31)) = 3 then 3 else 2) else 1) else 0) : Int32)) 129 (Int32.toNatClampNeg 1) (x1 &&& 7)) 129 (Int32.toNatClampNeg 2) x5) 108 32 1) 108 28)))) fun (M11 : im_M) => some ((im_i M11 108 4), M11) else some ((-1), M7) else some ((-1), (im_setI M5 108 31 2)) else some ((-1), (im_setI (im_setI (im_setI (im_setI M 108 0 0) 108 31 0) 108 32 0) 108 31 1)) else some ((-1), (im_setI (im_setI M 108 0 0) 108 31 0))
theorem J_MSquareRows_read_d0 : decode J_MSquareRows_read.2.1 0 = .ok (.aload_n 0, 1) := by decide +kernel
theorem J_MSquareRows_read_d1 : decode J_MSquareRows_read.2.1 1 = .ok (.iconst 0, 1) := by decide +kernel
theorem J_MSquareRows_read_d2 : decode J_MSquareRows_read.2.1 2 = .ok (.putfield 73, 3) := by decide +kernel
theorem J_MSquareRows_read_d5 : decode J_MSquareRows_read.2.1 5 = .ok (.aload_n 0, 1) := by decide +kernel
theorem J_MSquareRows_read_d6 : decode J_MSquareRows_read.2.1 6 = .ok (.iconst 0, 1) := by decide +kernel
theorem J_MSquareRows_read_d7 : decode J_MSquareRows_read.2.1 7 = .ok (.putfield 285, 3) := by decide +kernel
theorem J_MSquareRows_read_d10 : decode J_MSquareRows_read.2.1 10 = .ok (.aload_n 0, 1) := by decide +kernel
theorem J_MSquareRows_read_d11 : decode J_MSquareRows_read.2.1 11 = .ok (.getfield 229, 3) := by decide +kernel
theorem J_MSquareRows_read_d14 : decode J_MSquareRows_read.2.1 14 = .ok (.ifCond .ne 5, 3) := by decide +kernel
theorem J_MSquareRows_read_d17 : decode J_MSquareRows_read.2.1 17 = .ok (.iconst (-1), 1) := by decide +kernel
theorem J_MSquareRows_read_d18 : decode J_MSquareRows_read.2.1 18 = .ok (.ireturn, 1) := by decide +kernel
theorem J_MSquareRows_read_d19 : decode J_MSquareRows_read.2.1 19 = .ok (.aload_n 0, 1) := by decide +kernel
theorem J_MSquareRows_read_d20 : decode J_MSquareRows_read.2.1 20 = .ok (.iconst 0, 1) := by decide +kernel
theorem J_MSquareRows_read_d21 : decode J_MSquareRows_read.2.1 21 = .ok (.putfield 303, 3) := by decide +kernel
theorem J_MSquareRows_read_d24 : decode J_MSquareRows_read.2.1 24 = .ok (.aload_n 0, 1) := by decide +kernel
theorem J_MSquareRows_read_d25 : decode J_MSquareRows_read.2.1 25 = .ok (.invokevirtual 306, 3) := by decide +kernel
theorem J_MSquareRows_read_d28 : decode J_MSquareRows_read.2.1 28 = .ok (.istore_n 1, 1) := by decide +kernel
theorem J_MSquareRows_read_d29 : decode J_MSquareRows_read.2.1 29 = .ok (.iload_n 1, 1) := by decide +kernel
theorem J_MSquareRows_read_d30 : decode J_MSquareRows_read.2.1 30 = .ok (.ifCond .ge 10, 3) := by decide +kernel
theorem J_MSquareRows_read_d33 : decode J_MSquareRows_read.2.1 33 = .ok (.aload_n 0, 1) := by decide +kernel
theorem J_MSquareRows_read_d34 : decode J_MSquareRows_read.2.1 34 = .ok (.iconst 1, 1) := by decide +kernel
theorem J_MSquareRows_read_d35 : decode J_MSquareRows_read.2.1 35 = .ok (.putfield 285, 3) := by decide +kernel
theorem J_MSquareRows_read_d38 : decode J_MSquareRows_read.2.1 38 = .ok (.iconst (-1), 1) := by decide +kernel
theorem J_MSquareRows_read_d39 : decode J_MSquareRows_read.2.1 39 = .ok (.ireturn, 1) := by decide +kernel
theorem J_MSquareRows_read_d40 : decode J_MSquareRows_read.2.1 40 = .ok (.iload_n 1, 1) := by decide +kernel
theorem J_MSquareRows_read_d41 : decode J_MSquareRows_read.2.1 41 = .ok (.iconst 3, 1) := by decide +kernel
theorem J_MSquareRows_read_d42 : decode J_MSquareRows_read.2.1 42 = .ok (.ishr, 1) := by decide +kernel
theorem J_MSquareRows_read_d43 : decode J_MSquareRows_read.2.1 43 = .ok (.istore_n 2, 1) := by decide +kernel
theorem J_MSquareRows_read_d44 : decode J_MSquareRows_read.2.1 44 = .ok (.iload_n 2, 1) := by decide +kernel
theorem J_MSquareRows_read_d45 : decode J_MSquareRows_read.2.1 45 = .ok (.iconst 1, 1) := by decide +kernel
theorem J_MSquareRows_read_d46 : decode J_MSquareRows_read.2.1 46 = .ok (.if_icmp .ne 7, 3) := by decide +kernel
theorem J_MSquareRows_read_d49 : decode J_MSquareRows_read.2.1 49 = .ok (.iconst 0, 1) := by decide +kernel
theorem J_MSquareRows_read_d50 : decode J_MSquareRows_read.2.1 50 = .ok (.goto 21, 3) := by decide +kernel
theorem J_MSquareRows_read_d53 : decode J_MSquareRows_read.2.1 53 = .ok (.iload_n 2, 1) := by decide +kernel
theorem J_MSquareRows_read_d54 : decode J_MSquareRows_read.2.1 54 = .ok (.ifCond .ne 7, 3) := by decide +kernel
theorem J_MSquareRows_read_d57 : decode J_MSquareRows_read.2.1 57 = .ok (.iconst 1, 1) := by decide +kernel
theorem J_MSquareRows_read_d58 : decode J_MSquareRows_read.2.1 58 = .ok (.goto 13, 3) := by decide +kernel
theorem J_MSquareRows_read_d61 : decode J_MSquareRows_read.2.1 61 = .ok (.iload_n 2, 1) := by decide +kernel
theorem J_MSquareRows_read_d62 : decode J_MSquareRows_read.2.1 62 = .ok (.iconst 3, 1) := by decide +kernel
theorem J_MSquareRows_read_d63 : decode J_MSquareRows_read.2.1 63 = .ok (.if_icmp .ne 7, 3) := by decide +kernel
theorem J_MSquareRows_read_d66 : decode J_MSquareRows_read.2.1 66 = .ok (.iconst 2, 1) := by decide +kernel
theorem J_MSquareRows_read_d67 : decode J_MSquareRows_read.2.1 67 = .ok (.goto 4, 3) := by decide +kernel
theorem J_MSquareRows_read_d70 : decode J_MSquareRows_read.2.1 70 = .ok (.iconst 3, 1) := by decide +kernel
theorem J_MSquareRows_read_d71 : decode J_MSquareRows_read.2.1 71 = .ok (.istore_n 3, 1) := by decide +kernel
theorem J_MSquareRows_read_d72 : decode J_MSquareRows_read.2.1 72 = .ok (.aload_n 0, 1) := by decide +kernel
theorem J_MSquareRows_read_d73 : decode J_MSquareRows_read.2.1 73 = .ok (.iload_n 1, 1) := by decide +kernel
theorem J_MSquareRows_read_d74 : decode J_MSquareRows_read.2.1 74 = .ok (.bipush 7, 2) := by decide +kernel
theorem J_MSquareRows_read_d76 : decode J_MSquareRows_read.2.1 76 = .ok (.iand, 1) := by decide +kernel
theorem J_MSquareRows_read_d77 : decode J_MSquareRows_read.2.1 77 = .ok (.iconst 1, 1) := by decide +kernel
theorem J_MSquareRows_read_d78 : decode J_MSquareRows_read.2.1 78 = .ok (.aload_n 0, 1) := by decide +kernel
theorem J_MSquareRows_read_d79 : decode J_MSquareRows_read.2.1 79 = .ok (.getfield 229, 3) := by decide +kernel
theorem J_MSquareRows_read_d82 : decode J_MSquareRows_read.2.1 82 = .ok (.invokestatic 82, 3) := by decide +kernel
theorem J_MSquareRows_read_d85 : decode J_MSquareRows_read.2.1 85 = .ok (.invokevirtual 238, 3) := by decide +kernel
theorem J_MSquareRows_read_d88 : decode J_MSquareRows_read.2.1 88 = .ok (.aload_n 0, 1) := by decide +kernel
theorem J_MSquareRows_read_d89 : decode J_MSquareRows_read.2.1 89 = .ok (.aload_n 0, 1) := by decide +kernel
theorem J_MSquareRows_read_d90 : decode J_MSquareRows_read.2.1 90 = .ok (.getfield 229, 3) := by decide +kernel
theorem J_MSquareRows_read_d93 : decode J_MSquareRows_read.2.1 93 = .ok (.iload_n 3, 1) := by decide +kernel
theorem J_MSquareRows_read_d94 : decode J_MSquareRows_read.2.1 94 = .ok (.invokevirtual 309, 3) := by decide +kernel
theorem J_MSquareRows_read_d97 : decode J_MSquareRows_read.2.1 97 = .ok (.istore 4, 2) := by decide +kernel
theorem J_MSquareRows_read_d99 : decode J_MSquareRows_read.2.1 99 = .ok (.iload 4, 2) := by decide +kernel
theorem J_MSquareRows_read_d101 : decode J_MSquareRows_read.2.1 101 = .ok (.ifCond .ge 10, 3) := by decide +kernel
theorem J_MSquareRows_read_d104 : decode J_MSquareRows_read.2.1 104 = .ok (.aload_n 0, 1) := by decide +kernel
theorem J_MSquareRows_read_d105 : decode J_MSquareRows_read.2.1 105 = .ok (.iconst 2, 1) := by decide +kernel
theorem J_MSquareRows_read_d106 : decode J_MSquareRows_read.2.1 106 = .ok (.putfield 285, 3) := by decide +kernel
theorem J_MSquareRows_read_d109 : decode J_MSquareRows_read.2.1 109 = .ok (.iconst (-1), 1) := by decide +kernel
theorem J_MSquareRows_read_d110 : decode J_MSquareRows_read.2.1 110 = .ok (.ireturn, 1) := by decide +kernel
theorem J_MSquareRows_read_d111 : decode J_MSquareRows_read.2.1 111 = .ok (.aload_n 0, 1) := by decide +kernel
theorem J_MSquareRows_read_d112 : decode J_MSquareRows_read.2.1 112 = .ok (.iconst 0, 1) := by decide +kernel
theorem J_MSquareRows_read_d113 : decode J_MSquareRows_read.2.1 113 = .ok (.putfield 279, 3) := by decide +kernel
theorem J_MSquareRows_read_d116 : decode J_MSquareRows_read.2.1 116 = .ok (.aload_n 0, 1) := by decide +kernel
theorem J_MSquareRows_read_d117 : decode J_MSquareRows_read.2.1 117 = .ok (.bipush 8, 2) := by decide +kernel
theorem J_MSquareRows_read_d119 : decode J_MSquareRows_read.2.1 119 = .ok (.aload_n 0, 1) := by decide +kernel
theorem J_MSquareRows_read_d120 : decode J_MSquareRows_read.2.1 120 = .ok (.aload_n 0, 1) := by decide +kernel
theorem J_MSquareRows_read_d121 : decode J_MSquareRows_read.2.1 121 = .ok (.getfield 229, 3) := by decide +kernel
theorem J_MSquareRows_read_d124 : decode J_MSquareRows_read.2.1 124 = .ok (.iload_n 3, 1) := by decide +kernel
theorem J_MSquareRows_read_d125 : decode J_MSquareRows_read.2.1 125 = .ok (.invokevirtual 141, 3) := by decide +kernel
theorem J_MSquareRows_read_d128 : decode J_MSquareRows_read.2.1 128 = .ok (.imul, 1) := by decide +kernel
theorem J_MSquareRows_read_d129 : decode J_MSquareRows_read.2.1 129 = .ok (.putfield 282, 3) := by decide +kernel
theorem J_MSquareRows_read_d132 : decode J_MSquareRows_read.2.1 132 = .ok (.aload_n 0, 1) := by decide +kernel
theorem J_MSquareRows_read_d133 : decode J_MSquareRows_read.2.1 133 = .ok (.iconst 0, 1) := by decide +kernel
theorem J_MSquareRows_read_d134 : decode J_MSquareRows_read.2.1 134 = .ok (.putfield 288, 3) := by decide +kernel
theorem J_MSquareRows_read_d137 : decode J_MSquareRows_read.2.1 137 = .ok (.aload_n 0, 1) := by decide +kernel
theorem J_MSquareRows_read_d138 : decode J_MSquareRows_read.2.1 138 = .ok (.aload_n 0, 1) := by decide +kernel
theorem J_MSquareRows_read_d139 : decode J_MSquareRows_read.2.1 139 = .ok (.getfield 229, 3) := by decide +kernel
theorem J_MSquareRows_read_d142 : decode J_MSquareRows_read.2.1 142 = .ok (.invokevirtual 312, 3) := by decide +kernel
theorem J_MSquareRows_read_d145 : decode J_MSquareRows_read.2.1 145 = .ok (.aload_n 0, 1) := by decide +kernel
theorem J_MSquareRows_read_d146 : decode J_MSquareRows_read.2.1 146 = .ok (.getfield 285, 3) := by decide +kernel
theorem J_MSquareRows_read_d149 : decode J_MSquareRows_read.2.1 149 = .ok (.ifCond .le 5, 3) := by decide +kernel
theorem J_MSquareRows_read_d152 : decode J_MSquareRows_read.2.1 152 = .ok (.iconst (-1), 1) := by decide +kernel
theorem J_MSquareRows_read_d153 : decode J_MSquareRows_read.2.1 153 = .ok (.ireturn, 1) := by decide +kernel
theorem J_MSquareRows_read_d154 : decode J_MSquareRows_read.2.1 154 = .ok (.aload_n 0, 1) := by decide +kernel
theorem J_MSquareRows_read_d155 : decode J_MSquareRows_read.2.1 155 = .ok (.getfield 70, 3) := by decide +kernel
theorem J_MSquareRows_read_d158 : decode J_MSquareRows_read.2.1 158 = .ok (.iconst 0, 1) := by decide +kernel
theorem J_MSquareRows_read_d159 : decode J_MSquareRows_read.2.1 159 = .ok (.iload_n 3, 1) := by decide +kernel
theorem J_MSquareRows_read_d160 : decode J_MSquareRows_read.2.1 160 = .ok (.iastore, 1) := by decide +kernel
theorem J_MSquareRows_read_d161 : decode J_MSquareRows_read.2.1 161 = .ok (.aload_n 0, 1) := by decide +kernel
theorem J_MSquareRows_read_d162 : decode J_MSquareRows_read.2.1 162 = .ok (.getfield 70, 3) := by decide +kernel
theorem J_MSquareRows_read_d165 : decode J_MSquareRows_read.2.1 165 = .ok (.iconst 1, 1) := by decide +kernel
theorem J_MSquareRows_read_d166 : decode J_MSquareRows_read.2.1 166 = .ok (.iload_n 1, 1) := by decide +kernel
theorem J_MSquareRows_read_d167 : decode J_MSquareRows_read.2.1 167 = .ok (.bipush 7, 2) := by decide +kernel
theorem J_MSquareRows_read_d169 : decode J_MSquareRows_read.2.1 169 = .ok (.iand, 1) := by decide +kernel
theorem J_MSquareRows_read_d170 : decode J_MSquareRows_read.2.1 170 = .ok (.iastore, 1) := by decide +kernel
theorem J_MSquareRows_read_d171 : decode J_MSquareRows_read.2.1 171 = .ok (.aload_n 0, 1) := by decide +kernel
theorem J_MSquareRows_read_d172 : decode J_MSquareRows_read.2.1 172 = .ok (.getfield 70, 3) := by decide +kernel
theorem J_MSquareRows_read_d175 : decode J_MSquareRows_read.2.1 175 = .ok (.iconst 2, 1) := by decide +kernel
theorem J_MSquareRows_read_d176 : decode J_MSquareRows_read.2.1 176 = .ok (.iload 4, 2) := by decide +kernel
theorem J_MSquareRows_read_d178 : decode J_MSquareRows_read.2.1 178 = .ok (.iastore, 1) := by decide +kernel
theorem J_MSquareRows_read_d179 : decode J_MSquareRows_read.2.1 179 = .ok (.aload_n 0, 1) := by decide +kernel
theorem J_MSquareRows_read_d180 : decode J_MSquareRows_read.2.1 180 = .ok (.iconst 1, 1) := by decide +kernel
theorem J_MSquareRows_read_d181 : decode J_MSquareRows_read.2.1 181 = .ok (.putfield 303, 3) := by decide +kernel
theorem J_MSquareRows_read_d184 : decode J_MSquareRows_read.2.1 184 = .ok (.aload_n 0, 1) := by decide +kernel
theorem J_MSquareRows_read_d185 : decode J_MSquareRows_read.2.1 185 = .ok (.aload_n 0, 1) := by decide +kernel
theorem J_MSquareRows_read_d186 : decode J_MSquareRows_read.2.1 186 = .ok (.getfield 288, 3) := by decide +kernel
theorem J_MSquareRows_read_d189 : decode J_MSquareRows_read.2.1 189 = .ok (.putfield 77, 3) := by decide +kernel
theorem J_MSquareRows_read_d192 : decode J_MSquareRows_read.2.1 192 = .ok (.iconst 0, 1) := by decide +kernel
theorem J_MSquareRows_read_d193 : decode J_MSquareRows_read.2.1 193 = .ok (.istore 5, 2) := by decide +kernel
theorem J_MSquareRows_read_d195 : decode J_MSquareRows_read.2.1 195 = .ok (.iload 5, 2) := by decide +kernel
theorem J_MSquareRows_read_d197 : decode J_MSquareRows_read.2.1 197 = .ok (.aload_n 0, 1) := by decide +kernel
theorem J_MSquareRows_read_d198 : decode J_MSquareRows_read.2.1 198 = .ok (.getfield 77, 3) := by decide +kernel
theorem J_MSquareRows_read_d201 : decode J_MSquareRows_read.2.1 201 = .ok (.if_icmp .ge 23, 3) := by decide +kernel
theorem J_MSquareRows_read_d204 : decode J_MSquareRows_read.2.1 204 = .ok (.aload_n 0, 1) := by decide +kernel
theorem J_MSquareRows_read_d205 : decode J_MSquareRows_read.2.1 205 = .ok (.getfield 16, 3) := by decide +kernel
theorem J_MSquareRows_read_d208 : decode J_MSquareRows_read.2.1 208 = .ok (.iload 5, 2) := by decide +kernel
theorem J_MSquareRows_read_d210 : decode J_MSquareRows_read.2.1 210 = .ok (.aload_n 0, 1) := by decide +kernel
theorem J_MSquareRows_read_d211 : decode J_MSquareRows_read.2.1 211 = .ok (.getfield 67, 3) := by decide +kernel
theorem J_MSquareRows_read_d214 : decode J_MSquareRows_read.2.1 214 = .ok (.iload 5, 2) := by decide +kernel
theorem J_MSquareRows_read_d216 : decode J_MSquareRows_read.2.1 216 = .ok (.iaload, 1) := by decide +kernel
theorem J_MSquareRows_read_d217 : decode J_MSquareRows_read.2.1 217 = .ok (.iastore, 1) := by decide +kernel
theorem J_MSquareRows_read_d218 : decode J_MSquareRows_read.2.1 218 = .ok (.iinc 5 1, 3) := by decide +kernel
theorem J_MSquareRows_read_d221 : decode J_MSquareRows_read.2.1 221 = .ok (.goto (-26), 3) := by decide +kernel
theorem J_MSquareRows_read_d224 : decode J_MSquareRows_read.2.1 224 = .ok (.aload_n 0, 1) := by decide +kernel
theorem J_MSquareRows_read_d225 : decode J_MSquareRows_read.2.1 225 = .ok (.getfield 77, 3) := by decide +kernel
theorem J_MSquareRows_read_d228 : decode J_MSquareRows_read.2.1 228 = .ok (.ireturn, 1) := by decide +kernel
theorem f_MSquareRows_read_ok {L : Nat} {xs : Nat → Int32} {dep : Nat} {w : Bool} {M : im_M} {Q : Int32 × im_M → Prop} (hM : lw_S w M) (h : ed (f_MSquareRows_read M) Q) : ia (tb_G L xs) (dep + 6) J_MSquareRows_read (rwI w Q) (0, lv_args 0 [.ref 108], [], M) := by
  have hS : im_St (tb_G L xs) (dep + 6) J_MSquareRows_read (ia (tb_G L xs) (dep + 6) J_MSquareRows_read (rwI w Q)) := ia_St
  unfold f_MSquareRows_read at h
  have l0 : im_lk (lv_args 0 [.ref 108]) 0 = some (.ref 108) := rfl
  refine iq_aload_n hS 1 J_MSquareRows_read_d0 l0 rfl ?_
  refine iq_iconst hS 2 J_MSquareRows_read_d1 (v := 0) (by decide +kernel) rfl ?_
  refine iq_putI hS 5 J_MSquareRows_read_d2 lf_16_73 (Or.inl rfl) rfl (ka_108 hM) rfl ?_
  refine iq_aload_n hS 6 J_MSquareRows_read_d5 l0 rfl ?_
  refine iq_iconst hS 7 J_MSquareRows_read_d6 (v := 0) (by decide +kernel) rfl ?_
  refine iq_putI hS 10 J_MSquareRows_read_d7 lf_16_285 (Or.inl rfl) rfl (ka_108 hM) rfl ?_
  refine iq_aload_n hS 11 J_MSquareRows_read_d10 l0 rfl ?_
  refine iq_getI hS 14 J_MSquareRows_read_d11 lf_16_229 (Or.inl rfl) (ka_108 hM) rfl ?_
  refine iq_if_ne hS 17 J_MSquareRows_read_d14 (t := 19) rfl (fun q14 => ?_) rfl (fun q14 => ?_)
  · replace h := ed_pos q14 h
    refine iq_aload_n hS 20 J_MSquareRows_read_d19 l0 rfl ?_
    refine iq_iconst hS 21 J_MSquareRows_read_d20 (v := 0) (by decide +kernel) rfl ?_
    refine iq_putZ hS 24 J_MSquareRows_read_d21 lf_16_303 (Or.inl rfl) rfl (ka_108 hM) (Or.inl rfl) rfl ?_
    refine iq_aload_n hS 25 J_MSquareRows_read_d24 l0 rfl ?_
    obtain ⟨Q1, hQ1, h⟩ := bd1_ed h
    refine iq_cpI hS 28 J_MSquareRows_read_d25 rfl (pr_inst (vs := []) lc_16_306 lT_483 rfl rfl (by decide) (by decide) rfl (Nat.le_of_ble_eq_true rfl) (Nat.le_of_ble_eq_true rfl) (fun _ => Or.inl (pr_b (ka_108 hM) (by decide) rfl))) (f_MSquareRows_formNumberRead_ok (dep := dep + 3) hM h) rfl ?_
    intro x1 h
    replace h := hQ1 _ h
    refine iq_istore_n hS 29 J_MSquareRows_read_d28 (by decide) rfl ?_
    refine iq_iload_n hS 30 J_MSquareRows_read_d29 lk_1s rfl ?_
    refine iq_if_ge hS 33 J_MSquareRows_read_d30 (t := 40) rfl (fun q30 => ?_) rfl (fun q30 => ?_)
    · replace h := ed_pos q30 h
      refine iq_iload_n hS 41 J_MSquareRows_read_d40 lk_1s rfl ?_
      refine iq_iconst hS 42 J_MSquareRows_read_d41 (v := 3) (by decide +kernel) rfl ?_
      refine iq_ishr hS 43 J_MSquareRows_read_d42 rfl ?_
      refine iq_istore_n hS 44 J_MSquareRows_read_d43 (by decide) rfl ?_
      refine iq_iload_n hS 45 J_MSquareRows_read_d44 lk_1s rfl ?_
      refine iq_iconst hS 46 J_MSquareRows_read_d45 (v := 1) (by decide +kernel) rfl ?_
      have J2 : ∀ (z3 : Int32) (L' : List (Nat × Value)), z3 = ((if ¬ (x1 >>> (3 &&& 31)) = 1 then (if ¬ (x1 >>> (3 &&& 31)) = 0 then (if ¬ (x1 >>> (3 &&& 31)) = 3 then 3 else 2) else 1) else 0) : Int32) → im_lk L' 0 = some (.ref 108) → im_lk L' 1 = some (.int x1) → ia (tb_G L xs) (dep + 6) J_MSquareRows_read (rwI w Q) (71, L', [.int z3], (im_setI (im_setI (im_setI M 108 0 0) 108 31 0) 108 32 0)) := by
        intro z3 L' e4 l5 l6
        subst e4
        refine iq_istore_n hS 72 J_MSquareRows_read_d71 (by decide) rfl ?_
        refine iq_aload_n hS 73 J_MSquareRows_read_d72 (lk_1r l5 (by decide)) rfl ?_
        refine iq_iload_n hS 74 J_MSquareRows_read_d73 (lk_1i l6 (by decide)) rfl ?_
        refine iq_bipush hS 76 J_MSquareRows_read_d74 (v := 7) (by decide +kernel) rfl ?_
        refine iq_iand hS 77 J_MSquareRows_read_d76 rfl ?_
        refine iq_iconst hS 78 J_MSquareRows_read_d77 (v := 1) (by decide +kernel) rfl ?_
        refine iq_aload_n hS 79 J_MSquareRows_read_d78 (lk_1r l5 (by decide)) rfl ?_
        refine iq_getI hS 82 J_MSquareRows_read_d79 lf_16_229 (Or.inl rfl) (ka_108 hM) rfl ?_
        obtain ⟨Q7, hQ7, h⟩ := bd1_ed h
        refine iq_cpI hS 85 J_MSquareRows_read_d82 rfl (pr_stat (vs := [_]) lc_16_82 lT_396 rfl rfl (by decide) rfl (Nat.le_of_ble_eq_true rfl) (Nat.le_of_ble_eq_true rfl)) (f_MSquareRows_allCodewords_ok (dep := dep + 5) hM h) rfl ?_
        intro x7 h
        replace h := hQ7 _ h
        obtain ⟨Q8, hQ8, h⟩ := bd1_ed h
        refine iq_cwV hS 88 J_MSquareRows_read_d85 rfl (pr_inst (vs := [_, _, _]) lc_16_238 lT_422 rfl rfl (by decide) (by decide) rfl (Nat.le_of_ble_eq_true rfl) (Nat.le_of_ble_eq_true rfl) (fun _ => Or.inl (pr_b (ka_108 hM) (by decide) rfl))) (f_MSquareRows_goThrough_ok (dep := dep + 4) hM h) rfl ?_
        intro M8 hM8 h
        replace h := hQ8 _ h
        refine iq_aload_n hS 89 J_MSquareRows_read_d88 (lk_1r l5 (by decide)) rfl ?_
        refine iq_aload_n hS 90 J_MSquareRows_read_d89 (lk_1r l5 (by decide)) rfl ?_
        refine iq_getI hS 93 J_MSquareRows_read_d90 lf_16_229 (Or.inl rfl) (ka_108 hM8) rfl ?_
        refine iq_iload_n hS 94 J_MSquareRows_read_d93 lk_1s rfl ?_
        obtain ⟨Q9, hQ9, h⟩ := bd2_ed h
        refine iq_cwI hS 97 J_MSquareRows_read_d94 rfl (pr_inst (vs := [_, _]) lc_16_309 lT_486 rfl rfl (by decide) (by decide) rfl (Nat.le_of_ble_eq_true rfl) (Nat.le_of_ble_eq_true rfl) (fun _ => Or.inl (pr_b (ka_108 hM8) (by decide) rfl))) (f_MSquareRows_allBlocks_ok (dep := dep + 0) hM8 h) rfl ?_
        intro x9 M9 hM9 h
        replace h := hQ9 _ _ h
        refine iq_istore hS 99 J_MSquareRows_read_d97 (by decide) rfl ?_
        refine iq_iload hS 101 J_MSquareRows_read_d99 lk_1s rfl ?_
        refine iq_if_ge hS 104 J_MSquareRows_read_d101 (t := 111) rfl (fun q101 => ?_) rfl (fun q101 => ?_)
        · replace h := ed_pos q101 h
          refine iq_aload_n hS 112 J_MSquareRows_read_d111 (lk_1r (lk_1r l5 (by decide)) (by decide)) rfl ?_
          refine iq_iconst hS 113 J_MSquareRows_read_d112 (v := 0) (by decide +kernel) rfl ?_
          refine iq_putI hS 116 J_MSquareRows_read_d113 lf_16_279 (Or.inl rfl) rfl (ka_108 hM9) rfl ?_
          refine iq_aload_n hS 117 J_MSquareRows_read_d116 (lk_1r (lk_1r l5 (by decide)) (by decide)) rfl ?_
          refine iq_bipush hS 119 J_MSquareRows_read_d117 (v := 8) (by decide +kernel) rfl ?_
          refine iq_aload_n hS 120 J_MSquareRows_read_d119 (lk_1r (lk_1r l5 (by decide)) (by decide)) rfl ?_
          refine iq_aload_n hS 121 J_MSquareRows_read_d120 (lk_1r (lk_1r l5 (by decide)) (by decide)) rfl ?_
          refine iq_getI hS 124 J_MSquareRows_read_d121 lf_16_229 (Or.inl rfl) (ka_108 hM9) rfl ?_
          refine iq_iload_n hS 125 J_MSquareRows_read_d124 (lk_1i lk_1s (by decide)) rfl ?_
          obtain ⟨Q10, hQ10, h⟩ := bd1_ed h
          refine iq_cpI hS 128 J_MSquareRows_read_d125 rfl (pr_inst (vs := [_, _]) lc_16_141 lT_395 rfl rfl (by decide) (by decide) rfl (Nat.le_of_ble_eq_true rfl) (Nat.le_of_ble_eq_true rfl) (fun _ => Or.inl (pr_b (ka_108 hM9) (by decide) rfl))) (f_MSquareRows_holds_ok (dep := dep + 4) hM9 h) rfl ?_
          intro x10 h
          replace h := hQ10 _ h
          refine iq_imul hS 129 J_MSquareRows_read_d128 rfl ?_
          refine iq_putI hS 132 J_MSquareRows_read_d129 lf_16_282 (Or.inl rfl) rfl (ka_108 hM9) rfl ?_
          refine iq_aload_n hS 133 J_MSquareRows_read_d132 (lk_1r (lk_1r l5 (by decide)) (by decide)) rfl ?_
          refine iq_iconst hS 134 J_MSquareRows_read_d133 (v := 0) (by decide +kernel) rfl ?_
          refine iq_putI hS 137 J_MSquareRows_read_d134 lf_16_288 (Or.inl rfl) rfl (ka_108 hM9) rfl ?_
          refine iq_aload_n hS 138 J_MSquareRows_read_d137 (lk_1r (lk_1r l5 (by decide)) (by decide)) rfl ?_
          refine iq_aload_n hS 139 J_MSquareRows_read_d138 (lk_1r (lk_1r l5 (by decide)) (by decide)) rfl ?_
          refine iq_getI hS 142 J_MSquareRows_read_d139 lf_16_229 (Or.inl rfl) (ka_108 hM9) rfl ?_
          obtain ⟨Q11, hQ11, h⟩ := bd1_ed h
          refine iq_cwV hS 145 J_MSquareRows_read_d142 rfl (pr_inst (vs := [_]) lc_16_312 lT_494 rfl rfl (by decide) (by decide) rfl (Nat.le_of_ble_eq_true rfl) (Nat.le_of_ble_eq_true rfl) (fun _ => Or.inl (pr_b (ka_108 hM9) (by decide) rfl))) (f_MSquareRows_segments_ok (dep := dep + 3) hM9 h) rfl ?_
          intro M11 hM11 h
          replace h := hQ11 _ h
          refine iq_aload_n hS 146 J_MSquareRows_read_d145 (lk_1r (lk_1r l5 (by decide)) (by decide)) rfl ?_
          refine iq_getI hS 149 J_MSquareRows_read_d146 lf_16_285 (Or.inl rfl) (ka_108 hM11) rfl ?_
          refine iq_if_le hS 152 J_MSquareRows_read_d149 (t := 154) rfl (fun q149 => ?_) rfl (fun q149 => ?_)
          · replace h := ed_pos q149 h
            refine iq_aload_n hS 155 J_MSquareRows_read_d154 (lk_1r (lk_1r l5 (by decide)) (by decide)) rfl ?_
            refine iq_getR hS 158 J_MSquareRows_read_d155 lf_16_70 (Or.inr ⟨_, rfl⟩) (ka_108 hM11) (ra_108_33 hM11) rfl ?_
            refine iq_iconst hS 159 J_MSquareRows_read_d158 (v := 0) (by decide +kernel) rfl ?_
            refine iq_iload_n hS 160 J_MSquareRows_read_d159 (lk_1i lk_1s (by decide)) rfl ?_
            obtain ⟨g160, h⟩ := ed_gd h
            refine iq_iastore hS 161 J_MSquareRows_read_d160 ⟨(ka_129 hM11).1, (ka_129 hM11).2, g160.1, ix_lt (kl_129 hM11) g160.2⟩ rfl ?_
            refine iq_aload_n hS 162 J_MSquareRows_read_d161 (lk_1r (lk_1r l5 (by decide)) (by decide)) rfl ?_
            refine iq_getR hS 165 J_MSquareRows_read_d162 lf_16_70 (Or.inr ⟨_, rfl⟩) (ka_108 hM11) (ra_108_33 hM11) rfl ?_
            refine iq_iconst hS 166 J_MSquareRows_read_d165 (v := 1) (by decide +kernel) rfl ?_
            refine iq_iload_n hS 167 J_MSquareRows_read_d166 (lk_1i (lk_1i l6 (by decide)) (by decide)) rfl ?_
            refine iq_bipush hS 169 J_MSquareRows_read_d167 (v := 7) (by decide +kernel) rfl ?_
            refine iq_iand hS 170 J_MSquareRows_read_d169 rfl ?_
            obtain ⟨g170, h⟩ := ed_gd h
            refine iq_iastore hS 171 J_MSquareRows_read_d170 ⟨(ka_129 hM11).1, (ka_129 hM11).2, g170.1, ix_lt (kl_129 hM11) g170.2⟩ rfl ?_
            refine iq_aload_n hS 172 J_MSquareRows_read_d171 (lk_1r (lk_1r l5 (by decide)) (by decide)) rfl ?_
            refine iq_getR hS 175 J_MSquareRows_read_d172 lf_16_70 (Or.inr ⟨_, rfl⟩) (ka_108 hM11) (ra_108_33 hM11) rfl ?_
            refine iq_iconst hS 176 J_MSquareRows_read_d175 (v := 2) (by decide +kernel) rfl ?_
            refine iq_iload hS 178 J_MSquareRows_read_d176 lk_1s rfl ?_
            obtain ⟨g178, h⟩ := ed_gd h
            refine iq_iastore hS 179 J_MSquareRows_read_d178 ⟨(ka_129 hM11).1, (ka_129 hM11).2, g178.1, ix_lt (kl_129 hM11) g178.2⟩ rfl ?_
            refine iq_aload_n hS 180 J_MSquareRows_read_d179 (lk_1r (lk_1r l5 (by decide)) (by decide)) rfl ?_
            refine iq_iconst hS 181 J_MSquareRows_read_d180 (v := 1) (by decide +kernel) rfl ?_
            refine iq_putZ hS 184 J_MSquareRows_read_d181 lf_16_303 (Or.inl rfl) rfl (ka_108 hM11) (Or.inr rfl) rfl ?_
            refine iq_aload_n hS 185 J_MSquareRows_read_d184 (lk_1r (lk_1r l5 (by decide)) (by decide)) rfl ?_
            refine iq_aload_n hS 186 J_MSquareRows_read_d185 (lk_1r (lk_1r l5 (by decide)) (by decide)) rfl ?_
            refine iq_getI hS 189 J_MSquareRows_read_d186 lf_16_288 (Or.inl rfl) (ka_108 hM11) rfl ?_
            refine iq_putI hS 192 J_MSquareRows_read_d189 lf_16_77 (Or.inl rfl) rfl (ka_108 hM11) rfl ?_
            refine iq_iconst hS 193 J_MSquareRows_read_d192 (v := 0) (by decide +kernel) rfl ?_
            refine iq_istore hS 195 J_MSquareRows_read_d193 (by decide) rfl ?_
            obtain ⟨Q12, hQ12, h⟩ := bd1_ed h
            have K12 : ∀ (M13 : im_M) (L' : List (Nat × Value)), lw_S w M13 → im_lk L' 0 = some (.ref 108) → Q12 M13 → ia (tb_G L xs) (dep + 6) J_MSquareRows_read (rwI w Q) (224, L', [], M13) := by
              intro M13 L' hM13 l14 h
              replace h := hQ12 _ h
              refine iq_aload_n hS 225 J_MSquareRows_read_d224 l14 rfl ?_
              refine iq_getI hS 228 J_MSquareRows_read_d225 lf_16_77 (Or.inl rfl) (ka_108 hM13) rfl ?_
              exact iq_iret J_MSquareRows_read_d228 rfl rfl ⟨_, rfl, hM13, ed_some h⟩
            obtain ⟨r12, hr12, hq12⟩ := h
            obtain ⟨n12, hn12⟩ := lp_n hr12
            have I12 : ∀ (n : Nat) (x15 : Int32) (M16 : im_M) (L' : List (Nat × Value)), lw_S w M16 → im_lk L' 0 = some (.ref 108) → im_lk L' 5 = some (.int x15) → lpn (uc2 (f_MSquareRows_read_L195)) n (x15, M16) = some r12 → ia (tb_G L xs) (dep + 6) J_MSquareRows_read (rwI w Q) (195, L', [], M16) := by
              intro n
              induction n with
              | zero => intro x15 M16 L' hM16 l17 l18 hn; exact (lpn_0 hn).elim
              | succ n ih =>
                intro x15 M16 L' hM16 l17 l18 hn
                have h := lpn_ed2 hn
                unfold f_MSquareRows_read_L195 at h
                refine iq_iload hS 197 J_MSquareRows_read_d195 l18 rfl ?_
                refine iq_aload_n hS 198 J_MSquareRows_read_d197 l17 rfl ?_
                refine iq_getI hS 201 J_MSquareRows_read_d198 lf_16_77 (Or.inl rfl) (ka_108 hM16) rfl ?_
                refine iq_icmp_ge hS 204 J_MSquareRows_read_d201 (t := 224) rfl (fun q201 => ?_) rfl (fun q201 => ?_)
                · replace h := ed_pos q201 h
                  exact K12 _ _ hM16 l17 (lq_r h hq12)
                · replace h := ed_neg q201 h
                  refine iq_aload_n hS 205 J_MSquareRows_read_d204 l17 rfl ?_
                  refine iq_getR hS 208 J_MSquareRows_read_d205 lf_16_16 (Or.inr ⟨_, rfl⟩) (ka_108 hM16) (ra_108_3 hM16) rfl ?_
                  refine iq_iload hS 210 J_MSquareRows_read_d208 l18 rfl ?_
                  refine iq_aload_n hS 211 J_MSquareRows_read_d210 l17 rfl ?_
                  refine iq_getR hS 214 J_MSquareRows_read_d211 lf_16_67 (Or.inr ⟨_, rfl⟩) (ka_108 hM16) (ra_108_27 hM16) rfl ?_
                  refine iq_iload hS 216 J_MSquareRows_read_d214 l18 rfl ?_
                  obtain ⟨g216, h⟩ := ed_gd h
                  refine iq_iaload hS 217 J_MSquareRows_read_d216 ⟨(ka_128 hM16).1, (ka_128 hM16).2, g216.1, ix_lt (kl_128 hM16) g216.2⟩ rfl ?_
                  obtain ⟨g217, h⟩ := ed_gd h
                  refine iq_iastore hS 218 J_MSquareRows_read_d217 ⟨(ka_111 hM16).1, (ka_111 hM16).2, g217.1, ix_lt (kl_111 hM16) g217.2⟩ rfl ?_
                  refine iq_iincv hS 221 J_MSquareRows_read_d218 (c := 1) (by decide +kernel) l18 (by decide) rfl ?_
                  refine iq_goto hS J_MSquareRows_read_d221 (t := 195) rfl ?_
                  exact ih _ _ _ hM16 (lk_1r l17 (by decide)) lk_1s (lq_l h)
            exact I12 n12 _ _ _ hM11 (lk_1r (lk_1r (lk_1r l5 (by decide)) (by decide)) (by decide)) lk_1s hn12
          · replace h := ed_neg q149 h
            refine iq_iconst hS 153 J_MSquareRows_read_d152 (v := (-1)) (by decide +kernel) rfl ?_
            exact iq_iret J_MSquareRows_read_d153 rfl rfl ⟨_, rfl, hM11, ed_some h⟩
        · replace h := ed_neg q101 h
          refine iq_aload_n hS 105 J_MSquareRows_read_d104 (lk_1r (lk_1r l5 (by decide)) (by decide)) rfl ?_
          refine iq_iconst hS 106 J_MSquareRows_read_d105 (v := 2) (by decide +kernel) rfl ?_
          refine iq_putI hS 109 J_MSquareRows_read_d106 lf_16_285 (Or.inl rfl) rfl (ka_108 hM9) rfl ?_
          refine iq_iconst hS 110 J_MSquareRows_read_d109 (v := (-1)) (by decide +kernel) rfl ?_
          exact iq_iret J_MSquareRows_read_d110 rfl rfl ⟨_, rfl, hM9, ed_some h⟩
      refine iq_icmp_ne hS 49 J_MSquareRows_read_d46 (t := 53) rfl (fun q46 => ?_) rfl (fun q46 => ?_)
      · refine iq_iload_n hS 54 J_MSquareRows_read_d53 lk_1s rfl ?_
        refine iq_if_ne hS 57 J_MSquareRows_read_d54 (t := 61) rfl (fun q54 => ?_) rfl (fun q54 => ?_)
        · refine iq_iload_n hS 62 J_MSquareRows_read_d61 lk_1s rfl ?_
          refine iq_iconst hS 63 J_MSquareRows_read_d62 (v := 3) (by decide +kernel) rfl ?_
          refine iq_icmp_ne hS 66 J_MSquareRows_read_d63 (t := 70) rfl (fun q63 => ?_) rfl (fun q63 => ?_)
          · refine iq_iconst hS 71 J_MSquareRows_read_d70 (v := 3) (by decide +kernel) rfl ?_
            exact J2 _ _ (by rw [if_pos q46, if_pos q54, if_pos q63]) (lk_1r (lk_1r l0 (by decide)) (by decide)) (lk_1i lk_1s (by decide))
          · refine iq_iconst hS 67 J_MSquareRows_read_d66 (v := 2) (by decide +kernel) rfl ?_
            refine iq_goto hS J_MSquareRows_read_d67 (t := 71) rfl ?_
            exact J2 _ _ (by rw [if_pos q46, if_pos q54, if_neg q63]) (lk_1r (lk_1r l0 (by decide)) (by decide)) (lk_1i lk_1s (by decide))
        · refine iq_iconst hS 58 J_MSquareRows_read_d57 (v := 1) (by decide +kernel) rfl ?_
          refine iq_goto hS J_MSquareRows_read_d58 (t := 71) rfl ?_
          exact J2 _ _ (by rw [if_pos q46, if_neg q54]) (lk_1r (lk_1r l0 (by decide)) (by decide)) (lk_1i lk_1s (by decide))
      · refine iq_iconst hS 50 J_MSquareRows_read_d49 (v := 0) (by decide +kernel) rfl ?_
        refine iq_goto hS J_MSquareRows_read_d50 (t := 71) rfl ?_
        exact J2 _ _ (by rw [if_neg q46]) (lk_1r (lk_1r l0 (by decide)) (by decide)) (lk_1i lk_1s (by decide))
    · replace h := ed_neg q30 h
      refine iq_aload_n hS 34 J_MSquareRows_read_d33 (lk_1r l0 (by decide)) rfl ?_
      refine iq_iconst hS 35 J_MSquareRows_read_d34 (v := 1) (by decide +kernel) rfl ?_
      refine iq_putI hS 38 J_MSquareRows_read_d35 lf_16_285 (Or.inl rfl) rfl (ka_108 hM) rfl ?_
      refine iq_iconst hS 39 J_MSquareRows_read_d38 (v := (-1)) (by decide +kernel) rfl ?_
      exact iq_iret J_MSquareRows_read_d39 rfl rfl ⟨_, rfl, hM, ed_some h⟩
  · replace h := ed_neg q14 h
    refine iq_iconst hS 18 J_MSquareRows_read_d17 (v := (-1)) (by decide +kernel) rfl ?_
    exact iq_iret J_MSquareRows_read_d18 rfl rfl ⟨_, rfl, hM, ed_some h⟩
noncomputable def f_MSquareRows_at (p0 : Int32) (M : im_M) : Option (Int32 × im_M) := jn0 (fun (_ : Unit) => some ((-1), (im_setI M 108 0 0))) fun k1 => if p0 < 0 then k1 () else if p0 < (im_i (im_setI M 108 0 0) 108 4) then gd (inb p0 3000) <| some ((im_i (im_setI M 108 0 0) 111 (Int32.toNatClampNeg p0)), (im_setI M 108 0 0)) else k1 ()
theorem J_MSquareRows_at_d0 : decode J_MSquareRows_at.2.1 0 = .ok (.aload_n 0, 1) := by decide +kernel
theorem J_MSquareRows_at_d1 : decode J_MSquareRows_at.2.1 1 = .ok (.iconst 0, 1) := by decide +kernel
theorem J_MSquareRows_at_d2 : decode J_MSquareRows_at.2.1 2 = .ok (.putfield 73, 3) := by decide +kernel
theorem J_MSquareRows_at_d5 : decode J_MSquareRows_at.2.1 5 = .ok (.iload_n 1, 1) := by decide +kernel
theorem J_MSquareRows_at_d6 : decode J_MSquareRows_at.2.1 6 = .ok (.ifCond .lt 11, 3) := by decide +kernel
theorem J_MSquareRows_at_d9 : decode J_MSquareRows_at.2.1 9 = .ok (.iload_n 1, 1) := by decide +kernel
theorem J_MSquareRows_at_d10 : decode J_MSquareRows_at.2.1 10 = .ok (.aload_n 0, 1) := by decide +kernel
theorem J_MSquareRows_at_d11 : decode J_MSquareRows_at.2.1 11 = .ok (.getfield 77, 3) := by decide +kernel
theorem J_MSquareRows_at_d14 : decode J_MSquareRows_at.2.1 14 = .ok (.if_icmp .lt 7, 3) := by decide +kernel
theorem J_MSquareRows_at_d17 : decode J_MSquareRows_at.2.1 17 = .ok (.iconst (-1), 1) := by decide +kernel
theorem J_MSquareRows_at_d18 : decode J_MSquareRows_at.2.1 18 = .ok (.goto 9, 3) := by decide +kernel
theorem J_MSquareRows_at_d21 : decode J_MSquareRows_at.2.1 21 = .ok (.aload_n 0, 1) := by decide +kernel
theorem J_MSquareRows_at_d22 : decode J_MSquareRows_at.2.1 22 = .ok (.getfield 16, 3) := by decide +kernel
theorem J_MSquareRows_at_d25 : decode J_MSquareRows_at.2.1 25 = .ok (.iload_n 1, 1) := by decide +kernel
theorem J_MSquareRows_at_d26 : decode J_MSquareRows_at.2.1 26 = .ok (.iaload, 1) := by decide +kernel
theorem J_MSquareRows_at_d27 : decode J_MSquareRows_at.2.1 27 = .ok (.ireturn, 1) := by decide +kernel
theorem f_MSquareRows_at_ok {L : Nat} {xs : Nat → Int32} {dep : Nat} {w : Bool} {p0 : Int32} {M : im_M} {Q : Int32 × im_M → Prop} (hM : lw_S w M) (h : ed (f_MSquareRows_at p0 M) Q) : ia (tb_G L xs) dep J_MSquareRows_at (rwI w Q) (0, lv_args 0 [.ref 108, .int p0], [], M) := by
  have hS : im_St (tb_G L xs) dep J_MSquareRows_at (ia (tb_G L xs) dep J_MSquareRows_at (rwI w Q)) := ia_St
  unfold f_MSquareRows_at at h
  have l0 : im_lk (lv_args 0 [.ref 108, .int p0]) 0 = some (.ref 108) := rfl
  have l1 : im_lk (lv_args 0 [.ref 108, .int p0]) 1 = some (.int p0) := rfl
  refine iq_aload_n hS 1 J_MSquareRows_at_d0 l0 rfl ?_
  refine iq_iconst hS 2 J_MSquareRows_at_d1 (v := 0) (by decide +kernel) rfl ?_
  refine iq_putI hS 5 J_MSquareRows_at_d2 lf_16_73 (Or.inl rfl) rfl (ka_108 hM) rfl ?_
  refine iq_iload_n hS 6 J_MSquareRows_at_d5 l1 rfl ?_
  obtain ⟨k1, Q1, hQ1, hk1, h⟩ := jn0_ed h
  have J1 : ∀  (L' : List (Nat × Value)), Q1 () → ia (tb_G L xs) dep J_MSquareRows_at (rwI w Q) (17, L', [], (im_setI M 108 0 0)) := by
    intro  L'  h
    replace h := hQ1  h
    refine iq_iconst hS 18 J_MSquareRows_at_d17 (v := (-1)) (by decide +kernel) rfl ?_
    refine iq_goto hS J_MSquareRows_at_d18 (t := 27) rfl ?_
    exact iq_iret J_MSquareRows_at_d27 rfl rfl ⟨_, rfl, hM, ed_some h⟩
  refine iq_if_lt hS 9 J_MSquareRows_at_d6 (t := 17) rfl (fun q6 => ?_) rfl (fun q6 => ?_)
  · replace h := ed_pos q6 h
    exact J1  _  (hk1  h)
  · replace h := ed_neg q6 h
    refine iq_iload_n hS 10 J_MSquareRows_at_d9 l1 rfl ?_
    refine iq_aload_n hS 11 J_MSquareRows_at_d10 l0 rfl ?_
    refine iq_getI hS 14 J_MSquareRows_at_d11 lf_16_77 (Or.inl rfl) (ka_108 hM) rfl ?_
    refine iq_icmp_lt hS 17 J_MSquareRows_at_d14 (t := 21) rfl (fun q14 => ?_) rfl (fun q14 => ?_)
    · replace h := ed_pos q14 h
      refine iq_aload_n hS 22 J_MSquareRows_at_d21 l0 rfl ?_
      refine iq_getR hS 25 J_MSquareRows_at_d22 lf_16_16 (Or.inr ⟨_, rfl⟩) (ka_108 hM) (ra_108_3 hM) rfl ?_
      refine iq_iload_n hS 26 J_MSquareRows_at_d25 l1 rfl ?_
      obtain ⟨g26, h⟩ := ed_gd h
      refine iq_iaload hS 27 J_MSquareRows_at_d26 ⟨(ka_111 hM).1, (ka_111 hM).2, g26.1, ix_lt (kl_111 hM) g26.2⟩ rfl ?_
      exact iq_iret J_MSquareRows_at_d27 rfl rfl ⟨_, rfl, hM, ed_some h⟩
    · replace h := ed_neg q14 h
      exact J1  _  (hk1  h)
noncomputable def f_M_decode_L67 (v11 : Int32) (v12 : Int32) (v13 : Int32) (x14 : Int32) (M15 : im_M) : Option ((Int32 × im_M) ⊕ (im_M)) := if v12 ≤ x14 then some (.inr M15) else bd2 (f_MPlaceRows_modules v11 x14 v13 M15) fun (x16 : Int64) (M16 : im_M) => bd2 (f_MSquareRows_spoil x14 v13 x16 M16) fun (x17 : Int32) (M17 : im_M) => some (.inl ((x14 + 64), M17))
noncomputable def f_M_decode_L59 (v6 : Int32) (v7 : Int32) (x8 : Int32) (M9 : im_M) : Option ((Int32 × im_M) ⊕ (im_M)) := if v7 ≤ x8 then some (.inr M9) else bd1 (lp (uc2 (f_M_decode_L67 v6 v7 x8)) (0, M9)) fun (M18 : im_M) => some (.inl ((x8 + 1), M18))
noncomputable def f_M_decode_L144 (v23 : Int32) (x24 : Int32) (M25 : im_M) : Option ((Int32 × im_M) ⊕ (im_M)) := if v23 ≤ x24 then some (.inr M25) else bd2 (f_MSquareRows_at x24 M25) fun (x26 : Int32) (M26 : im_M) => gd (inb x24 3000) <| some (.inl ((x24 + 1), (im_setI M26 137 (Int32.toNatClampNeg x24) x26)))
noncomputable def f_M_decode (p0 : Int32) (M : im_M) : Option (Int32 × im_M) := bd2 (f_MPlaceRows_place p0 0 M) fun (x1 : Int32) (M1 : im_M) => if (im_i (im_setI M1 69 0 ((if 0 ≤ x1 then 0 else 1) : Int32)) 69 0) ≤ 0 then bd2 (f_MPlaceRows_place p0 3 (im_setI (im_setI (im_setI M1 69 0 ((if 0 ≤ x1 then 0 else 1) : Int32)) 69 10 (-1)) 69 12 0)) fun (x3 : Int32) (M3 : im_M) => bd2 (f_MSquareRows_blank x3 M3) fun (x4 : Int32) (M4 : im_M) => bd1 (lp (uc2 (f_M_decode_L59 p0 x4)) (0, M4)) fun (M19 : im_M) => bd2 (f_MSquareRows_wipe M19) fun (x20 : Int32) (M20 : im_M) => bd2 (f_MSquareRows_read M20) fun (x21 : Int32) (M21 : im_M) => if x21 < 0 then some (x21, M21) else bd1 (lp (uc2 (f_M_decode_L144 x21)) (0, (im_setI (im_setI M21 69 10 0) 69 12 x21))) fun (M27 : im_M) => some (x21, M27) else some (0, (im_setI M1 69 0 ((if 0 ≤ x1 then 0 else 1) : Int32)))
theorem J_M_decode_d0 : decode J_M_decode.2.1 0 = .ok (.aload_n 0, 1) := by decide +kernel
theorem J_M_decode_d1 : decode J_M_decode.2.1 1 = .ok (.aload_n 0, 1) := by decide +kernel
theorem J_M_decode_d2 : decode J_M_decode.2.1 2 = .ok (.getfield 44, 3) := by decide +kernel
theorem J_M_decode_d5 : decode J_M_decode.2.1 5 = .ok (.iload_n 1, 1) := by decide +kernel
theorem J_M_decode_d6 : decode J_M_decode.2.1 6 = .ok (.iconst 0, 1) := by decide +kernel
theorem J_M_decode_d7 : decode J_M_decode.2.1 7 = .ok (.invokevirtual 227, 3) := by decide +kernel
theorem J_M_decode_d10 : decode J_M_decode.2.1 10 = .ok (.ifCond .ge 7, 3) := by decide +kernel
theorem J_M_decode_d13 : decode J_M_decode.2.1 13 = .ok (.iconst 1, 1) := by decide +kernel
theorem J_M_decode_d14 : decode J_M_decode.2.1 14 = .ok (.goto 4, 3) := by decide +kernel
theorem J_M_decode_d17 : decode J_M_decode.2.1 17 = .ok (.iconst 0, 1) := by decide +kernel
theorem J_M_decode_d18 : decode J_M_decode.2.1 18 = .ok (.putfield 58, 3) := by decide +kernel
theorem J_M_decode_d21 : decode J_M_decode.2.1 21 = .ok (.aload_n 0, 1) := by decide +kernel
theorem J_M_decode_d22 : decode J_M_decode.2.1 22 = .ok (.getfield 58, 3) := by decide +kernel
theorem J_M_decode_d25 : decode J_M_decode.2.1 25 = .ok (.ifCond .le 5, 3) := by decide +kernel
theorem J_M_decode_d28 : decode J_M_decode.2.1 28 = .ok (.iconst 0, 1) := by decide +kernel
theorem J_M_decode_d29 : decode J_M_decode.2.1 29 = .ok (.ireturn, 1) := by decide +kernel
theorem J_M_decode_d30 : decode J_M_decode.2.1 30 = .ok (.aload_n 0, 1) := by decide +kernel
theorem J_M_decode_d31 : decode J_M_decode.2.1 31 = .ok (.iconst (-1), 1) := by decide +kernel
theorem J_M_decode_d32 : decode J_M_decode.2.1 32 = .ok (.putfield 51, 3) := by decide +kernel
theorem J_M_decode_d35 : decode J_M_decode.2.1 35 = .ok (.aload_n 0, 1) := by decide +kernel
theorem J_M_decode_d36 : decode J_M_decode.2.1 36 = .ok (.iconst 0, 1) := by decide +kernel
theorem J_M_decode_d37 : decode J_M_decode.2.1 37 = .ok (.putfield 229, 3) := by decide +kernel
theorem J_M_decode_d40 : decode J_M_decode.2.1 40 = .ok (.aload_n 0, 1) := by decide +kernel
theorem J_M_decode_d41 : decode J_M_decode.2.1 41 = .ok (.getfield 37, 3) := by decide +kernel
theorem J_M_decode_d44 : decode J_M_decode.2.1 44 = .ok (.aload_n 0, 1) := by decide +kernel
theorem J_M_decode_d45 : decode J_M_decode.2.1 45 = .ok (.getfield 44, 3) := by decide +kernel
theorem J_M_decode_d48 : decode J_M_decode.2.1 48 = .ok (.iload_n 1, 1) := by decide +kernel
theorem J_M_decode_d49 : decode J_M_decode.2.1 49 = .ok (.iconst 3, 1) := by decide +kernel
theorem J_M_decode_d50 : decode J_M_decode.2.1 50 = .ok (.invokevirtual 227, 3) := by decide +kernel
theorem J_M_decode_d53 : decode J_M_decode.2.1 53 = .ok (.invokevirtual 232, 3) := by decide +kernel
theorem J_M_decode_d56 : decode J_M_decode.2.1 56 = .ok (.istore_n 2, 1) := by decide +kernel
theorem J_M_decode_d57 : decode J_M_decode.2.1 57 = .ok (.iconst 0, 1) := by decide +kernel
theorem J_M_decode_d58 : decode J_M_decode.2.1 58 = .ok (.istore_n 3, 1) := by decide +kernel
theorem J_M_decode_d59 : decode J_M_decode.2.1 59 = .ok (.iload_n 3, 1) := by decide +kernel
theorem J_M_decode_d60 : decode J_M_decode.2.1 60 = .ok (.iload_n 2, 1) := by decide +kernel
theorem J_M_decode_d61 : decode J_M_decode.2.1 61 = .ok (.if_icmp .ge 47, 3) := by decide +kernel
theorem J_M_decode_d64 : decode J_M_decode.2.1 64 = .ok (.iconst 0, 1) := by decide +kernel
theorem J_M_decode_d65 : decode J_M_decode.2.1 65 = .ok (.istore 4, 2) := by decide +kernel
theorem J_M_decode_d67 : decode J_M_decode.2.1 67 = .ok (.iload 4, 2) := by decide +kernel
theorem J_M_decode_d69 : decode J_M_decode.2.1 69 = .ok (.iload_n 2, 1) := by decide +kernel
theorem J_M_decode_d70 : decode J_M_decode.2.1 70 = .ok (.if_icmp .ge 32, 3) := by decide +kernel
theorem J_M_decode_d73 : decode J_M_decode.2.1 73 = .ok (.aload_n 0, 1) := by decide +kernel
theorem J_M_decode_d74 : decode J_M_decode.2.1 74 = .ok (.getfield 37, 3) := by decide +kernel
theorem J_M_decode_d77 : decode J_M_decode.2.1 77 = .ok (.iload 4, 2) := by decide +kernel
theorem J_M_decode_d79 : decode J_M_decode.2.1 79 = .ok (.iload_n 3, 1) := by decide +kernel
theorem J_M_decode_d80 : decode J_M_decode.2.1 80 = .ok (.aload_n 0, 1) := by decide +kernel
theorem J_M_decode_d81 : decode J_M_decode.2.1 81 = .ok (.getfield 44, 3) := by decide +kernel
theorem J_M_decode_d84 : decode J_M_decode.2.1 84 = .ok (.iload_n 1, 1) := by decide +kernel
theorem J_M_decode_d85 : decode J_M_decode.2.1 85 = .ok (.iload 4, 2) := by decide +kernel
theorem J_M_decode_d87 : decode J_M_decode.2.1 87 = .ok (.iload_n 3, 1) := by decide +kernel
theorem J_M_decode_d88 : decode J_M_decode.2.1 88 = .ok (.invokevirtual 235, 3) := by decide +kernel
theorem J_M_decode_d91 : decode J_M_decode.2.1 91 = .ok (.invokevirtual 238, 3) := by decide +kernel
theorem J_M_decode_d94 : decode J_M_decode.2.1 94 = .ok (.istore 5, 2) := by decide +kernel
theorem J_M_decode_d96 : decode J_M_decode.2.1 96 = .ok (.iinc 4 64, 3) := by decide +kernel
theorem J_M_decode_d99 : decode J_M_decode.2.1 99 = .ok (.goto (-32), 3) := by decide +kernel
theorem J_M_decode_d102 : decode J_M_decode.2.1 102 = .ok (.iinc 3 1, 3) := by decide +kernel
theorem J_M_decode_d105 : decode J_M_decode.2.1 105 = .ok (.goto (-46), 3) := by decide +kernel
theorem J_M_decode_d108 : decode J_M_decode.2.1 108 = .ok (.aload_n 0, 1) := by decide +kernel
theorem J_M_decode_d109 : decode J_M_decode.2.1 109 = .ok (.getfield 37, 3) := by decide +kernel
theorem J_M_decode_d112 : decode J_M_decode.2.1 112 = .ok (.invokevirtual 135, 3) := by decide +kernel
theorem J_M_decode_d115 : decode J_M_decode.2.1 115 = .ok (.istore_n 3, 1) := by decide +kernel
theorem J_M_decode_d116 : decode J_M_decode.2.1 116 = .ok (.aload_n 0, 1) := by decide +kernel
theorem J_M_decode_d117 : decode J_M_decode.2.1 117 = .ok (.getfield 37, 3) := by decide +kernel
theorem J_M_decode_d120 : decode J_M_decode.2.1 120 = .ok (.invokevirtual 241, 3) := by decide +kernel
theorem J_M_decode_d123 : decode J_M_decode.2.1 123 = .ok (.istore 4, 2) := by decide +kernel
theorem J_M_decode_d125 : decode J_M_decode.2.1 125 = .ok (.iload 4, 2) := by decide +kernel
theorem J_M_decode_d127 : decode J_M_decode.2.1 127 = .ok (.ifCond .lt 46, 3) := by decide +kernel
theorem J_M_decode_d130 : decode J_M_decode.2.1 130 = .ok (.aload_n 0, 1) := by decide +kernel
theorem J_M_decode_d131 : decode J_M_decode.2.1 131 = .ok (.iconst 0, 1) := by decide +kernel
theorem J_M_decode_d132 : decode J_M_decode.2.1 132 = .ok (.putfield 51, 3) := by decide +kernel
theorem J_M_decode_d135 : decode J_M_decode.2.1 135 = .ok (.aload_n 0, 1) := by decide +kernel
theorem J_M_decode_d136 : decode J_M_decode.2.1 136 = .ok (.iload 4, 2) := by decide +kernel
theorem J_M_decode_d138 : decode J_M_decode.2.1 138 = .ok (.putfield 229, 3) := by decide +kernel
theorem J_M_decode_d141 : decode J_M_decode.2.1 141 = .ok (.iconst 0, 1) := by decide +kernel
theorem J_M_decode_d142 : decode J_M_decode.2.1 142 = .ok (.istore 5, 2) := by decide +kernel
theorem J_M_decode_d144 : decode J_M_decode.2.1 144 = .ok (.iload 5, 2) := by decide +kernel
theorem J_M_decode_d146 : decode J_M_decode.2.1 146 = .ok (.iload 4, 2) := by decide +kernel
theorem J_M_decode_d148 : decode J_M_decode.2.1 148 = .ok (.if_icmp .ge 25, 3) := by decide +kernel
theorem J_M_decode_d151 : decode J_M_decode.2.1 151 = .ok (.aload_n 0, 1) := by decide +kernel
theorem J_M_decode_d152 : decode J_M_decode.2.1 152 = .ok (.getfield 55, 3) := by decide +kernel
theorem J_M_decode_d155 : decode J_M_decode.2.1 155 = .ok (.iload 5, 2) := by decide +kernel
theorem J_M_decode_d157 : decode J_M_decode.2.1 157 = .ok (.aload_n 0, 1) := by decide +kernel
theorem J_M_decode_d158 : decode J_M_decode.2.1 158 = .ok (.getfield 37, 3) := by decide +kernel
theorem J_M_decode_d161 : decode J_M_decode.2.1 161 = .ok (.iload 5, 2) := by decide +kernel
theorem J_M_decode_d163 : decode J_M_decode.2.1 163 = .ok (.invokevirtual 242, 3) := by decide +kernel
theorem J_M_decode_d166 : decode J_M_decode.2.1 166 = .ok (.iastore, 1) := by decide +kernel
theorem J_M_decode_d167 : decode J_M_decode.2.1 167 = .ok (.iinc 5 1, 3) := by decide +kernel
theorem J_M_decode_d170 : decode J_M_decode.2.1 170 = .ok (.goto (-26), 3) := by decide +kernel
theorem J_M_decode_d173 : decode J_M_decode.2.1 173 = .ok (.iload 4, 2) := by decide +kernel
theorem J_M_decode_d175 : decode J_M_decode.2.1 175 = .ok (.ireturn, 1) := by decide +kernel
theorem f_M_decode_ok {L : Nat} {xs : Nat → Int32} {dep : Nat} {w : Bool} {p0 : Int32} {M : im_M} {Q : Int32 × im_M → Prop} (hM : lw_S w M) (h : ed (f_M_decode p0 M) Q) : ia (tb_G L xs) (dep + 7) J_M_decode (rwI w Q) (0, lv_args 0 [.ref 69, .int p0], [], M) := by
  have hS : im_St (tb_G L xs) (dep + 7) J_M_decode (ia (tb_G L xs) (dep + 7) J_M_decode (rwI w Q)) := ia_St
  unfold f_M_decode at h
  have l0 : im_lk (lv_args 0 [.ref 69, .int p0]) 0 = some (.ref 69) := rfl
  have l1 : im_lk (lv_args 0 [.ref 69, .int p0]) 1 = some (.int p0) := rfl
  refine iq_aload_n hS 1 J_M_decode_d0 l0 rfl ?_
  refine iq_aload_n hS 2 J_M_decode_d1 l0 rfl ?_
  refine iq_getR hS 5 J_M_decode_d2 lf_17_44 (Or.inl ⟨_, rfl⟩) (ka_69 hM) (ra_69_7 hM) rfl ?_
  refine iq_iload_n hS 6 J_M_decode_d5 l1 rfl ?_
  refine iq_iconst hS 7 J_M_decode_d6 (v := 0) (by decide +kernel) rfl ?_
  obtain ⟨Q1, hQ1, h⟩ := bd2_ed h
  refine iq_cwI hS 10 J_M_decode_d7 rfl (pr_inst (vs := [_, _]) lc_17_227 lT_476 rfl rfl (by decide) (by decide) rfl (Nat.le_of_ble_eq_true rfl) (Nat.le_of_ble_eq_true rfl) (fun _ => Or.inl (pr_b (ka_130 hM) (by decide) rfl))) (f_MPlaceRows_place_ok (dep := dep + 6) hM h) rfl ?_
  intro x1 M1 hM1 h
  replace h := hQ1 _ _ h
  have J2 : ∀ (z3 : Int32) (L' : List (Nat × Value)), z3 = ((if 0 ≤ x1 then 0 else 1) : Int32) → im_lk L' 0 = some (.ref 69) → im_lk L' 1 = some (.int p0) → ia (tb_G L xs) (dep + 7) J_M_decode (rwI w Q) (18, L', [.int z3, .ref 69], M1) := by
    intro z3 L' e4 l5 l6
    subst e4
    refine iq_putI hS 21 J_M_decode_d18 lf_17_58 (Or.inl rfl) rfl (ka_69 hM1) rfl ?_
    refine iq_aload_n hS 22 J_M_decode_d21 l5 rfl ?_
    refine iq_getI hS 25 J_M_decode_d22 lf_17_58 (Or.inl rfl) (ka_69 hM1) rfl ?_
    refine iq_if_le hS 28 J_M_decode_d25 (t := 30) rfl (fun q25 => ?_) rfl (fun q25 => ?_)
    · replace h := ed_pos q25 h
      refine iq_aload_n hS 31 J_M_decode_d30 l5 rfl ?_
      refine iq_iconst hS 32 J_M_decode_d31 (v := (-1)) (by decide +kernel) rfl ?_
      refine iq_putI hS 35 J_M_decode_d32 lf_17_51 (Or.inl rfl) rfl (ka_69 hM1) rfl ?_
      refine iq_aload_n hS 36 J_M_decode_d35 l5 rfl ?_
      refine iq_iconst hS 37 J_M_decode_d36 (v := 0) (by decide +kernel) rfl ?_
      refine iq_putI hS 40 J_M_decode_d37 lf_17_229 (Or.inl rfl) rfl (ka_69 hM1) rfl ?_
      refine iq_aload_n hS 41 J_M_decode_d40 l5 rfl ?_
      refine iq_getR hS 44 J_M_decode_d41 lf_17_37 (Or.inl ⟨_, rfl⟩) (ka_69 hM1) (ra_69_6 hM1) rfl ?_
      refine iq_aload_n hS 45 J_M_decode_d44 l5 rfl ?_
      refine iq_getR hS 48 J_M_decode_d45 lf_17_44 (Or.inl ⟨_, rfl⟩) (ka_69 hM1) (ra_69_7 hM1) rfl ?_
      refine iq_iload_n hS 49 J_M_decode_d48 l6 rfl ?_
      refine iq_iconst hS 50 J_M_decode_d49 (v := 3) (by decide +kernel) rfl ?_
      obtain ⟨Q7, hQ7, h⟩ := bd2_ed h
      refine iq_cwI hS 53 J_M_decode_d50 rfl (pr_inst (vs := [_, _]) lc_17_227 lT_476 rfl rfl (by decide) (by decide) rfl (Nat.le_of_ble_eq_true rfl) (Nat.le_of_ble_eq_true rfl) (fun _ => Or.inl (pr_b (ka_130 hM1) (by decide) rfl))) (f_MPlaceRows_place_ok (dep := dep + 6) hM1 h) rfl ?_
      intro x7 M7 hM7 h
      replace h := hQ7 _ _ h
      obtain ⟨Q8, hQ8, h⟩ := bd2_ed h
      refine iq_cwI hS 56 J_M_decode_d53 rfl (pr_inst (vs := [_]) lc_17_232 lT_478 rfl rfl (by decide) (by decide) rfl (Nat.le_of_ble_eq_true rfl) (Nat.le_of_ble_eq_true rfl) (fun _ => Or.inl (pr_b (ka_108 hM7) (by decide) rfl))) (f_MSquareRows_blank_ok (dep := dep + 2) hM7 h) rfl ?_
      intro x8 M8 hM8 h
      replace h := hQ8 _ _ h
      refine iq_istore_n hS 57 J_M_decode_d56 (by decide) rfl ?_
      refine iq_iconst hS 58 J_M_decode_d57 (v := 0) (by decide +kernel) rfl ?_
      refine iq_istore_n hS 59 J_M_decode_d58 (by decide) rfl ?_
      obtain ⟨Q9, hQ9, h⟩ := bd1_ed h
      have K9 : ∀ (M10 : im_M) (L' : List (Nat × Value)), lw_S w M10 → im_lk L' 0 = some (.ref 69) → Q9 M10 → ia (tb_G L xs) (dep + 7) J_M_decode (rwI w Q) (108, L', [], M10) := by
        intro M10 L' hM10 l11 h
        replace h := hQ9 _ h
        refine iq_aload_n hS 109 J_M_decode_d108 l11 rfl ?_
        refine iq_getR hS 112 J_M_decode_d109 lf_17_37 (Or.inl ⟨_, rfl⟩) (ka_69 hM10) (ra_69_6 hM10) rfl ?_
        obtain ⟨Q12, hQ12, h⟩ := bd2_ed h
        refine iq_cwI hS 115 J_M_decode_d112 rfl (pr_inst (vs := []) lc_17_135 lT_380 rfl rfl (by decide) (by decide) rfl (Nat.le_of_ble_eq_true rfl) (Nat.le_of_ble_eq_true rfl) (fun _ => Or.inl (pr_b (ka_108 hM10) (by decide) rfl))) (f_MSquareRows_wipe_ok (dep := dep + 6) hM10 h) rfl ?_
        intro x12 M12 hM12 h
        replace h := hQ12 _ _ h
        refine iq_istore_n hS 116 J_M_decode_d115 (by decide) rfl ?_
        refine iq_aload_n hS 117 J_M_decode_d116 (lk_1r l11 (by decide)) rfl ?_
        refine iq_getR hS 120 J_M_decode_d117 lf_17_37 (Or.inl ⟨_, rfl⟩) (ka_69 hM12) (ra_69_6 hM12) rfl ?_
        obtain ⟨Q13, hQ13, h⟩ := bd2_ed h
        refine iq_cwI hS 123 J_M_decode_d120 rfl (pr_inst (vs := []) lc_17_241 lT_482 rfl rfl (by decide) (by decide) rfl (Nat.le_of_ble_eq_true rfl) (Nat.le_of_ble_eq_true rfl) (fun _ => Or.inl (pr_b (ka_108 hM12) (by decide) rfl))) (f_MSquareRows_read_ok (dep := dep + 0) hM12 h) rfl ?_
        intro x13 M13 hM13 h
        replace h := hQ13 _ _ h
        refine iq_istore hS 125 J_M_decode_d123 (by decide) rfl ?_
        refine iq_iload hS 127 J_M_decode_d125 lk_1s rfl ?_
        refine iq_if_lt hS 130 J_M_decode_d127 (t := 173) rfl (fun q127 => ?_) rfl (fun q127 => ?_)
        · replace h := ed_pos q127 h
          refine iq_iload hS 175 J_M_decode_d173 lk_1s rfl ?_
          exact iq_iret J_M_decode_d175 rfl rfl ⟨_, rfl, hM13, ed_some h⟩
        · replace h := ed_neg q127 h
          refine iq_aload_n hS 131 J_M_decode_d130 (lk_1r (lk_1r l11 (by decide)) (by decide)) rfl ?_
          refine iq_iconst hS 132 J_M_decode_d131 (v := 0) (by decide +kernel) rfl ?_
          refine iq_putI hS 135 J_M_decode_d132 lf_17_51 (Or.inl rfl) rfl (ka_69 hM13) rfl ?_
          refine iq_aload_n hS 136 J_M_decode_d135 (lk_1r (lk_1r l11 (by decide)) (by decide)) rfl ?_
          refine iq_iload hS 138 J_M_decode_d136 lk_1s rfl ?_
          refine iq_putI hS 141 J_M_decode_d138 lf_17_229 (Or.inl rfl) rfl (ka_69 hM13) rfl ?_
          refine iq_iconst hS 142 J_M_decode_d141 (v := 0) (by decide +kernel) rfl ?_
          refine iq_istore hS 144 J_M_decode_d142 (by decide) rfl ?_
          obtain ⟨Q14, hQ14, h⟩ := bd1_ed h
          have K14 : ∀ (M15 : im_M) (L' : List (Nat × Value)), lw_S w M15 → im_lk L' 4 = some (.int x13) → Q14 M15 → ia (tb_G L xs) (dep + 7) J_M_decode (rwI w Q) (173, L', [], M15) := by
            intro M15 L' hM15 l16 h
            replace h := hQ14 _ h
            refine iq_iload hS 175 J_M_decode_d173 l16 rfl ?_
            exact iq_iret J_M_decode_d175 rfl rfl ⟨_, rfl, hM15, ed_some h⟩
          obtain ⟨r14, hr14, hq14⟩ := h
          obtain ⟨n14, hn14⟩ := lp_n hr14
          have I14 : ∀ (n : Nat) (x17 : Int32) (M18 : im_M) (L' : List (Nat × Value)), lw_S w M18 → im_lk L' 0 = some (.ref 69) → im_lk L' 4 = some (.int x13) → im_lk L' 5 = some (.int x17) → lpn (uc2 (f_M_decode_L144 x13)) n (x17, M18) = some r14 → ia (tb_G L xs) (dep + 7) J_M_decode (rwI w Q) (144, L', [], M18) := by
            intro n
            induction n with
            | zero => intro x17 M18 L' hM18 l19 l20 l21 hn; exact (lpn_0 hn).elim
            | succ n ih =>
              intro x17 M18 L' hM18 l19 l20 l21 hn
              have h := lpn_ed2 hn
              unfold f_M_decode_L144 at h
              refine iq_iload hS 146 J_M_decode_d144 l21 rfl ?_
              refine iq_iload hS 148 J_M_decode_d146 l20 rfl ?_
              refine iq_icmp_ge hS 151 J_M_decode_d148 (t := 173) rfl (fun q148 => ?_) rfl (fun q148 => ?_)
              · replace h := ed_pos q148 h
                exact K14 _ _ hM18 l20 (lq_r h hq14)
              · replace h := ed_neg q148 h
                refine iq_aload_n hS 152 J_M_decode_d151 l19 rfl ?_
                refine iq_getR hS 155 J_M_decode_d152 lf_17_55 (Or.inr ⟨_, rfl⟩) (ka_69 hM18) (ra_69_11 hM18) rfl ?_
                refine iq_iload hS 157 J_M_decode_d155 l21 rfl ?_
                refine iq_aload_n hS 158 J_M_decode_d157 l19 rfl ?_
                refine iq_getR hS 161 J_M_decode_d158 lf_17_37 (Or.inl ⟨_, rfl⟩) (ka_69 hM18) (ra_69_6 hM18) rfl ?_
                refine iq_iload hS 163 J_M_decode_d161 l21 rfl ?_
                obtain ⟨Q22, hQ22, h⟩ := bd2_ed h
                refine iq_cwI hS 166 J_M_decode_d163 rfl (pr_inst (vs := [_]) lc_17_242 lT_499 rfl rfl (by decide) (by decide) rfl (Nat.le_of_ble_eq_true rfl) (Nat.le_of_ble_eq_true rfl) (fun _ => Or.inl (pr_b (ka_108 hM18) (by decide) rfl))) (f_MSquareRows_at_ok (dep := dep + 6) hM18 h) rfl ?_
                intro x22 M22 hM22 h
                replace h := hQ22 _ _ h
                obtain ⟨g166, h⟩ := ed_gd h
                refine iq_iastore hS 167 J_M_decode_d166 ⟨(ka_137 hM22).1, (ka_137 hM22).2, g166.1, ix_lt (kl_137 hM22) g166.2⟩ rfl ?_
                refine iq_iincv hS 170 J_M_decode_d167 (c := 1) (by decide +kernel) l21 (by decide) rfl ?_
                refine iq_goto hS J_M_decode_d170 (t := 144) rfl ?_
                exact ih _ _ _ hM22 (lk_1r l19 (by decide)) (lk_1i l20 (by decide)) lk_1s (lq_l h)
          exact I14 n14 _ _ _ hM13 (lk_1r (lk_1r (lk_1r l11 (by decide)) (by decide)) (by decide)) (lk_1i lk_1s (by decide)) lk_1s hn14
      obtain ⟨r9, hr9, hq9⟩ := h
      obtain ⟨n9, hn9⟩ := lp_n hr9
      have I9 : ∀ (n : Nat) (x23 : Int32) (M24 : im_M) (L' : List (Nat × Value)), lw_S w M24 → im_lk L' 0 = some (.ref 69) → im_lk L' 1 = some (.int p0) → im_lk L' 2 = some (.int x8) → im_lk L' 3 = some (.int x23) → lpn (uc2 (f_M_decode_L59 p0 x8)) n (x23, M24) = some r9 → ia (tb_G L xs) (dep + 7) J_M_decode (rwI w Q) (59, L', [], M24) := by
        intro n
        induction n with
        | zero => intro x23 M24 L' hM24 l25 l26 l27 l28 hn; exact (lpn_0 hn).elim
        | succ n ih =>
          intro x23 M24 L' hM24 l25 l26 l27 l28 hn
          have h := lpn_ed2 hn
          unfold f_M_decode_L59 at h
          refine iq_iload_n hS 60 J_M_decode_d59 l28 rfl ?_
          refine iq_iload_n hS 61 J_M_decode_d60 l27 rfl ?_
          refine iq_icmp_ge hS 64 J_M_decode_d61 (t := 108) rfl (fun q61 => ?_) rfl (fun q61 => ?_)
          · replace h := ed_pos q61 h
            exact K9 _ _ hM24 l25 (lq_r h hq9)
          · replace h := ed_neg q61 h
            refine iq_iconst hS 65 J_M_decode_d64 (v := 0) (by decide +kernel) rfl ?_
            refine iq_istore hS 67 J_M_decode_d65 (by decide) rfl ?_
            obtain ⟨Q29, hQ29, h⟩ := bd1_ed h
            have K29 : ∀ (M30 : im_M) (L' : List (Nat × Value)), lw_S w M30 → im_lk L' 0 = some (.ref 69) → im_lk L' 1 = some (.int p0) → im_lk L' 2 = some (.int x8) → im_lk L' 3 = some (.int x23) → Q29 M30 → ia (tb_G L xs) (dep + 7) J_M_decode (rwI w Q) (102, L', [], M30) := by
              intro M30 L' hM30 l31 l32 l33 l34 h
              replace h := hQ29 _ h
              refine iq_iincv hS 105 J_M_decode_d102 (c := 1) (by decide +kernel) l34 (by decide) rfl ?_
              refine iq_goto hS J_M_decode_d105 (t := 59) rfl ?_
              exact ih _ _ _ hM30 (lk_1r l31 (by decide)) (lk_1i l32 (by decide)) (lk_1i l33 (by decide)) lk_1s (lq_l h)
            obtain ⟨r29, hr29, hq29⟩ := h
            obtain ⟨n29, hn29⟩ := lp_n hr29
            have I29 : ∀ (n : Nat) (x35 : Int32) (M36 : im_M) (L' : List (Nat × Value)), lw_S w M36 → im_lk L' 0 = some (.ref 69) → im_lk L' 1 = some (.int p0) → im_lk L' 2 = some (.int x8) → im_lk L' 3 = some (.int x23) → im_lk L' 4 = some (.int x35) → lpn (uc2 (f_M_decode_L67 p0 x8 x23)) n (x35, M36) = some r29 → ia (tb_G L xs) (dep + 7) J_M_decode (rwI w Q) (67, L', [], M36) := by
              intro n
              induction n with
              | zero => intro x35 M36 L' hM36 l37 l38 l39 l40 l41 hn; exact (lpn_0 hn).elim
              | succ n ih =>
                intro x35 M36 L' hM36 l37 l38 l39 l40 l41 hn
                have h := lpn_ed2 hn
                unfold f_M_decode_L67 at h
                refine iq_iload hS 69 J_M_decode_d67 l41 rfl ?_
                refine iq_iload_n hS 70 J_M_decode_d69 l39 rfl ?_
                refine iq_icmp_ge hS 73 J_M_decode_d70 (t := 102) rfl (fun q70 => ?_) rfl (fun q70 => ?_)
                · replace h := ed_pos q70 h
                  exact K29 _ _ hM36 l37 l38 l39 l40 (lq_r h hq29)
                · replace h := ed_neg q70 h
                  refine iq_aload_n hS 74 J_M_decode_d73 l37 rfl ?_
                  refine iq_getR hS 77 J_M_decode_d74 lf_17_37 (Or.inl ⟨_, rfl⟩) (ka_69 hM36) (ra_69_6 hM36) rfl ?_
                  refine iq_iload hS 79 J_M_decode_d77 l41 rfl ?_
                  refine iq_iload_n hS 80 J_M_decode_d79 l40 rfl ?_
                  refine iq_aload_n hS 81 J_M_decode_d80 l37 rfl ?_
                  refine iq_getR hS 84 J_M_decode_d81 lf_17_44 (Or.inl ⟨_, rfl⟩) (ka_69 hM36) (ra_69_7 hM36) rfl ?_
                  refine iq_iload_n hS 85 J_M_decode_d84 l38 rfl ?_
                  refine iq_iload hS 87 J_M_decode_d85 l41 rfl ?_
                  refine iq_iload_n hS 88 J_M_decode_d87 l40 rfl ?_
                  obtain ⟨Q42, hQ42, h⟩ := bd2_ed h
                  refine iq_cwL hS 91 J_M_decode_d88 rfl (pr_inst (vs := [_, _, _]) lc_17_235 lT_479 rfl rfl (by decide) (by decide) rfl (Nat.le_of_ble_eq_true rfl) (Nat.le_of_ble_eq_true rfl) (fun _ => Or.inl (pr_b (ka_130 hM36) (by decide) rfl))) (f_MPlaceRows_modules_ok (dep := dep + 4) hM36 h) rfl ?_
                  intro x42 M42 hM42 h
                  replace h := hQ42 _ _ h
                  obtain ⟨Q43, hQ43, h⟩ := bd2_ed h
                  refine iq_cwI hS 94 J_M_decode_d91 rfl (pr_inst (vs := [_, _, _]) lc_17_238 lT_481 rfl rfl (by decide) (by decide) rfl (Nat.le_of_ble_eq_true rfl) (Nat.le_of_ble_eq_true rfl) (fun _ => Or.inl (pr_b (ka_108 hM42) (by decide) rfl))) (f_MSquareRows_spoil_ok (dep := dep + 5) hM42 h) rfl ?_
                  intro x43 M43 hM43 h
                  replace h := hQ43 _ _ h
                  refine iq_istore hS 96 J_M_decode_d94 (by decide) rfl ?_
                  refine iq_iincv hS 99 J_M_decode_d96 (c := 64) (by decide +kernel) (lk_1i l41 (by decide)) (by decide) rfl ?_
                  refine iq_goto hS J_M_decode_d99 (t := 67) rfl ?_
                  exact ih _ _ _ hM43 (lk_1r (lk_1r l37 (by decide)) (by decide)) (lk_1i (lk_1i l38 (by decide)) (by decide)) (lk_1i (lk_1i l39 (by decide)) (by decide)) (lk_1i (lk_1i l40 (by decide)) (by decide)) lk_1s (lq_l h)
            exact I29 n29 _ _ _ hM24 (lk_1r l25 (by decide)) (lk_1i l26 (by decide)) (lk_1i l27 (by decide)) (lk_1i l28 (by decide)) lk_1s hn29
      exact I9 n9 _ _ _ hM8 (lk_1r (lk_1r l5 (by decide)) (by decide)) (lk_1i (lk_1i l6 (by decide)) (by decide)) (lk_1i lk_1s (by decide)) lk_1s hn9
    · replace h := ed_neg q25 h
      refine iq_iconst hS 29 J_M_decode_d28 (v := 0) (by decide +kernel) rfl ?_
      exact iq_iret J_M_decode_d29 rfl rfl ⟨_, rfl, hM1, ed_some h⟩
  refine iq_if_ge hS 13 J_M_decode_d10 (t := 17) rfl (fun q10 => ?_) rfl (fun q10 => ?_)
  · refine iq_iconst hS 18 J_M_decode_d17 (v := 0) (by decide +kernel) rfl ?_
    exact J2 _ _ (by rw [if_pos q10]) l0 l1
  · refine iq_iconst hS 14 J_M_decode_d13 (v := 1) (by decide +kernel) rfl ?_
    refine iq_goto hS J_M_decode_d14 (t := 18) rfl ?_
    exact J2 _ _ (by rw [if_neg q10]) l0 l1
noncomputable def f_MLineRows_clear (M : im_M) : Option (Int32 × im_M) := some ((im_i (im_setI M 96 3 0) 96 10), (im_setI (im_setI M 96 3 0) 96 10 0))
theorem J_MLineRows_clear_d0 : decode J_MLineRows_clear.2.1 0 = .ok (.aload_n 0, 1) := by decide +kernel
theorem J_MLineRows_clear_d1 : decode J_MLineRows_clear.2.1 1 = .ok (.iconst 0, 1) := by decide +kernel
theorem J_MLineRows_clear_d2 : decode J_MLineRows_clear.2.1 2 = .ok (.putfield 149, 3) := by decide +kernel
theorem J_MLineRows_clear_d5 : decode J_MLineRows_clear.2.1 5 = .ok (.aload_n 0, 1) := by decide +kernel
theorem J_MLineRows_clear_d6 : decode J_MLineRows_clear.2.1 6 = .ok (.getfield 202, 3) := by decide +kernel
theorem J_MLineRows_clear_d9 : decode J_MLineRows_clear.2.1 9 = .ok (.istore_n 1, 1) := by decide +kernel
theorem J_MLineRows_clear_d10 : decode J_MLineRows_clear.2.1 10 = .ok (.aload_n 0, 1) := by decide +kernel
theorem J_MLineRows_clear_d11 : decode J_MLineRows_clear.2.1 11 = .ok (.iconst 0, 1) := by decide +kernel
theorem J_MLineRows_clear_d12 : decode J_MLineRows_clear.2.1 12 = .ok (.putfield 202, 3) := by decide +kernel
theorem J_MLineRows_clear_d15 : decode J_MLineRows_clear.2.1 15 = .ok (.iload_n 1, 1) := by decide +kernel
theorem J_MLineRows_clear_d16 : decode J_MLineRows_clear.2.1 16 = .ok (.ireturn, 1) := by decide +kernel
theorem f_MLineRows_clear_ok {L : Nat} {xs : Nat → Int32} {dep : Nat} {w : Bool} {M : im_M} {Q : Int32 × im_M → Prop} (hM : lw_S w M) (h : ed (f_MLineRows_clear M) Q) : ia (tb_G L xs) dep J_MLineRows_clear (rwI w Q) (0, lv_args 0 [.ref 96], [], M) := by
  have hS : im_St (tb_G L xs) dep J_MLineRows_clear (ia (tb_G L xs) dep J_MLineRows_clear (rwI w Q)) := ia_St
  unfold f_MLineRows_clear at h
  have l0 : im_lk (lv_args 0 [.ref 96]) 0 = some (.ref 96) := rfl
  refine iq_aload_n hS 1 J_MLineRows_clear_d0 l0 rfl ?_
  refine iq_iconst hS 2 J_MLineRows_clear_d1 (v := 0) (by decide +kernel) rfl ?_
  refine iq_putI hS 5 J_MLineRows_clear_d2 lf_13_149 (Or.inl rfl) rfl (ka_96 hM) rfl ?_
  refine iq_aload_n hS 6 J_MLineRows_clear_d5 l0 rfl ?_
  refine iq_getI hS 9 J_MLineRows_clear_d6 lf_13_202 (Or.inl rfl) (ka_96 hM) rfl ?_
  refine iq_istore_n hS 10 J_MLineRows_clear_d9 (by decide) rfl ?_
  refine iq_aload_n hS 11 J_MLineRows_clear_d10 (lk_1r l0 (by decide)) rfl ?_
  refine iq_iconst hS 12 J_MLineRows_clear_d11 (v := 0) (by decide +kernel) rfl ?_
  refine iq_putI hS 15 J_MLineRows_clear_d12 lf_13_202 (Or.inl rfl) rfl (ka_96 hM) rfl ?_
  refine iq_iload_n hS 16 J_MLineRows_clear_d15 lk_1s rfl ?_
  exact iq_iret J_MLineRows_clear_d16 rfl rfl ⟨_, rfl, hM, ed_some h⟩
noncomputable def f_MLineRows_put_L23 (v3 : Int32) (v4 : Int64) (x5 : Int32) (M6 : im_M) : Option ((Int32 × im_M) ⊕ (im_M)) := if v3 ≤ x5 then some (.inr M6) else if ¬ (im_i M6 96 3) = 0 then some (.inr M6) else some (.inl ((x5 + 1), (im_setI M6 96 3 ((if ¬ (lg_cmp ((v4 >>> (Int32.toInt64 ((8 : Int32) * x5) &&& 63)) &&& 255) 0) = 0 then 0 else 1) : Int32))))
noncomputable def f_MLineRows_put_L93 (v10 : Int32) (v11 : Int64) (x12 : Int32) (M13 : im_M) : Option ((Int32 × im_M) ⊕ (im_M)) := if v10 ≤ x12 then some (.inr M13) else gd (inb (im_i M13 96 10) 800) <| some (.inl ((x12 + 1), (im_setI (im_setI M13 103 (Int32.toNatClampNeg (im_i M13 96 10)) (Int64.toInt32 ((v11 >>> (Int32.toInt64 ((8 : Int32) * x12) &&& 63)) &&& 255))) 96 10 ((im_i (im_setI M13 103 (Int32.toNatClampNeg (im_i M13 96 10)) (Int64.toInt32 ((v11 >>> (Int32.toInt64 ((8 : Int32) * x12) &&& 63)) &&& 255))) 96 10) + 1))))
noncomputable def f_MLineRows_put (p0 : Int32) (p1 : Int64) (M : im_M) : Option (Int32 × im_M) := bd1 (lp (uc2 (f_MLineRows_put_L23 p0 p1)) (0, (im_setI M 96 3 ((if p0 < 1 then 1 else (if p0 ≤ 8 then 0 else 1)) : Int32)))) fun (M8 : im_M) => if (im_i M8 96 3) ≤ 0 then if ((im_i M8 96 10) + p0) ≤ 800 then bd1 (lp (uc2 (f_MLineRows_put_L93 p0 p1)) (0, M8)) fun (M14 : im_M) => some ((im_i M14 96 10), M14) else some ((-1), M8) else some (0, M8)
theorem J_MLineRows_put_d0 : decode J_MLineRows_put.2.1 0 = .ok (.aload_n 0, 1) := by decide +kernel
theorem J_MLineRows_put_d1 : decode J_MLineRows_put.2.1 1 = .ok (.iload_n 1, 1) := by decide +kernel
theorem J_MLineRows_put_d2 : decode J_MLineRows_put.2.1 2 = .ok (.iconst 1, 1) := by decide +kernel
theorem J_MLineRows_put_d3 : decode J_MLineRows_put.2.1 3 = .ok (.if_icmp .lt 9, 3) := by decide +kernel
theorem J_MLineRows_put_d6 : decode J_MLineRows_put.2.1 6 = .ok (.iload_n 1, 1) := by decide +kernel
theorem J_MLineRows_put_d7 : decode J_MLineRows_put.2.1 7 = .ok (.bipush 8, 2) := by decide +kernel
theorem J_MLineRows_put_d9 : decode J_MLineRows_put.2.1 9 = .ok (.if_icmp .le 7, 3) := by decide +kernel
theorem J_MLineRows_put_d12 : decode J_MLineRows_put.2.1 12 = .ok (.iconst 1, 1) := by decide +kernel
theorem J_MLineRows_put_d13 : decode J_MLineRows_put.2.1 13 = .ok (.goto 4, 3) := by decide +kernel
theorem J_MLineRows_put_d16 : decode J_MLineRows_put.2.1 16 = .ok (.iconst 0, 1) := by decide +kernel
theorem J_MLineRows_put_d17 : decode J_MLineRows_put.2.1 17 = .ok (.putfield 149, 3) := by decide +kernel
theorem J_MLineRows_put_d20 : decode J_MLineRows_put.2.1 20 = .ok (.iconst 0, 1) := by decide +kernel
theorem J_MLineRows_put_d21 : decode J_MLineRows_put.2.1 21 = .ok (.istore 4, 2) := by decide +kernel
theorem J_MLineRows_put_d23 : decode J_MLineRows_put.2.1 23 = .ok (.iload 4, 2) := by decide +kernel
theorem J_MLineRows_put_d25 : decode J_MLineRows_put.2.1 25 = .ok (.iload_n 1, 1) := by decide +kernel
theorem J_MLineRows_put_d26 : decode J_MLineRows_put.2.1 26 = .ok (.if_icmp .ge 41, 3) := by decide +kernel
theorem J_MLineRows_put_d29 : decode J_MLineRows_put.2.1 29 = .ok (.aload_n 0, 1) := by decide +kernel
theorem J_MLineRows_put_d30 : decode J_MLineRows_put.2.1 30 = .ok (.getfield 149, 3) := by decide +kernel
theorem J_MLineRows_put_d33 : decode J_MLineRows_put.2.1 33 = .ok (.ifCond .ne 34, 3) := by decide +kernel
theorem J_MLineRows_put_d36 : decode J_MLineRows_put.2.1 36 = .ok (.aload_n 0, 1) := by decide +kernel
theorem J_MLineRows_put_d37 : decode J_MLineRows_put.2.1 37 = .ok (.lload_n 2, 1) := by decide +kernel
theorem J_MLineRows_put_d38 : decode J_MLineRows_put.2.1 38 = .ok (.bipush 8, 2) := by decide +kernel
theorem J_MLineRows_put_d40 : decode J_MLineRows_put.2.1 40 = .ok (.iload 4, 2) := by decide +kernel
theorem J_MLineRows_put_d42 : decode J_MLineRows_put.2.1 42 = .ok (.imul, 1) := by decide +kernel
theorem J_MLineRows_put_d43 : decode J_MLineRows_put.2.1 43 = .ok (.lshr, 1) := by decide +kernel
theorem J_MLineRows_put_d44 : decode J_MLineRows_put.2.1 44 = .ok (.ldc2_w 153, 3) := by decide +kernel
theorem J_MLineRows_put_d47 : decode J_MLineRows_put.2.1 47 = .ok (.land, 1) := by decide +kernel
theorem J_MLineRows_put_d48 : decode J_MLineRows_put.2.1 48 = .ok (.lconst 0, 1) := by decide +kernel
theorem J_MLineRows_put_d49 : decode J_MLineRows_put.2.1 49 = .ok (.lcmp, 1) := by decide +kernel
theorem J_MLineRows_put_d50 : decode J_MLineRows_put.2.1 50 = .ok (.ifCond .ne 7, 3) := by decide +kernel
theorem J_MLineRows_put_d53 : decode J_MLineRows_put.2.1 53 = .ok (.iconst 1, 1) := by decide +kernel
theorem J_MLineRows_put_d54 : decode J_MLineRows_put.2.1 54 = .ok (.goto 4, 3) := by decide +kernel
theorem J_MLineRows_put_d57 : decode J_MLineRows_put.2.1 57 = .ok (.iconst 0, 1) := by decide +kernel
theorem J_MLineRows_put_d58 : decode J_MLineRows_put.2.1 58 = .ok (.putfield 149, 3) := by decide +kernel
theorem J_MLineRows_put_d61 : decode J_MLineRows_put.2.1 61 = .ok (.iinc 4 1, 3) := by decide +kernel
theorem J_MLineRows_put_d64 : decode J_MLineRows_put.2.1 64 = .ok (.goto (-41), 3) := by decide +kernel
theorem J_MLineRows_put_d67 : decode J_MLineRows_put.2.1 67 = .ok (.aload_n 0, 1) := by decide +kernel
theorem J_MLineRows_put_d68 : decode J_MLineRows_put.2.1 68 = .ok (.getfield 149, 3) := by decide +kernel
theorem J_MLineRows_put_d71 : decode J_MLineRows_put.2.1 71 = .ok (.ifCond .le 5, 3) := by decide +kernel
theorem J_MLineRows_put_d74 : decode J_MLineRows_put.2.1 74 = .ok (.iconst 0, 1) := by decide +kernel
theorem J_MLineRows_put_d75 : decode J_MLineRows_put.2.1 75 = .ok (.ireturn, 1) := by decide +kernel
theorem J_MLineRows_put_d76 : decode J_MLineRows_put.2.1 76 = .ok (.aload_n 0, 1) := by decide +kernel
theorem J_MLineRows_put_d77 : decode J_MLineRows_put.2.1 77 = .ok (.getfield 202, 3) := by decide +kernel
theorem J_MLineRows_put_d80 : decode J_MLineRows_put.2.1 80 = .ok (.iload_n 1, 1) := by decide +kernel
theorem J_MLineRows_put_d81 : decode J_MLineRows_put.2.1 81 = .ok (.iadd, 1) := by decide +kernel
theorem J_MLineRows_put_d82 : decode J_MLineRows_put.2.1 82 = .ok (.sipush 800, 3) := by decide +kernel
theorem J_MLineRows_put_d85 : decode J_MLineRows_put.2.1 85 = .ok (.if_icmp .le 5, 3) := by decide +kernel
theorem J_MLineRows_put_d88 : decode J_MLineRows_put.2.1 88 = .ok (.iconst (-1), 1) := by decide +kernel
theorem J_MLineRows_put_d89 : decode J_MLineRows_put.2.1 89 = .ok (.ireturn, 1) := by decide +kernel
theorem J_MLineRows_put_d90 : decode J_MLineRows_put.2.1 90 = .ok (.iconst 0, 1) := by decide +kernel
theorem J_MLineRows_put_d91 : decode J_MLineRows_put.2.1 91 = .ok (.istore 4, 2) := by decide +kernel
theorem J_MLineRows_put_d93 : decode J_MLineRows_put.2.1 93 = .ok (.iload 4, 2) := by decide +kernel
theorem J_MLineRows_put_d95 : decode J_MLineRows_put.2.1 95 = .ok (.iload_n 1, 1) := by decide +kernel
theorem J_MLineRows_put_d96 : decode J_MLineRows_put.2.1 96 = .ok (.if_icmp .ge 40, 3) := by decide +kernel
theorem J_MLineRows_put_d99 : decode J_MLineRows_put.2.1 99 = .ok (.aload_n 0, 1) := by decide +kernel
theorem J_MLineRows_put_d100 : decode J_MLineRows_put.2.1 100 = .ok (.getfield 134, 3) := by decide +kernel
theorem J_MLineRows_put_d103 : decode J_MLineRows_put.2.1 103 = .ok (.aload_n 0, 1) := by decide +kernel
theorem J_MLineRows_put_d104 : decode J_MLineRows_put.2.1 104 = .ok (.getfield 202, 3) := by decide +kernel
theorem J_MLineRows_put_d107 : decode J_MLineRows_put.2.1 107 = .ok (.lload_n 2, 1) := by decide +kernel
theorem J_MLineRows_put_d108 : decode J_MLineRows_put.2.1 108 = .ok (.bipush 8, 2) := by decide +kernel
theorem J_MLineRows_put_d110 : decode J_MLineRows_put.2.1 110 = .ok (.iload 4, 2) := by decide +kernel
theorem J_MLineRows_put_d112 : decode J_MLineRows_put.2.1 112 = .ok (.imul, 1) := by decide +kernel
theorem J_MLineRows_put_d113 : decode J_MLineRows_put.2.1 113 = .ok (.lshr, 1) := by decide +kernel
theorem J_MLineRows_put_d114 : decode J_MLineRows_put.2.1 114 = .ok (.ldc2_w 153, 3) := by decide +kernel
theorem J_MLineRows_put_d117 : decode J_MLineRows_put.2.1 117 = .ok (.land, 1) := by decide +kernel
theorem J_MLineRows_put_d118 : decode J_MLineRows_put.2.1 118 = .ok (.l2i, 1) := by decide +kernel
theorem J_MLineRows_put_d119 : decode J_MLineRows_put.2.1 119 = .ok (.iastore, 1) := by decide +kernel
theorem J_MLineRows_put_d120 : decode J_MLineRows_put.2.1 120 = .ok (.aload_n 0, 1) := by decide +kernel
theorem J_MLineRows_put_d121 : decode J_MLineRows_put.2.1 121 = .ok (.dup, 1) := by decide +kernel
theorem J_MLineRows_put_d122 : decode J_MLineRows_put.2.1 122 = .ok (.getfield 202, 3) := by decide +kernel
theorem J_MLineRows_put_d125 : decode J_MLineRows_put.2.1 125 = .ok (.iconst 1, 1) := by decide +kernel
theorem J_MLineRows_put_d126 : decode J_MLineRows_put.2.1 126 = .ok (.iadd, 1) := by decide +kernel
theorem J_MLineRows_put_d127 : decode J_MLineRows_put.2.1 127 = .ok (.putfield 202, 3) := by decide +kernel
theorem J_MLineRows_put_d130 : decode J_MLineRows_put.2.1 130 = .ok (.iinc 4 1, 3) := by decide +kernel
theorem J_MLineRows_put_d133 : decode J_MLineRows_put.2.1 133 = .ok (.goto (-40), 3) := by decide +kernel
theorem J_MLineRows_put_d136 : decode J_MLineRows_put.2.1 136 = .ok (.aload_n 0, 1) := by decide +kernel
theorem J_MLineRows_put_d137 : decode J_MLineRows_put.2.1 137 = .ok (.getfield 202, 3) := by decide +kernel
theorem J_MLineRows_put_d140 : decode J_MLineRows_put.2.1 140 = .ok (.ireturn, 1) := by decide +kernel
theorem f_MLineRows_put_ok {L : Nat} {xs : Nat → Int32} {dep : Nat} {w : Bool} {p0 : Int32} {p1 : Int64} {M : im_M} {Q : Int32 × im_M → Prop} (hM : lw_S w M) (h : ed (f_MLineRows_put p0 p1 M) Q) : ia (tb_G L xs) dep J_MLineRows_put (rwI w Q) (0, lv_args 0 [.ref 96, .int p0, .long p1], [], M) := by
  have hS : im_St (tb_G L xs) dep J_MLineRows_put (ia (tb_G L xs) dep J_MLineRows_put (rwI w Q)) := ia_St
  unfold f_MLineRows_put at h
  have l0 : im_lk (lv_args 0 [.ref 96, .int p0, .long p1]) 0 = some (.ref 96) := rfl
  have l1 : im_lk (lv_args 0 [.ref 96, .int p0, .long p1]) 1 = some (.int p0) := rfl
  have l2 : im_lk (lv_args 0 [.ref 96, .int p0, .long p1]) 2 = some (.long p1) := rfl
  refine iq_aload_n hS 1 J_MLineRows_put_d0 l0 rfl ?_
  refine iq_iload_n hS 2 J_MLineRows_put_d1 l1 rfl ?_
  refine iq_iconst hS 3 J_MLineRows_put_d2 (v := 1) (by decide +kernel) rfl ?_
  have J1 : ∀ (z2 : Int32) (L' : List (Nat × Value)), z2 = ((if p0 < 1 then 1 else (if p0 ≤ 8 then 0 else 1)) : Int32) → im_lk L' 0 = some (.ref 96) → im_lk L' 1 = some (.int p0) → im_lk L' 2 = some (.long p1) → ia (tb_G L xs) dep J_MLineRows_put (rwI w Q) (17, L', [.int z2, .ref 96], M) := by
    intro z2 L' e3 l4 l5 l6
    subst e3
    refine iq_putI hS 20 J_MLineRows_put_d17 lf_13_149 (Or.inl rfl) rfl (ka_96 hM) rfl ?_
    refine iq_iconst hS 21 J_MLineRows_put_d20 (v := 0) (by decide +kernel) rfl ?_
    refine iq_istore hS 23 J_MLineRows_put_d21 (by decide) rfl ?_
    obtain ⟨Q7, hQ7, h⟩ := bd1_ed h
    have K7 : ∀ (M8 : im_M) (L' : List (Nat × Value)), lw_S w M8 → im_lk L' 0 = some (.ref 96) → im_lk L' 1 = some (.int p0) → im_lk L' 2 = some (.long p1) → Q7 M8 → ia (tb_G L xs) dep J_MLineRows_put (rwI w Q) (67, L', [], M8) := by
      intro M8 L' hM8 l9 l10 l11 h
      replace h := hQ7 _ h
      refine iq_aload_n hS 68 J_MLineRows_put_d67 l9 rfl ?_
      refine iq_getI hS 71 J_MLineRows_put_d68 lf_13_149 (Or.inl rfl) (ka_96 hM8) rfl ?_
      refine iq_if_le hS 74 J_MLineRows_put_d71 (t := 76) rfl (fun q71 => ?_) rfl (fun q71 => ?_)
      · replace h := ed_pos q71 h
        refine iq_aload_n hS 77 J_MLineRows_put_d76 l9 rfl ?_
        refine iq_getI hS 80 J_MLineRows_put_d77 lf_13_202 (Or.inl rfl) (ka_96 hM8) rfl ?_
        refine iq_iload_n hS 81 J_MLineRows_put_d80 l10 rfl ?_
        refine iq_iadd hS 82 J_MLineRows_put_d81 rfl ?_
        refine iq_sipush hS 85 J_MLineRows_put_d82 (v := 800) (by decide +kernel) rfl ?_
        refine iq_icmp_le hS 88 J_MLineRows_put_d85 (t := 90) rfl (fun q85 => ?_) rfl (fun q85 => ?_)
        · replace h := ed_pos q85 h
          refine iq_iconst hS 91 J_MLineRows_put_d90 (v := 0) (by decide +kernel) rfl ?_
          refine iq_istore hS 93 J_MLineRows_put_d91 (by decide) rfl ?_
          obtain ⟨Q12, hQ12, h⟩ := bd1_ed h
          have K12 : ∀ (M13 : im_M) (L' : List (Nat × Value)), lw_S w M13 → im_lk L' 0 = some (.ref 96) → Q12 M13 → ia (tb_G L xs) dep J_MLineRows_put (rwI w Q) (136, L', [], M13) := by
            intro M13 L' hM13 l14 h
            replace h := hQ12 _ h
            refine iq_aload_n hS 137 J_MLineRows_put_d136 l14 rfl ?_
            refine iq_getI hS 140 J_MLineRows_put_d137 lf_13_202 (Or.inl rfl) (ka_96 hM13) rfl ?_
            exact iq_iret J_MLineRows_put_d140 rfl rfl ⟨_, rfl, hM13, ed_some h⟩
          obtain ⟨r12, hr12, hq12⟩ := h
          obtain ⟨n12, hn12⟩ := lp_n hr12
          have I12 : ∀ (n : Nat) (x15 : Int32) (M16 : im_M) (L' : List (Nat × Value)), lw_S w M16 → im_lk L' 0 = some (.ref 96) → im_lk L' 1 = some (.int p0) → im_lk L' 2 = some (.long p1) → im_lk L' 4 = some (.int x15) → lpn (uc2 (f_MLineRows_put_L93 p0 p1)) n (x15, M16) = some r12 → ia (tb_G L xs) dep J_MLineRows_put (rwI w Q) (93, L', [], M16) := by
            intro n
            induction n with
            | zero => intro x15 M16 L' hM16 l17 l18 l19 l20 hn; exact (lpn_0 hn).elim
            | succ n ih =>
              intro x15 M16 L' hM16 l17 l18 l19 l20 hn
              have h := lpn_ed2 hn
              unfold f_MLineRows_put_L93 at h
              refine iq_iload hS 95 J_MLineRows_put_d93 l20 rfl ?_
              refine iq_iload_n hS 96 J_MLineRows_put_d95 l18 rfl ?_
              refine iq_icmp_ge hS 99 J_MLineRows_put_d96 (t := 136) rfl (fun q96 => ?_) rfl (fun q96 => ?_)
              · replace h := ed_pos q96 h
                exact K12 _ _ hM16 l17 (lq_r h hq12)
              · replace h := ed_neg q96 h
                refine iq_aload_n hS 100 J_MLineRows_put_d99 l17 rfl ?_
                refine iq_getR hS 103 J_MLineRows_put_d100 lf_13_134 (Or.inr ⟨_, rfl⟩) (ka_96 hM16) (ra_96_9 hM16) rfl ?_
                refine iq_aload_n hS 104 J_MLineRows_put_d103 l17 rfl ?_
                refine iq_getI hS 107 J_MLineRows_put_d104 lf_13_202 (Or.inl rfl) (ka_96 hM16) rfl ?_
                refine iq_lload_n hS 108 J_MLineRows_put_d107 l19 rfl ?_
                refine iq_bipush hS 110 J_MLineRows_put_d108 (v := 8) (by decide +kernel) rfl ?_
                refine iq_iload hS 112 J_MLineRows_put_d110 l20 rfl ?_
                refine iq_imul hS 113 J_MLineRows_put_d112 rfl ?_
                refine iq_lshr hS 114 J_MLineRows_put_d113 rfl ?_
                refine iq_ldc2_w hS 117 J_MLineRows_put_d114 lk_13_153 rfl ?_
                refine iq_land hS 118 J_MLineRows_put_d117 rfl ?_
                refine iq_l2i hS 119 J_MLineRows_put_d118 rfl ?_
                obtain ⟨g119, h⟩ := ed_gd h
                refine iq_iastore hS 120 J_MLineRows_put_d119 ⟨(ka_103 hM16).1, (ka_103 hM16).2, g119.1, ix_lt (kl_103 hM16) g119.2⟩ rfl ?_
                refine iq_aload_n hS 121 J_MLineRows_put_d120 l17 rfl ?_
                refine iq_dup hS 122 J_MLineRows_put_d121 rfl rfl ?_
                refine iq_getI hS 125 J_MLineRows_put_d122 lf_13_202 (Or.inl rfl) (ka_96 hM16) rfl ?_
                refine iq_iconst hS 126 J_MLineRows_put_d125 (v := 1) (by decide +kernel) rfl ?_
                refine iq_iadd hS 127 J_MLineRows_put_d126 rfl ?_
                refine iq_putI hS 130 J_MLineRows_put_d127 lf_13_202 (Or.inl rfl) rfl (ka_96 hM16) rfl ?_
                refine iq_iincv hS 133 J_MLineRows_put_d130 (c := 1) (by decide +kernel) l20 (by decide) rfl ?_
                refine iq_goto hS J_MLineRows_put_d133 (t := 93) rfl ?_
                exact ih _ _ _ hM16 (lk_1r l17 (by decide)) (lk_1i l18 (by decide)) (lk_1l l19 (by decide) (by decide)) lk_1s (lq_l h)
          exact I12 n12 _ _ _ hM8 (lk_1r l9 (by decide)) (lk_1i l10 (by decide)) (lk_1l l11 (by decide) (by decide)) lk_1s hn12
        · replace h := ed_neg q85 h
          refine iq_iconst hS 89 J_MLineRows_put_d88 (v := (-1)) (by decide +kernel) rfl ?_
          exact iq_iret J_MLineRows_put_d89 rfl rfl ⟨_, rfl, hM8, ed_some h⟩
      · replace h := ed_neg q71 h
        refine iq_iconst hS 75 J_MLineRows_put_d74 (v := 0) (by decide +kernel) rfl ?_
        exact iq_iret J_MLineRows_put_d75 rfl rfl ⟨_, rfl, hM8, ed_some h⟩
    obtain ⟨r7, hr7, hq7⟩ := h
    obtain ⟨n7, hn7⟩ := lp_n hr7
    have I7 : ∀ (n : Nat) (x21 : Int32) (M22 : im_M) (L' : List (Nat × Value)), lw_S w M22 → im_lk L' 0 = some (.ref 96) → im_lk L' 1 = some (.int p0) → im_lk L' 2 = some (.long p1) → im_lk L' 4 = some (.int x21) → lpn (uc2 (f_MLineRows_put_L23 p0 p1)) n (x21, M22) = some r7 → ia (tb_G L xs) dep J_MLineRows_put (rwI w Q) (23, L', [], M22) := by
      intro n
      induction n with
      | zero => intro x21 M22 L' hM22 l23 l24 l25 l26 hn; exact (lpn_0 hn).elim
      | succ n ih =>
        intro x21 M22 L' hM22 l23 l24 l25 l26 hn
        have h := lpn_ed2 hn
        unfold f_MLineRows_put_L23 at h
        refine iq_iload hS 25 J_MLineRows_put_d23 l26 rfl ?_
        refine iq_iload_n hS 26 J_MLineRows_put_d25 l24 rfl ?_
        refine iq_icmp_ge hS 29 J_MLineRows_put_d26 (t := 67) rfl (fun q26 => ?_) rfl (fun q26 => ?_)
        · replace h := ed_pos q26 h
          exact K7 _ _ hM22 l23 l24 l25 (lq_r h hq7)
        · replace h := ed_neg q26 h
          refine iq_aload_n hS 30 J_MLineRows_put_d29 l23 rfl ?_
          refine iq_getI hS 33 J_MLineRows_put_d30 lf_13_149 (Or.inl rfl) (ka_96 hM22) rfl ?_
          refine iq_if_ne hS 36 J_MLineRows_put_d33 (t := 67) rfl (fun q33 => ?_) rfl (fun q33 => ?_)
          · replace h := ed_pos q33 h
            exact K7 _ _ hM22 l23 l24 l25 (lq_r h hq7)
          · replace h := ed_neg q33 h
            refine iq_aload_n hS 37 J_MLineRows_put_d36 l23 rfl ?_
            refine iq_lload_n hS 38 J_MLineRows_put_d37 l25 rfl ?_
            refine iq_bipush hS 40 J_MLineRows_put_d38 (v := 8) (by decide +kernel) rfl ?_
            refine iq_iload hS 42 J_MLineRows_put_d40 l26 rfl ?_
            refine iq_imul hS 43 J_MLineRows_put_d42 rfl ?_
            refine iq_lshr hS 44 J_MLineRows_put_d43 rfl ?_
            refine iq_ldc2_w hS 47 J_MLineRows_put_d44 lk_13_153 rfl ?_
            refine iq_land hS 48 J_MLineRows_put_d47 rfl ?_
            refine iq_lconst hS 49 J_MLineRows_put_d48 (v := 0) (by decide +kernel) rfl ?_
            refine iq_lcmp hS 50 J_MLineRows_put_d49 rfl ?_
            have J27 : ∀ (z28 : Int32) (L' : List (Nat × Value)), z28 = ((if ¬ (lg_cmp ((p1 >>> (Int32.toInt64 ((8 : Int32) * x21) &&& 63)) &&& 255) 0) = 0 then 0 else 1) : Int32) → im_lk L' 0 = some (.ref 96) → im_lk L' 1 = some (.int p0) → im_lk L' 2 = some (.long p1) → im_lk L' 4 = some (.int x21) → ia (tb_G L xs) dep J_MLineRows_put (rwI w Q) (58, L', [.int z28, .ref 96], M22) := by
              intro z28 L' e29 l30 l31 l32 l33
              subst e29
              refine iq_putI hS 61 J_MLineRows_put_d58 lf_13_149 (Or.inl rfl) rfl (ka_96 hM22) rfl ?_
              refine iq_iincv hS 64 J_MLineRows_put_d61 (c := 1) (by decide +kernel) l33 (by decide) rfl ?_
              refine iq_goto hS J_MLineRows_put_d64 (t := 23) rfl ?_
              exact ih _ _ _ hM22 (lk_1r l30 (by decide)) (lk_1i l31 (by decide)) (lk_1l l32 (by decide) (by decide)) lk_1s (lq_l h)
            refine iq_if_ne hS 53 J_MLineRows_put_d50 (t := 57) rfl (fun q50 => ?_) rfl (fun q50 => ?_)
            · refine iq_iconst hS 58 J_MLineRows_put_d57 (v := 0) (by decide +kernel) rfl ?_
              exact J27 _ _ (by rw [if_pos q50]) l23 l24 l25 l26
            · refine iq_iconst hS 54 J_MLineRows_put_d53 (v := 1) (by decide +kernel) rfl ?_
              refine iq_goto hS J_MLineRows_put_d54 (t := 58) rfl ?_
              exact J27 _ _ (by rw [if_neg q50]) l23 l24 l25 l26
    exact I7 n7 _ _ _ hM (lk_1r l4 (by decide)) (lk_1i l5 (by decide)) (lk_1l l6 (by decide) (by decide)) lk_1s hn7
  refine iq_icmp_lt hS 6 J_MLineRows_put_d3 (t := 12) rfl (fun q3 => ?_) rfl (fun q3 => ?_)
  · refine iq_iconst hS 13 J_MLineRows_put_d12 (v := 1) (by decide +kernel) rfl ?_
    refine iq_goto hS J_MLineRows_put_d13 (t := 17) rfl ?_
    exact J1 _ _ (by rw [if_pos q3]) l0 l1 l2
  · refine iq_iload_n hS 7 J_MLineRows_put_d6 l1 rfl ?_
    refine iq_bipush hS 9 J_MLineRows_put_d7 (v := 8) (by decide +kernel) rfl ?_
    refine iq_icmp_le hS 12 J_MLineRows_put_d9 (t := 16) rfl (fun q9 => ?_) rfl (fun q9 => ?_)
    · refine iq_iconst hS 17 J_MLineRows_put_d16 (v := 0) (by decide +kernel) rfl ?_
      exact J1 _ _ (by rw [if_neg q3, if_pos q9]) l0 l1 l2
    · refine iq_iconst hS 13 J_MLineRows_put_d12 (v := 1) (by decide +kernel) rfl ?_
      refine iq_goto hS J_MLineRows_put_d13 (t := 17) rfl ?_
      exact J1 _ _ (by rw [if_neg q3, if_neg q9]) l0 l1 l2
noncomputable def f_MLineRows_spoil (p0 : Int32) (p1 : Int32) (M : im_M) : Option (Int32 × im_M) := if (im_i (im_setI M 96 3 ((if p0 < 0 then 1 else (if p0 < (im_i M 96 10) then (if p1 < 1 then 2 else (if p1 ≤ 2000 then 0 else 2)) else 1)) : Int32)) 96 3) ≤ 0 then gd (inb p0 800) <| gd (inb p0 800) <| some ((im_i (im_setI M 96 3 ((if p0 < 0 then 1 else (if p0 < (im_i M 96 10) then (if p1 < 1 then 2 else (if p1 ≤ 2000 then 0 else 2)) else 1)) : Int32)) 103 (Int32.toNatClampNeg p0)), (im_setI (im_setI M 96 3 ((if p0 < 0 then 1 else (if p0 < (im_i M 96 10) then (if p1 < 1 then 2 else (if p1 ≤ 2000 then 0 else 2)) else 1)) : Int32)) 103 (Int32.toNatClampNeg p0) p1)) else some (0, (im_setI M 96 3 ((if p0 < 0 then 1 else (if p0 < (im_i M 96 10) then (if p1 < 1 then 2 else (if p1 ≤ 2000 then 0 else 2)) else 1)) : Int32)))
theorem J_MLineRows_spoil_d0 : decode J_MLineRows_spoil.2.1 0 = .ok (.aload_n 0, 1) := by decide +kernel
theorem J_MLineRows_spoil_d1 : decode J_MLineRows_spoil.2.1 1 = .ok (.iload_n 1, 1) := by decide +kernel
theorem J_MLineRows_spoil_d2 : decode J_MLineRows_spoil.2.1 2 = .ok (.ifCond .lt 11, 3) := by decide +kernel
theorem J_MLineRows_spoil_d5 : decode J_MLineRows_spoil.2.1 5 = .ok (.iload_n 1, 1) := by decide +kernel
theorem J_MLineRows_spoil_d6 : decode J_MLineRows_spoil.2.1 6 = .ok (.aload_n 0, 1) := by decide +kernel
theorem J_MLineRows_spoil_d7 : decode J_MLineRows_spoil.2.1 7 = .ok (.getfield 202, 3) := by decide +kernel
theorem J_MLineRows_spoil_d10 : decode J_MLineRows_spoil.2.1 10 = .ok (.if_icmp .lt 7, 3) := by decide +kernel
theorem J_MLineRows_spoil_d13 : decode J_MLineRows_spoil.2.1 13 = .ok (.iconst 1, 1) := by decide +kernel
theorem J_MLineRows_spoil_d14 : decode J_MLineRows_spoil.2.1 14 = .ok (.goto 20, 3) := by decide +kernel
theorem J_MLineRows_spoil_d17 : decode J_MLineRows_spoil.2.1 17 = .ok (.iload_n 2, 1) := by decide +kernel
theorem J_MLineRows_spoil_d18 : decode J_MLineRows_spoil.2.1 18 = .ok (.iconst 1, 1) := by decide +kernel
theorem J_MLineRows_spoil_d19 : decode J_MLineRows_spoil.2.1 19 = .ok (.if_icmp .lt 10, 3) := by decide +kernel
theorem J_MLineRows_spoil_d22 : decode J_MLineRows_spoil.2.1 22 = .ok (.iload_n 2, 1) := by decide +kernel
theorem J_MLineRows_spoil_d23 : decode J_MLineRows_spoil.2.1 23 = .ok (.sipush 2000, 3) := by decide +kernel
theorem J_MLineRows_spoil_d26 : decode J_MLineRows_spoil.2.1 26 = .ok (.if_icmp .le 7, 3) := by decide +kernel
theorem J_MLineRows_spoil_d29 : decode J_MLineRows_spoil.2.1 29 = .ok (.iconst 2, 1) := by decide +kernel
theorem J_MLineRows_spoil_d30 : decode J_MLineRows_spoil.2.1 30 = .ok (.goto 4, 3) := by decide +kernel
theorem J_MLineRows_spoil_d33 : decode J_MLineRows_spoil.2.1 33 = .ok (.iconst 0, 1) := by decide +kernel
theorem J_MLineRows_spoil_d34 : decode J_MLineRows_spoil.2.1 34 = .ok (.putfield 149, 3) := by decide +kernel
theorem J_MLineRows_spoil_d37 : decode J_MLineRows_spoil.2.1 37 = .ok (.aload_n 0, 1) := by decide +kernel
theorem J_MLineRows_spoil_d38 : decode J_MLineRows_spoil.2.1 38 = .ok (.getfield 149, 3) := by decide +kernel
theorem J_MLineRows_spoil_d41 : decode J_MLineRows_spoil.2.1 41 = .ok (.ifCond .le 5, 3) := by decide +kernel
theorem J_MLineRows_spoil_d44 : decode J_MLineRows_spoil.2.1 44 = .ok (.iconst 0, 1) := by decide +kernel
theorem J_MLineRows_spoil_d45 : decode J_MLineRows_spoil.2.1 45 = .ok (.ireturn, 1) := by decide +kernel
theorem J_MLineRows_spoil_d46 : decode J_MLineRows_spoil.2.1 46 = .ok (.aload_n 0, 1) := by decide +kernel
theorem J_MLineRows_spoil_d47 : decode J_MLineRows_spoil.2.1 47 = .ok (.getfield 134, 3) := by decide +kernel
theorem J_MLineRows_spoil_d50 : decode J_MLineRows_spoil.2.1 50 = .ok (.iload_n 1, 1) := by decide +kernel
theorem J_MLineRows_spoil_d51 : decode J_MLineRows_spoil.2.1 51 = .ok (.iaload, 1) := by decide +kernel
theorem J_MLineRows_spoil_d52 : decode J_MLineRows_spoil.2.1 52 = .ok (.istore_n 3, 1) := by decide +kernel
theorem J_MLineRows_spoil_d53 : decode J_MLineRows_spoil.2.1 53 = .ok (.aload_n 0, 1) := by decide +kernel
theorem J_MLineRows_spoil_d54 : decode J_MLineRows_spoil.2.1 54 = .ok (.getfield 134, 3) := by decide +kernel
theorem J_MLineRows_spoil_d57 : decode J_MLineRows_spoil.2.1 57 = .ok (.iload_n 1, 1) := by decide +kernel
theorem J_MLineRows_spoil_d58 : decode J_MLineRows_spoil.2.1 58 = .ok (.iload_n 2, 1) := by decide +kernel
theorem J_MLineRows_spoil_d59 : decode J_MLineRows_spoil.2.1 59 = .ok (.iastore, 1) := by decide +kernel
theorem J_MLineRows_spoil_d60 : decode J_MLineRows_spoil.2.1 60 = .ok (.iload_n 3, 1) := by decide +kernel
theorem J_MLineRows_spoil_d61 : decode J_MLineRows_spoil.2.1 61 = .ok (.ireturn, 1) := by decide +kernel
theorem f_MLineRows_spoil_ok {L : Nat} {xs : Nat → Int32} {dep : Nat} {w : Bool} {p0 : Int32} {p1 : Int32} {M : im_M} {Q : Int32 × im_M → Prop} (hM : lw_S w M) (h : ed (f_MLineRows_spoil p0 p1 M) Q) : ia (tb_G L xs) dep J_MLineRows_spoil (rwI w Q) (0, lv_args 0 [.ref 96, .int p0, .int p1], [], M) := by
  have hS : im_St (tb_G L xs) dep J_MLineRows_spoil (ia (tb_G L xs) dep J_MLineRows_spoil (rwI w Q)) := ia_St
  unfold f_MLineRows_spoil at h
  have l0 : im_lk (lv_args 0 [.ref 96, .int p0, .int p1]) 0 = some (.ref 96) := rfl
  have l1 : im_lk (lv_args 0 [.ref 96, .int p0, .int p1]) 1 = some (.int p0) := rfl
  have l2 : im_lk (lv_args 0 [.ref 96, .int p0, .int p1]) 2 = some (.int p1) := rfl
  refine iq_aload_n hS 1 J_MLineRows_spoil_d0 l0 rfl ?_
  refine iq_iload_n hS 2 J_MLineRows_spoil_d1 l1 rfl ?_
  have J1 : ∀ (z2 : Int32) (L' : List (Nat × Value)), z2 = ((if p0 < 0 then 1 else (if p0 < (im_i M 96 10) then (if p1 < 1 then 2 else (if p1 ≤ 2000 then 0 else 2)) else 1)) : Int32) → im_lk L' 0 = some (.ref 96) → im_lk L' 1 = some (.int p0) → im_lk L' 2 = some (.int p1) → ia (tb_G L xs) dep J_MLineRows_spoil (rwI w Q) (34, L', [.int z2, .ref 96], M) := by
    intro z2 L' e3 l4 l5 l6
    subst e3
    refine iq_putI hS 37 J_MLineRows_spoil_d34 lf_13_149 (Or.inl rfl) rfl (ka_96 hM) rfl ?_
    refine iq_aload_n hS 38 J_MLineRows_spoil_d37 l4 rfl ?_
    refine iq_getI hS 41 J_MLineRows_spoil_d38 lf_13_149 (Or.inl rfl) (ka_96 hM) rfl ?_
    refine iq_if_le hS 44 J_MLineRows_spoil_d41 (t := 46) rfl (fun q41 => ?_) rfl (fun q41 => ?_)
    · replace h := ed_pos q41 h
      refine iq_aload_n hS 47 J_MLineRows_spoil_d46 l4 rfl ?_
      refine iq_getR hS 50 J_MLineRows_spoil_d47 lf_13_134 (Or.inr ⟨_, rfl⟩) (ka_96 hM) (ra_96_9 hM) rfl ?_
      refine iq_iload_n hS 51 J_MLineRows_spoil_d50 l5 rfl ?_
      obtain ⟨g51, h⟩ := ed_gd h
      refine iq_iaload hS 52 J_MLineRows_spoil_d51 ⟨(ka_103 hM).1, (ka_103 hM).2, g51.1, ix_lt (kl_103 hM) g51.2⟩ rfl ?_
      refine iq_istore_n hS 53 J_MLineRows_spoil_d52 (by decide) rfl ?_
      refine iq_aload_n hS 54 J_MLineRows_spoil_d53 (lk_1r l4 (by decide)) rfl ?_
      refine iq_getR hS 57 J_MLineRows_spoil_d54 lf_13_134 (Or.inr ⟨_, rfl⟩) (ka_96 hM) (ra_96_9 hM) rfl ?_
      refine iq_iload_n hS 58 J_MLineRows_spoil_d57 (lk_1i l5 (by decide)) rfl ?_
      refine iq_iload_n hS 59 J_MLineRows_spoil_d58 (lk_1i l6 (by decide)) rfl ?_
      obtain ⟨g59, h⟩ := ed_gd h
      refine iq_iastore hS 60 J_MLineRows_spoil_d59 ⟨(ka_103 hM).1, (ka_103 hM).2, g59.1, ix_lt (kl_103 hM) g59.2⟩ rfl ?_
      refine iq_iload_n hS 61 J_MLineRows_spoil_d60 lk_1s rfl ?_
      exact iq_iret J_MLineRows_spoil_d61 rfl rfl ⟨_, rfl, hM, ed_some h⟩
    · replace h := ed_neg q41 h
      refine iq_iconst hS 45 J_MLineRows_spoil_d44 (v := 0) (by decide +kernel) rfl ?_
      exact iq_iret J_MLineRows_spoil_d45 rfl rfl ⟨_, rfl, hM, ed_some h⟩
  refine iq_if_lt hS 5 J_MLineRows_spoil_d2 (t := 13) rfl (fun q2 => ?_) rfl (fun q2 => ?_)
  · refine iq_iconst hS 14 J_MLineRows_spoil_d13 (v := 1) (by decide +kernel) rfl ?_
    refine iq_goto hS J_MLineRows_spoil_d14 (t := 34) rfl ?_
    exact J1 _ _ (by rw [if_pos q2]) l0 l1 l2
  · refine iq_iload_n hS 6 J_MLineRows_spoil_d5 l1 rfl ?_
    refine iq_aload_n hS 7 J_MLineRows_spoil_d6 l0 rfl ?_
    refine iq_getI hS 10 J_MLineRows_spoil_d7 lf_13_202 (Or.inl rfl) (ka_96 hM) rfl ?_
    refine iq_icmp_lt hS 13 J_MLineRows_spoil_d10 (t := 17) rfl (fun q10 => ?_) rfl (fun q10 => ?_)
    · refine iq_iload_n hS 18 J_MLineRows_spoil_d17 l2 rfl ?_
      refine iq_iconst hS 19 J_MLineRows_spoil_d18 (v := 1) (by decide +kernel) rfl ?_
      refine iq_icmp_lt hS 22 J_MLineRows_spoil_d19 (t := 29) rfl (fun q19 => ?_) rfl (fun q19 => ?_)
      · refine iq_iconst hS 30 J_MLineRows_spoil_d29 (v := 2) (by decide +kernel) rfl ?_
        refine iq_goto hS J_MLineRows_spoil_d30 (t := 34) rfl ?_
        exact J1 _ _ (by rw [if_neg q2, if_pos q10, if_pos q19]) l0 l1 l2
      · refine iq_iload_n hS 23 J_MLineRows_spoil_d22 l2 rfl ?_
        refine iq_sipush hS 26 J_MLineRows_spoil_d23 (v := 2000) (by decide +kernel) rfl ?_
        refine iq_icmp_le hS 29 J_MLineRows_spoil_d26 (t := 33) rfl (fun q26 => ?_) rfl (fun q26 => ?_)
        · refine iq_iconst hS 34 J_MLineRows_spoil_d33 (v := 0) (by decide +kernel) rfl ?_
          exact J1 _ _ (by rw [if_neg q2, if_pos q10, if_neg q19, if_pos q26]) l0 l1 l2
        · refine iq_iconst hS 30 J_MLineRows_spoil_d29 (v := 2) (by decide +kernel) rfl ?_
          refine iq_goto hS J_MLineRows_spoil_d30 (t := 34) rfl ?_
          exact J1 _ _ (by rw [if_neg q2, if_pos q10, if_neg q19, if_neg q26]) l0 l1 l2
    · refine iq_iconst hS 14 J_MLineRows_spoil_d13 (v := 1) (by decide +kernel) rfl ?_
      refine iq_goto hS J_MLineRows_spoil_d14 (t := 34) rfl ?_
      exact J1 _ _ (by rw [if_neg q2, if_neg q10]) l0 l1 l2
noncomputable def f_M_strip_L12 (v3 : Int32) (v4 : Int32) (v5 : Int32) (v6 : Int32) (x7 : Int32) (M8 : im_M) : Option ((Int32 × im_M) ⊕ (im_M)) := if v5 ≤ x7 then some (.inr M8) else bd2 (f_MLineRows_put 1 1 M8) fun (x9 : Int32) (M9 : im_M) => bd2 (f_MDotRows_run v3 v4 x7 v6 M9) fun (x10 : Int32) (M10 : im_M) => bd2 (f_MLineRows_spoil x7 x10 M10) fun (x11 : Int32) (M11 : im_M) => some (.inl ((x7 + 1), M11))
noncomputable def f_M_strip (p0 : Int32) (p1 : Int32) (p2 : Int32) (p3 : Int32) (M : im_M) : Option (im_M) := bd2 (f_MLineRows_clear M) fun (x1 : Int32) (M1 : im_M) => bd1 (lp (uc2 (f_M_strip_L12 p0 p1 p2 p3)) (0, M1)) fun (M12 : im_M) => some M12
theorem J_M_strip_d0 : decode J_M_strip.2.1 0 = .ok (.aload_n 0, 1) := by decide +kernel
theorem J_M_strip_d1 : decode J_M_strip.2.1 1 = .ok (.getfield 30, 3) := by decide +kernel
theorem J_M_strip_d4 : decode J_M_strip.2.1 4 = .ok (.invokevirtual 245, 3) := by decide +kernel
theorem J_M_strip_d7 : decode J_M_strip.2.1 7 = .ok (.istore 5, 2) := by decide +kernel
theorem J_M_strip_d9 : decode J_M_strip.2.1 9 = .ok (.iconst 0, 1) := by decide +kernel
theorem J_M_strip_d10 : decode J_M_strip.2.1 10 = .ok (.istore 6, 2) := by decide +kernel
theorem J_M_strip_d12 : decode J_M_strip.2.1 12 = .ok (.iload 6, 2) := by decide +kernel
theorem J_M_strip_d14 : decode J_M_strip.2.1 14 = .ok (.iload_n 3, 1) := by decide +kernel
theorem J_M_strip_d15 : decode J_M_strip.2.1 15 = .ok (.if_icmp .ge 44, 3) := by decide +kernel
theorem J_M_strip_d18 : decode J_M_strip.2.1 18 = .ok (.aload_n 0, 1) := by decide +kernel
theorem J_M_strip_d19 : decode J_M_strip.2.1 19 = .ok (.getfield 30, 3) := by decide +kernel
theorem J_M_strip_d22 : decode J_M_strip.2.1 22 = .ok (.iconst 1, 1) := by decide +kernel
theorem J_M_strip_d23 : decode J_M_strip.2.1 23 = .ok (.lconst 1, 1) := by decide +kernel
theorem J_M_strip_d24 : decode J_M_strip.2.1 24 = .ok (.invokevirtual 248, 3) := by decide +kernel
theorem J_M_strip_d27 : decode J_M_strip.2.1 27 = .ok (.istore 5, 2) := by decide +kernel
theorem J_M_strip_d29 : decode J_M_strip.2.1 29 = .ok (.aload_n 0, 1) := by decide +kernel
theorem J_M_strip_d30 : decode J_M_strip.2.1 30 = .ok (.getfield 30, 3) := by decide +kernel
theorem J_M_strip_d33 : decode J_M_strip.2.1 33 = .ok (.iload 6, 2) := by decide +kernel
theorem J_M_strip_d35 : decode J_M_strip.2.1 35 = .ok (.aload_n 0, 1) := by decide +kernel
theorem J_M_strip_d36 : decode J_M_strip.2.1 36 = .ok (.getfield 23, 3) := by decide +kernel
theorem J_M_strip_d39 : decode J_M_strip.2.1 39 = .ok (.iload_n 1, 1) := by decide +kernel
theorem J_M_strip_d40 : decode J_M_strip.2.1 40 = .ok (.iload_n 2, 1) := by decide +kernel
theorem J_M_strip_d41 : decode J_M_strip.2.1 41 = .ok (.iload 6, 2) := by decide +kernel
theorem J_M_strip_d43 : decode J_M_strip.2.1 43 = .ok (.iload 4, 2) := by decide +kernel
theorem J_M_strip_d45 : decode J_M_strip.2.1 45 = .ok (.invokevirtual 219, 3) := by decide +kernel
theorem J_M_strip_d48 : decode J_M_strip.2.1 48 = .ok (.invokevirtual 249, 3) := by decide +kernel
theorem J_M_strip_d51 : decode J_M_strip.2.1 51 = .ok (.istore 5, 2) := by decide +kernel
theorem J_M_strip_d53 : decode J_M_strip.2.1 53 = .ok (.iinc 6 1, 3) := by decide +kernel
theorem J_M_strip_d56 : decode J_M_strip.2.1 56 = .ok (.goto (-44), 3) := by decide +kernel
theorem J_M_strip_d59 : decode J_M_strip.2.1 59 = .ok (.return_, 1) := by decide +kernel
theorem f_M_strip_ok {L : Nat} {xs : Nat → Int32} {dep : Nat} {w : Bool} {p0 : Int32} {p1 : Int32} {p2 : Int32} {p3 : Int32} {M : im_M} {Q : im_M → Prop} (hM : lw_S w M) (h : ed (f_M_strip p0 p1 p2 p3 M) Q) : ia (tb_G L xs) (dep + 3) J_M_strip (rwV w Q) (0, lv_args 0 [.ref 69, .int p0, .int p1, .int p2, .int p3], [], M) := by
  have hS : im_St (tb_G L xs) (dep + 3) J_M_strip (ia (tb_G L xs) (dep + 3) J_M_strip (rwV w Q)) := ia_St
  unfold f_M_strip at h
  have l0 : im_lk (lv_args 0 [.ref 69, .int p0, .int p1, .int p2, .int p3]) 0 = some (.ref 69) := rfl
  have l1 : im_lk (lv_args 0 [.ref 69, .int p0, .int p1, .int p2, .int p3]) 1 = some (.int p0) := rfl
  have l2 : im_lk (lv_args 0 [.ref 69, .int p0, .int p1, .int p2, .int p3]) 2 = some (.int p1) := rfl
  have l3 : im_lk (lv_args 0 [.ref 69, .int p0, .int p1, .int p2, .int p3]) 3 = some (.int p2) := rfl
  have l4 : im_lk (lv_args 0 [.ref 69, .int p0, .int p1, .int p2, .int p3]) 4 = some (.int p3) := rfl
  refine iq_aload_n hS 1 J_M_strip_d0 l0 rfl ?_
  refine iq_getR hS 4 J_M_strip_d1 lf_17_30 (Or.inl ⟨_, rfl⟩) (ka_69 hM) (ra_69_5 hM) rfl ?_
  obtain ⟨Q1, hQ1, h⟩ := bd2_ed h
  refine iq_cwI hS 7 J_M_strip_d4 rfl (pr_inst (vs := []) lc_17_245 lT_502 rfl rfl (by decide) (by decide) rfl (Nat.le_of_ble_eq_true rfl) (Nat.le_of_ble_eq_true rfl) (fun _ => Or.inl (pr_b (ka_96 hM) (by decide) rfl))) (f_MLineRows_clear_ok (dep := dep + 2) hM h) rfl ?_
  intro x1 M1 hM1 h
  replace h := hQ1 _ _ h
  refine iq_istore hS 9 J_M_strip_d7 (by decide) rfl ?_
  refine iq_iconst hS 10 J_M_strip_d9 (v := 0) (by decide +kernel) rfl ?_
  refine iq_istore hS 12 J_M_strip_d10 (by decide) rfl ?_
  obtain ⟨Q2, hQ2, h⟩ := bd1_ed h
  have K2 : ∀ (M3 : im_M) (L' : List (Nat × Value)), lw_S w M3 → Q2 M3 → ia (tb_G L xs) (dep + 3) J_M_strip (rwV w Q) (59, L', [], M3) := by
    intro M3 L' hM3  h
    replace h := hQ2 _ h
    exact iq_ret J_M_strip_d59 rfl ⟨rfl, hM3, ed_some h⟩
  obtain ⟨r2, hr2, hq2⟩ := h
  obtain ⟨n2, hn2⟩ := lp_n hr2
  have I2 : ∀ (n : Nat) (x4 : Int32) (M5 : im_M) (L' : List (Nat × Value)), lw_S w M5 → im_lk L' 0 = some (.ref 69) → im_lk L' 1 = some (.int p0) → im_lk L' 2 = some (.int p1) → im_lk L' 3 = some (.int p2) → im_lk L' 4 = some (.int p3) → im_lk L' 6 = some (.int x4) → lpn (uc2 (f_M_strip_L12 p0 p1 p2 p3)) n (x4, M5) = some r2 → ia (tb_G L xs) (dep + 3) J_M_strip (rwV w Q) (12, L', [], M5) := by
    intro n
    induction n with
    | zero => intro x4 M5 L' hM5 l6 l7 l8 l9 l10 l11 hn; exact (lpn_0 hn).elim
    | succ n ih =>
      intro x4 M5 L' hM5 l6 l7 l8 l9 l10 l11 hn
      have h := lpn_ed2 hn
      unfold f_M_strip_L12 at h
      refine iq_iload hS 14 J_M_strip_d12 l11 rfl ?_
      refine iq_iload_n hS 15 J_M_strip_d14 l9 rfl ?_
      refine iq_icmp_ge hS 18 J_M_strip_d15 (t := 59) rfl (fun q15 => ?_) rfl (fun q15 => ?_)
      · replace h := ed_pos q15 h
        exact K2 _ _ hM5  (lq_r h hq2)
      · replace h := ed_neg q15 h
        refine iq_aload_n hS 19 J_M_strip_d18 l6 rfl ?_
        refine iq_getR hS 22 J_M_strip_d19 lf_17_30 (Or.inl ⟨_, rfl⟩) (ka_69 hM5) (ra_69_5 hM5) rfl ?_
        refine iq_iconst hS 23 J_M_strip_d22 (v := 1) (by decide +kernel) rfl ?_
        refine iq_lconst hS 24 J_M_strip_d23 (v := 1) (by decide +kernel) rfl ?_
        obtain ⟨Q12, hQ12, h⟩ := bd2_ed h
        refine iq_cwI hS 27 J_M_strip_d24 rfl (pr_inst (vs := [_, _]) lc_17_248 lT_503 rfl rfl (by decide) (by decide) rfl (Nat.le_of_ble_eq_true rfl) (Nat.le_of_ble_eq_true rfl) (fun _ => Or.inl (pr_b (ka_96 hM5) (by decide) rfl))) (f_MLineRows_put_ok (dep := dep + 2) hM5 h) rfl ?_
        intro x12 M12 hM12 h
        replace h := hQ12 _ _ h
        refine iq_istore hS 29 J_M_strip_d27 (by decide) rfl ?_
        refine iq_aload_n hS 30 J_M_strip_d29 (lk_1r l6 (by decide)) rfl ?_
        refine iq_getR hS 33 J_M_strip_d30 lf_17_30 (Or.inl ⟨_, rfl⟩) (ka_69 hM12) (ra_69_5 hM12) rfl ?_
        refine iq_iload hS 35 J_M_strip_d33 (lk_1i l11 (by decide)) rfl ?_
        refine iq_aload_n hS 36 J_M_strip_d35 (lk_1r l6 (by decide)) rfl ?_
        refine iq_getR hS 39 J_M_strip_d36 lf_17_23 (Or.inl ⟨_, rfl⟩) (ka_69 hM12) (ra_69_4 hM12) rfl ?_
        refine iq_iload_n hS 40 J_M_strip_d39 (lk_1i l7 (by decide)) rfl ?_
        refine iq_iload_n hS 41 J_M_strip_d40 (lk_1i l8 (by decide)) rfl ?_
        refine iq_iload hS 43 J_M_strip_d41 (lk_1i l11 (by decide)) rfl ?_
        refine iq_iload hS 45 J_M_strip_d43 (lk_1i l10 (by decide)) rfl ?_
        obtain ⟨Q13, hQ13, h⟩ := bd2_ed h
        refine iq_cwI hS 48 J_M_strip_d45 rfl (pr_inst (vs := [_, _, _, _]) lc_17_219 lT_453 rfl rfl (by decide) (by decide) rfl (Nat.le_of_ble_eq_true rfl) (Nat.le_of_ble_eq_true rfl) (fun _ => Or.inl (pr_b (ka_89 hM12) (by decide) rfl))) (f_MDotRows_run_ok (dep := dep + 0) hM12 h) rfl ?_
        intro x13 M13 hM13 h
        replace h := hQ13 _ _ h
        obtain ⟨Q14, hQ14, h⟩ := bd2_ed h
        refine iq_cwI hS 51 J_M_strip_d48 rfl (pr_inst (vs := [_, _]) lc_17_249 lT_504 rfl rfl (by decide) (by decide) rfl (Nat.le_of_ble_eq_true rfl) (Nat.le_of_ble_eq_true rfl) (fun _ => Or.inl (pr_b (ka_96 hM13) (by decide) rfl))) (f_MLineRows_spoil_ok (dep := dep + 2) hM13 h) rfl ?_
        intro x14 M14 hM14 h
        replace h := hQ14 _ _ h
        refine iq_istore hS 53 J_M_strip_d51 (by decide) rfl ?_
        refine iq_iincv hS 56 J_M_strip_d53 (c := 1) (by decide +kernel) (lk_1i (lk_1i l11 (by decide)) (by decide)) (by decide) rfl ?_
        refine iq_goto hS J_M_strip_d56 (t := 12) rfl ?_
        exact ih _ _ _ hM14 (lk_1r (lk_1r (lk_1r l6 (by decide)) (by decide)) (by decide)) (lk_1i (lk_1i (lk_1i l7 (by decide)) (by decide)) (by decide)) (lk_1i (lk_1i (lk_1i l8 (by decide)) (by decide)) (by decide)) (lk_1i (lk_1i (lk_1i l9 (by decide)) (by decide)) (by decide)) (lk_1i (lk_1i (lk_1i l10 (by decide)) (by decide)) (by decide)) lk_1s (lq_l h)
  exact I2 n2 _ _ _ hM1 (lk_1r (lk_1r l0 (by decide)) (by decide)) (lk_1i (lk_1i l1 (by decide)) (by decide)) (lk_1i (lk_1i l2 (by decide)) (by decide)) (lk_1i (lk_1i l3 (by decide)) (by decide)) (lk_1i (lk_1i l4 (by decide)) (by decide)) lk_1s hn2
noncomputable def f_MLineRows_sumOf_L5 (v2 : Int32) (v3 : Int32) (M6 : im_M) (x4 : Int32) (x5 : Int32) : Option ((Int32 × Int32) ⊕ (Int32)) := if (v2 + v3) ≤ x5 then some (.inr x4) else gd (inb x5 800) <| some (.inl ((x4 + (im_i M6 103 (Int32.toNatClampNeg x5))), (x5 + 1)))
noncomputable def f_MLineRows_sumOf (p0 : Int32) (p1 : Int32) (M : im_M) : Option (Int32) := bd1 (lp (uc2 (f_MLineRows_sumOf_L5 p0 p1 M)) (0, p0)) fun (y7 : Int32) => some y7
theorem J_MLineRows_sumOf_d0 : decode J_MLineRows_sumOf.2.1 0 = .ok (.iconst 0, 1) := by decide +kernel
theorem J_MLineRows_sumOf_d1 : decode J_MLineRows_sumOf.2.1 1 = .ok (.istore_n 3, 1) := by decide +kernel
theorem J_MLineRows_sumOf_d2 : decode J_MLineRows_sumOf.2.1 2 = .ok (.iload_n 1, 1) := by decide +kernel
theorem J_MLineRows_sumOf_d3 : decode J_MLineRows_sumOf.2.1 3 = .ok (.istore 4, 2) := by decide +kernel
theorem J_MLineRows_sumOf_d5 : decode J_MLineRows_sumOf.2.1 5 = .ok (.iload 4, 2) := by decide +kernel
theorem J_MLineRows_sumOf_d7 : decode J_MLineRows_sumOf.2.1 7 = .ok (.iload_n 1, 1) := by decide +kernel
theorem J_MLineRows_sumOf_d8 : decode J_MLineRows_sumOf.2.1 8 = .ok (.iload_n 2, 1) := by decide +kernel
theorem J_MLineRows_sumOf_d9 : decode J_MLineRows_sumOf.2.1 9 = .ok (.iadd, 1) := by decide +kernel
theorem J_MLineRows_sumOf_d10 : decode J_MLineRows_sumOf.2.1 10 = .ok (.if_icmp .ge 19, 3) := by decide +kernel
theorem J_MLineRows_sumOf_d13 : decode J_MLineRows_sumOf.2.1 13 = .ok (.iload_n 3, 1) := by decide +kernel
theorem J_MLineRows_sumOf_d14 : decode J_MLineRows_sumOf.2.1 14 = .ok (.aload_n 0, 1) := by decide +kernel
theorem J_MLineRows_sumOf_d15 : decode J_MLineRows_sumOf.2.1 15 = .ok (.getfield 134, 3) := by decide +kernel
theorem J_MLineRows_sumOf_d18 : decode J_MLineRows_sumOf.2.1 18 = .ok (.iload 4, 2) := by decide +kernel
theorem J_MLineRows_sumOf_d20 : decode J_MLineRows_sumOf.2.1 20 = .ok (.iaload, 1) := by decide +kernel
theorem J_MLineRows_sumOf_d21 : decode J_MLineRows_sumOf.2.1 21 = .ok (.iadd, 1) := by decide +kernel
theorem J_MLineRows_sumOf_d22 : decode J_MLineRows_sumOf.2.1 22 = .ok (.istore_n 3, 1) := by decide +kernel
theorem J_MLineRows_sumOf_d23 : decode J_MLineRows_sumOf.2.1 23 = .ok (.iinc 4 1, 3) := by decide +kernel
theorem J_MLineRows_sumOf_d26 : decode J_MLineRows_sumOf.2.1 26 = .ok (.goto (-21), 3) := by decide +kernel
theorem J_MLineRows_sumOf_d29 : decode J_MLineRows_sumOf.2.1 29 = .ok (.iload_n 3, 1) := by decide +kernel
theorem J_MLineRows_sumOf_d30 : decode J_MLineRows_sumOf.2.1 30 = .ok (.ireturn, 1) := by decide +kernel
theorem f_MLineRows_sumOf_ok {L : Nat} {xs : Nat → Int32} {dep : Nat} {w : Bool} {p0 : Int32} {p1 : Int32} {M : im_M} {Q : Int32 → Prop} (hM : lw_S w M) (h : ed (f_MLineRows_sumOf p0 p1 M) Q) : ia (tb_G L xs) dep J_MLineRows_sumOf (rpI M Q) (0, lv_args 0 [.ref 96, .int p0, .int p1], [], M) := by
  have hS : im_St (tb_G L xs) dep J_MLineRows_sumOf (ia (tb_G L xs) dep J_MLineRows_sumOf (rpI M Q)) := ia_St
  unfold f_MLineRows_sumOf at h
  have l0 : im_lk (lv_args 0 [.ref 96, .int p0, .int p1]) 0 = some (.ref 96) := rfl
  have l1 : im_lk (lv_args 0 [.ref 96, .int p0, .int p1]) 1 = some (.int p0) := rfl
  have l2 : im_lk (lv_args 0 [.ref 96, .int p0, .int p1]) 2 = some (.int p1) := rfl
  refine iq_iconst hS 1 J_MLineRows_sumOf_d0 (v := 0) (by decide +kernel) rfl ?_
  refine iq_istore_n hS 2 J_MLineRows_sumOf_d1 (by decide) rfl ?_
  refine iq_iload_n hS 3 J_MLineRows_sumOf_d2 (lk_1i l1 (by decide)) rfl ?_
  refine iq_istore hS 5 J_MLineRows_sumOf_d3 (by decide) rfl ?_
  obtain ⟨Q1, hQ1, h⟩ := bd1_ed h
  have K1 : ∀ (y2 : Int32) (L' : List (Nat × Value)), im_lk L' 3 = some (.int y2) → Q1 y2 → ia (tb_G L xs) dep J_MLineRows_sumOf (rpI M Q) (29, L', [], M) := by
    intro y2 L' l3 h
    replace h := hQ1 _ h
    refine iq_iload_n hS 30 J_MLineRows_sumOf_d29 l3 rfl ?_
    exact iq_iret J_MLineRows_sumOf_d30 rfl rfl ⟨_, rfl, rfl, ed_some h⟩
  obtain ⟨r1, hr1, hq1⟩ := h
  obtain ⟨n1, hn1⟩ := lp_n hr1
  have I1 : ∀ (n : Nat) (x4 : Int32) (x5 : Int32) (L' : List (Nat × Value)), im_lk L' 0 = some (.ref 96) → im_lk L' 1 = some (.int p0) → im_lk L' 2 = some (.int p1) → im_lk L' 3 = some (.int x4) → im_lk L' 4 = some (.int x5) → lpn (uc2 (f_MLineRows_sumOf_L5 p0 p1 M)) n (x4, x5) = some r1 → ia (tb_G L xs) dep J_MLineRows_sumOf (rpI M Q) (5, L', [], M) := by
    intro n
    induction n with
    | zero => intro x4 x5 L' l6 l7 l8 l9 l10 hn; exact (lpn_0 hn).elim
    | succ n ih =>
      intro x4 x5 L' l6 l7 l8 l9 l10 hn
      have h := lpn_ed2 hn
      unfold f_MLineRows_sumOf_L5 at h
      refine iq_iload hS 7 J_MLineRows_sumOf_d5 l10 rfl ?_
      refine iq_iload_n hS 8 J_MLineRows_sumOf_d7 l7 rfl ?_
      refine iq_iload_n hS 9 J_MLineRows_sumOf_d8 l8 rfl ?_
      refine iq_iadd hS 10 J_MLineRows_sumOf_d9 rfl ?_
      refine iq_icmp_ge hS 13 J_MLineRows_sumOf_d10 (t := 29) rfl (fun q10 => ?_) rfl (fun q10 => ?_)
      · replace h := ed_pos q10 h
        exact K1 _ _ l9 (lq_r h hq1)
      · replace h := ed_neg q10 h
        refine iq_iload_n hS 14 J_MLineRows_sumOf_d13 l9 rfl ?_
        refine iq_aload_n hS 15 J_MLineRows_sumOf_d14 l6 rfl ?_
        refine iq_getR hS 18 J_MLineRows_sumOf_d15 lf_13_134 (Or.inr ⟨_, rfl⟩) (ka_96 hM) (ra_96_9 hM) rfl ?_
        refine iq_iload hS 20 J_MLineRows_sumOf_d18 l10 rfl ?_
        obtain ⟨g20, h⟩ := ed_gd h
        refine iq_iaload hS 21 J_MLineRows_sumOf_d20 ⟨(ka_103 hM).1, (ka_103 hM).2, g20.1, ix_lt (kl_103 hM) g20.2⟩ rfl ?_
        refine iq_iadd hS 22 J_MLineRows_sumOf_d21 rfl ?_
        refine iq_istore_n hS 23 J_MLineRows_sumOf_d22 (by decide) rfl ?_
        refine iq_iincv hS 26 J_MLineRows_sumOf_d23 (c := 1) (by decide +kernel) (lk_1i l10 (by decide)) (by decide) rfl ?_
        refine iq_goto hS J_MLineRows_sumOf_d26 (t := 5) rfl ?_
        exact ih _ _ _ (lk_1r (lk_1r l6 (by decide)) (by decide)) (lk_1i (lk_1i l7 (by decide)) (by decide)) (lk_1i (lk_1i l8 (by decide)) (by decide)) (lk_1i lk_1s (by decide)) lk_1s (lq_l h)
  exact I1 n1 _ _ _ (lk_1r (lk_1r l0 (by decide)) (by decide)) (lk_1i (lk_1i l1 (by decide)) (by decide)) (lk_1i (lk_1i l2 (by decide)) (by decide)) (lk_1i lk_1s (by decide)) lk_1s hn1
noncomputable def f_MLineRows_counts_L6 (v2 : Int32) (v3 : Int32) (v4 : Int32) (v5 : Int32) (M8 : im_M) (x6 : Int32) (x7 : Int32) : Option ((Int32 × Int32) ⊕ (Int32)) := if (v2 + v3) ≤ x7 then some (.inr x6) else gd (inb x7 800) <| gd (¬ ((2 : Int32) * v4) = (0 : Int32)) <| some (.inl ((((10 : Int32) * x6) + ((if (((((2 : Int32) * (im_i M8 103 (Int32.toNatClampNeg x7))) * v5) + v4) / ((2 : Int32) * v4)) ≤ 9 then (((((2 : Int32) * (im_i M8 103 (Int32.toNatClampNeg x7))) * v5) + v4) / ((2 : Int32) * v4)) else 9) : Int32)), (x7 + 1)))
noncomputable def f_MLineRows_counts (p0 : Int32) (p1 : Int32) (p2 : Int32) (p3 : Int32) (M : im_M) : Option (Int32) := bd1 (lp (uc2 (f_MLineRows_counts_L6 p0 p1 p2 p3 M)) (0, p0)) fun (y10 : Int32) => some y10
theorem J_MLineRows_counts_d0 : decode J_MLineRows_counts.2.1 0 = .ok (.iconst 0, 1) := by decide +kernel
theorem J_MLineRows_counts_d1 : decode J_MLineRows_counts.2.1 1 = .ok (.istore 5, 2) := by decide +kernel
theorem J_MLineRows_counts_d3 : decode J_MLineRows_counts.2.1 3 = .ok (.iload_n 1, 1) := by decide +kernel
theorem J_MLineRows_counts_d4 : decode J_MLineRows_counts.2.1 4 = .ok (.istore 6, 2) := by decide +kernel
theorem J_MLineRows_counts_d6 : decode J_MLineRows_counts.2.1 6 = .ok (.iload 6, 2) := by decide +kernel
theorem J_MLineRows_counts_d8 : decode J_MLineRows_counts.2.1 8 = .ok (.iload_n 1, 1) := by decide +kernel
theorem J_MLineRows_counts_d9 : decode J_MLineRows_counts.2.1 9 = .ok (.iload_n 2, 1) := by decide +kernel
theorem J_MLineRows_counts_d10 : decode J_MLineRows_counts.2.1 10 = .ok (.iadd, 1) := by decide +kernel
theorem J_MLineRows_counts_d11 : decode J_MLineRows_counts.2.1 11 = .ok (.if_icmp .ge 51, 3) := by decide +kernel
theorem J_MLineRows_counts_d14 : decode J_MLineRows_counts.2.1 14 = .ok (.iconst 2, 1) := by decide +kernel
theorem J_MLineRows_counts_d15 : decode J_MLineRows_counts.2.1 15 = .ok (.aload_n 0, 1) := by decide +kernel
theorem J_MLineRows_counts_d16 : decode J_MLineRows_counts.2.1 16 = .ok (.getfield 134, 3) := by decide +kernel
theorem J_MLineRows_counts_d19 : decode J_MLineRows_counts.2.1 19 = .ok (.iload 6, 2) := by decide +kernel
theorem J_MLineRows_counts_d21 : decode J_MLineRows_counts.2.1 21 = .ok (.iaload, 1) := by decide +kernel
theorem J_MLineRows_counts_d22 : decode J_MLineRows_counts.2.1 22 = .ok (.imul, 1) := by decide +kernel
theorem J_MLineRows_counts_d23 : decode J_MLineRows_counts.2.1 23 = .ok (.iload 4, 2) := by decide +kernel
theorem J_MLineRows_counts_d25 : decode J_MLineRows_counts.2.1 25 = .ok (.imul, 1) := by decide +kernel
theorem J_MLineRows_counts_d26 : decode J_MLineRows_counts.2.1 26 = .ok (.iload_n 3, 1) := by decide +kernel
theorem J_MLineRows_counts_d27 : decode J_MLineRows_counts.2.1 27 = .ok (.iadd, 1) := by decide +kernel
theorem J_MLineRows_counts_d28 : decode J_MLineRows_counts.2.1 28 = .ok (.iconst 2, 1) := by decide +kernel
theorem J_MLineRows_counts_d29 : decode J_MLineRows_counts.2.1 29 = .ok (.iload_n 3, 1) := by decide +kernel
theorem J_MLineRows_counts_d30 : decode J_MLineRows_counts.2.1 30 = .ok (.imul, 1) := by decide +kernel
theorem J_MLineRows_counts_d31 : decode J_MLineRows_counts.2.1 31 = .ok (.idiv, 1) := by decide +kernel
theorem J_MLineRows_counts_d32 : decode J_MLineRows_counts.2.1 32 = .ok (.istore 7, 2) := by decide +kernel
theorem J_MLineRows_counts_d34 : decode J_MLineRows_counts.2.1 34 = .ok (.bipush 10, 2) := by decide +kernel
theorem J_MLineRows_counts_d36 : decode J_MLineRows_counts.2.1 36 = .ok (.iload 5, 2) := by decide +kernel
theorem J_MLineRows_counts_d38 : decode J_MLineRows_counts.2.1 38 = .ok (.imul, 1) := by decide +kernel
theorem J_MLineRows_counts_d39 : decode J_MLineRows_counts.2.1 39 = .ok (.iload 7, 2) := by decide +kernel
theorem J_MLineRows_counts_d41 : decode J_MLineRows_counts.2.1 41 = .ok (.bipush 9, 2) := by decide +kernel
theorem J_MLineRows_counts_d43 : decode J_MLineRows_counts.2.1 43 = .ok (.if_icmp .le 8, 3) := by decide +kernel
theorem J_MLineRows_counts_d46 : decode J_MLineRows_counts.2.1 46 = .ok (.bipush 9, 2) := by decide +kernel
theorem J_MLineRows_counts_d48 : decode J_MLineRows_counts.2.1 48 = .ok (.goto 5, 3) := by decide +kernel
theorem J_MLineRows_counts_d51 : decode J_MLineRows_counts.2.1 51 = .ok (.iload 7, 2) := by decide +kernel
theorem J_MLineRows_counts_d53 : decode J_MLineRows_counts.2.1 53 = .ok (.iadd, 1) := by decide +kernel
theorem J_MLineRows_counts_d54 : decode J_MLineRows_counts.2.1 54 = .ok (.istore 5, 2) := by decide +kernel
theorem J_MLineRows_counts_d56 : decode J_MLineRows_counts.2.1 56 = .ok (.iinc 6 1, 3) := by decide +kernel
theorem J_MLineRows_counts_d59 : decode J_MLineRows_counts.2.1 59 = .ok (.goto (-53), 3) := by decide +kernel
theorem J_MLineRows_counts_d62 : decode J_MLineRows_counts.2.1 62 = .ok (.iload 5, 2) := by decide +kernel
theorem J_MLineRows_counts_d64 : decode J_MLineRows_counts.2.1 64 = .ok (.ireturn, 1) := by decide +kernel
theorem f_MLineRows_counts_ok {L : Nat} {xs : Nat → Int32} {dep : Nat} {w : Bool} {p0 : Int32} {p1 : Int32} {p2 : Int32} {p3 : Int32} {M : im_M} {Q : Int32 → Prop} (hM : lw_S w M) (h : ed (f_MLineRows_counts p0 p1 p2 p3 M) Q) : ia (tb_G L xs) dep J_MLineRows_counts (rpI M Q) (0, lv_args 0 [.ref 96, .int p0, .int p1, .int p2, .int p3], [], M) := by
  have hS : im_St (tb_G L xs) dep J_MLineRows_counts (ia (tb_G L xs) dep J_MLineRows_counts (rpI M Q)) := ia_St
  unfold f_MLineRows_counts at h
  have l0 : im_lk (lv_args 0 [.ref 96, .int p0, .int p1, .int p2, .int p3]) 0 = some (.ref 96) := rfl
  have l1 : im_lk (lv_args 0 [.ref 96, .int p0, .int p1, .int p2, .int p3]) 1 = some (.int p0) := rfl
  have l2 : im_lk (lv_args 0 [.ref 96, .int p0, .int p1, .int p2, .int p3]) 2 = some (.int p1) := rfl
  have l3 : im_lk (lv_args 0 [.ref 96, .int p0, .int p1, .int p2, .int p3]) 3 = some (.int p2) := rfl
  have l4 : im_lk (lv_args 0 [.ref 96, .int p0, .int p1, .int p2, .int p3]) 4 = some (.int p3) := rfl
  refine iq_iconst hS 1 J_MLineRows_counts_d0 (v := 0) (by decide +kernel) rfl ?_
  refine iq_istore hS 3 J_MLineRows_counts_d1 (by decide) rfl ?_
  refine iq_iload_n hS 4 J_MLineRows_counts_d3 (lk_1i l1 (by decide)) rfl ?_
  refine iq_istore hS 6 J_MLineRows_counts_d4 (by decide) rfl ?_
  obtain ⟨Q1, hQ1, h⟩ := bd1_ed h
  have K1 : ∀ (y2 : Int32) (L' : List (Nat × Value)), im_lk L' 5 = some (.int y2) → Q1 y2 → ia (tb_G L xs) dep J_MLineRows_counts (rpI M Q) (62, L', [], M) := by
    intro y2 L' l3 h
    replace h := hQ1 _ h
    refine iq_iload hS 64 J_MLineRows_counts_d62 l3 rfl ?_
    exact iq_iret J_MLineRows_counts_d64 rfl rfl ⟨_, rfl, rfl, ed_some h⟩
  obtain ⟨r1, hr1, hq1⟩ := h
  obtain ⟨n1, hn1⟩ := lp_n hr1
  have I1 : ∀ (n : Nat) (x4 : Int32) (x5 : Int32) (L' : List (Nat × Value)), im_lk L' 0 = some (.ref 96) → im_lk L' 1 = some (.int p0) → im_lk L' 2 = some (.int p1) → im_lk L' 3 = some (.int p2) → im_lk L' 4 = some (.int p3) → im_lk L' 5 = some (.int x4) → im_lk L' 6 = some (.int x5) → lpn (uc2 (f_MLineRows_counts_L6 p0 p1 p2 p3 M)) n (x4, x5) = some r1 → ia (tb_G L xs) dep J_MLineRows_counts (rpI M Q) (6, L', [], M) := by
    intro n
    induction n with
    | zero => intro x4 x5 L' l6 l7 l8 l9 l10 l11 l12 hn; exact (lpn_0 hn).elim
    | succ n ih =>
      intro x4 x5 L' l6 l7 l8 l9 l10 l11 l12 hn
      have h := lpn_ed2 hn
      unfold f_MLineRows_counts_L6 at h
      refine iq_iload hS 8 J_MLineRows_counts_d6 l12 rfl ?_
      refine iq_iload_n hS 9 J_MLineRows_counts_d8 l7 rfl ?_
      refine iq_iload_n hS 10 J_MLineRows_counts_d9 l8 rfl ?_
      refine iq_iadd hS 11 J_MLineRows_counts_d10 rfl ?_
      refine iq_icmp_ge hS 14 J_MLineRows_counts_d11 (t := 62) rfl (fun q11 => ?_) rfl (fun q11 => ?_)
      · replace h := ed_pos q11 h
        exact K1 _ _ l11 (lq_r h hq1)
      · replace h := ed_neg q11 h
        refine iq_iconst hS 15 J_MLineRows_counts_d14 (v := 2) (by decide +kernel) rfl ?_
        refine iq_aload_n hS 16 J_MLineRows_counts_d15 l6 rfl ?_
        refine iq_getR hS 19 J_MLineRows_counts_d16 lf_13_134 (Or.inr ⟨_, rfl⟩) (ka_96 hM) (ra_96_9 hM) rfl ?_
        refine iq_iload hS 21 J_MLineRows_counts_d19 l12 rfl ?_
        obtain ⟨g21, h⟩ := ed_gd h
        refine iq_iaload hS 22 J_MLineRows_counts_d21 ⟨(ka_103 hM).1, (ka_103 hM).2, g21.1, ix_lt (kl_103 hM) g21.2⟩ rfl ?_
        refine iq_imul hS 23 J_MLineRows_counts_d22 rfl ?_
        refine iq_iload hS 25 J_MLineRows_counts_d23 l10 rfl ?_
        refine iq_imul hS 26 J_MLineRows_counts_d25 rfl ?_
        refine iq_iload_n hS 27 J_MLineRows_counts_d26 l9 rfl ?_
        refine iq_iadd hS 28 J_MLineRows_counts_d27 rfl ?_
        refine iq_iconst hS 29 J_MLineRows_counts_d28 (v := 2) (by decide +kernel) rfl ?_
        refine iq_iload_n hS 30 J_MLineRows_counts_d29 l9 rfl ?_
        refine iq_imul hS 31 J_MLineRows_counts_d30 rfl ?_
        obtain ⟨g31, h⟩ := ed_gd h
        refine iq_idiv hS 32 J_MLineRows_counts_d31 g31 rfl ?_
        refine iq_istore hS 34 J_MLineRows_counts_d32 (by decide) rfl ?_
        refine iq_bipush hS 36 J_MLineRows_counts_d34 (v := 10) (by decide +kernel) rfl ?_
        refine iq_iload hS 38 J_MLineRows_counts_d36 (lk_1i l11 (by decide)) rfl ?_
        refine iq_imul hS 39 J_MLineRows_counts_d38 rfl ?_
        refine iq_iload hS 41 J_MLineRows_counts_d39 lk_1s rfl ?_
        refine iq_bipush hS 43 J_MLineRows_counts_d41 (v := 9) (by decide +kernel) rfl ?_
        have J13 : ∀ (z14 : Int32) (L' : List (Nat × Value)), z14 = ((if (((((2 : Int32) * (im_i M 103 (Int32.toNatClampNeg x5))) * p3) + p2) / ((2 : Int32) * p2)) ≤ 9 then (((((2 : Int32) * (im_i M 103 (Int32.toNatClampNeg x5))) * p3) + p2) / ((2 : Int32) * p2)) else 9) : Int32) → im_lk L' 0 = some (.ref 96) → im_lk L' 1 = some (.int p0) → im_lk L' 2 = some (.int p1) → im_lk L' 3 = some (.int p2) → im_lk L' 4 = some (.int p3) → im_lk L' 6 = some (.int x5) → ia (tb_G L xs) dep J_MLineRows_counts (rpI M Q) (53, L', [.int z14, .int ((10 : Int32) * x4)], M) := by
          intro z14 L' e15 l16 l17 l18 l19 l20 l21
          subst e15
          refine iq_iadd hS 54 J_MLineRows_counts_d53 rfl ?_
          refine iq_istore hS 56 J_MLineRows_counts_d54 (by decide) rfl ?_
          refine iq_iincv hS 59 J_MLineRows_counts_d56 (c := 1) (by decide +kernel) (lk_1i l21 (by decide)) (by decide) rfl ?_
          refine iq_goto hS J_MLineRows_counts_d59 (t := 6) rfl ?_
          exact ih _ _ _ (lk_1r (lk_1r l16 (by decide)) (by decide)) (lk_1i (lk_1i l17 (by decide)) (by decide)) (lk_1i (lk_1i l18 (by decide)) (by decide)) (lk_1i (lk_1i l19 (by decide)) (by decide)) (lk_1i (lk_1i l20 (by decide)) (by decide)) (lk_1i lk_1s (by decide)) lk_1s (lq_l h)
        refine iq_icmp_le hS 46 J_MLineRows_counts_d43 (t := 51) rfl (fun q43 => ?_) rfl (fun q43 => ?_)
        · refine iq_iload hS 53 J_MLineRows_counts_d51 lk_1s rfl ?_
          exact J13 _ _ (by rw [if_pos q43]) (lk_1r l6 (by decide)) (lk_1i l7 (by decide)) (lk_1i l8 (by decide)) (lk_1i l9 (by decide)) (lk_1i l10 (by decide)) (lk_1i l12 (by decide))
        · refine iq_bipush hS 48 J_MLineRows_counts_d46 (v := 9) (by decide +kernel) rfl ?_
          refine iq_goto hS J_MLineRows_counts_d48 (t := 53) rfl ?_
          exact J13 _ _ (by rw [if_neg q43]) (lk_1r l6 (by decide)) (lk_1i l7 (by decide)) (lk_1i l8 (by decide)) (lk_1i l9 (by decide)) (lk_1i l10 (by decide)) (lk_1i l12 (by decide))
  exact I1 n1 _ _ _ (lk_1r (lk_1r l0 (by decide)) (by decide)) (lk_1i (lk_1i l1 (by decide)) (by decide)) (lk_1i (lk_1i l2 (by decide)) (by decide)) (lk_1i (lk_1i l3 (by decide)) (by decide)) (lk_1i (lk_1i l4 (by decide)) (by decide)) (lk_1i lk_1s (by decide)) lk_1s hn1
noncomputable def f_MLineRows_place_L2 (v2 : Int32) (M4 : im_M) (x3 : Int32) : Option ((Int32) ⊕ ((Unit) ⊕ (Int32))) := if 106 ≤ x3 then some (.inr (.inl ())) else gd (inb x3 106) <| if ¬ (im_i M4 97 (Int32.toNatClampNeg x3)) = v2 then some (.inl (x3 + 1)) else some (.inr (.inr x3))
noncomputable def f_MLineRows_place (p1 : Int32) (M : im_M) : Option (Int32) := bs0 (lp (uc1 (f_MLineRows_place_L2 p1 M)) 0) (fun (_ : Unit) => some (-1)) (fun t => some t)
theorem J_MLineRows_place_d0 : decode J_MLineRows_place.2.1 0 = .ok (.iconst 0, 1) := by decide +kernel
theorem J_MLineRows_place_d1 : decode J_MLineRows_place.2.1 1 = .ok (.istore_n 2, 1) := by decide +kernel
theorem J_MLineRows_place_d2 : decode J_MLineRows_place.2.1 2 = .ok (.iload_n 2, 1) := by decide +kernel
theorem J_MLineRows_place_d3 : decode J_MLineRows_place.2.1 3 = .ok (.aload_n 0, 1) := by decide +kernel
theorem J_MLineRows_place_d4 : decode J_MLineRows_place.2.1 4 = .ok (.arraylength, 1) := by decide +kernel
theorem J_MLineRows_place_d5 : decode J_MLineRows_place.2.1 5 = .ok (.if_icmp .ge 18, 3) := by decide +kernel
theorem J_MLineRows_place_d8 : decode J_MLineRows_place.2.1 8 = .ok (.aload_n 0, 1) := by decide +kernel
theorem J_MLineRows_place_d9 : decode J_MLineRows_place.2.1 9 = .ok (.iload_n 2, 1) := by decide +kernel
theorem J_MLineRows_place_d10 : decode J_MLineRows_place.2.1 10 = .ok (.iaload, 1) := by decide +kernel
theorem J_MLineRows_place_d11 : decode J_MLineRows_place.2.1 11 = .ok (.iload_n 1, 1) := by decide +kernel
theorem J_MLineRows_place_d12 : decode J_MLineRows_place.2.1 12 = .ok (.if_icmp .ne 5, 3) := by decide +kernel
theorem J_MLineRows_place_d15 : decode J_MLineRows_place.2.1 15 = .ok (.iload_n 2, 1) := by decide +kernel
theorem J_MLineRows_place_d16 : decode J_MLineRows_place.2.1 16 = .ok (.ireturn, 1) := by decide +kernel
theorem J_MLineRows_place_d17 : decode J_MLineRows_place.2.1 17 = .ok (.iinc 2 1, 3) := by decide +kernel
theorem J_MLineRows_place_d20 : decode J_MLineRows_place.2.1 20 = .ok (.goto (-18), 3) := by decide +kernel
theorem J_MLineRows_place_d23 : decode J_MLineRows_place.2.1 23 = .ok (.iconst (-1), 1) := by decide +kernel
theorem J_MLineRows_place_d24 : decode J_MLineRows_place.2.1 24 = .ok (.ireturn, 1) := by decide +kernel
theorem f_MLineRows_place_ok {L : Nat} {xs : Nat → Int32} {dep : Nat} {w : Bool} {p1 : Int32} {M : im_M} {Q : Int32 → Prop} (hM : lw_S w M) (h : ed (f_MLineRows_place p1 M) Q) : ia (tb_G L xs) dep J_MLineRows_place (rpI M Q) (0, lv_args 0 [.ref 97, .int p1], [], M) := by
  have hS : im_St (tb_G L xs) dep J_MLineRows_place (ia (tb_G L xs) dep J_MLineRows_place (rpI M Q)) := ia_St
  unfold f_MLineRows_place at h
  have l0 : im_lk (lv_args 0 [.ref 97, .int p1]) 0 = some (.ref 97) := rfl
  have l1 : im_lk (lv_args 0 [.ref 97, .int p1]) 1 = some (.int p1) := rfl
  refine iq_iconst hS 1 J_MLineRows_place_d0 (v := 0) (by decide +kernel) rfl ?_
  refine iq_istore_n hS 2 J_MLineRows_place_d1 (by decide) rfl ?_
  obtain ⟨Q1, hQ1, hR1, h⟩ := bs0_ed h
  have K1 : ∀  (L' : List (Nat × Value)), Q1 (.inl ()) → ia (tb_G L xs) dep J_MLineRows_place (rpI M Q) (23, L', [], M) := by
    intro  L'  h
    replace h := hQ1  h
    refine iq_iconst hS 24 J_MLineRows_place_d23 (v := (-1)) (by decide +kernel) rfl ?_
    exact iq_iret J_MLineRows_place_d24 rfl rfl ⟨_, rfl, rfl, ed_some h⟩
  obtain ⟨r1, hr1, hq1⟩ := h
  obtain ⟨n1, hn1⟩ := lp_n hr1
  have I1 : ∀ (n : Nat) (x2 : Int32) (L' : List (Nat × Value)), im_lk L' 0 = some (.ref 97) → im_lk L' 1 = some (.int p1) → im_lk L' 2 = some (.int x2) → lpn (uc1 (f_MLineRows_place_L2 p1 M)) n x2 = some r1 → ia (tb_G L xs) dep J_MLineRows_place (rpI M Q) (2, L', [], M) := by
    intro n
    induction n with
    | zero => intro x2 L' l3 l4 l5 hn; exact (lpn_0 hn).elim
    | succ n ih =>
      intro x2 L' l3 l4 l5 hn
      have h := lpn_ed1 hn
      unfold f_MLineRows_place_L2 at h
      refine iq_iload_n hS 3 J_MLineRows_place_d2 l5 rfl ?_
      refine iq_aload_n hS 4 J_MLineRows_place_d3 l3 rfl ?_
      refine iq_alenv hS 5 J_MLineRows_place_d4 (v := 106) (ka_97 hM) (by decide) (by decide) (kl_97 hM) (by decide +kernel) rfl ?_
      refine iq_icmp_ge hS 8 J_MLineRows_place_d5 (t := 23) rfl (fun q5 => ?_) rfl (fun q5 => ?_)
      · replace h := ed_pos q5 h
        exact K1  _  (lq_r h hq1)
      · replace h := ed_neg q5 h
        refine iq_aload_n hS 9 J_MLineRows_place_d8 l3 rfl ?_
        refine iq_iload_n hS 10 J_MLineRows_place_d9 l5 rfl ?_
        obtain ⟨g10, h⟩ := ed_gd h
        refine iq_iaload hS 11 J_MLineRows_place_d10 ⟨(ka_97 hM).1, (ka_97 hM).2, g10.1, ix_lt (kl_97 hM) g10.2⟩ rfl ?_
        refine iq_iload_n hS 12 J_MLineRows_place_d11 l4 rfl ?_
        refine iq_icmp_ne hS 15 J_MLineRows_place_d12 (t := 17) rfl (fun q12 => ?_) rfl (fun q12 => ?_)
        · replace h := ed_pos q12 h
          refine iq_iincv hS 20 J_MLineRows_place_d17 (c := 1) (by decide +kernel) l5 (by decide) rfl ?_
          refine iq_goto hS J_MLineRows_place_d20 (t := 2) rfl ?_
          exact ih _ _ (lk_1r l3 (by decide)) (lk_1i l4 (by decide)) lk_1s (lq_l h)
        · replace h := ed_neg q12 h
          refine iq_iload_n hS 16 J_MLineRows_place_d15 l5 rfl ?_
          exact iq_iret J_MLineRows_place_d16 rfl rfl ⟨_, rfl, rfl, ed_some (hR1 _ (lq_r h hq1))⟩
  exact I1 n1 _ _ (lk_1r l0 (by decide)) (lk_1i l1 (by decide)) lk_1s hn1
noncomputable def f_MLineRows_check_1_L6 (v2 : Int32) (M5 : im_M) (x3 : Int32) (x4 : Int32) : Option ((Int32 × Int32) ⊕ (Int32)) := if v2 ≤ x4 then some (.inr x3) else gd (inb x4 140) <| some (.inl ((x3 + (x4 * (im_i M5 105 (Int32.toNatClampNeg x4)))), (x4 + 1)))
noncomputable def f_MLineRows_check_1 (p1 : Int32) (M : im_M) : Option (Int32) := gd (inb 0 140) <| bd1 (lp (uc2 (f_MLineRows_check_1_L6 p1 M)) ((im_i M 105 (Int32.toNatClampNeg 0)), 1)) fun (y6 : Int32) => some (y6 - y6 / 103 * 103)
theorem f_MLineRows_check_1_ok {L : Nat} {xs : Nat → Int32} {dep : Nat} {w : Bool} {p1 : Int32} {M : im_M} {Q : Int32 → Prop} (hM : lw_S w M) (h : ed (f_MLineRows_check_1 p1 M) Q) : ia (tb_G L xs) dep J_MLineRows_check (rpI M Q) (0, lv_args 0 [.ref 105, .int p1], [], M) := by
  have hS : im_St (tb_G L xs) dep J_MLineRows_check (ia (tb_G L xs) dep J_MLineRows_check (rpI M Q)) := ia_St
  unfold f_MLineRows_check_1 at h
  have l0 : im_lk (lv_args 0 [.ref 105, .int p1]) 0 = some (.ref 105) := rfl
  have l1 : im_lk (lv_args 0 [.ref 105, .int p1]) 1 = some (.int p1) := rfl
  refine iq_aload_n hS 1 J_MLineRows_check_d0 l0 rfl ?_
  refine iq_iconst hS 2 J_MLineRows_check_d1 (v := 0) (by decide +kernel) rfl ?_
  obtain ⟨g2, h⟩ := ed_gd h
  refine iq_iaload hS 3 J_MLineRows_check_d2 ⟨(ka_105 hM).1, (ka_105 hM).2, g2.1, ix_lt (kl_105 hM) g2.2⟩ rfl ?_
  refine iq_istore_n hS 4 J_MLineRows_check_d3 (by decide) rfl ?_
  refine iq_iconst hS 5 J_MLineRows_check_d4 (v := 1) (by decide +kernel) rfl ?_
  refine iq_istore_n hS 6 J_MLineRows_check_d5 (by decide) rfl ?_
  obtain ⟨Q1, hQ1, h⟩ := bd1_ed h
  have K1 : ∀ (y2 : Int32) (L' : List (Nat × Value)), im_lk L' 2 = some (.int y2) → Q1 y2 → ia (tb_G L xs) dep J_MLineRows_check (rpI M Q) (25, L', [], M) := by
    intro y2 L' l3 h
    replace h := hQ1 _ h
    refine iq_iload_n hS 26 J_MLineRows_check_d25 l3 rfl ?_
    refine iq_bipush hS 28 J_MLineRows_check_d26 (v := 103) (by decide +kernel) rfl ?_
    refine iq_irem hS 29 J_MLineRows_check_d28 (by decide) rfl ?_
    exact iq_iret J_MLineRows_check_d29 rfl rfl ⟨_, rfl, rfl, ed_some h⟩
  obtain ⟨r1, hr1, hq1⟩ := h
  obtain ⟨n1, hn1⟩ := lp_n hr1
  have I1 : ∀ (n : Nat) (x4 : Int32) (x5 : Int32) (L' : List (Nat × Value)), im_lk L' 0 = some (.ref 105) → im_lk L' 1 = some (.int p1) → im_lk L' 2 = some (.int x4) → im_lk L' 3 = some (.int x5) → lpn (uc2 (f_MLineRows_check_1_L6 p1 M)) n (x4, x5) = some r1 → ia (tb_G L xs) dep J_MLineRows_check (rpI M Q) (6, L', [], M) := by
    intro n
    induction n with
    | zero => intro x4 x5 L' l6 l7 l8 l9 hn; exact (lpn_0 hn).elim
    | succ n ih =>
      intro x4 x5 L' l6 l7 l8 l9 hn
      have h := lpn_ed2 hn
      unfold f_MLineRows_check_1_L6 at h
      refine iq_iload_n hS 7 J_MLineRows_check_d6 l9 rfl ?_
      refine iq_iload_n hS 8 J_MLineRows_check_d7 l7 rfl ?_
      refine iq_icmp_ge hS 11 J_MLineRows_check_d8 (t := 25) rfl (fun q8 => ?_) rfl (fun q8 => ?_)
      · replace h := ed_pos q8 h
        exact K1 _ _ l8 (lq_r h hq1)
      · replace h := ed_neg q8 h
        refine iq_iload_n hS 12 J_MLineRows_check_d11 l8 rfl ?_
        refine iq_iload_n hS 13 J_MLineRows_check_d12 l9 rfl ?_
        refine iq_aload_n hS 14 J_MLineRows_check_d13 l6 rfl ?_
        refine iq_iload_n hS 15 J_MLineRows_check_d14 l9 rfl ?_
        obtain ⟨g15, h⟩ := ed_gd h
        refine iq_iaload hS 16 J_MLineRows_check_d15 ⟨(ka_105 hM).1, (ka_105 hM).2, g15.1, ix_lt (kl_105 hM) g15.2⟩ rfl ?_
        refine iq_imul hS 17 J_MLineRows_check_d16 rfl ?_
        refine iq_iadd hS 18 J_MLineRows_check_d17 rfl ?_
        refine iq_istore_n hS 19 J_MLineRows_check_d18 (by decide) rfl ?_
        refine iq_iincv hS 22 J_MLineRows_check_d19 (c := 1) (by decide +kernel) (lk_1i l9 (by decide)) (by decide) rfl ?_
        refine iq_goto hS J_MLineRows_check_d22 (t := 6) rfl ?_
        exact ih _ _ _ (lk_1r (lk_1r l6 (by decide)) (by decide)) (lk_1i (lk_1i l7 (by decide)) (by decide)) (lk_1i lk_1s (by decide)) lk_1s (lq_l h)
  exact I1 n1 _ _ _ (lk_1r (lk_1r l0 (by decide)) (by decide)) (lk_1i (lk_1i l1 (by decide)) (by decide)) (lk_1i lk_1s (by decide)) lk_1s hn1
noncomputable def f_MLineRows_tell (p0 : Int32) (M : im_M) : Option (im_M) := gd (inb (im_i M 96 17) 300) <| some (im_setI (im_setI M 107 (Int32.toNatClampNeg (im_i M 96 17)) p0) 96 17 ((im_i (im_setI M 107 (Int32.toNatClampNeg (im_i M 96 17)) p0) 96 17) + 1))
theorem J_MLineRows_tell_d0 : decode J_MLineRows_tell.2.1 0 = .ok (.aload_n 0, 1) := by decide +kernel
theorem J_MLineRows_tell_d1 : decode J_MLineRows_tell.2.1 1 = .ok (.getfield 146, 3) := by decide +kernel
theorem J_MLineRows_tell_d4 : decode J_MLineRows_tell.2.1 4 = .ok (.aload_n 0, 1) := by decide +kernel
theorem J_MLineRows_tell_d5 : decode J_MLineRows_tell.2.1 5 = .ok (.getfield 250, 3) := by decide +kernel
theorem J_MLineRows_tell_d8 : decode J_MLineRows_tell.2.1 8 = .ok (.iload_n 1, 1) := by decide +kernel
theorem J_MLineRows_tell_d9 : decode J_MLineRows_tell.2.1 9 = .ok (.iastore, 1) := by decide +kernel
theorem J_MLineRows_tell_d10 : decode J_MLineRows_tell.2.1 10 = .ok (.aload_n 0, 1) := by decide +kernel
theorem J_MLineRows_tell_d11 : decode J_MLineRows_tell.2.1 11 = .ok (.dup, 1) := by decide +kernel
theorem J_MLineRows_tell_d12 : decode J_MLineRows_tell.2.1 12 = .ok (.getfield 250, 3) := by decide +kernel
theorem J_MLineRows_tell_d15 : decode J_MLineRows_tell.2.1 15 = .ok (.iconst 1, 1) := by decide +kernel
theorem J_MLineRows_tell_d16 : decode J_MLineRows_tell.2.1 16 = .ok (.iadd, 1) := by decide +kernel
theorem J_MLineRows_tell_d17 : decode J_MLineRows_tell.2.1 17 = .ok (.putfield 250, 3) := by decide +kernel
theorem J_MLineRows_tell_d20 : decode J_MLineRows_tell.2.1 20 = .ok (.return_, 1) := by decide +kernel
theorem f_MLineRows_tell_ok {L : Nat} {xs : Nat → Int32} {dep : Nat} {w : Bool} {p0 : Int32} {M : im_M} {Q : im_M → Prop} (hM : lw_S w M) (h : ed (f_MLineRows_tell p0 M) Q) : ia (tb_G L xs) dep J_MLineRows_tell (rwV w Q) (0, lv_args 0 [.ref 96, .int p0], [], M) := by
  have hS : im_St (tb_G L xs) dep J_MLineRows_tell (ia (tb_G L xs) dep J_MLineRows_tell (rwV w Q)) := ia_St
  unfold f_MLineRows_tell at h
  have l0 : im_lk (lv_args 0 [.ref 96, .int p0]) 0 = some (.ref 96) := rfl
  have l1 : im_lk (lv_args 0 [.ref 96, .int p0]) 1 = some (.int p0) := rfl
  refine iq_aload_n hS 1 J_MLineRows_tell_d0 l0 rfl ?_
  refine iq_getR hS 4 J_MLineRows_tell_d1 lf_13_146 (Or.inr ⟨_, rfl⟩) (ka_96 hM) (ra_96_16 hM) rfl ?_
  refine iq_aload_n hS 5 J_MLineRows_tell_d4 l0 rfl ?_
  refine iq_getI hS 8 J_MLineRows_tell_d5 lf_13_250 (Or.inl rfl) (ka_96 hM) rfl ?_
  refine iq_iload_n hS 9 J_MLineRows_tell_d8 l1 rfl ?_
  obtain ⟨g9, h⟩ := ed_gd h
  refine iq_iastore hS 10 J_MLineRows_tell_d9 ⟨(ka_107 hM).1, (ka_107 hM).2, g9.1, ix_lt (kl_107 hM) g9.2⟩ rfl ?_
  refine iq_aload_n hS 11 J_MLineRows_tell_d10 l0 rfl ?_
  refine iq_dup hS 12 J_MLineRows_tell_d11 rfl rfl ?_
  refine iq_getI hS 15 J_MLineRows_tell_d12 lf_13_250 (Or.inl rfl) (ka_96 hM) rfl ?_
  refine iq_iconst hS 16 J_MLineRows_tell_d15 (v := 1) (by decide +kernel) rfl ?_
  refine iq_iadd hS 17 J_MLineRows_tell_d16 rfl ?_
  refine iq_putI hS 20 J_MLineRows_tell_d17 lf_13_250 (Or.inl rfl) rfl (ka_96 hM) rfl ?_
  exact iq_ret J_MLineRows_tell_d20 rfl ⟨rfl, hM, ed_some h⟩
