/-! THE TAPE IS FED (CLASS) -/
/-- the byte k of a long, as the tape holds it -/
def tp_b (v : Int64) (k : Nat) : Int32 := vp_nar .byte ((Int32.toInt8 ((Int64.toInt32 ((Int64.toUInt64 (v) >>> ((Int32.toInt64 ((8 * nI k))).toUInt64 &&& Int64.toUInt64 63)).toInt64)))).toInt32)
/-- the memory once k bytes are laid from place s on -/
def tp_M (M : im_M) (v : Int64) (s : Nat) : Nat → im_M
  | 0 => M
  | k + 1 => im_setI (tp_M M v s k) 2 (s + k) (tp_b v k)
theorem tp_S {w : Bool} {M : im_M} {v : Int64} {s : Nat} (hM : lw_S w M) : ∀ k, lw_S w (tp_M M v s k)
  | 0 => hM
  | k + 1 => tp_S hM k
theorem tp_sz {M : im_M} {v : Int64} {s : Nat} : ∀ k, im_i (tp_M M v s k) 1 1 = im_i M 1 1
  | 0 => rfl
  | k + 1 => tp_sz k
theorem J_HTape_append_d0 : decode J_HTape_append.2.1 0 = .ok (.aload_n 0, 1) := by decide +kernel
theorem J_HTape_append_d1 : decode J_HTape_append.2.1 1 = .ok (.getfield 40, 3) := by decide +kernel
theorem J_HTape_append_d4 : decode J_HTape_append.2.1 4 = .ok (.iload_n 1, 1) := by decide +kernel
theorem J_HTape_append_d5 : decode J_HTape_append.2.1 5 = .ok (.iadd, 1) := by decide +kernel
theorem J_HTape_append_d6 : decode J_HTape_append.2.1 6 = .ok (.sipush 4096, 3) := by decide +kernel
theorem J_HTape_append_d9 : decode J_HTape_append.2.1 9 = .ok (.if_icmp .le 5, 3) := by decide +kernel
theorem J_HTape_append_d12 : decode J_HTape_append.2.1 12 = .ok (.iconst (-1), 1) := by decide +kernel
theorem J_HTape_append_d13 : decode J_HTape_append.2.1 13 = .ok (.ireturn, 1) := by decide +kernel
theorem J_HTape_append_d14 : decode J_HTape_append.2.1 14 = .ok (.iconst 0, 1) := by decide +kernel
theorem J_HTape_append_d15 : decode J_HTape_append.2.1 15 = .ok (.istore 4, 2) := by decide +kernel
theorem J_HTape_append_d17 : decode J_HTape_append.2.1 17 = .ok (.iload 4, 2) := by decide +kernel
theorem J_HTape_append_d19 : decode J_HTape_append.2.1 19 = .ok (.iload_n 1, 1) := by decide +kernel
theorem J_HTape_append_d20 : decode J_HTape_append.2.1 20 = .ok (.if_icmp .ge 30, 3) := by decide +kernel
theorem J_HTape_append_d50 : decode J_HTape_append.2.1 50 = .ok (.aload_n 0, 1) := by decide +kernel
theorem J_HTape_append_d51 : decode J_HTape_append.2.1 51 = .ok (.dup, 1) := by decide +kernel
theorem J_HTape_append_d52 : decode J_HTape_append.2.1 52 = .ok (.getfield 40, 3) := by decide +kernel
theorem J_HTape_append_d55 : decode J_HTape_append.2.1 55 = .ok (.iload_n 1, 1) := by decide +kernel
theorem J_HTape_append_d56 : decode J_HTape_append.2.1 56 = .ok (.iadd, 1) := by decide +kernel
theorem J_HTape_append_d57 : decode J_HTape_append.2.1 57 = .ok (.putfield 40, 3) := by decide +kernel
theorem J_HTape_append_d60 : decode J_HTape_append.2.1 60 = .ok (.aload_n 0, 1) := by decide +kernel
theorem J_HTape_append_d61 : decode J_HTape_append.2.1 61 = .ok (.getfield 40, 3) := by decide +kernel
theorem J_HTape_append_d64 : decode J_HTape_append.2.1 64 = .ok (.ireturn, 1) := by decide +kernel
theorem J_HTape_append_d23 : decode J_HTape_append.2.1 23 = .ok (.aload_n 0, 1) := by decide +kernel
theorem J_HTape_append_d24 : decode J_HTape_append.2.1 24 = .ok (.getfield 11, 3) := by decide +kernel
theorem J_HTape_append_d27 : decode J_HTape_append.2.1 27 = .ok (.aload_n 0, 1) := by decide +kernel
theorem J_HTape_append_d28 : decode J_HTape_append.2.1 28 = .ok (.getfield 40, 3) := by decide +kernel
theorem J_HTape_append_d31 : decode J_HTape_append.2.1 31 = .ok (.iload 4, 2) := by decide +kernel
theorem J_HTape_append_d33 : decode J_HTape_append.2.1 33 = .ok (.iadd, 1) := by decide +kernel
theorem J_HTape_append_d34 : decode J_HTape_append.2.1 34 = .ok (.lload_n 2, 1) := by decide +kernel
theorem J_HTape_append_d35 : decode J_HTape_append.2.1 35 = .ok (.bipush 8, 2) := by decide +kernel
theorem J_HTape_append_d37 : decode J_HTape_append.2.1 37 = .ok (.iload 4, 2) := by decide +kernel
theorem J_HTape_append_d39 : decode J_HTape_append.2.1 39 = .ok (.imul, 1) := by decide +kernel
theorem J_HTape_append_d40 : decode J_HTape_append.2.1 40 = .ok (.lushr, 1) := by decide +kernel
theorem J_HTape_append_d41 : decode J_HTape_append.2.1 41 = .ok (.l2i, 1) := by decide +kernel
theorem J_HTape_append_d42 : decode J_HTape_append.2.1 42 = .ok (.i2b, 1) := by decide +kernel
theorem J_HTape_append_d43 : decode J_HTape_append.2.1 43 = .ok (.bastore, 1) := by decide +kernel
theorem J_HTape_append_d44 : decode J_HTape_append.2.1 44 = .ok (.iinc 4 1, 3) := by decide +kernel
theorem J_HTape_append_d47 : decode J_HTape_append.2.1 47 = .ok (.goto (-30), 3) := by decide +kernel
theorem tp_loop {L : Nat} {xs : Nat → Int32} {dep : Nat} {w : Bool} {M : im_M} {m s : Nat} {v : Int64} {P : Option Value → im_M → Prop} (hm : m ≤ 8) (hs : s + m ≤ 4096) (hM : lw_S w M) (hsz : im_i M 1 1 = nI s) (hP : P (some (.int (nI (s + m)))) (im_setI (tp_M M v s m) 1 1 (nI (s + m)))) : ∀ (j k : Nat), k + j = m → ∀ Lc : List (Nat × Value), im_lk Lc 0 = some (.ref 1) → im_lk Lc 1 = some (.int (nI m)) → im_lk Lc 2 = some (.long v) → im_lk Lc 4 = some (.int (nI k)) → ia (tb_G L xs) dep J_HTape_append P (17, Lc, [], tp_M M v s k) := by
  have hS : im_St (tb_G L xs) dep J_HTape_append (ia (tb_G L xs) dep J_HTape_append P) := ia_St
  intro j
  induction j with
  | zero =>
    intro k hk Lc l0 l1 l2 l4
    have hk : k = m := hk
    subst hk
    have e : im_i (tp_M M v s k) 1 1 + nI k = nI (s + k) := by rw [tp_sz, hsz]; exact nI_add s k
    refine iq_iload hS 19 J_HTape_append_d17 l4 rfl ?_
    refine iq_iload_n hS 20 J_HTape_append_d19 l1 rfl ?_
    refine iq_icmp_ge hS 23 J_HTape_append_d20 (t := 50) rfl (fun q20 => ?_) rfl (fun q20 => absurd (nI_le (Nat.le_refl k) (by omega)) q20)
    refine iq_aload_n hS 51 J_HTape_append_d50 l0 rfl ?_
    refine iq_dup hS 52 J_HTape_append_d51 rfl rfl ?_
    refine iq_getI hS 55 J_HTape_append_d52 lf_10_40 (Or.inl rfl) (ka_1 (tp_S hM k)) rfl ?_
    refine iq_iload_n hS 56 J_HTape_append_d55 l1 rfl ?_
    refine iq_iadd hS 57 J_HTape_append_d56 rfl ?_
    refine iq_putI hS 60 J_HTape_append_d57 lf_10_40 (Or.inl rfl) rfl (ka_1 (tp_S hM k)) rfl ?_
    refine iq_aload_n hS 61 J_HTape_append_d60 l0 rfl ?_
    refine iq_getI hS 64 J_HTape_append_d61 lf_10_40 (Or.inl rfl) (ka_1 (tp_S hM k)) rfl ?_
    exact iq_iret J_HTape_append_d64 rfl rfl (by rw [e]; exact hP)
  | succ j ih =>
    intro k hk Lc l0 l1 l2 l4
    have hk : k < m := by omega
    have e1 : nI k + Int32.ofInt 1 = nI (k + 1) := nI_1 k
    have ei : im_i (tp_M M v s k) 1 1 + nI k = nI (s + k) := by rw [tp_sz, hsz]; exact nI_add s k
    refine iq_iload hS 19 J_HTape_append_d17 l4 rfl ?_
    refine iq_iload_n hS 20 J_HTape_append_d19 l1 rfl ?_
    refine iq_icmp_ge hS 23 J_HTape_append_d20 (t := 50) rfl (fun q20 => absurd q20 (nI_ge hk (by omega))) rfl (fun q20 => ?_)
    refine iq_aload_n hS 24 J_HTape_append_d23 l0 rfl ?_
    refine iq_getR hS 27 J_HTape_append_d24 lf_10_11 (Or.inr ⟨_, rfl⟩) (ka_1 (tp_S hM k)) (ra_1_0 (tp_S hM k)) rfl ?_
    refine iq_aload_n hS 28 J_HTape_append_d27 l0 rfl ?_
    refine iq_getI hS 31 J_HTape_append_d28 lf_10_40 (Or.inl rfl) (ka_1 (tp_S hM k)) rfl ?_
    refine iq_iload hS 33 J_HTape_append_d31 l4 rfl ?_
    refine iq_iadd hS 34 J_HTape_append_d33 rfl ?_
    refine iq_lload_n hS 35 J_HTape_append_d34 l2 rfl ?_
    refine iq_bipush hS 37 J_HTape_append_d35 (v := 8) (by decide +kernel) rfl ?_
    refine iq_iload hS 39 J_HTape_append_d37 l4 rfl ?_
    refine iq_imul hS 40 J_HTape_append_d39 rfl ?_
    refine iq_lushr hS 41 J_HTape_append_d40 rfl ?_
    refine iq_l2i hS 42 J_HTape_append_d41 rfl ?_
    refine iq_i2b hS 43 J_HTape_append_d42 rfl ?_
    refine iq_bastore hS 44 J_HTape_append_d43 ⟨(ka_2 (tp_S hM k)).1, (ka_2 (tp_S hM k)).2, by rw [ei, nI_toInt (by omega)]; omega, ix_lt (kl_2 (tp_S hM k)) (by rw [ei, nI_toInt (by omega)]; omega)⟩ rfl ?_
    refine iq_iinc hS 47 J_HTape_append_d44 l4 (by decide) rfl ?_
    refine iq_goto hS J_HTape_append_d47 (t := 17) rfl ?_
    have e9 : (im_setI (tp_M M v s k) 2 (Int32.toNatClampNeg ((im_i (tp_M M v s k) 1 1 + nI k))) (vp_nar .byte ((Int32.toInt8 ((Int64.toInt32 ((Int64.toUInt64 (v) >>> ((Int32.toInt64 ((8 * nI k))).toUInt64 &&& Int64.toUInt64 63)).toInt64)))).toInt32))) = tp_M M v s (k + 1) := by
      rw [ei, nI_clamp (by omega)]
      rfl
    rw [e9]
    exact ih (k + 1) (by omega) _ (lk_1r l0 (by decide)) (lk_1i l1 (by decide)) (lk_1l l2 (by decide) (by decide)) (by rw [← e1]; exact lk_1s)
theorem H_append {L : Nat} {xs : Nat → Int32} {dep : Nat} {w : Bool} {M : im_M} {m s : Nat} {v : Int64} (hm : m ≤ 8) (hs : s ≤ 4096) (hM : lw_S w M) (hsz : im_i M 1 1 = nI s) : ia (tb_G L xs) dep J_HTape_append (fun r M1 => (r, M1) = if s + m ≤ 4096 then (some (.int (nI (s + m))), im_setI (tp_M M v s m) 1 1 (nI (s + m))) else (some (.int (-1)), M)) (0, lv_args 0 [.ref 1, .int (nI m), .long v], [], M) := by
  have hS : im_St (tb_G L xs) dep J_HTape_append (ia (tb_G L xs) dep J_HTape_append (fun r M1 => (r, M1) = if s + m ≤ 4096 then (some (.int (nI (s + m))), im_setI (tp_M M v s m) 1 1 (nI (s + m))) else (some (.int (-1)), M))) := ia_St
  have l0 : im_lk (lv_args 0 [.ref 1, .int (nI m), .long v]) 0 = some (.ref 1) := rfl
  have l1 : im_lk (lv_args 0 [.ref 1, .int (nI m), .long v]) 1 = some (.int (nI m)) := rfl
  have l2 : im_lk (lv_args 0 [.ref 1, .int (nI m), .long v]) 2 = some (.long v) := rfl
  refine iq_aload_n hS 1 J_HTape_append_d0 l0 rfl ?_
  refine iq_getI hS 4 J_HTape_append_d1 lf_10_40 (Or.inl rfl) (ka_1 hM) rfl ?_
  refine iq_iload_n hS 5 J_HTape_append_d4 l1 rfl ?_
  refine iq_iadd hS 6 J_HTape_append_d5 rfl ?_
  refine iq_sipush hS 9 J_HTape_append_d6 (v := 4096) (by decide +kernel) rfl ?_
  refine iq_icmp_le hS 12 J_HTape_append_d9 (t := 14) rfl (fun q9 => ?_) rfl (fun q9 => ?_)
  · have h9 : s + m ≤ 4096 := by
      rw [hsz, nI_add] at q9
      exact (nI_leI (by omega) (by decide)).mp q9
    refine iq_iconst hS 15 J_HTape_append_d14 (v := 0) (by decide +kernel) rfl ?_
    refine iq_istore hS 17 J_HTape_append_d15 (by decide) rfl ?_
    exact tp_loop (P := (fun r M1 => (r, M1) = if s + m ≤ 4096 then (some (.int (nI (s + m))), im_setI (tp_M M v s m) 1 1 (nI (s + m))) else (some (.int (-1)), M))) hm h9 hM hsz (by rw [if_pos h9]) m 0 (by omega) _ (lk_1r l0 (by decide)) (lk_1i l1 (by decide)) (lk_1l l2 (by decide) (by decide)) lk_1s
  · have h9 : ¬ s + m ≤ 4096 := by
      rw [hsz, nI_add] at q9
      exact fun z => q9 ((nI_leI (by omega) (by decide)).mpr z)
    refine iq_iconst hS 13 J_HTape_append_d12 (v := (-1)) (by decide +kernel) rfl ?_
    exact iq_iret J_HTape_append_d13 rfl rfl (by rw [if_neg h9])
