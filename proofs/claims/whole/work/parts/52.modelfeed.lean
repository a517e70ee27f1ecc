/-! THE TAPE IS FED (REFERENCE) -/
/-- the byte k of a long, as the reference's tape holds it -/
def md_b (v : Int64) (k : Nat) : Int32 := (Int64.toInt32 (((v >>> (Int32.toInt64 ((8 * nI k)) &&& 63)) &&& 255)))
/-- the memory once k bytes are laid from place s on -/
def md_M (M : im_M) (v : Int64) (s : Nat) : Nat → im_M
  | 0 => M
  | k + 1 => im_setI (im_setI (md_M M v s k) 70 (s + k) (md_b v k)) 69 2 (nI (s + k) + 1)
theorem md_S {w : Bool} {M : im_M} {v : Int64} {s : Nat} (hM : lw_S w M) : ∀ k, lw_S w (md_M M v s k)
  | 0 => hM
  | k + 1 => md_S hM k
theorem md_sz {M : im_M} {v : Int64} {s : Nat} (h : im_i M 69 2 = nI s) : ∀ k, im_i (md_M M v s k) 69 2 = nI (s + k)
  | 0 => h
  | k + 1 => nI_1 (s + k)
theorem J_M_feed_d0 : decode J_M_feed.2.1 0 = .ok (.aload_n 0, 1) := by decide +kernel
theorem J_M_feed_d1 : decode J_M_feed.2.1 1 = .ok (.iload_n 1, 1) := by decide +kernel
theorem J_M_feed_d2 : decode J_M_feed.2.1 2 = .ok (.iconst 1, 1) := by decide +kernel
theorem J_M_feed_d3 : decode J_M_feed.2.1 3 = .ok (.if_icmp .lt 9, 3) := by decide +kernel
theorem J_M_feed_d6 : decode J_M_feed.2.1 6 = .ok (.iload_n 1, 1) := by decide +kernel
theorem J_M_feed_d7 : decode J_M_feed.2.1 7 = .ok (.bipush 8, 2) := by decide +kernel
theorem J_M_feed_d9 : decode J_M_feed.2.1 9 = .ok (.if_icmp .le 7, 3) := by decide +kernel
theorem J_M_feed_d16 : decode J_M_feed.2.1 16 = .ok (.iconst 0, 1) := by decide +kernel
theorem J_M_feed_d17 : decode J_M_feed.2.1 17 = .ok (.putfield 58, 3) := by decide +kernel
theorem J_M_feed_d20 : decode J_M_feed.2.1 20 = .ok (.aload_n 0, 1) := by decide +kernel
theorem J_M_feed_d21 : decode J_M_feed.2.1 21 = .ok (.getfield 58, 3) := by decide +kernel
theorem J_M_feed_d24 : decode J_M_feed.2.1 24 = .ok (.ifCond .le 5, 3) := by decide +kernel
theorem J_M_feed_d29 : decode J_M_feed.2.1 29 = .ok (.aload_n 0, 1) := by decide +kernel
theorem J_M_feed_d30 : decode J_M_feed.2.1 30 = .ok (.getfield 61, 3) := by decide +kernel
theorem J_M_feed_d33 : decode J_M_feed.2.1 33 = .ok (.iload_n 1, 1) := by decide +kernel
theorem J_M_feed_d34 : decode J_M_feed.2.1 34 = .ok (.iadd, 1) := by decide +kernel
theorem J_M_feed_d35 : decode J_M_feed.2.1 35 = .ok (.sipush 4096, 3) := by decide +kernel
theorem J_M_feed_d38 : decode J_M_feed.2.1 38 = .ok (.if_icmp .le 5, 3) := by decide +kernel
theorem J_M_feed_d41 : decode J_M_feed.2.1 41 = .ok (.iconst (-1), 1) := by decide +kernel
theorem J_M_feed_d42 : decode J_M_feed.2.1 42 = .ok (.ireturn, 1) := by decide +kernel
theorem J_M_feed_d43 : decode J_M_feed.2.1 43 = .ok (.iconst 0, 1) := by decide +kernel
theorem J_M_feed_d44 : decode J_M_feed.2.1 44 = .ok (.istore 4, 2) := by decide +kernel
theorem J_M_feed_d46 : decode J_M_feed.2.1 46 = .ok (.iload 4, 2) := by decide +kernel
theorem J_M_feed_d48 : decode J_M_feed.2.1 48 = .ok (.iload_n 1, 1) := by decide +kernel
theorem J_M_feed_d49 : decode J_M_feed.2.1 49 = .ok (.if_icmp .ge 40, 3) := by decide +kernel
theorem J_M_feed_d89 : decode J_M_feed.2.1 89 = .ok (.aload_n 0, 1) := by decide +kernel
theorem J_M_feed_d90 : decode J_M_feed.2.1 90 = .ok (.getfield 61, 3) := by decide +kernel
theorem J_M_feed_d93 : decode J_M_feed.2.1 93 = .ok (.ireturn, 1) := by decide +kernel
theorem J_M_feed_d52 : decode J_M_feed.2.1 52 = .ok (.aload_n 0, 1) := by decide +kernel
theorem J_M_feed_d53 : decode J_M_feed.2.1 53 = .ok (.getfield 7, 3) := by decide +kernel
theorem J_M_feed_d56 : decode J_M_feed.2.1 56 = .ok (.aload_n 0, 1) := by decide +kernel
theorem J_M_feed_d57 : decode J_M_feed.2.1 57 = .ok (.getfield 61, 3) := by decide +kernel
theorem J_M_feed_d60 : decode J_M_feed.2.1 60 = .ok (.lload_n 2, 1) := by decide +kernel
theorem J_M_feed_d61 : decode J_M_feed.2.1 61 = .ok (.bipush 8, 2) := by decide +kernel
theorem J_M_feed_d63 : decode J_M_feed.2.1 63 = .ok (.iload 4, 2) := by decide +kernel
theorem J_M_feed_d65 : decode J_M_feed.2.1 65 = .ok (.imul, 1) := by decide +kernel
theorem J_M_feed_d66 : decode J_M_feed.2.1 66 = .ok (.lshr, 1) := by decide +kernel
theorem J_M_feed_d67 : decode J_M_feed.2.1 67 = .ok (.ldc2_w 64, 3) := by decide +kernel
theorem J_M_feed_d70 : decode J_M_feed.2.1 70 = .ok (.land, 1) := by decide +kernel
theorem J_M_feed_d71 : decode J_M_feed.2.1 71 = .ok (.l2i, 1) := by decide +kernel
theorem J_M_feed_d72 : decode J_M_feed.2.1 72 = .ok (.iastore, 1) := by decide +kernel
theorem J_M_feed_d73 : decode J_M_feed.2.1 73 = .ok (.aload_n 0, 1) := by decide +kernel
theorem J_M_feed_d74 : decode J_M_feed.2.1 74 = .ok (.dup, 1) := by decide +kernel
theorem J_M_feed_d75 : decode J_M_feed.2.1 75 = .ok (.getfield 61, 3) := by decide +kernel
theorem J_M_feed_d78 : decode J_M_feed.2.1 78 = .ok (.iconst 1, 1) := by decide +kernel
theorem J_M_feed_d79 : decode J_M_feed.2.1 79 = .ok (.iadd, 1) := by decide +kernel
theorem J_M_feed_d80 : decode J_M_feed.2.1 80 = .ok (.putfield 61, 3) := by decide +kernel
theorem J_M_feed_d83 : decode J_M_feed.2.1 83 = .ok (.iinc 4 1, 3) := by decide +kernel
theorem J_M_feed_d86 : decode J_M_feed.2.1 86 = .ok (.goto (-40), 3) := by decide +kernel
theorem J_M_feed_d12 : decode J_M_feed.2.1 12 = .ok (.iconst 1, 1) := by decide +kernel
theorem J_M_feed_d13 : decode J_M_feed.2.1 13 = .ok (.goto 4, 3) := by decide +kernel
theorem J_M_feed_d27 : decode J_M_feed.2.1 27 = .ok (.iconst 0, 1) := by decide +kernel
theorem J_M_feed_d28 : decode J_M_feed.2.1 28 = .ok (.ireturn, 1) := by decide +kernel
theorem md_loop {L : Nat} {xs : Nat → Int32} {dep : Nat} {w : Bool} {M : im_M} {m s : Nat} {v : Int64} {P : Option Value → im_M → Prop} (hm : m ≤ 8) (hs : s + m ≤ 4096) (hM : lw_S w M) (hsz : im_i M 69 2 = nI s) (hP : P (some (.int (nI (s + m)))) (md_M M v s m)) : ∀ (j k : Nat), k + j = m → ∀ Lc : List (Nat × Value), im_lk Lc 0 = some (.ref 69) → im_lk Lc 1 = some (.int (nI m)) → im_lk Lc 2 = some (.long v) → im_lk Lc 4 = some (.int (nI k)) → ia (tb_G L xs) dep J_M_feed P (46, Lc, [], md_M M v s k) := by
  have hS : im_St (tb_G L xs) dep J_M_feed (ia (tb_G L xs) dep J_M_feed P) := ia_St
  intro j
  induction j with
  | zero =>
    intro k hk Lc l0 l1 l2 l4
    have hk : k = m := hk
    subst hk
    refine iq_iload hS 48 J_M_feed_d46 l4 rfl ?_
    refine iq_iload_n hS 49 J_M_feed_d48 l1 rfl ?_
    refine iq_icmp_ge hS 52 J_M_feed_d49 (t := 89) rfl (fun q49 => ?_) rfl (fun q49 => absurd (nI_le (Nat.le_refl k) (by omega)) q49)
    refine iq_aload_n hS 90 J_M_feed_d89 l0 rfl ?_
    refine iq_getI hS 93 J_M_feed_d90 lf_17_61 (Or.inl rfl) (ka_69 (md_S hM k)) rfl ?_
    exact iq_iret J_M_feed_d93 rfl rfl (by rw [md_sz hsz]; exact hP)
  | succ j ih =>
    intro k hk Lc l0 l1 l2 l4
    have hk : k < m := by omega
    have e1 : nI k + Int32.ofInt 1 = nI (k + 1) := nI_1 k
    have ei : im_i (md_M M v s k) 69 2 = nI (s + k) := md_sz hsz k
    refine iq_iload hS 48 J_M_feed_d46 l4 rfl ?_
    refine iq_iload_n hS 49 J_M_feed_d48 l1 rfl ?_
    refine iq_icmp_ge hS 52 J_M_feed_d49 (t := 89) rfl (fun q49 => absurd q49 (nI_ge hk (by omega))) rfl (fun q49 => ?_)
    refine iq_aload_n hS 53 J_M_feed_d52 l0 rfl ?_
    refine iq_getR hS 56 J_M_feed_d53 lf_17_7 (Or.inr ⟨_, rfl⟩) (ka_69 (md_S hM k)) (ra_69_1 (md_S hM k)) rfl ?_
    refine iq_aload_n hS 57 J_M_feed_d56 l0 rfl ?_
    refine iq_getI hS 60 J_M_feed_d57 lf_17_61 (Or.inl rfl) (ka_69 (md_S hM k)) rfl ?_
    refine iq_lload_n hS 61 J_M_feed_d60 l2 rfl ?_
    refine iq_bipush hS 63 J_M_feed_d61 (v := 8) (by decide +kernel) rfl ?_
    refine iq_iload hS 65 J_M_feed_d63 l4 rfl ?_
    refine iq_imul hS 66 J_M_feed_d65 rfl ?_
    refine iq_lshr hS 67 J_M_feed_d66 rfl ?_
    refine iq_ldc2_w hS 70 J_M_feed_d67 lk_17_64 rfl ?_
    refine iq_land hS 71 J_M_feed_d70 rfl ?_
    refine iq_l2i hS 72 J_M_feed_d71 rfl ?_
    refine iq_iastore hS 73 J_M_feed_d72 ⟨(ka_70 (md_S hM k)).1, (ka_70 (md_S hM k)).2, by rw [ei, nI_toInt (by omega)]; omega, ix_lt (kl_70 (md_S hM k)) (by rw [ei, nI_toInt (by omega)]; omega)⟩ rfl ?_
    refine iq_aload_n hS 74 J_M_feed_d73 l0 rfl ?_
    refine iq_dup hS 75 J_M_feed_d74 rfl rfl ?_
    refine iq_getI hS 78 J_M_feed_d75 lf_17_61 (Or.inl rfl) (ka_69 (md_S hM k)) rfl ?_
    refine iq_iconst hS 79 J_M_feed_d78 (v := 1) (by decide +kernel) rfl ?_
    refine iq_iadd hS 80 J_M_feed_d79 rfl ?_
    refine iq_putI hS 83 J_M_feed_d80 lf_17_61 (Or.inl rfl) rfl (ka_69 (md_S hM k)) rfl ?_
    refine iq_iinc hS 86 J_M_feed_d83 l4 (by decide) rfl ?_
    refine iq_goto hS J_M_feed_d86 (t := 46) rfl ?_
    have e9 : (im_setI (im_setI (md_M M v s k) 70 (Int32.toNatClampNeg (im_i (md_M M v s k) 69 2)) ((Int64.toInt32 (((v >>> (Int32.toInt64 ((8 * nI k)) &&& 63)) &&& 255))))) 69 2 ((im_i (im_setI (md_M M v s k) 70 (Int32.toNatClampNeg (im_i (md_M M v s k) 69 2)) ((Int64.toInt32 (((v >>> (Int32.toInt64 ((8 * nI k)) &&& 63)) &&& 255))))) 69 2 + 1))) = md_M M v s (k + 1) := by
      show im_setI (im_setI (md_M M v s k) 70 (Int32.toNatClampNeg (im_i (md_M M v s k) 69 2)) (md_b v k)) 69 2 (im_i (md_M M v s k) 69 2 + 1) = _
      rw [ei, nI_clamp (by omega)]
      rfl
    rw [e9]
    exact ih (k + 1) (by omega) _ (lk_1r l0 (by decide)) (lk_1i l1 (by decide)) (lk_1l l2 (by decide) (by decide)) (by rw [← e1]; exact lk_1s)
theorem M_feed {L : Nat} {xs : Nat → Int32} {dep : Nat} {w : Bool} {M : im_M} {m s : Nat} {v : Int64} (hm1 : 1 ≤ m) (hm : m ≤ 8) (hs : s ≤ 4096) (hM : lw_S w M) (hsz : im_i M 69 2 = nI s) : ia (tb_G L xs) dep J_M_feed (fun r M1 => (r, M1) = if s + m ≤ 4096 then (some (.int (nI (s + m))), md_M (im_setI M 69 0 0) v s m) else (some (.int (-1)), im_setI M 69 0 0)) (0, lv_args 0 [.ref 69, .int (nI m), .long v], [], M) := by
  have hS : im_St (tb_G L xs) dep J_M_feed (ia (tb_G L xs) dep J_M_feed (fun r M1 => (r, M1) = if s + m ≤ 4096 then (some (.int (nI (s + m))), md_M (im_setI M 69 0 0) v s m) else (some (.int (-1)), im_setI M 69 0 0))) := ia_St
  have l0 : im_lk (lv_args 0 [.ref 69, .int (nI m), .long v]) 0 = some (.ref 69) := rfl
  have l1 : im_lk (lv_args 0 [.ref 69, .int (nI m), .long v]) 1 = some (.int (nI m)) := rfl
  have l2 : im_lk (lv_args 0 [.ref 69, .int (nI m), .long v]) 2 = some (.long v) := rfl
  refine iq_aload_n hS 1 J_M_feed_d0 l0 rfl ?_
  refine iq_iload_n hS 2 J_M_feed_d1 l1 rfl ?_
  refine iq_iconst hS 3 J_M_feed_d2 (v := 1) (by decide +kernel) rfl ?_
  refine iq_icmp_lt hS 6 J_M_feed_d3 (t := 12) rfl (fun q3 => absurd q3 (nI_nlt hm1 (by omega))) rfl (fun q3 => ?_)
  refine iq_iload_n hS 7 J_M_feed_d6 l1 rfl ?_
  refine iq_bipush hS 9 J_M_feed_d7 (v := 8) (by decide +kernel) rfl ?_
  refine iq_icmp_le hS 12 J_M_feed_d9 (t := 16) rfl (fun q9 => ?_) rfl (fun q9 => absurd (nI_le hm (by decide)) q9)
  refine iq_iconst hS 17 J_M_feed_d16 (v := 0) (by decide +kernel) rfl ?_
  refine iq_putI hS 20 J_M_feed_d17 lf_17_58 (Or.inl rfl) rfl (ka_69 hM) rfl ?_
  refine iq_aload_n hS 21 J_M_feed_d20 l0 rfl ?_
  refine iq_getI hS 24 J_M_feed_d21 lf_17_58 (Or.inl rfl) (ka_69 hM) rfl ?_
  refine iq_if_le hS 27 J_M_feed_d24 (t := 29) rfl (fun q24 => ?_) rfl (fun q24 => absurd (show (0 : Int32) ≤ 0 by decide) q24)
  refine iq_aload_n hS 30 J_M_feed_d29 l0 rfl ?_
  refine iq_getI hS 33 J_M_feed_d30 lf_17_61 (Or.inl rfl) (ka_69 hM) rfl ?_
  refine iq_iload_n hS 34 J_M_feed_d33 l1 rfl ?_
  refine iq_iadd hS 35 J_M_feed_d34 rfl ?_
  refine iq_sipush hS 38 J_M_feed_d35 (v := 4096) (by decide +kernel) rfl ?_
  refine iq_icmp_le hS 41 J_M_feed_d38 (t := 43) rfl (fun q38 => ?_) rfl (fun q38 => ?_)
  · have q38 : (im_i M 69 2 + nI m) ≤ 4096 := q38
    have h38 : s + m ≤ 4096 := by
      rw [hsz, nI_add] at q38
      exact (nI_leI (by omega) (by decide)).mp q38
    refine iq_iconst hS 44 J_M_feed_d43 (v := 0) (by decide +kernel) rfl ?_
    refine iq_istore hS 46 J_M_feed_d44 (by decide) rfl ?_
    exact md_loop (M := (im_setI M 69 0 0)) (P := (fun r M1 => (r, M1) = if s + m ≤ 4096 then (some (.int (nI (s + m))), md_M (im_setI M 69 0 0) v s m) else (some (.int (-1)), im_setI M 69 0 0))) hm h38 hM hsz (by rw [if_pos h38]) m 0 (by omega) _ (lk_1r l0 (by decide)) (lk_1i l1 (by decide)) (lk_1l l2 (by decide) (by decide)) lk_1s
  · have q38 : ¬ (im_i M 69 2 + nI m) ≤ 4096 := q38
    have h38 : ¬ s + m ≤ 4096 := by
      rw [hsz, nI_add] at q38
      exact fun z => q38 ((nI_leI (by omega) (by decide)).mpr z)
    refine iq_iconst hS 42 J_M_feed_d41 (v := (-1)) (by decide +kernel) rfl ?_
    exact iq_iret J_M_feed_d42 rfl rfl (by rw [if_neg h38])
theorem M_feed_no {L : Nat} {xs : Nat → Int32} {dep : Nat} {w : Bool} {M : im_M} {n : Int32} {v : Int64} (hn : ¬ (1 ≤ n ∧ n ≤ 8)) (hM : lw_S w M) : ia (tb_G L xs) dep J_M_feed (fun r M1 => r = some (.int 0) ∧ M1 = im_setI M 69 0 1) (0, lv_args 0 [.ref 69, .int n, .long v], [], M) := by
  have hS : im_St (tb_G L xs) dep J_M_feed (ia (tb_G L xs) dep J_M_feed (fun r M1 => r = some (.int 0) ∧ M1 = im_setI M 69 0 1)) := ia_St
  have l0 : im_lk (lv_args 0 [.ref 69, .int n, .long v]) 0 = some (.ref 69) := rfl
  have l1 : im_lk (lv_args 0 [.ref 69, .int n, .long v]) 1 = some (.int n) := rfl
  have l2 : im_lk (lv_args 0 [.ref 69, .int n, .long v]) 2 = some (.long v) := rfl
  refine iq_aload_n hS 1 J_M_feed_d0 l0 rfl ?_
  refine iq_iload_n hS 2 J_M_feed_d1 l1 rfl ?_
  refine iq_iconst hS 3 J_M_feed_d2 (v := 1) (by decide +kernel) rfl ?_
  refine iq_icmp_lt hS 6 J_M_feed_d3 (t := 12) rfl (fun q3 => ?_) rfl (fun q3 => ?_)
  · refine iq_iconst hS 13 J_M_feed_d12 (v := 1) (by decide +kernel) rfl ?_
    refine iq_goto hS J_M_feed_d13 (t := 17) rfl ?_
    refine iq_putI hS 20 J_M_feed_d17 lf_17_58 (Or.inl rfl) rfl (ka_69 hM) rfl ?_
    refine iq_aload_n hS 21 J_M_feed_d20 l0 rfl ?_
    refine iq_getI hS 24 J_M_feed_d21 lf_17_58 (Or.inl rfl) (ka_69 hM) rfl ?_
    refine iq_if_le hS 27 J_M_feed_d24 (t := 29) rfl (fun q24 => absurd q24 (show ¬ (1 : Int32) ≤ 0 by decide)) rfl (fun q24 => ?_)
    refine iq_iconst hS 28 J_M_feed_d27 (v := 0) (by decide +kernel) rfl ?_
    exact iq_iret J_M_feed_d28 rfl rfl ⟨rfl, rfl⟩
  · refine iq_iload_n hS 7 J_M_feed_d6 l1 rfl ?_
    refine iq_bipush hS 9 J_M_feed_d7 (v := 8) (by decide +kernel) rfl ?_
    refine iq_icmp_le hS 12 J_M_feed_d9 (t := 16) rfl (fun q9 => absurd ⟨Int32.not_lt.mp q3, q9⟩ hn) rfl (fun q9 => ?_)
    refine iq_iconst hS 13 J_M_feed_d12 (v := 1) (by decide +kernel) rfl ?_
    refine iq_goto hS J_M_feed_d13 (t := 17) rfl ?_
    refine iq_putI hS 20 J_M_feed_d17 lf_17_58 (Or.inl rfl) rfl (ka_69 hM) rfl ?_
    refine iq_aload_n hS 21 J_M_feed_d20 l0 rfl ?_
    refine iq_getI hS 24 J_M_feed_d21 lf_17_58 (Or.inl rfl) (ka_69 hM) rfl ?_
    refine iq_if_le hS 27 J_M_feed_d24 (t := 29) rfl (fun q24 => absurd q24 (show ¬ (1 : Int32) ≤ 0 by decide)) rfl (fun q24 => ?_)
    refine iq_iconst hS 28 J_M_feed_d27 (v := 0) (by decide +kernel) rfl ?_
    exact iq_iret J_M_feed_d28 rfl rfl ⟨rfl, rfl⟩
