/-! ARRAYS.FILL (ints, from, to) -/
theorem J_Arrays_rangeCheck_d0 : decode J_Arrays_rangeCheck.2.1 0 = .ok (.iload_n 1, 1) := by decide +kernel
theorem J_Arrays_rangeCheck_d1 : decode J_Arrays_rangeCheck.2.1 1 = .ok (.iload_n 2, 1) := by decide +kernel
theorem J_Arrays_rangeCheck_d2 : decode J_Arrays_rangeCheck.2.1 2 = .ok (.if_icmp .le 44, 3) := by decide +kernel
theorem J_Arrays_rangeCheck_d46 : decode J_Arrays_rangeCheck.2.1 46 = .ok (.iload_n 1, 1) := by decide +kernel
theorem J_Arrays_rangeCheck_d47 : decode J_Arrays_rangeCheck.2.1 47 = .ok (.ifCond .ge 12, 3) := by decide +kernel
theorem J_Arrays_rangeCheck_d59 : decode J_Arrays_rangeCheck.2.1 59 = .ok (.iload_n 2, 1) := by decide +kernel
theorem J_Arrays_rangeCheck_d60 : decode J_Arrays_rangeCheck.2.1 60 = .ok (.iload_n 0, 1) := by decide +kernel
theorem J_Arrays_rangeCheck_d61 : decode J_Arrays_rangeCheck.2.1 61 = .ok (.if_icmp .le 12, 3) := by decide +kernel
theorem J_Arrays_rangeCheck_d73 : decode J_Arrays_rangeCheck.2.1 73 = .ok (.return_, 1) := by decide +kernel
theorem A_range {L : Nat} {xs : Nat → Int32} {dep : Nat} {M : im_M} {n f t : Nat} (hf : f ≤ t) (ht : t ≤ n) (hn : n < 2 ^ 31) : ia (tb_G L xs) dep J_Arrays_rangeCheck (fun r M1 => r = none ∧ M1 = M) (0, lv_args 0 [.int (nI n), .int (nI f), .int (nI t)], [], M) := by
  have hS : im_St (tb_G L xs) dep J_Arrays_rangeCheck (ia (tb_G L xs) dep J_Arrays_rangeCheck (fun r M1 => r = none ∧ M1 = M)) := ia_St
  have l0 : im_lk (lv_args 0 [.int (nI n), .int (nI f), .int (nI t)]) 0 = some (.int (nI n)) := rfl
  have l1 : im_lk (lv_args 0 [.int (nI n), .int (nI f), .int (nI t)]) 1 = some (.int (nI f)) := rfl
  have l2 : im_lk (lv_args 0 [.int (nI n), .int (nI f), .int (nI t)]) 2 = some (.int (nI t)) := rfl
  refine iq_iload_n hS 1 J_Arrays_rangeCheck_d0 l1 rfl ?_
  refine iq_iload_n hS 2 J_Arrays_rangeCheck_d1 l2 rfl ?_
  refine iq_icmp_le hS 5 J_Arrays_rangeCheck_d2 (t := 46) rfl (fun q2 => ?_) rfl (fun q2 => absurd (nI_le hf (by omega)) q2)
  refine iq_iload_n hS 47 J_Arrays_rangeCheck_d46 l1 rfl ?_
  refine iq_if_ge hS 50 J_Arrays_rangeCheck_d47 (t := 59) rfl (fun q47 => ?_) rfl (fun q47 => absurd (nI_pos' (by omega)) q47)
  refine iq_iload_n hS 60 J_Arrays_rangeCheck_d59 l2 rfl ?_
  refine iq_iload_n hS 61 J_Arrays_rangeCheck_d60 l0 rfl ?_
  refine iq_icmp_le hS 64 J_Arrays_rangeCheck_d61 (t := 73) rfl (fun q61 => ?_) rfl (fun q61 => absurd (nI_le ht hn) q61)
  exact iq_ret J_Arrays_rangeCheck_d73 rfl ⟨rfl, rfl⟩
/-- k ints laid from place f on -/
def af_M (M : im_M) (a f : Nat) (x : Int32) : Nat → im_M
  | 0 => M
  | k + 1 => im_setI (af_M M a f x k) a (f + k) x
theorem af_S {w : Bool} {M : im_M} {a f : Nat} {x : Int32} (hM : lw_S w M) : ∀ k, lw_S w (af_M M a f x k)
  | 0 => hM
  | k + 1 => af_S hM k
theorem af_k {M : im_M} {a f : Nat} {x : Int32} : ∀ k, im_n (af_M M a f x k) = im_n M ∧ im_k (af_M M a f x k) = im_k M
  | 0 => ⟨rfl, rfl⟩
  | k + 1 => af_k k
theorem af_i {M : im_M} {a f : Nat} {x : Int32} : ∀ (k b j : Nat), im_i (af_M M a f x k) b j = if b = a ∧ f ≤ j ∧ j < f + k then x else im_i M b j := by
  intro k
  induction k with
  | zero => intro b j; rw [if_neg (by omega)]; rfl
  | succ k ih =>
    intro b j
    show im_u2 (im_i (af_M M a f x k)) a (f + k) x b j = _
    unfold im_u2
    by_cases hb : b = a
    · rw [if_pos hb]
      by_cases hj : j = f + k
      · rw [if_pos hj, if_pos ⟨hb, by omega, by omega⟩]
      · rw [if_neg hj, ih]
        by_cases h : f ≤ j ∧ j < f + k
        · rw [if_pos ⟨hb, h⟩, if_pos ⟨hb, h.1, by omega⟩]
        · rw [if_neg (fun q => h q.2), if_neg (by omega)]
    · rw [if_neg hb, ih, if_neg (fun q => hb q.1), if_neg (fun q => hb q.1)]
theorem J_Arrays_fill_d10 : decode J_Arrays_fill.2.1 10 = .ok (.iload 4, 2) := by decide +kernel
theorem J_Arrays_fill_d12 : decode J_Arrays_fill.2.1 12 = .ok (.iload_n 2, 1) := by decide +kernel
theorem J_Arrays_fill_d13 : decode J_Arrays_fill.2.1 13 = .ok (.if_icmp .ge 14, 3) := by decide +kernel
theorem J_Arrays_fill_d27 : decode J_Arrays_fill.2.1 27 = .ok (.return_, 1) := by decide +kernel
theorem J_Arrays_fill_d16 : decode J_Arrays_fill.2.1 16 = .ok (.aload_n 0, 1) := by decide +kernel
theorem J_Arrays_fill_d17 : decode J_Arrays_fill.2.1 17 = .ok (.iload 4, 2) := by decide +kernel
theorem J_Arrays_fill_d19 : decode J_Arrays_fill.2.1 19 = .ok (.iload_n 3, 1) := by decide +kernel
theorem J_Arrays_fill_d20 : decode J_Arrays_fill.2.1 20 = .ok (.iastore, 1) := by decide +kernel
theorem J_Arrays_fill_d21 : decode J_Arrays_fill.2.1 21 = .ok (.iinc 4 1, 3) := by decide +kernel
theorem J_Arrays_fill_d24 : decode J_Arrays_fill.2.1 24 = .ok (.goto (-14), 3) := by decide +kernel
theorem J_Arrays_fill_d0 : decode J_Arrays_fill.2.1 0 = .ok (.aload_n 0, 1) := by decide +kernel
theorem J_Arrays_fill_d1 : decode J_Arrays_fill.2.1 1 = .ok (.arraylength, 1) := by decide +kernel
theorem J_Arrays_fill_d2 : decode J_Arrays_fill.2.1 2 = .ok (.iload_n 1, 1) := by decide +kernel
theorem J_Arrays_fill_d3 : decode J_Arrays_fill.2.1 3 = .ok (.iload_n 2, 1) := by decide +kernel
theorem J_Arrays_fill_d4 : decode J_Arrays_fill.2.1 4 = .ok (.invokestatic 13, 3) := by decide +kernel
theorem J_Arrays_fill_d7 : decode J_Arrays_fill.2.1 7 = .ok (.iload_n 1, 1) := by decide +kernel
theorem J_Arrays_fill_d8 : decode J_Arrays_fill.2.1 8 = .ok (.istore 4, 2) := by decide +kernel
theorem af_loop {L : Nat} {xs : Nat → Int32} {dep : Nat} {M : im_M} {a N f t : Nat} {x : Int32} (hf : f ≤ t) (ht : t ≤ N) (hN : N < 2 ^ 31) (ha : a < im_n M ∧ (im_k M a).1 = 33) (hl : (im_k M a).2 = N) : ∀ (j k : Nat), f + k + j = t → ∀ Lc : List (Nat × Value), im_lk Lc 0 = some (.ref a) → im_lk Lc 1 = some (.int (nI f)) → im_lk Lc 2 = some (.int (nI t)) → im_lk Lc 3 = some (.int x) → im_lk Lc 4 = some (.int (nI (f + k))) → ia (tb_G L xs) dep J_Arrays_fill (fun r M1 => r = none ∧ M1 = af_M M a f x (t - f)) (10, Lc, [], af_M M a f x k) := by
  have hS : im_St (tb_G L xs) dep J_Arrays_fill (ia (tb_G L xs) dep J_Arrays_fill (fun r M1 => r = none ∧ M1 = af_M M a f x (t - f))) := ia_St
  intro j
  induction j with
  | zero =>
    intro k hk Lc l0 l1 l2 l3 l4
    have hk : t - f = k := by omega
    refine iq_iload hS 12 J_Arrays_fill_d10 l4 rfl ?_
    refine iq_iload_n hS 13 J_Arrays_fill_d12 l2 rfl ?_
    refine iq_icmp_ge hS 16 J_Arrays_fill_d13 (t := 27) rfl (fun q13 => ?_) rfl (fun q13 => absurd (nI_le (by omega) (by omega)) q13)
    exact iq_ret J_Arrays_fill_d27 rfl ⟨rfl, by rw [hk]⟩
  | succ j ih =>
    intro k hk Lc l0 l1 l2 l3 l4
    have ka_a : ∀ u : Unit, a < im_n (af_M M a f x k) ∧ (im_k (af_M M a f x k) a).1 = 33 := fun _ => by rw [(af_k k).1, (af_k k).2]; exact ha
    have kl_a : ∀ u : Unit, (im_k (af_M M a f x k) a).2 = N := fun _ => by rw [(af_k k).2]; exact hl
    have e1 : nI (f + k) + Int32.ofInt 1 = nI (f + (k + 1)) := nI_1 (f + k)
    refine iq_iload hS 12 J_Arrays_fill_d10 l4 rfl ?_
    refine iq_iload_n hS 13 J_Arrays_fill_d12 l2 rfl ?_
    refine iq_icmp_ge hS 16 J_Arrays_fill_d13 (t := 27) rfl (fun q13 => absurd q13 (nI_ge (by omega) (by omega))) rfl (fun q13 => ?_)
    refine iq_aload_n hS 17 J_Arrays_fill_d16 l0 rfl ?_
    refine iq_iload hS 19 J_Arrays_fill_d17 l4 rfl ?_
    refine iq_iload_n hS 20 J_Arrays_fill_d19 l3 rfl ?_
    refine iq_iastore hS 21 J_Arrays_fill_d20 ⟨(ka_a ()).1, (ka_a ()).2, by rw [nI_toInt (by omega)]; omega, ix_lt (kl_a ()) (by rw [nI_toInt (by omega)]; omega)⟩ rfl ?_
    refine iq_iinc hS 24 J_Arrays_fill_d21 l4 (by decide) rfl ?_
    refine iq_goto hS J_Arrays_fill_d24 (t := 10) rfl ?_
    have e9 : (im_setI (af_M M a f x k) a (Int32.toNatClampNeg (nI (f + k))) (x)) = af_M M a f x (k + 1) := by
      rw [nI_clamp (by omega)]
      rfl
    rw [e9]
    exact ih (k + 1) (by omega) _ (lk_1r l0 (by decide)) (lk_1i l1 (by decide)) (lk_1i l2 (by decide)) (lk_1i l3 (by decide)) (by rw [← e1]; exact lk_1s)
theorem A_fill {L : Nat} {xs : Nat → Int32} {dep : Nat} {M : im_M} {a N f t : Nat} {x : Int32} (hf : f ≤ t) (ht : t ≤ N) (hN : N < 2 ^ 31) (ha : a < im_n M ∧ (im_k M a).1 = 33) (hl : (im_k M a).2 = N) : ia (tb_G L xs) (dep + 1) J_Arrays_fill (fun r M1 => r = none ∧ M1 = af_M M a f x (t - f)) (0, lv_args 0 [.ref a, .int (nI f), .int (nI t), .int x], [], M) := by
  have hS : im_St (tb_G L xs) (dep + 1) J_Arrays_fill (ia (tb_G L xs) (dep + 1) J_Arrays_fill (fun r M1 => r = none ∧ M1 = af_M M a f x (t - f))) := ia_St
  have l0 : im_lk (lv_args 0 [.ref a, .int (nI f), .int (nI t), .int x]) 0 = some (.ref a) := rfl
  have l1 : im_lk (lv_args 0 [.ref a, .int (nI f), .int (nI t), .int x]) 1 = some (.int (nI f)) := rfl
  have l2 : im_lk (lv_args 0 [.ref a, .int (nI f), .int (nI t), .int x]) 2 = some (.int (nI t)) := rfl
  have l3 : im_lk (lv_args 0 [.ref a, .int (nI f), .int (nI t), .int x]) 3 = some (.int x) := rfl
  refine iq_aload_n hS 1 J_Arrays_fill_d0 l0 rfl ?_
  refine iq_alen hS 2 J_Arrays_fill_d1 ⟨ha.1, by rw [ha.2]; decide, by rw [ha.2]; decide⟩ rfl ?_
  rw [hl]
  change ia _ _ _ _ (_, _, [.int (nI N)], _)
  refine iq_iload_n hS 3 J_Arrays_fill_d2 l1 rfl ?_
  refine iq_iload_n hS 4 J_Arrays_fill_d3 l2 rfl ?_
  refine iq_call hS 7 J_Arrays_fill_d4 rfl (pr_stat (vs := [_, _, _]) lc_22_13 lT_54 rfl rfl (by decide) rfl (Nat.le_of_ble_eq_true rfl) (Nat.le_of_ble_eq_true rfl)) (A_range (n := N) hf ht hN) rfl ?_
  rintro v M1 ⟨rfl, rfl⟩
  refine iq_iload_n hS 8 J_Arrays_fill_d7 l1 rfl ?_
  refine iq_istore hS 10 J_Arrays_fill_d8 (by decide) rfl ?_
  exact af_loop hf ht hN ha hl (t - f) 0 (by omega) _ (lk_1r l0 (by decide)) (lk_1i l1 (by decide)) (lk_1i l2 (by decide)) (lk_1i l3 (by decide)) lk_1s
