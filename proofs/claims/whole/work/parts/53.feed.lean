/-! FEED: THE CALL AND THE LAW'S METHOD AROUND IT -/
theorem ia_imp {G : im_G} {dep : Nat} {d : im_J} {P Q : Option Value → im_M → Prop} {F : im_F} (h : ia G dep d P F) (hq : ∀ v M1, P v M1 → Q v M1) : ia G dep d Q F := by
  obtain ⟨n, v, M1, h1, h2⟩ := h
  exact ⟨n, v, M1, h1, hq v M1 h2⟩
/-- 'throw new E()' -/
theorem it_now {G : im_G} {X : im_E} {dep : Nat} {d : im_J} {P : Nat → im_M → Prop} {pc k E ic : Nat} {L : List (Nat × Value)} {r : List Value} {M : im_M} (hd : decode d.2.1 pc = .ok (.new k, 3)) (hx : X.2.1 d.2.2.2.2.2.2 k = some (E, ic)) (h1 : decode d.2.1 (pc + 3) = .ok (.dup, 1)) (h2 : decode d.2.1 (pc + 4) = .ok (.invokespecial ic, 3)) (h3 : decode d.2.1 (pc + 7) = .ok (.athrow, 1)) (hr : (r.map fun v => v.category).sum ≤ 8) (hdep : 5 ≤ dep) (hP : P E (im_noX M)) : it G X dep d P (pc, L, r, M) := by
  refine ⟨1, E, im_noX M, ?_, hP⟩
  unfold im_thr
  rw [hd]
  have e : im_isthr X d (.new k) (pc, L, r, M) = some E := by
    simp only [im_isthr, hx]
    rw [if_pos ⟨h1, h2, h3, hr⟩]
  simp only [e]
  rw [if_pos ⟨trivial, by omega⟩]
theorem gx_0 {k E ic : Nat} (h : tb_find tb_el 11 k = some (E, ic)) : tb_X.2.1 11 k = some (E, ic) := h
theorem gx_84 : tb_X.2.1 11 84 = some (0, 86) := gx_0 (by decide +kernel)
theorem gx_103 : tb_X.2.1 11 103 = some (1, 105) := gx_0 (by decide +kernel)
/-- what feed answers and leaves -/
def fd_r (M : im_M) (v : Int64) (s m : Nat) : Int32 × im_M := if s + m ≤ 4096 then (nI (s + m), im_setI (tp_M M v s m) 1 1 (nI (s + m))) else (-1, M)
theorem fd_S {w : Bool} {M : im_M} {v : Int64} {s m : Nat} (hM : lw_S w M) : lw_S w (fd_r M v s m).2 := by
  unfold fd_r
  split
  · exact tp_S hM m
  · exact hM
theorem H_append2 {L : Nat} {xs : Nat → Int32} {dep : Nat} {w : Bool} {M : im_M} {m s : Nat} {v : Int64} (hm : m ≤ 8) (hs : s ≤ 4096) (hM : lw_S w M) (hsz : im_i M 1 1 = nI s) : ia (tb_G L xs) dep J_HTape_append (fun r M1 => r = some (.int (fd_r M v s m).1) ∧ M1 = (fd_r M v s m).2) (0, lv_args 0 [.ref 1, .int (nI m), .long v], [], M) := by
  refine ia_imp (H_append hm hs hM hsz) (fun r M1 h => ?_)
  unfold fd_r
  by_cases h9 : s + m ≤ 4096
  · rw [if_pos h9] at h ⊢
    cases h
    exact ⟨rfl, rfl⟩
  · rw [if_neg h9] at h ⊢
    cases h
    exact ⟨rfl, rfl⟩
theorem J_H_feed_d0 : decode J_H_feed.2.1 0 = .ok (.iload_n 1, 1) := by decide +kernel
theorem J_H_feed_d1 : decode J_H_feed.2.1 1 = .ok (.iconst 1, 1) := by decide +kernel
theorem J_H_feed_d2 : decode J_H_feed.2.1 2 = .ok (.if_icmp .lt 9, 3) := by decide +kernel
theorem J_H_feed_d5 : decode J_H_feed.2.1 5 = .ok (.iload_n 1, 1) := by decide +kernel
theorem J_H_feed_d6 : decode J_H_feed.2.1 6 = .ok (.bipush 8, 2) := by decide +kernel
theorem J_H_feed_d8 : decode J_H_feed.2.1 8 = .ok (.if_icmp .le 11, 3) := by decide +kernel
theorem J_H_feed_d19 : decode J_H_feed.2.1 19 = .ok (.aload_n 0, 1) := by decide +kernel
theorem J_H_feed_d20 : decode J_H_feed.2.1 20 = .ok (.getfield 10, 3) := by decide +kernel
theorem J_H_feed_d23 : decode J_H_feed.2.1 23 = .ok (.iload_n 1, 1) := by decide +kernel
theorem J_H_feed_d24 : decode J_H_feed.2.1 24 = .ok (.lload_n 2, 1) := by decide +kernel
theorem J_H_feed_d25 : decode J_H_feed.2.1 25 = .ok (.invokevirtual 87, 3) := by decide +kernel
theorem J_H_feed_d28 : decode J_H_feed.2.1 28 = .ok (.ireturn, 1) := by decide +kernel
theorem J_H_feed_d11 : decode J_H_feed.2.1 11 = .ok (.new 84, 3) := by decide +kernel
theorem J_H_feed_d14 : decode J_H_feed.2.1 14 = .ok (.dup, 1) := by decide +kernel
theorem J_H_feed_d15 : decode J_H_feed.2.1 15 = .ok (.invokespecial 86, 3) := by decide +kernel
theorem J_H_feed_d18 : decode J_H_feed.2.1 18 = .ok (.athrow, 1) := by decide +kernel
theorem H_feed {L : Nat} {xs : Nat → Int32} {dep : Nat} {w : Bool} {M : im_M} {m s : Nat} {v : Int64} (hm1 : 1 ≤ m) (hm : m ≤ 8) (hs : s ≤ 4096) (hM : lw_S w M) (hsz : im_i M 1 1 = nI s) : ia (tb_G L xs) (dep + 1) J_H_feed (fun r M1 => r = some (.int (fd_r M v s m).1) ∧ M1 = (fd_r M v s m).2) (0, lv_args 0 [.ref 0, .int (nI m), .long v], [], M) := by
  have hS : im_St (tb_G L xs) (dep + 1) J_H_feed (ia (tb_G L xs) (dep + 1) J_H_feed (fun r M1 => r = some (.int (fd_r M v s m).1) ∧ M1 = (fd_r M v s m).2)) := ia_St
  have l0 : im_lk (lv_args 0 [.ref 0, .int (nI m), .long v]) 0 = some (.ref 0) := rfl
  have l1 : im_lk (lv_args 0 [.ref 0, .int (nI m), .long v]) 1 = some (.int (nI m)) := rfl
  have l2 : im_lk (lv_args 0 [.ref 0, .int (nI m), .long v]) 2 = some (.long v) := rfl
  refine iq_iload_n hS 1 J_H_feed_d0 l1 rfl ?_
  refine iq_iconst hS 2 J_H_feed_d1 (v := 1) (by decide +kernel) rfl ?_
  refine iq_icmp_lt hS 5 J_H_feed_d2 (t := 11) rfl (fun q2 => absurd q2 (nI_nlt hm1 (by omega))) rfl (fun q2 => ?_)
  refine iq_iload_n hS 6 J_H_feed_d5 l1 rfl ?_
  refine iq_bipush hS 8 J_H_feed_d6 (v := 8) (by decide +kernel) rfl ?_
  refine iq_icmp_le hS 11 J_H_feed_d8 (t := 19) rfl (fun q8 => ?_) rfl (fun q8 => absurd (nI_le hm (by decide)) q8)
  refine iq_aload_n hS 20 J_H_feed_d19 l0 rfl ?_
  refine iq_getR hS 23 J_H_feed_d20 lf_11_10 (Or.inl ⟨_, rfl⟩) (ka_0 hM) (ra_0_0 hM) rfl ?_
  refine iq_iload_n hS 24 J_H_feed_d23 l1 rfl ?_
  refine iq_lload_n hS 25 J_H_feed_d24 l2 rfl ?_
  refine iq_call hS 28 J_H_feed_d25 rfl (pr_inst (vs := [_, _]) lc_11_87 lT_96 rfl rfl (by decide) (by decide) rfl (Nat.le_of_ble_eq_true rfl) (Nat.le_of_ble_eq_true rfl) (fun _ => Or.inl (pr_b (ka_1 hM) (by decide) rfl))) (H_append2 hm hs hM hsz) rfl ?_
  rintro v M1 ⟨rfl, rfl⟩
  exact iq_iret J_H_feed_d28 rfl rfl ⟨rfl, rfl⟩
theorem H_feed_no {L : Nat} {xs : Nat → Int32} {dep : Nat} {M : im_M} {n : Int32} {v : Int64} (hn : ¬ (1 ≤ n ∧ n ≤ 8)) : it (tb_G L xs) tb_X (dep + 5) J_H_feed (fun E M1 => E = 0 ∧ M1 = im_noX M) (0, lv_args 0 [.ref 0, .int n, .long v], [], M) := by
  have hS : im_St (tb_G L xs) (dep + 5) J_H_feed (it (tb_G L xs) tb_X (dep + 5) J_H_feed (fun E M1 => E = 0 ∧ M1 = im_noX M)) := it_St
  have l0 : im_lk (lv_args 0 [.ref 0, .int n, .long v]) 0 = some (.ref 0) := rfl
  have l1 : im_lk (lv_args 0 [.ref 0, .int n, .long v]) 1 = some (.int n) := rfl
  have l2 : im_lk (lv_args 0 [.ref 0, .int n, .long v]) 2 = some (.long v) := rfl
  refine iq_iload_n hS 1 J_H_feed_d0 l1 rfl ?_
  refine iq_iconst hS 2 J_H_feed_d1 (v := 1) (by decide +kernel) rfl ?_
  refine iq_icmp_lt hS 5 J_H_feed_d2 (t := 11) rfl (fun q2 => ?_) rfl (fun q2 => ?_)
  · exact it_now J_H_feed_d11 gx_84 J_H_feed_d14 J_H_feed_d15 J_H_feed_d18 (Nat.le_of_ble_eq_true rfl) (by omega) ⟨rfl, rfl⟩
  · refine iq_iload_n hS 6 J_H_feed_d5 l1 rfl ?_
    refine iq_bipush hS 8 J_H_feed_d6 (v := 8) (by decide +kernel) rfl ?_
    refine iq_icmp_le hS 11 J_H_feed_d8 (t := 19) rfl (fun q8 => absurd ⟨Int32.not_lt.mp q2, q8⟩ hn) rfl (fun q8 => ?_)
    exact it_now J_H_feed_d11 gx_84 J_H_feed_d14 J_H_feed_d15 J_H_feed_d18 (Nat.le_of_ble_eq_true rfl) (by omega) ⟨rfl, rfl⟩
