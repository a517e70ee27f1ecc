/-! METHODS AS FUNCTIONS -/
noncomputable def f_HBars_leastSymbol_L45 (v4 : Int32) (v5 : Int32) (v6 : Int32) (M8 : im_M) (x7 : Int32) : Option ((Int32) ⊕ ((Unit) ⊕ (Int32))) := if 101 < x7 then some (.inr (.inl ())) else jn0 (fun (_ : Unit) => some (.inl (x7 + 1))) fun k9 => if ((101 : Int32) - x7) = v5 then k9 () else gd (inb (((3 : Int32) * v4) + ((101 : Int32) - x7)) 198) <| if ¬ ((1 : Int32) + (im_i M8 35 (Int32.toNatClampNeg (((3 : Int32) * v4) + ((101 : Int32) - x7))))) = v6 then k9 () else some (.inr (.inr x7))
noncomputable def f_HBars_leastSymbol (p0 : Int32) (p1 : Int32) (M : im_M) : Option (Int32) := gd (inb (((3 : Int32) * p0) + p1) 198) <| bd1 (f_HBars_straight p0 p1 M) fun (x1 : Int32) => if ¬ x1 = (im_i M 35 (Int32.toNatClampNeg (((3 : Int32) * p0) + p1))) then bd1 (f_HBars_shifted p0 p1 M) fun (x2 : Int32) => if ¬ x2 = (im_i M 35 (Int32.toNatClampNeg (((3 : Int32) * p0) + p1))) then bs0 (lp (uc1 (f_HBars_leastSymbol_L45 p0 p1 (im_i M 35 (Int32.toNatClampNeg (((3 : Int32) * p0) + p1))) M)) 99) (fun (_ : Unit) => some 102) (fun t => some t) else some 98 else bd1 (f_HBars_symbolFor p0 p1 M) fun (x15 : Int32) => some x15
theorem J_HBars_leastSymbol_d0 : decode J_HBars_leastSymbol.2.1 0 = .ok (.aload_n 0, 1) := by decide +kernel
theorem J_HBars_leastSymbol_d1 : decode J_HBars_leastSymbol.2.1 1 = .ok (.getfield 23, 3) := by decide +kernel
theorem J_HBars_leastSymbol_d4 : decode J_HBars_leastSymbol.2.1 4 = .ok (.iconst 3, 1) := by decide +kernel
theorem J_HBars_leastSymbol_d5 : decode J_HBars_leastSymbol.2.1 5 = .ok (.iload_n 1, 1) := by decide +kernel
theorem J_HBars_leastSymbol_d6 : decode J_HBars_leastSymbol.2.1 6 = .ok (.imul, 1) := by decide +kernel
theorem J_HBars_leastSymbol_d7 : decode J_HBars_leastSymbol.2.1 7 = .ok (.iload_n 2, 1) := by decide +kernel
theorem J_HBars_leastSymbol_d8 : decode J_HBars_leastSymbol.2.1 8 = .ok (.iadd, 1) := by decide +kernel
theorem J_HBars_leastSymbol_d9 : decode J_HBars_leastSymbol.2.1 9 = .ok (.iaload, 1) := by decide +kernel
theorem J_HBars_leastSymbol_d10 : decode J_HBars_leastSymbol.2.1 10 = .ok (.istore_n 3, 1) := by decide +kernel
theorem J_HBars_leastSymbol_d11 : decode J_HBars_leastSymbol.2.1 11 = .ok (.aload_n 0, 1) := by decide +kernel
theorem J_HBars_leastSymbol_d12 : decode J_HBars_leastSymbol.2.1 12 = .ok (.iload_n 1, 1) := by decide +kernel
theorem J_HBars_leastSymbol_d13 : decode J_HBars_leastSymbol.2.1 13 = .ok (.iload_n 2, 1) := by decide +kernel
theorem J_HBars_leastSymbol_d14 : decode J_HBars_leastSymbol.2.1 14 = .ok (.invokevirtual 60, 3) := by decide +kernel
theorem J_HBars_leastSymbol_d17 : decode J_HBars_leastSymbol.2.1 17 = .ok (.iload_n 3, 1) := by decide +kernel
theorem J_HBars_leastSymbol_d18 : decode J_HBars_leastSymbol.2.1 18 = .ok (.if_icmp .ne 10, 3) := by decide +kernel
theorem J_HBars_leastSymbol_d21 : decode J_HBars_leastSymbol.2.1 21 = .ok (.aload_n 0, 1) := by decide +kernel
theorem J_HBars_leastSymbol_d22 : decode J_HBars_leastSymbol.2.1 22 = .ok (.iload_n 1, 1) := by decide +kernel
theorem J_HBars_leastSymbol_d23 : decode J_HBars_leastSymbol.2.1 23 = .ok (.iload_n 2, 1) := by decide +kernel
theorem J_HBars_leastSymbol_d24 : decode J_HBars_leastSymbol.2.1 24 = .ok (.invokevirtual 66, 3) := by decide +kernel
theorem J_HBars_leastSymbol_d27 : decode J_HBars_leastSymbol.2.1 27 = .ok (.ireturn, 1) := by decide +kernel
theorem J_HBars_leastSymbol_d28 : decode J_HBars_leastSymbol.2.1 28 = .ok (.aload_n 0, 1) := by decide +kernel
theorem J_HBars_leastSymbol_d29 : decode J_HBars_leastSymbol.2.1 29 = .ok (.iload_n 1, 1) := by decide +kernel
theorem J_HBars_leastSymbol_d30 : decode J_HBars_leastSymbol.2.1 30 = .ok (.iload_n 2, 1) := by decide +kernel
theorem J_HBars_leastSymbol_d31 : decode J_HBars_leastSymbol.2.1 31 = .ok (.invokevirtual 63, 3) := by decide +kernel
theorem J_HBars_leastSymbol_d34 : decode J_HBars_leastSymbol.2.1 34 = .ok (.iload_n 3, 1) := by decide +kernel
theorem J_HBars_leastSymbol_d35 : decode J_HBars_leastSymbol.2.1 35 = .ok (.if_icmp .ne 6, 3) := by decide +kernel
theorem J_HBars_leastSymbol_d38 : decode J_HBars_leastSymbol.2.1 38 = .ok (.bipush 98, 2) := by decide +kernel
theorem J_HBars_leastSymbol_d40 : decode J_HBars_leastSymbol.2.1 40 = .ok (.ireturn, 1) := by decide +kernel
theorem J_HBars_leastSymbol_d41 : decode J_HBars_leastSymbol.2.1 41 = .ok (.bipush 99, 2) := by decide +kernel
theorem J_HBars_leastSymbol_d43 : decode J_HBars_leastSymbol.2.1 43 = .ok (.istore 4, 2) := by decide +kernel
theorem J_HBars_leastSymbol_d45 : decode J_HBars_leastSymbol.2.1 45 = .ok (.iload 4, 2) := by decide +kernel
theorem J_HBars_leastSymbol_d47 : decode J_HBars_leastSymbol.2.1 47 = .ok (.bipush 101, 2) := by decide +kernel
theorem J_HBars_leastSymbol_d49 : decode J_HBars_leastSymbol.2.1 49 = .ok (.if_icmp .gt 42, 3) := by decide +kernel
theorem J_HBars_leastSymbol_d52 : decode J_HBars_leastSymbol.2.1 52 = .ok (.bipush 101, 2) := by decide +kernel
theorem J_HBars_leastSymbol_d54 : decode J_HBars_leastSymbol.2.1 54 = .ok (.iload 4, 2) := by decide +kernel
theorem J_HBars_leastSymbol_d56 : decode J_HBars_leastSymbol.2.1 56 = .ok (.isub, 1) := by decide +kernel
theorem J_HBars_leastSymbol_d57 : decode J_HBars_leastSymbol.2.1 57 = .ok (.istore 5, 2) := by decide +kernel
theorem J_HBars_leastSymbol_d59 : decode J_HBars_leastSymbol.2.1 59 = .ok (.iload 5, 2) := by decide +kernel
theorem J_HBars_leastSymbol_d61 : decode J_HBars_leastSymbol.2.1 61 = .ok (.iload_n 2, 1) := by decide +kernel
theorem J_HBars_leastSymbol_d62 : decode J_HBars_leastSymbol.2.1 62 = .ok (.if_icmp .eq 23, 3) := by decide +kernel
theorem J_HBars_leastSymbol_d65 : decode J_HBars_leastSymbol.2.1 65 = .ok (.iconst 1, 1) := by decide +kernel
theorem J_HBars_leastSymbol_d66 : decode J_HBars_leastSymbol.2.1 66 = .ok (.aload_n 0, 1) := by decide +kernel
theorem J_HBars_leastSymbol_d67 : decode J_HBars_leastSymbol.2.1 67 = .ok (.getfield 23, 3) := by decide +kernel
theorem J_HBars_leastSymbol_d70 : decode J_HBars_leastSymbol.2.1 70 = .ok (.iconst 3, 1) := by decide +kernel
theorem J_HBars_leastSymbol_d71 : decode J_HBars_leastSymbol.2.1 71 = .ok (.iload_n 1, 1) := by decide +kernel
theorem J_HBars_leastSymbol_d72 : decode J_HBars_leastSymbol.2.1 72 = .ok (.imul, 1) := by decide +kernel
theorem J_HBars_leastSymbol_d73 : decode J_HBars_leastSymbol.2.1 73 = .ok (.iload 5, 2) := by decide +kernel
theorem J_HBars_leastSymbol_d75 : decode J_HBars_leastSymbol.2.1 75 = .ok (.iadd, 1) := by decide +kernel
theorem J_HBars_leastSymbol_d76 : decode J_HBars_leastSymbol.2.1 76 = .ok (.iaload, 1) := by decide +kernel
theorem J_HBars_leastSymbol_d77 : decode J_HBars_leastSymbol.2.1 77 = .ok (.iadd, 1) := by decide +kernel
theorem J_HBars_leastSymbol_d78 : decode J_HBars_leastSymbol.2.1 78 = .ok (.iload_n 3, 1) := by decide +kernel
theorem J_HBars_leastSymbol_d79 : decode J_HBars_leastSymbol.2.1 79 = .ok (.if_icmp .ne 6, 3) := by decide +kernel
theorem J_HBars_leastSymbol_d82 : decode J_HBars_leastSymbol.2.1 82 = .ok (.iload 4, 2) := by decide +kernel
theorem J_HBars_leastSymbol_d84 : decode J_HBars_leastSymbol.2.1 84 = .ok (.ireturn, 1) := by decide +kernel
theorem J_HBars_leastSymbol_d85 : decode J_HBars_leastSymbol.2.1 85 = .ok (.iinc 4 1, 3) := by decide +kernel
theorem J_HBars_leastSymbol_d88 : decode J_HBars_leastSymbol.2.1 88 = .ok (.goto (-43), 3) := by decide +kernel
theorem J_HBars_leastSymbol_d91 : decode J_HBars_leastSymbol.2.1 91 = .ok (.bipush 102, 2) := by decide +kernel
theorem J_HBars_leastSymbol_d93 : decode J_HBars_leastSymbol.2.1 93 = .ok (.ireturn, 1) := by decide +kernel
theorem f_HBars_leastSymbol_ok {L : Nat} {xs : Nat → Int32} {dep : Nat} {w : Bool} {p0 : Int32} {p1 : Int32} {M : im_M} {Q : Int32 → Prop} (hM : lw_S w M) (h : ed (f_HBars_leastSymbol p0 p1 M) Q) : ia (tb_G L xs) (dep + 2) J_HBars_leastSymbol (rpI M Q) (0, lv_args 0 [.ref 31, .int p0, .int p1], [], M) := by
  have hS : im_St (tb_G L xs) (dep + 2) J_HBars_leastSymbol (ia (tb_G L xs) (dep + 2) J_HBars_leastSymbol (rpI M Q)) := ia_St
  unfold f_HBars_leastSymbol at h
  have l0 : im_lk (lv_args 0 [.ref 31, .int p0, .int p1]) 0 = some (.ref 31) := rfl
  have l1 : im_lk (lv_args 0 [.ref 31, .int p0, .int p1]) 1 = some (.int p0) := rfl
  have l2 : im_lk (lv_args 0 [.ref 31, .int p0, .int p1]) 2 = some (.int p1) := rfl
  refine iq_aload_n hS 1 J_HBars_leastSymbol_d0 l0 rfl ?_
  refine iq_getR hS 4 J_HBars_leastSymbol_d1 lf_0_23 (Or.inr ⟨_, rfl⟩) (ka_31 hM) (ra_31_7 hM) rfl ?_
  refine iq_iconst hS 5 J_HBars_leastSymbol_d4 (v := 3) (by decide +kernel) rfl ?_
  refine iq_iload_n hS 6 J_HBars_leastSymbol_d5 l1 rfl ?_
  refine iq_imul hS 7 J_HBars_leastSymbol_d6 rfl ?_
  refine iq_iload_n hS 8 J_HBars_leastSymbol_d7 l2 rfl ?_
  refine iq_iadd hS 9 J_HBars_leastSymbol_d8 rfl ?_
  obtain ⟨g9, h⟩ := ed_gd h
  refine iq_iaload hS 10 J_HBars_leastSymbol_d9 ⟨(ka_35 hM).1, (ka_35 hM).2, g9.1, ix_lt (kl_35 hM) g9.2⟩ rfl ?_
  refine iq_istore_n hS 11 J_HBars_leastSymbol_d10 (by decide) rfl ?_
  refine iq_aload_n hS 12 J_HBars_leastSymbol_d11 (lk_1r l0 (by decide)) rfl ?_
  refine iq_iload_n hS 13 J_HBars_leastSymbol_d12 (lk_1i l1 (by decide)) rfl ?_
  refine iq_iload_n hS 14 J_HBars_leastSymbol_d13 (lk_1i l2 (by decide)) rfl ?_
  obtain ⟨Q1, hQ1, h⟩ := bd1_ed h
  refine iq_cpI hS 17 J_HBars_leastSymbol_d14 rfl (pr_inst (vs := [_, _]) lc_0_60 lT_118 rfl rfl (by decide) (by decide) rfl (Nat.le_of_ble_eq_true rfl) (Nat.le_of_ble_eq_true rfl) (fun _ => Or.inl (pr_b (ka_31 hM) (by decide) rfl))) (f_HBars_straight_ok (dep := dep + 0) hM h) rfl ?_
  intro x1 h
  replace h := hQ1 _ h
  refine iq_iload_n hS 18 J_HBars_leastSymbol_d17 lk_1s rfl ?_
  refine iq_icmp_ne hS 21 J_HBars_leastSymbol_d18 (t := 28) rfl (fun q18 => ?_) rfl (fun q18 => ?_)
  · replace h := ed_pos q18 h
    refine iq_aload_n hS 29 J_HBars_leastSymbol_d28 (lk_1r l0 (by decide)) rfl ?_
    refine iq_iload_n hS 30 J_HBars_leastSymbol_d29 (lk_1i l1 (by decide)) rfl ?_
    refine iq_iload_n hS 31 J_HBars_leastSymbol_d30 (lk_1i l2 (by decide)) rfl ?_
    obtain ⟨Q2, hQ2, h⟩ := bd1_ed h
    refine iq_cpI hS 34 J_HBars_leastSymbol_d31 rfl (pr_inst (vs := [_, _]) lc_0_63 lT_121 rfl rfl (by decide) (by decide) rfl (Nat.le_of_ble_eq_true rfl) (Nat.le_of_ble_eq_true rfl) (fun _ => Or.inl (pr_b (ka_31 hM) (by decide) rfl))) (f_HBars_shifted_ok (dep := dep + 0) hM h) rfl ?_
    intro x2 h
    replace h := hQ2 _ h
    refine iq_iload_n hS 35 J_HBars_leastSymbol_d34 lk_1s rfl ?_
    refine iq_icmp_ne hS 38 J_HBars_leastSymbol_d35 (t := 41) rfl (fun q35 => ?_) rfl (fun q35 => ?_)
    · replace h := ed_pos q35 h
      refine iq_bipush hS 43 J_HBars_leastSymbol_d41 (v := 99) (by decide +kernel) rfl ?_
      refine iq_istore hS 45 J_HBars_leastSymbol_d43 (by decide) rfl ?_
      obtain ⟨Q3, hQ3, hR3, h⟩ := bs0_ed h
      have K3 : ∀  (L' : List (Nat × Value)), Q3 (.inl ()) → ia (tb_G L xs) (dep + 2) J_HBars_leastSymbol (rpI M Q) (91, L', [], M) := by
        intro  L'  h
        replace h := hQ3  h
        refine iq_bipush hS 93 J_HBars_leastSymbol_d91 (v := 102) (by decide +kernel) rfl ?_
        exact iq_iret J_HBars_leastSymbol_d93 rfl rfl ⟨_, rfl, rfl, ed_some h⟩
      obtain ⟨r3, hr3, hq3⟩ := h
      obtain ⟨n3, hn3⟩ := lp_n hr3
      have I3 : ∀ (n : Nat) (x4 : Int32) (L' : List (Nat × Value)), im_lk L' 0 = some (.ref 31) → im_lk L' 1 = some (.int p0) → im_lk L' 2 = some (.int p1) → im_lk L' 3 = some (.int (im_i M 35 (Int32.toNatClampNeg (((3 : Int32) * p0) + p1)))) → im_lk L' 4 = some (.int x4) → lpn (uc1 (f_HBars_leastSymbol_L45 p0 p1 (im_i M 35 (Int32.toNatClampNeg (((3 : Int32) * p0) + p1))) M)) n x4 = some r3 → ia (tb_G L xs) (dep + 2) J_HBars_leastSymbol (rpI M Q) (45, L', [], M) := by
        intro n
        induction n with
        | zero => intro x4 L' l5 l6 l7 l8 l9 hn; exact (lpn_0 hn).elim
        | succ n ih =>
          intro x4 L' l5 l6 l7 l8 l9 hn
          have h := lpn_ed1 hn
          unfold f_HBars_leastSymbol_L45 at h
          refine iq_iload hS 47 J_HBars_leastSymbol_d45 l9 rfl ?_
          refine iq_bipush hS 49 J_HBars_leastSymbol_d47 (v := 101) (by decide +kernel) rfl ?_
          refine iq_icmp_gt hS 52 J_HBars_leastSymbol_d49 (t := 91) rfl (fun q49 => ?_) rfl (fun q49 => ?_)
          · replace h := ed_pos q49 h
            exact K3  _  (lq_r h hq3)
          · replace h := ed_neg q49 h
            refine iq_bipush hS 54 J_HBars_leastSymbol_d52 (v := 101) (by decide +kernel) rfl ?_
            refine iq_iload hS 56 J_HBars_leastSymbol_d54 l9 rfl ?_
            refine iq_isub hS 57 J_HBars_leastSymbol_d56 rfl ?_
            refine iq_istore hS 59 J_HBars_leastSymbol_d57 (by decide) rfl ?_
            refine iq_iload hS 61 J_HBars_leastSymbol_d59 lk_1s rfl ?_
            refine iq_iload_n hS 62 J_HBars_leastSymbol_d61 (lk_1i l7 (by decide)) rfl ?_
            obtain ⟨k10, Q10, hQ10, hk10, h⟩ := jn0_ed h
            have J10 : ∀  (L' : List (Nat × Value)), im_lk L' 0 = some (.ref 31) → im_lk L' 1 = some (.int p0) → im_lk L' 2 = some (.int p1) → im_lk L' 3 = some (.int (im_i M 35 (Int32.toNatClampNeg (((3 : Int32) * p0) + p1)))) → im_lk L' 4 = some (.int x4) → Q10 () → ia (tb_G L xs) (dep + 2) J_HBars_leastSymbol (rpI M Q) (85, L', [], M) := by
              intro  L' l11 l12 l13 l14 l15 h
              replace h := hQ10  h
              refine iq_iincv hS 88 J_HBars_leastSymbol_d85 (c := 1) (by decide +kernel) l15 (by decide) rfl ?_
              refine iq_goto hS J_HBars_leastSymbol_d88 (t := 45) rfl ?_
              exact ih _ _ (lk_1r l11 (by decide)) (lk_1i l12 (by decide)) (lk_1i l13 (by decide)) (lk_1i l14 (by decide)) lk_1s (lq_l h)
            refine iq_icmp_eq hS 65 J_HBars_leastSymbol_d62 (t := 85) rfl (fun q62 => ?_) rfl (fun q62 => ?_)
            · replace h := ed_pos q62 h
              exact J10  _ (lk_1r l5 (by decide)) (lk_1i l6 (by decide)) (lk_1i l7 (by decide)) (lk_1i l8 (by decide)) (lk_1i l9 (by decide)) (hk10  h)
            · replace h := ed_neg q62 h
              refine iq_iconst hS 66 J_HBars_leastSymbol_d65 (v := 1) (by decide +kernel) rfl ?_
              refine iq_aload_n hS 67 J_HBars_leastSymbol_d66 (lk_1r l5 (by decide)) rfl ?_
              refine iq_getR hS 70 J_HBars_leastSymbol_d67 lf_0_23 (Or.inr ⟨_, rfl⟩) (ka_31 hM) (ra_31_7 hM) rfl ?_
              refine iq_iconst hS 71 J_HBars_leastSymbol_d70 (v := 3) (by decide +kernel) rfl ?_
              refine iq_iload_n hS 72 J_HBars_leastSymbol_d71 (lk_1i l6 (by decide)) rfl ?_
              refine iq_imul hS 73 J_HBars_leastSymbol_d72 rfl ?_
              refine iq_iload hS 75 J_HBars_leastSymbol_d73 lk_1s rfl ?_
              refine iq_iadd hS 76 J_HBars_leastSymbol_d75 rfl ?_
              obtain ⟨g76, h⟩ := ed_gd h
              refine iq_iaload hS 77 J_HBars_leastSymbol_d76 ⟨(ka_35 hM).1, (ka_35 hM).2, g76.1, ix_lt (kl_35 hM) g76.2⟩ rfl ?_
              refine iq_iadd hS 78 J_HBars_leastSymbol_d77 rfl ?_
              refine iq_iload_n hS 79 J_HBars_leastSymbol_d78 (lk_1i l8 (by decide)) rfl ?_
              refine iq_icmp_ne hS 82 J_HBars_leastSymbol_d79 (t := 85) rfl (fun q79 => ?_) rfl (fun q79 => ?_)
              · replace h := ed_pos q79 h
                exact J10  _ (lk_1r l5 (by decide)) (lk_1i l6 (by decide)) (lk_1i l7 (by decide)) (lk_1i l8 (by decide)) (lk_1i l9 (by decide)) (hk10  h)
              · replace h := ed_neg q79 h
                refine iq_iload hS 84 J_HBars_leastSymbol_d82 (lk_1i l9 (by decide)) rfl ?_
                exact iq_iret J_HBars_leastSymbol_d84 rfl rfl ⟨_, rfl, rfl, ed_some (hR3 _ (lq_r h hq3))⟩
      exact I3 n3 _ _ (lk_1r (lk_1r l0 (by decide)) (by decide)) (lk_1i (lk_1i l1 (by decide)) (by decide)) (lk_1i (lk_1i l2 (by decide)) (by decide)) (lk_1i lk_1s (by decide)) lk_1s hn3
    · replace h := ed_neg q35 h
      refine iq_bipush hS 40 J_HBars_leastSymbol_d38 (v := 98) (by decide +kernel) rfl ?_
      exact iq_iret J_HBars_leastSymbol_d40 rfl rfl ⟨_, rfl, rfl, ed_some h⟩
  · replace h := ed_neg q18 h
    refine iq_aload_n hS 22 J_HBars_leastSymbol_d21 (lk_1r l0 (by decide)) rfl ?_
    refine iq_iload_n hS 23 J_HBars_leastSymbol_d22 (lk_1i l1 (by decide)) rfl ?_
    refine iq_iload_n hS 24 J_HBars_leastSymbol_d23 (lk_1i l2 (by decide)) rfl ?_
    obtain ⟨Q16, hQ16, h⟩ := bd1_ed h
    refine iq_cpI hS 27 J_HBars_leastSymbol_d24 rfl (pr_inst (vs := [_, _]) lc_0_66 lT_119 rfl rfl (by decide) (by decide) rfl (Nat.le_of_ble_eq_true rfl) (Nat.le_of_ble_eq_true rfl) (fun _ => Or.inl (pr_b (ka_31 hM) (by decide) rfl))) (f_HBars_symbolFor_ok (dep := dep + 1) hM h) rfl ?_
    intro x16 h
    replace h := hQ16 _ h
    exact iq_iret J_HBars_leastSymbol_d27 rfl rfl ⟨_, rfl, rfl, ed_some h⟩
noncomputable def f_HBars_addSymbol (p0 : Int32) (M : im_M) : Option (im_M) := if 140 ≤ (im_i M 31 9) then some M else gd (inb (im_i M 31 9) 140) <| some (im_setI (im_setI M 36 (Int32.toNatClampNeg (im_i M 31 9)) p0) 31 9 ((im_i (im_setI M 36 (Int32.toNatClampNeg (im_i M 31 9)) p0) 31 9) + 1))
theorem J_HBars_addSymbol_d0 : decode J_HBars_addSymbol.2.1 0 = .ok (.aload_n 0, 1) := by decide +kernel
theorem J_HBars_addSymbol_d1 : decode J_HBars_addSymbol.2.1 1 = .ok (.getfield 73, 3) := by decide +kernel
theorem J_HBars_addSymbol_d4 : decode J_HBars_addSymbol.2.1 4 = .ok (.aload_n 0, 1) := by decide +kernel
theorem J_HBars_addSymbol_d5 : decode J_HBars_addSymbol.2.1 5 = .ok (.getfield 26, 3) := by decide +kernel
theorem J_HBars_addSymbol_d8 : decode J_HBars_addSymbol.2.1 8 = .ok (.arraylength, 1) := by decide +kernel
theorem J_HBars_addSymbol_d9 : decode J_HBars_addSymbol.2.1 9 = .ok (.if_icmp .ge 23, 3) := by decide +kernel
theorem J_HBars_addSymbol_d12 : decode J_HBars_addSymbol.2.1 12 = .ok (.aload_n 0, 1) := by decide +kernel
theorem J_HBars_addSymbol_d13 : decode J_HBars_addSymbol.2.1 13 = .ok (.getfield 26, 3) := by decide +kernel
theorem J_HBars_addSymbol_d16 : decode J_HBars_addSymbol.2.1 16 = .ok (.aload_n 0, 1) := by decide +kernel
theorem J_HBars_addSymbol_d17 : decode J_HBars_addSymbol.2.1 17 = .ok (.getfield 73, 3) := by decide +kernel
theorem J_HBars_addSymbol_d20 : decode J_HBars_addSymbol.2.1 20 = .ok (.iload_n 1, 1) := by decide +kernel
theorem J_HBars_addSymbol_d21 : decode J_HBars_addSymbol.2.1 21 = .ok (.iastore, 1) := by decide +kernel
theorem J_HBars_addSymbol_d22 : decode J_HBars_addSymbol.2.1 22 = .ok (.aload_n 0, 1) := by decide +kernel
theorem J_HBars_addSymbol_d23 : decode J_HBars_addSymbol.2.1 23 = .ok (.dup, 1) := by decide +kernel
theorem J_HBars_addSymbol_d24 : decode J_HBars_addSymbol.2.1 24 = .ok (.getfield 73, 3) := by decide +kernel
theorem J_HBars_addSymbol_d27 : decode J_HBars_addSymbol.2.1 27 = .ok (.iconst 1, 1) := by decide +kernel
theorem J_HBars_addSymbol_d28 : decode J_HBars_addSymbol.2.1 28 = .ok (.iadd, 1) := by decide +kernel
theorem J_HBars_addSymbol_d29 : decode J_HBars_addSymbol.2.1 29 = .ok (.putfield 73, 3) := by decide +kernel
theorem J_HBars_addSymbol_d32 : decode J_HBars_addSymbol.2.1 32 = .ok (.return_, 1) := by decide +kernel
theorem f_HBars_addSymbol_ok {L : Nat} {xs : Nat → Int32} {dep : Nat} {w : Bool} {p0 : Int32} {M : im_M} {Q : im_M → Prop} (hM : lw_S w M) (h : ed (f_HBars_addSymbol p0 M) Q) : ia (tb_G L xs) dep J_HBars_addSymbol (rwV w Q) (0, lv_args 0 [.ref 31, .int p0], [], M) := by
  have hS : im_St (tb_G L xs) dep J_HBars_addSymbol (ia (tb_G L xs) dep J_HBars_addSymbol (rwV w Q)) := ia_St
  unfold f_HBars_addSymbol at h
  have l0 : im_lk (lv_args 0 [.ref 31, .int p0]) 0 = some (.ref 31) := rfl
  have l1 : im_lk (lv_args 0 [.ref 31, .int p0]) 1 = some (.int p0) := rfl
  refine iq_aload_n hS 1 J_HBars_addSymbol_d0 l0 rfl ?_
  refine iq_getI hS 4 J_HBars_addSymbol_d1 lf_0_73 (Or.inl rfl) (ka_31 hM) rfl ?_
  refine iq_aload_n hS 5 J_HBars_addSymbol_d4 l0 rfl ?_
  refine iq_getR hS 8 J_HBars_addSymbol_d5 lf_0_26 (Or.inr ⟨_, rfl⟩) (ka_31 hM) (ra_31_8 hM) rfl ?_
  refine iq_alenv hS 9 J_HBars_addSymbol_d8 (v := 140) (ka_36 hM) (by decide) (by decide) (kl_36 hM) (by decide +kernel) rfl ?_
  refine iq_icmp_ge hS 12 J_HBars_addSymbol_d9 (t := 32) rfl (fun q9 => ?_) rfl (fun q9 => ?_)
  · replace h := ed_pos q9 h
    exact iq_ret J_HBars_addSymbol_d32 rfl ⟨rfl, hM, ed_some h⟩
  · replace h := ed_neg q9 h
    refine iq_aload_n hS 13 J_HBars_addSymbol_d12 l0 rfl ?_
    refine iq_getR hS 16 J_HBars_addSymbol_d13 lf_0_26 (Or.inr ⟨_, rfl⟩) (ka_31 hM) (ra_31_8 hM) rfl ?_
    refine iq_aload_n hS 17 J_HBars_addSymbol_d16 l0 rfl ?_
    refine iq_getI hS 20 J_HBars_addSymbol_d17 lf_0_73 (Or.inl rfl) (ka_31 hM) rfl ?_
    refine iq_iload_n hS 21 J_HBars_addSymbol_d20 l1 rfl ?_
    obtain ⟨g21, h⟩ := ed_gd h
    refine iq_iastore hS 22 J_HBars_addSymbol_d21 ⟨(ka_36 hM).1, (ka_36 hM).2, g21.1, ix_lt (kl_36 hM) g21.2⟩ rfl ?_
    refine iq_aload_n hS 23 J_HBars_addSymbol_d22 l0 rfl ?_
    refine iq_dup hS 24 J_HBars_addSymbol_d23 rfl rfl ?_
    refine iq_getI hS 27 J_HBars_addSymbol_d24 lf_0_73 (Or.inl rfl) (ka_31 (lw_sI hM)) rfl ?_
    refine iq_iconst hS 28 J_HBars_addSymbol_d27 (v := 1) (by decide +kernel) rfl ?_
    refine iq_iadd hS 29 J_HBars_addSymbol_d28 rfl ?_
    refine iq_putI hS 32 J_HBars_addSymbol_d29 lf_0_73 (Or.inl rfl) rfl (ka_31 (lw_sI hM)) rfl ?_
    exact iq_ret J_HBars_addSymbol_d32 rfl ⟨rfl, (lw_sI (lw_sI hM)), ed_some h⟩
theorem f_HBars_addSymbol_fr {p0 : Int32} {M : im_M} {r : im_M} (h : f_HBars_addSymbol p0 M = some r) : fr 68719476736 [(31, 9)] M r := by
  replace h : ed (f_HBars_addSymbol p0 M) (fun x => x = r) := ⟨r, h, rfl⟩
  unfold f_HBars_addSymbol at h
  by_cases q9 : 140 ≤ (im_i M 31 9)
  · replace h := ed_pos q9 h
    exact fr_retV h fr_refl
  · replace h := ed_neg q9 h
    obtain ⟨g21, h⟩ := ed_gd h
    exact fr_retV h (fr_F (by decide) (fr_I (by decide) fr_refl))
noncomputable def f_HBars_checkSymbol_L9 (v2 : Int32) (M5 : im_M) (x3 : Int32) (x4 : Int32) : Option ((Int32 × Int32) ⊕ (Int32)) := if v2 ≤ x4 then some (.inr x3) else gd (inb x4 140) <| some (.inl ((x3 + (x4 * (im_i M5 36 (Int32.toNatClampNeg x4)))), (x4 + 1)))
noncomputable def f_HBars_checkSymbol (p0 : Int32) (M : im_M) : Option (Int32) := gd (inb 0 140) <| bd1 (lp (uc2 (f_HBars_checkSymbol_L9 p0 M)) ((im_i M 36 (Int32.toNatClampNeg 0)), 1)) fun (y6 : Int32) => some (y6 - y6 / 103 * 103)
theorem J_HBars_checkSymbol_d0 : decode J_HBars_checkSymbol.2.1 0 = .ok (.aload_n 0, 1) := by decide +kernel
theorem J_HBars_checkSymbol_d1 : decode J_HBars_checkSymbol.2.1 1 = .ok (.getfield 26, 3) := by decide +kernel
theorem J_HBars_checkSymbol_d4 : decode J_HBars_checkSymbol.2.1 4 = .ok (.iconst 0, 1) := by decide +kernel
theorem J_HBars_checkSymbol_d5 : decode J_HBars_checkSymbol.2.1 5 = .ok (.iaload, 1) := by decide +kernel
theorem J_HBars_checkSymbol_d6 : decode J_HBars_checkSymbol.2.1 6 = .ok (.istore_n 2, 1) := by decide +kernel
theorem J_HBars_checkSymbol_d7 : decode J_HBars_checkSymbol.2.1 7 = .ok (.iconst 1, 1) := by decide +kernel
theorem J_HBars_checkSymbol_d8 : decode J_HBars_checkSymbol.2.1 8 = .ok (.istore_n 3, 1) := by decide +kernel
theorem J_HBars_checkSymbol_d9 : decode J_HBars_checkSymbol.2.1 9 = .ok (.iload_n 3, 1) := by decide +kernel
theorem J_HBars_checkSymbol_d10 : decode J_HBars_checkSymbol.2.1 10 = .ok (.iload_n 1, 1) := by decide +kernel
theorem J_HBars_checkSymbol_d11 : decode J_HBars_checkSymbol.2.1 11 = .ok (.if_icmp .ge 20, 3) := by decide +kernel
theorem J_HBars_checkSymbol_d14 : decode J_HBars_checkSymbol.2.1 14 = .ok (.iload_n 2, 1) := by decide +kernel
theorem J_HBars_checkSymbol_d15 : decode J_HBars_checkSymbol.2.1 15 = .ok (.iload_n 3, 1) := by decide +kernel
theorem J_HBars_checkSymbol_d16 : decode J_HBars_checkSymbol.2.1 16 = .ok (.aload_n 0, 1) := by decide +kernel
theorem J_HBars_checkSymbol_d17 : decode J_HBars_checkSymbol.2.1 17 = .ok (.getfield 26, 3) := by decide +kernel
theorem J_HBars_checkSymbol_d20 : decode J_HBars_checkSymbol.2.1 20 = .ok (.iload_n 3, 1) := by decide +kernel
theorem J_HBars_checkSymbol_d21 : decode J_HBars_checkSymbol.2.1 21 = .ok (.iaload, 1) := by decide +kernel
theorem J_HBars_checkSymbol_d22 : decode J_HBars_checkSymbol.2.1 22 = .ok (.imul, 1) := by decide +kernel
theorem J_HBars_checkSymbol_d23 : decode J_HBars_checkSymbol.2.1 23 = .ok (.iadd, 1) := by decide +kernel
theorem J_HBars_checkSymbol_d24 : decode J_HBars_checkSymbol.2.1 24 = .ok (.istore_n 2, 1) := by decide +kernel
theorem J_HBars_checkSymbol_d25 : decode J_HBars_checkSymbol.2.1 25 = .ok (.iinc 3 1, 3) := by decide +kernel
theorem J_HBars_checkSymbol_d28 : decode J_HBars_checkSymbol.2.1 28 = .ok (.goto (-19), 3) := by decide +kernel
theorem J_HBars_checkSymbol_d31 : decode J_HBars_checkSymbol.2.1 31 = .ok (.iload_n 2, 1) := by decide +kernel
theorem J_HBars_checkSymbol_d32 : decode J_HBars_checkSymbol.2.1 32 = .ok (.bipush 103, 2) := by decide +kernel
theorem J_HBars_checkSymbol_d34 : decode J_HBars_checkSymbol.2.1 34 = .ok (.irem, 1) := by decide +kernel
theorem J_HBars_checkSymbol_d35 : decode J_HBars_checkSymbol.2.1 35 = .ok (.ireturn, 1) := by decide +kernel
theorem f_HBars_checkSymbol_ok {L : Nat} {xs : Nat → Int32} {dep : Nat} {w : Bool} {p0 : Int32} {M : im_M} {Q : Int32 → Prop} (hM : lw_S w M) (h : ed (f_HBars_checkSymbol p0 M) Q) : ia (tb_G L xs) dep J_HBars_checkSymbol (rpI M Q) (0, lv_args 0 [.ref 31, .int p0], [], M) := by
  have hS : im_St (tb_G L xs) dep J_HBars_checkSymbol (ia (tb_G L xs) dep J_HBars_checkSymbol (rpI M Q)) := ia_St
  unfold f_HBars_checkSymbol at h
  have l0 : im_lk (lv_args 0 [.ref 31, .int p0]) 0 = some (.ref 31) := rfl
  have l1 : im_lk (lv_args 0 [.ref 31, .int p0]) 1 = some (.int p0) := rfl
  refine iq_aload_n hS 1 J_HBars_checkSymbol_d0 l0 rfl ?_
  refine iq_getR hS 4 J_HBars_checkSymbol_d1 lf_0_26 (Or.inr ⟨_, rfl⟩) (ka_31 hM) (ra_31_8 hM) rfl ?_
  refine iq_iconst hS 5 J_HBars_checkSymbol_d4 (v := 0) (by decide +kernel) rfl ?_
  obtain ⟨g5, h⟩ := ed_gd h
  refine iq_iaload hS 6 J_HBars_checkSymbol_d5 ⟨(ka_36 hM).1, (ka_36 hM).2, g5.1, ix_lt (kl_36 hM) g5.2⟩ rfl ?_
  refine iq_istore_n hS 7 J_HBars_checkSymbol_d6 (by decide) rfl ?_
  refine iq_iconst hS 8 J_HBars_checkSymbol_d7 (v := 1) (by decide +kernel) rfl ?_
  refine iq_istore_n hS 9 J_HBars_checkSymbol_d8 (by decide) rfl ?_
  obtain ⟨Q1, hQ1, h⟩ := bd1_ed h
  have K1 : ∀ (y2 : Int32) (L' : List (Nat × Value)), im_lk L' 2 = some (.int y2) → Q1 y2 → ia (tb_G L xs) dep J_HBars_checkSymbol (rpI M Q) (31, L', [], M) := by
    intro y2 L' l3 h
    replace h := hQ1 _ h
    refine iq_iload_n hS 32 J_HBars_checkSymbol_d31 l3 rfl ?_
    refine iq_bipush hS 34 J_HBars_checkSymbol_d32 (v := 103) (by decide +kernel) rfl ?_
    refine iq_irem hS 35 J_HBars_checkSymbol_d34 (by decide) rfl ?_
    exact iq_iret J_HBars_checkSymbol_d35 rfl rfl ⟨_, rfl, rfl, ed_some h⟩
  obtain ⟨r1, hr1, hq1⟩ := h
  obtain ⟨n1, hn1⟩ := lp_n hr1
  have I1 : ∀ (n : Nat) (x4 : Int32) (x5 : Int32) (L' : List (Nat × Value)), im_lk L' 0 = some (.ref 31) → im_lk L' 1 = some (.int p0) → im_lk L' 2 = some (.int x4) → im_lk L' 3 = some (.int x5) → lpn (uc2 (f_HBars_checkSymbol_L9 p0 M)) n (x4, x5) = some r1 → ia (tb_G L xs) dep J_HBars_checkSymbol (rpI M Q) (9, L', [], M) := by
    intro n
    induction n with
    | zero => intro x4 x5 L' l6 l7 l8 l9 hn; exact (lpn_0 hn).elim
    | succ n ih =>
      intro x4 x5 L' l6 l7 l8 l9 hn
      have h := lpn_ed2 hn
      unfold f_HBars_checkSymbol_L9 at h
      refine iq_iload_n hS 10 J_HBars_checkSymbol_d9 l9 rfl ?_
      refine iq_iload_n hS 11 J_HBars_checkSymbol_d10 l7 rfl ?_
      refine iq_icmp_ge hS 14 J_HBars_checkSymbol_d11 (t := 31) rfl (fun q11 => ?_) rfl (fun q11 => ?_)
      · replace h := ed_pos q11 h
        exact K1 _ _ l8 (lq_r h hq1)
      · replace h := ed_neg q11 h
        refine iq_iload_n hS 15 J_HBars_checkSymbol_d14 l8 rfl ?_
        refine iq_iload_n hS 16 J_HBars_checkSymbol_d15 l9 rfl ?_
        refine iq_aload_n hS 17 J_HBars_checkSymbol_d16 l6 rfl ?_
        refine iq_getR hS 20 J_HBars_checkSymbol_d17 lf_0_26 (Or.inr ⟨_, rfl⟩) (ka_31 hM) (ra_31_8 hM) rfl ?_
        refine iq_iload_n hS 21 J_HBars_checkSymbol_d20 l9 rfl ?_
        obtain ⟨g21, h⟩ := ed_gd h
        refine iq_iaload hS 22 J_HBars_checkSymbol_d21 ⟨(ka_36 hM).1, (ka_36 hM).2, g21.1, ix_lt (kl_36 hM) g21.2⟩ rfl ?_
        refine iq_imul hS 23 J_HBars_checkSymbol_d22 rfl ?_
        refine iq_iadd hS 24 J_HBars_checkSymbol_d23 rfl ?_
        refine iq_istore_n hS 25 J_HBars_checkSymbol_d24 (by decide) rfl ?_
        refine iq_iincv hS 28 J_HBars_checkSymbol_d25 (c := 1) (by decide +kernel) (lk_1i l9 (by decide)) (by decide) rfl ?_
        refine iq_goto hS J_HBars_checkSymbol_d28 (t := 9) rfl ?_
        exact ih _ _ _ (lk_1r (lk_1r l6 (by decide)) (by decide)) (lk_1i (lk_1i l7 (by decide)) (by decide)) (lk_1i lk_1s (by decide)) lk_1s (lq_l h)
  exact I1 n1 _ _ _ (lk_1r (lk_1r l0 (by decide)) (by decide)) (lk_1i (lk_1i l1 (by decide)) (by decide)) (lk_1i lk_1s (by decide)) lk_1s hn1
noncomputable def f_HBars_chooseSymbols_L4 (M4 : im_M) (x2 : Int32) (x3 : Int32) : Option ((Int32 × Int32) ⊕ (Int32)) := if 3 ≤ x3 then some (.inr x2) else gd (inb x3 198) <| gd (inb x2 198) <| some (.inl (((if (im_i M4 35 (Int32.toNatClampNeg x2)) ≤ (im_i M4 35 (Int32.toNatClampNeg x3)) then x2 else x3) : Int32), (x3 + 1)))
noncomputable def f_HBars_chooseSymbols_L51 (x8 : Int32) (x9 : Int32) (x10 : Int32) (M11 : im_M) : Option ((Int32 × Int32 × Int32 × im_M) ⊕ (im_M)) := if 128 ≤ x10 then some (.inr M11) else if (im_i M11 31 6) ≤ x9 then some (.inr M11) else bd1 (f_HBars_leastSymbol x9 x8 M11) fun (x12 : Int32) => bd1 (f_HBars_addSymbol x12 M11) fun (M13 : im_M) => bd1 (f_HBars_symbolFor x9 x8 M13) fun (x14 : Int32) => bd3 (if ¬ x12 = x14 then if ¬ x12 = 98 then if ¬ x12 = 102 then some (((101 : Int32) - x12), x9, M13) else some (x8, (x9 + 1), M13) else bd1 (f_HBars_symbolFor x9 ((1 : Int32) - x8) M13) fun (x16 : Int32) => bd1 (f_HBars_addSymbol x16 M13) fun (M17 : im_M) => some (x8, (x9 + 1), M17) else bd1 (f_HBars_signsEach x8 M13) fun (x18 : Int32) => some (x8, (x9 + x18), M13)) fun (y19 : Int32) (y20 : Int32) (M21 : im_M) => some (.inl (y19, y20, (x10 + 1), M21))
noncomputable def f_HBars_chooseSymbols (M : im_M) : Option (im_M) := bd1 (lp (uc2 (f_HBars_chooseSymbols_L4 M)) (0, 1)) fun (y6 : Int32) => gd (inb 0 140) <| bd1 (lp (uc4 (f_HBars_chooseSymbols_L51)) (y6, 0, 0, (im_setI (im_setI M 36 (Int32.toNatClampNeg 0) ((103 : Int32) + y6)) 31 9 1))) fun (M26 : im_M) => bd1 (f_HBars_checkSymbol (im_i M26 31 9) M26) fun (x27 : Int32) => bd1 (f_HBars_addSymbol x27 M26) fun (M28 : im_M) => some M28
theorem J_HBars_chooseSymbols_d0 : decode J_HBars_chooseSymbols.2.1 0 = .ok (.iconst 0, 1) := by decide +kernel
theorem J_HBars_chooseSymbols_d1 : decode J_HBars_chooseSymbols.2.1 1 = .ok (.istore_n 1, 1) := by decide +kernel
theorem J_HBars_chooseSymbols_d2 : decode J_HBars_chooseSymbols.2.1 2 = .ok (.iconst 1, 1) := by decide +kernel
theorem J_HBars_chooseSymbols_d3 : decode J_HBars_chooseSymbols.2.1 3 = .ok (.istore_n 2, 1) := by decide +kernel
theorem J_HBars_chooseSymbols_d4 : decode J_HBars_chooseSymbols.2.1 4 = .ok (.iload_n 2, 1) := by decide +kernel
theorem J_HBars_chooseSymbols_d5 : decode J_HBars_chooseSymbols.2.1 5 = .ok (.iconst 3, 1) := by decide +kernel
theorem J_HBars_chooseSymbols_d6 : decode J_HBars_chooseSymbols.2.1 6 = .ok (.if_icmp .ge 26, 3) := by decide +kernel
theorem J_HBars_chooseSymbols_d9 : decode J_HBars_chooseSymbols.2.1 9 = .ok (.aload_n 0, 1) := by decide +kernel
theorem J_HBars_chooseSymbols_d10 : decode J_HBars_chooseSymbols.2.1 10 = .ok (.getfield 23, 3) := by decide +kernel
theorem J_HBars_chooseSymbols_d13 : decode J_HBars_chooseSymbols.2.1 13 = .ok (.iload_n 2, 1) := by decide +kernel
theorem J_HBars_chooseSymbols_d14 : decode J_HBars_chooseSymbols.2.1 14 = .ok (.iaload, 1) := by decide +kernel
theorem J_HBars_chooseSymbols_d15 : decode J_HBars_chooseSymbols.2.1 15 = .ok (.aload_n 0, 1) := by decide +kernel
theorem J_HBars_chooseSymbols_d16 : decode J_HBars_chooseSymbols.2.1 16 = .ok (.getfield 23, 3) := by decide +kernel
theorem J_HBars_chooseSymbols_d19 : decode J_HBars_chooseSymbols.2.1 19 = .ok (.iload_n 1, 1) := by decide +kernel
theorem J_HBars_chooseSymbols_d20 : decode J_HBars_chooseSymbols.2.1 20 = .ok (.iaload, 1) := by decide +kernel
theorem J_HBars_chooseSymbols_d21 : decode J_HBars_chooseSymbols.2.1 21 = .ok (.if_icmp .ge 5, 3) := by decide +kernel
theorem J_HBars_chooseSymbols_d24 : decode J_HBars_chooseSymbols.2.1 24 = .ok (.iload_n 2, 1) := by decide +kernel
theorem J_HBars_chooseSymbols_d25 : decode J_HBars_chooseSymbols.2.1 25 = .ok (.istore_n 1, 1) := by decide +kernel
theorem J_HBars_chooseSymbols_d26 : decode J_HBars_chooseSymbols.2.1 26 = .ok (.iinc 2 1, 3) := by decide +kernel
theorem J_HBars_chooseSymbols_d29 : decode J_HBars_chooseSymbols.2.1 29 = .ok (.goto (-25), 3) := by decide +kernel
theorem J_HBars_chooseSymbols_d32 : decode J_HBars_chooseSymbols.2.1 32 = .ok (.aload_n 0, 1) := by decide +kernel
theorem J_HBars_chooseSymbols_d33 : decode J_HBars_chooseSymbols.2.1 33 = .ok (.getfield 26, 3) := by decide +kernel
theorem J_HBars_chooseSymbols_d36 : decode J_HBars_chooseSymbols.2.1 36 = .ok (.iconst 0, 1) := by decide +kernel
theorem J_HBars_chooseSymbols_d37 : decode J_HBars_chooseSymbols.2.1 37 = .ok (.bipush 103, 2) := by decide +kernel
theorem J_HBars_chooseSymbols_d39 : decode J_HBars_chooseSymbols.2.1 39 = .ok (.iload_n 1, 1) := by decide +kernel
theorem J_HBars_chooseSymbols_d40 : decode J_HBars_chooseSymbols.2.1 40 = .ok (.iadd, 1) := by decide +kernel
theorem J_HBars_chooseSymbols_d41 : decode J_HBars_chooseSymbols.2.1 41 = .ok (.iastore, 1) := by decide +kernel
theorem J_HBars_chooseSymbols_d42 : decode J_HBars_chooseSymbols.2.1 42 = .ok (.aload_n 0, 1) := by decide +kernel
theorem J_HBars_chooseSymbols_d43 : decode J_HBars_chooseSymbols.2.1 43 = .ok (.iconst 1, 1) := by decide +kernel
theorem J_HBars_chooseSymbols_d44 : decode J_HBars_chooseSymbols.2.1 44 = .ok (.putfield 73, 3) := by decide +kernel
theorem J_HBars_chooseSymbols_d47 : decode J_HBars_chooseSymbols.2.1 47 = .ok (.iconst 0, 1) := by decide +kernel
theorem J_HBars_chooseSymbols_d48 : decode J_HBars_chooseSymbols.2.1 48 = .ok (.istore_n 2, 1) := by decide +kernel
theorem J_HBars_chooseSymbols_d49 : decode J_HBars_chooseSymbols.2.1 49 = .ok (.iconst 0, 1) := by decide +kernel
theorem J_HBars_chooseSymbols_d50 : decode J_HBars_chooseSymbols.2.1 50 = .ok (.istore_n 3, 1) := by decide +kernel
theorem J_HBars_chooseSymbols_d51 : decode J_HBars_chooseSymbols.2.1 51 = .ok (.iload_n 3, 1) := by decide +kernel
theorem J_HBars_chooseSymbols_d52 : decode J_HBars_chooseSymbols.2.1 52 = .ok (.sipush 128, 3) := by decide +kernel
theorem J_HBars_chooseSymbols_d55 : decode J_HBars_chooseSymbols.2.1 55 = .ok (.if_icmp .ge 96, 3) := by decide +kernel
theorem J_HBars_chooseSymbols_d58 : decode J_HBars_chooseSymbols.2.1 58 = .ok (.iload_n 2, 1) := by decide +kernel
theorem J_HBars_chooseSymbols_d59 : decode J_HBars_chooseSymbols.2.1 59 = .ok (.aload_n 0, 1) := by decide +kernel
theorem J_HBars_chooseSymbols_d60 : decode J_HBars_chooseSymbols.2.1 60 = .ok (.getfield 32, 3) := by decide +kernel
theorem J_HBars_chooseSymbols_d63 : decode J_HBars_chooseSymbols.2.1 63 = .ok (.if_icmp .ge 88, 3) := by decide +kernel
theorem J_HBars_chooseSymbols_d66 : decode J_HBars_chooseSymbols.2.1 66 = .ok (.aload_n 0, 1) := by decide +kernel
theorem J_HBars_chooseSymbols_d67 : decode J_HBars_chooseSymbols.2.1 67 = .ok (.iload_n 2, 1) := by decide +kernel
theorem J_HBars_chooseSymbols_d68 : decode J_HBars_chooseSymbols.2.1 68 = .ok (.iload_n 1, 1) := by decide +kernel
theorem J_HBars_chooseSymbols_d69 : decode J_HBars_chooseSymbols.2.1 69 = .ok (.invokevirtual 76, 3) := by decide +kernel
theorem J_HBars_chooseSymbols_d72 : decode J_HBars_chooseSymbols.2.1 72 = .ok (.istore 4, 2) := by decide +kernel
theorem J_HBars_chooseSymbols_d74 : decode J_HBars_chooseSymbols.2.1 74 = .ok (.aload_n 0, 1) := by decide +kernel
theorem J_HBars_chooseSymbols_d75 : decode J_HBars_chooseSymbols.2.1 75 = .ok (.iload 4, 2) := by decide +kernel
theorem J_HBars_chooseSymbols_d77 : decode J_HBars_chooseSymbols.2.1 77 = .ok (.invokevirtual 79, 3) := by decide +kernel
theorem J_HBars_chooseSymbols_d80 : decode J_HBars_chooseSymbols.2.1 80 = .ok (.iload 4, 2) := by decide +kernel
theorem J_HBars_chooseSymbols_d82 : decode J_HBars_chooseSymbols.2.1 82 = .ok (.aload_n 0, 1) := by decide +kernel
theorem J_HBars_chooseSymbols_d83 : decode J_HBars_chooseSymbols.2.1 83 = .ok (.iload_n 2, 1) := by decide +kernel
theorem J_HBars_chooseSymbols_d84 : decode J_HBars_chooseSymbols.2.1 84 = .ok (.iload_n 1, 1) := by decide +kernel
theorem J_HBars_chooseSymbols_d85 : decode J_HBars_chooseSymbols.2.1 85 = .ok (.invokevirtual 66, 3) := by decide +kernel
theorem J_HBars_chooseSymbols_d88 : decode J_HBars_chooseSymbols.2.1 88 = .ok (.if_icmp .ne 13, 3) := by decide +kernel
theorem J_HBars_chooseSymbols_d91 : decode J_HBars_chooseSymbols.2.1 91 = .ok (.iload_n 2, 1) := by decide +kernel
theorem J_HBars_chooseSymbols_d92 : decode J_HBars_chooseSymbols.2.1 92 = .ok (.iload_n 1, 1) := by decide +kernel
theorem J_HBars_chooseSymbols_d93 : decode J_HBars_chooseSymbols.2.1 93 = .ok (.invokestatic 69, 3) := by decide +kernel
theorem J_HBars_chooseSymbols_d96 : decode J_HBars_chooseSymbols.2.1 96 = .ok (.iadd, 1) := by decide +kernel
theorem J_HBars_chooseSymbols_d97 : decode J_HBars_chooseSymbols.2.1 97 = .ok (.istore_n 2, 1) := by decide +kernel
theorem J_HBars_chooseSymbols_d98 : decode J_HBars_chooseSymbols.2.1 98 = .ok (.goto 47, 3) := by decide +kernel
theorem J_HBars_chooseSymbols_d101 : decode J_HBars_chooseSymbols.2.1 101 = .ok (.iload 4, 2) := by decide +kernel
theorem J_HBars_chooseSymbols_d103 : decode J_HBars_chooseSymbols.2.1 103 = .ok (.bipush 98, 2) := by decide +kernel
theorem J_HBars_chooseSymbols_d105 : decode J_HBars_chooseSymbols.2.1 105 = .ok (.if_icmp .ne 21, 3) := by decide +kernel
theorem J_HBars_chooseSymbols_d108 : decode J_HBars_chooseSymbols.2.1 108 = .ok (.aload_n 0, 1) := by decide +kernel
theorem J_HBars_chooseSymbols_d109 : decode J_HBars_chooseSymbols.2.1 109 = .ok (.aload_n 0, 1) := by decide +kernel
theorem J_HBars_chooseSymbols_d110 : decode J_HBars_chooseSymbols.2.1 110 = .ok (.iload_n 2, 1) := by decide +kernel
theorem J_HBars_chooseSymbols_d111 : decode J_HBars_chooseSymbols.2.1 111 = .ok (.iconst 1, 1) := by decide +kernel
theorem J_HBars_chooseSymbols_d112 : decode J_HBars_chooseSymbols.2.1 112 = .ok (.iload_n 1, 1) := by decide +kernel
theorem J_HBars_chooseSymbols_d113 : decode J_HBars_chooseSymbols.2.1 113 = .ok (.isub, 1) := by decide +kernel
theorem J_HBars_chooseSymbols_d114 : decode J_HBars_chooseSymbols.2.1 114 = .ok (.invokevirtual 66, 3) := by decide +kernel
theorem J_HBars_chooseSymbols_d117 : decode J_HBars_chooseSymbols.2.1 117 = .ok (.invokevirtual 79, 3) := by decide +kernel
theorem J_HBars_chooseSymbols_d120 : decode J_HBars_chooseSymbols.2.1 120 = .ok (.iinc 2 1, 3) := by decide +kernel
theorem J_HBars_chooseSymbols_d123 : decode J_HBars_chooseSymbols.2.1 123 = .ok (.goto 22, 3) := by decide +kernel
theorem J_HBars_chooseSymbols_d126 : decode J_HBars_chooseSymbols.2.1 126 = .ok (.iload 4, 2) := by decide +kernel
theorem J_HBars_chooseSymbols_d128 : decode J_HBars_chooseSymbols.2.1 128 = .ok (.bipush 102, 2) := by decide +kernel
theorem J_HBars_chooseSymbols_d130 : decode J_HBars_chooseSymbols.2.1 130 = .ok (.if_icmp .ne 9, 3) := by decide +kernel
theorem J_HBars_chooseSymbols_d133 : decode J_HBars_chooseSymbols.2.1 133 = .ok (.iinc 2 1, 3) := by decide +kernel
theorem J_HBars_chooseSymbols_d136 : decode J_HBars_chooseSymbols.2.1 136 = .ok (.goto 9, 3) := by decide +kernel
theorem J_HBars_chooseSymbols_d139 : decode J_HBars_chooseSymbols.2.1 139 = .ok (.bipush 101, 2) := by decide +kernel
theorem J_HBars_chooseSymbols_d141 : decode J_HBars_chooseSymbols.2.1 141 = .ok (.iload 4, 2) := by decide +kernel
theorem J_HBars_chooseSymbols_d143 : decode J_HBars_chooseSymbols.2.1 143 = .ok (.isub, 1) := by decide +kernel
theorem J_HBars_chooseSymbols_d144 : decode J_HBars_chooseSymbols.2.1 144 = .ok (.istore_n 1, 1) := by decide +kernel
theorem J_HBars_chooseSymbols_d145 : decode J_HBars_chooseSymbols.2.1 145 = .ok (.iinc 3 1, 3) := by decide +kernel
theorem J_HBars_chooseSymbols_d148 : decode J_HBars_chooseSymbols.2.1 148 = .ok (.goto (-97), 3) := by decide +kernel
theorem J_HBars_chooseSymbols_d151 : decode J_HBars_chooseSymbols.2.1 151 = .ok (.aload_n 0, 1) := by decide +kernel
theorem J_HBars_chooseSymbols_d152 : decode J_HBars_chooseSymbols.2.1 152 = .ok (.aload_n 0, 1) := by decide +kernel
theorem J_HBars_chooseSymbols_d153 : decode J_HBars_chooseSymbols.2.1 153 = .ok (.getfield 73, 3) := by decide +kernel
theorem J_HBars_chooseSymbols_d156 : decode J_HBars_chooseSymbols.2.1 156 = .ok (.invokevirtual 83, 3) := by decide +kernel
theorem J_HBars_chooseSymbols_d159 : decode J_HBars_chooseSymbols.2.1 159 = .ok (.istore_n 3, 1) := by decide +kernel
theorem J_HBars_chooseSymbols_d160 : decode J_HBars_chooseSymbols.2.1 160 = .ok (.aload_n 0, 1) := by decide +kernel
theorem J_HBars_chooseSymbols_d161 : decode J_HBars_chooseSymbols.2.1 161 = .ok (.iload_n 3, 1) := by decide +kernel
theorem J_HBars_chooseSymbols_d162 : decode J_HBars_chooseSymbols.2.1 162 = .ok (.invokevirtual 79, 3) := by decide +kernel
theorem J_HBars_chooseSymbols_d165 : decode J_HBars_chooseSymbols.2.1 165 = .ok (.return_, 1) := by decide +kernel
theorem f_HBars_chooseSymbols_ok {L : Nat} {xs : Nat → Int32} {dep : Nat} {w : Bool} {M : im_M} {Q : im_M → Prop} (hM : lw_S w M) (h : ed (f_HBars_chooseSymbols M) Q) : ia (tb_G L xs) (dep + 3) J_HBars_chooseSymbols (rwV w Q) (0, lv_args 0 [.ref 31], [], M) := by
  have hS : im_St (tb_G L xs) (dep + 3) J_HBars_chooseSymbols (ia (tb_G L xs) (dep + 3) J_HBars_chooseSymbols (rwV w Q)) := ia_St
  unfold f_HBars_chooseSymbols at h
  have l0 : im_lk (lv_args 0 [.ref 31]) 0 = some (.ref 31) := rfl
  refine iq_iconst hS 1 J_HBars_chooseSymbols_d0 (v := 0) (by decide +kernel) rfl ?_
  refine iq_istore_n hS 2 J_HBars_chooseSymbols_d1 (by decide) rfl ?_
  refine iq_iconst hS 3 J_HBars_chooseSymbols_d2 (v := 1) (by decide +kernel) rfl ?_
  refine iq_istore_n hS 4 J_HBars_chooseSymbols_d3 (by decide) rfl ?_
  obtain ⟨Q1, hQ1, h⟩ := bd1_ed h
  have K1 : ∀ (y2 : Int32) (L' : List (Nat × Value)), im_lk L' 0 = some (.ref 31) → im_lk L' 1 = some (.int y2) → Q1 y2 → ia (tb_G L xs) (dep + 3) J_HBars_chooseSymbols (rwV w Q) (32, L', [], M) := by
    intro y2 L' l3 l4 h
    replace h := hQ1 _ h
    refine iq_aload_n hS 33 J_HBars_chooseSymbols_d32 l3 rfl ?_
    refine iq_getR hS 36 J_HBars_chooseSymbols_d33 lf_0_26 (Or.inr ⟨_, rfl⟩) (ka_31 hM) (ra_31_8 hM) rfl ?_
    refine iq_iconst hS 37 J_HBars_chooseSymbols_d36 (v := 0) (by decide +kernel) rfl ?_
    refine iq_bipush hS 39 J_HBars_chooseSymbols_d37 (v := 103) (by decide +kernel) rfl ?_
    refine iq_iload_n hS 40 J_HBars_chooseSymbols_d39 l4 rfl ?_
    refine iq_iadd hS 41 J_HBars_chooseSymbols_d40 rfl ?_
    obtain ⟨g41, h⟩ := ed_gd h
    refine iq_iastore hS 42 J_HBars_chooseSymbols_d41 ⟨(ka_36 hM).1, (ka_36 hM).2, g41.1, ix_lt (kl_36 hM) g41.2⟩ rfl ?_
    refine iq_aload_n hS 43 J_HBars_chooseSymbols_d42 l3 rfl ?_
    refine iq_iconst hS 44 J_HBars_chooseSymbols_d43 (v := 1) (by decide +kernel) rfl ?_
    refine iq_putI hS 47 J_HBars_chooseSymbols_d44 lf_0_73 (Or.inl rfl) rfl (ka_31 (lw_sI hM)) rfl ?_
    refine iq_iconst hS 48 J_HBars_chooseSymbols_d47 (v := 0) (by decide +kernel) rfl ?_
    refine iq_istore_n hS 49 J_HBars_chooseSymbols_d48 (by decide) rfl ?_
    refine iq_iconst hS 50 J_HBars_chooseSymbols_d49 (v := 0) (by decide +kernel) rfl ?_
    refine iq_istore_n hS 51 J_HBars_chooseSymbols_d50 (by decide) rfl ?_
    obtain ⟨Q5, hQ5, h⟩ := bd1_ed h
    have K5 : ∀ (M6 : im_M) (L' : List (Nat × Value)), lw_S w M6 → im_lk L' 0 = some (.ref 31) → Q5 M6 → ia (tb_G L xs) (dep + 3) J_HBars_chooseSymbols (rwV w Q) (151, L', [], M6) := by
      intro M6 L' hM6 l7 h
      replace h := hQ5 _ h
      refine iq_aload_n hS 152 J_HBars_chooseSymbols_d151 l7 rfl ?_
      refine iq_aload_n hS 153 J_HBars_chooseSymbols_d152 l7 rfl ?_
      refine iq_getI hS 156 J_HBars_chooseSymbols_d153 lf_0_73 (Or.inl rfl) (ka_31 hM6) rfl ?_
      obtain ⟨Q8, hQ8, h⟩ := bd1_ed h
      refine iq_cpI hS 159 J_HBars_chooseSymbols_d156 rfl (pr_inst (vs := [_]) lc_0_83 lT_125 rfl rfl (by decide) (by decide) rfl (Nat.le_of_ble_eq_true rfl) (Nat.le_of_ble_eq_true rfl) (fun _ => Or.inl (pr_b (ka_31 hM6) (by decide) rfl))) (f_HBars_checkSymbol_ok (dep := dep + 2) hM6 h) rfl ?_
      intro x8 h
      replace h := hQ8 _ h
      refine iq_istore_n hS 160 J_HBars_chooseSymbols_d159 (by decide) rfl ?_
      refine iq_aload_n hS 161 J_HBars_chooseSymbols_d160 (lk_1r l7 (by decide)) rfl ?_
      refine iq_iload_n hS 162 J_HBars_chooseSymbols_d161 lk_1s rfl ?_
      obtain ⟨Q9, hQ9, h⟩ := bd1_ed h
      refine iq_cwV hS 165 J_HBars_chooseSymbols_d162 rfl (pr_inst (vs := [_]) lc_0_79 lT_124 rfl rfl (by decide) (by decide) rfl (Nat.le_of_ble_eq_true rfl) (Nat.le_of_ble_eq_true rfl) (fun _ => Or.inl (pr_b (ka_31 hM6) (by decide) rfl))) (f_HBars_addSymbol_ok (dep := dep + 2) hM6 h) rfl ?_
      intro M9 hM9 h
      replace h := hQ9 _ h
      exact iq_ret J_HBars_chooseSymbols_d165 rfl ⟨rfl, hM9, ed_some h⟩
    obtain ⟨r5, hr5, hq5⟩ := h
    obtain ⟨n5, hn5⟩ := lp_n hr5
    have I5 : ∀ (n : Nat) (x10 : Int32) (x11 : Int32) (x12 : Int32) (M13 : im_M) (L' : List (Nat × Value)), lw_S w M13 → im_lk L' 0 = some (.ref 31) → im_lk L' 1 = some (.int x10) → im_lk L' 2 = some (.int x11) → im_lk L' 3 = some (.int x12) → lpn (uc4 (f_HBars_chooseSymbols_L51)) n (x10, x11, x12, M13) = some r5 → ia (tb_G L xs) (dep + 3) J_HBars_chooseSymbols (rwV w Q) (51, L', [], M13) := by
      intro n
      induction n with
      | zero => intro x10 x11 x12 M13 L' hM13 l14 l15 l16 l17 hn; exact (lpn_0 hn).elim
      | succ n ih =>
        intro x10 x11 x12 M13 L' hM13 l14 l15 l16 l17 hn
        have h := lpn_ed4 hn
        unfold f_HBars_chooseSymbols_L51 at h
        refine iq_iload_n hS 52 J_HBars_chooseSymbols_d51 l17 rfl ?_
        refine iq_sipush hS 55 J_HBars_chooseSymbols_d52 (v := 128) (by decide +kernel) rfl ?_
        refine iq_icmp_ge hS 58 J_HBars_chooseSymbols_d55 (t := 151) rfl (fun q55 => ?_) rfl (fun q55 => ?_)
        · replace h := ed_pos q55 h
          exact K5 _ _ hM13 l14 (lq_r h hq5)
        · replace h := ed_neg q55 h
          refine iq_iload_n hS 59 J_HBars_chooseSymbols_d58 l16 rfl ?_
          refine iq_aload_n hS 60 J_HBars_chooseSymbols_d59 l14 rfl ?_
          refine iq_getI hS 63 J_HBars_chooseSymbols_d60 lf_0_32 (Or.inl rfl) (ka_31 hM13) rfl ?_
          refine iq_icmp_ge hS 66 J_HBars_chooseSymbols_d63 (t := 151) rfl (fun q63 => ?_) rfl (fun q63 => ?_)
          · replace h := ed_pos q63 h
            exact K5 _ _ hM13 l14 (lq_r h hq5)
          · replace h := ed_neg q63 h
            refine iq_aload_n hS 67 J_HBars_chooseSymbols_d66 l14 rfl ?_
            refine iq_iload_n hS 68 J_HBars_chooseSymbols_d67 l16 rfl ?_
            refine iq_iload_n hS 69 J_HBars_chooseSymbols_d68 l15 rfl ?_
            obtain ⟨Q18, hQ18, h⟩ := bd1_ed h
            refine iq_cpI hS 72 J_HBars_chooseSymbols_d69 rfl (pr_inst (vs := [_, _]) lc_0_76 lT_123 rfl rfl (by decide) (by decide) rfl (Nat.le_of_ble_eq_true rfl) (Nat.le_of_ble_eq_true rfl) (fun _ => Or.inl (pr_b (ka_31 hM13) (by decide) rfl))) (f_HBars_leastSymbol_ok (dep := dep + 0) hM13 h) rfl ?_
            intro x18 h
            replace h := hQ18 _ h
            refine iq_istore hS 74 J_HBars_chooseSymbols_d72 (by decide) rfl ?_
            refine iq_aload_n hS 75 J_HBars_chooseSymbols_d74 (lk_1r l14 (by decide)) rfl ?_
            refine iq_iload hS 77 J_HBars_chooseSymbols_d75 lk_1s rfl ?_
            obtain ⟨Q19, hQ19, h⟩ := bd1_ed h
            refine iq_cwV hS 80 J_HBars_chooseSymbols_d77 rfl (pr_inst (vs := [_]) lc_0_79 lT_124 rfl rfl (by decide) (by decide) rfl (Nat.le_of_ble_eq_true rfl) (Nat.le_of_ble_eq_true rfl) (fun _ => Or.inl (pr_b (ka_31 hM13) (by decide) rfl))) (f_HBars_addSymbol_ok (dep := dep + 2) hM13 h) rfl ?_
            intro M19 hM19 h
            replace h := hQ19 _ h
            refine iq_iload hS 82 J_HBars_chooseSymbols_d80 lk_1s rfl ?_
            refine iq_aload_n hS 83 J_HBars_chooseSymbols_d82 (lk_1r l14 (by decide)) rfl ?_
            refine iq_iload_n hS 84 J_HBars_chooseSymbols_d83 (lk_1i l16 (by decide)) rfl ?_
            refine iq_iload_n hS 85 J_HBars_chooseSymbols_d84 (lk_1i l15 (by decide)) rfl ?_
            obtain ⟨Q20, hQ20, h⟩ := bd1_ed h
            refine iq_cpI hS 88 J_HBars_chooseSymbols_d85 rfl (pr_inst (vs := [_, _]) lc_0_66 lT_119 rfl rfl (by decide) (by decide) rfl (Nat.le_of_ble_eq_true rfl) (Nat.le_of_ble_eq_true rfl) (fun _ => Or.inl (pr_b (ka_31 hM19) (by decide) rfl))) (f_HBars_symbolFor_ok (dep := dep + 2) hM19 h) rfl ?_
            intro x20 h
            replace h := hQ20 _ h
            obtain ⟨Q21, hQ21, h⟩ := bd3_ed h
            have J21 : ∀ (y25 : Int32) (y26 : Int32) (M27 : im_M) (L' : List (Nat × Value)), lw_S w M27 → im_lk L' 0 = some (.ref 31) → im_lk L' 1 = some (.int y25) → im_lk L' 2 = some (.int y26) → im_lk L' 3 = some (.int x12) → Q21 (y25, y26, M27) → ia (tb_G L xs) (dep + 3) J_HBars_chooseSymbols (rwV w Q) (145, L', [], M27) := by
              intro y25 y26 M27 L' hM27 l28 l29 l30 l31 h
              replace h := hQ21 _ _ _ h
              refine iq_iincv hS 148 J_HBars_chooseSymbols_d145 (c := 1) (by decide +kernel) l31 (by decide) rfl ?_
              refine iq_goto hS J_HBars_chooseSymbols_d148 (t := 51) rfl ?_
              exact ih _ _ _ _ _ hM27 (lk_1r l28 (by decide)) (lk_1i l29 (by decide)) (lk_1i l30 (by decide)) lk_1s (lq_l h)
            refine iq_icmp_ne hS 91 J_HBars_chooseSymbols_d88 (t := 101) rfl (fun q88 => ?_) rfl (fun q88 => ?_)
            · replace h := ed_pos q88 h
              refine iq_iload hS 103 J_HBars_chooseSymbols_d101 lk_1s rfl ?_
              refine iq_bipush hS 105 J_HBars_chooseSymbols_d103 (v := 98) (by decide +kernel) rfl ?_
              refine iq_icmp_ne hS 108 J_HBars_chooseSymbols_d105 (t := 126) rfl (fun q105 => ?_) rfl (fun q105 => ?_)
              · replace h := ed_pos q105 h
                refine iq_iload hS 128 J_HBars_chooseSymbols_d126 lk_1s rfl ?_
                refine iq_bipush hS 130 J_HBars_chooseSymbols_d128 (v := 102) (by decide +kernel) rfl ?_
                refine iq_icmp_ne hS 133 J_HBars_chooseSymbols_d130 (t := 139) rfl (fun q130 => ?_) rfl (fun q130 => ?_)
                · replace h := ed_pos q130 h
                  refine iq_bipush hS 141 J_HBars_chooseSymbols_d139 (v := 101) (by decide +kernel) rfl ?_
                  refine iq_iload hS 143 J_HBars_chooseSymbols_d141 lk_1s rfl ?_
                  refine iq_isub hS 144 J_HBars_chooseSymbols_d143 rfl ?_
                  refine iq_istore_n hS 145 J_HBars_chooseSymbols_d144 (by decide) rfl ?_
                  exact J21 _ _ _ _ hM19 (lk_1r (lk_1r l14 (by decide)) (by decide)) lk_1s (lk_1i (lk_1i l16 (by decide)) (by decide)) (lk_1i (lk_1i l17 (by decide)) (by decide)) (ed_some h)
                · replace h := ed_neg q130 h
                  refine iq_iincv hS 136 J_HBars_chooseSymbols_d133 (c := 1) (by decide +kernel) (lk_1i l16 (by decide)) (by decide) rfl ?_
                  refine iq_goto hS J_HBars_chooseSymbols_d136 (t := 145) rfl ?_
                  exact J21 _ _ _ _ hM19 (lk_1r (lk_1r l14 (by decide)) (by decide)) (lk_1i (lk_1i l15 (by decide)) (by decide)) lk_1s (lk_1i (lk_1i l17 (by decide)) (by decide)) (ed_some h)
              · replace h := ed_neg q105 h
                refine iq_aload_n hS 109 J_HBars_chooseSymbols_d108 (lk_1r l14 (by decide)) rfl ?_
                refine iq_aload_n hS 110 J_HBars_chooseSymbols_d109 (lk_1r l14 (by decide)) rfl ?_
                refine iq_iload_n hS 111 J_HBars_chooseSymbols_d110 (lk_1i l16 (by decide)) rfl ?_
                refine iq_iconst hS 112 J_HBars_chooseSymbols_d111 (v := 1) (by decide +kernel) rfl ?_
                refine iq_iload_n hS 113 J_HBars_chooseSymbols_d112 (lk_1i l15 (by decide)) rfl ?_
                refine iq_isub hS 114 J_HBars_chooseSymbols_d113 rfl ?_
                obtain ⟨Q22, hQ22, h⟩ := bd1_ed h
                refine iq_cpI hS 117 J_HBars_chooseSymbols_d114 rfl (pr_inst (vs := [_, _]) lc_0_66 lT_119 rfl rfl (by decide) (by decide) rfl (Nat.le_of_ble_eq_true rfl) (Nat.le_of_ble_eq_true rfl) (fun _ => Or.inl (pr_b (ka_31 hM19) (by decide) rfl))) (f_HBars_symbolFor_ok (dep := dep + 2) hM19 h) rfl ?_
                intro x22 h
                replace h := hQ22 _ h
                obtain ⟨Q23, hQ23, h⟩ := bd1_ed h
                refine iq_cwV hS 120 J_HBars_chooseSymbols_d117 rfl (pr_inst (vs := [_]) lc_0_79 lT_124 rfl rfl (by decide) (by decide) rfl (Nat.le_of_ble_eq_true rfl) (Nat.le_of_ble_eq_true rfl) (fun _ => Or.inl (pr_b (ka_31 hM19) (by decide) rfl))) (f_HBars_addSymbol_ok (dep := dep + 2) hM19 h) rfl ?_
                intro M23 hM23 h
                replace h := hQ23 _ h
                refine iq_iincv hS 123 J_HBars_chooseSymbols_d120 (c := 1) (by decide +kernel) (lk_1i l16 (by decide)) (by decide) rfl ?_
                refine iq_goto hS J_HBars_chooseSymbols_d123 (t := 145) rfl ?_
                exact J21 _ _ _ _ hM23 (lk_1r (lk_1r l14 (by decide)) (by decide)) (lk_1i (lk_1i l15 (by decide)) (by decide)) lk_1s (lk_1i (lk_1i l17 (by decide)) (by decide)) (ed_some h)
            · replace h := ed_neg q88 h
              refine iq_iload_n hS 92 J_HBars_chooseSymbols_d91 (lk_1i l16 (by decide)) rfl ?_
              refine iq_iload_n hS 93 J_HBars_chooseSymbols_d92 (lk_1i l15 (by decide)) rfl ?_
              obtain ⟨Q24, hQ24, h⟩ := bd1_ed h
              refine iq_cpI hS 96 J_HBars_chooseSymbols_d93 rfl (pr_stat (vs := [_]) lc_0_69 lT_120 rfl rfl (by decide) rfl (Nat.le_of_ble_eq_true rfl) (Nat.le_of_ble_eq_true rfl)) (f_HBars_signsEach_ok (dep := dep + 2) hM19 h) rfl ?_
              intro x24 h
              replace h := hQ24 _ h
              refine iq_iadd hS 97 J_HBars_chooseSymbols_d96 rfl ?_
              refine iq_istore_n hS 98 J_HBars_chooseSymbols_d97 (by decide) rfl ?_
              refine iq_goto hS J_HBars_chooseSymbols_d98 (t := 145) rfl ?_
              exact J21 _ _ _ _ hM19 (lk_1r (lk_1r l14 (by decide)) (by decide)) (lk_1i (lk_1i l15 (by decide)) (by decide)) lk_1s (lk_1i (lk_1i l17 (by decide)) (by decide)) (ed_some h)
    exact I5 n5 _ _ _ _ _ (lw_sI (lw_sI hM)) (lk_1r (lk_1r l3 (by decide)) (by decide)) (lk_1i (lk_1i l4 (by decide)) (by decide)) (lk_1i lk_1s (by decide)) lk_1s hn5
  obtain ⟨r1, hr1, hq1⟩ := h
  obtain ⟨n1, hn1⟩ := lp_n hr1
  have I1 : ∀ (n : Nat) (x32 : Int32) (x33 : Int32) (L' : List (Nat × Value)), im_lk L' 0 = some (.ref 31) → im_lk L' 1 = some (.int x32) → im_lk L' 2 = some (.int x33) → lpn (uc2 (f_HBars_chooseSymbols_L4 M)) n (x32, x33) = some r1 → ia (tb_G L xs) (dep + 3) J_HBars_chooseSymbols (rwV w Q) (4, L', [], M) := by
    intro n
    induction n with
    | zero => intro x32 x33 L' l34 l35 l36 hn; exact (lpn_0 hn).elim
    | succ n ih =>
      intro x32 x33 L' l34 l35 l36 hn
      have h := lpn_ed2 hn
      unfold f_HBars_chooseSymbols_L4 at h
      refine iq_iload_n hS 5 J_HBars_chooseSymbols_d4 l36 rfl ?_
      refine iq_iconst hS 6 J_HBars_chooseSymbols_d5 (v := 3) (by decide +kernel) rfl ?_
      refine iq_icmp_ge hS 9 J_HBars_chooseSymbols_d6 (t := 32) rfl (fun q6 => ?_) rfl (fun q6 => ?_)
      · replace h := ed_pos q6 h
        exact K1 _ _ l34 l35 (lq_r h hq1)
      · replace h := ed_neg q6 h
        refine iq_aload_n hS 10 J_HBars_chooseSymbols_d9 l34 rfl ?_
        refine iq_getR hS 13 J_HBars_chooseSymbols_d10 lf_0_23 (Or.inr ⟨_, rfl⟩) (ka_31 hM) (ra_31_7 hM) rfl ?_
        refine iq_iload_n hS 14 J_HBars_chooseSymbols_d13 l36 rfl ?_
        obtain ⟨g14, h⟩ := ed_gd h
        refine iq_iaload hS 15 J_HBars_chooseSymbols_d14 ⟨(ka_35 hM).1, (ka_35 hM).2, g14.1, ix_lt (kl_35 hM) g14.2⟩ rfl ?_
        refine iq_aload_n hS 16 J_HBars_chooseSymbols_d15 l34 rfl ?_
        refine iq_getR hS 19 J_HBars_chooseSymbols_d16 lf_0_23 (Or.inr ⟨_, rfl⟩) (ka_31 hM) (ra_31_7 hM) rfl ?_
        refine iq_iload_n hS 20 J_HBars_chooseSymbols_d19 l35 rfl ?_
        obtain ⟨g20, h⟩ := ed_gd h
        refine iq_iaload hS 21 J_HBars_chooseSymbols_d20 ⟨(ka_35 hM).1, (ka_35 hM).2, g20.1, ix_lt (kl_35 hM) g20.2⟩ rfl ?_
        have J37 : ∀ (z38 : Int32) (L' : List (Nat × Value)), z38 = ((if (im_i M 35 (Int32.toNatClampNeg x32)) ≤ (im_i M 35 (Int32.toNatClampNeg x33)) then x32 else x33) : Int32) → im_lk L' 0 = some (.ref 31) → im_lk L' 1 = some (.int z38) → im_lk L' 2 = some (.int x33) → ia (tb_G L xs) (dep + 3) J_HBars_chooseSymbols (rwV w Q) (26, L', [], M) := by
          intro z38 L' e39 l40 l41 l42
          subst e39
          refine iq_iincv hS 29 J_HBars_chooseSymbols_d26 (c := 1) (by decide +kernel) l42 (by decide) rfl ?_
          refine iq_goto hS J_HBars_chooseSymbols_d29 (t := 4) rfl ?_
          exact ih _ _ _ (lk_1r l40 (by decide)) (lk_1i l41 (by decide)) lk_1s (lq_l h)
        refine iq_icmp_ge hS 24 J_HBars_chooseSymbols_d21 (t := 26) rfl (fun q21 => ?_) rfl (fun q21 => ?_)
        · exact J37 _ _ (by simp only [if_pos q21]) l34 l35 l36
        · refine iq_iload_n hS 25 J_HBars_chooseSymbols_d24 l36 rfl ?_
          refine iq_istore_n hS 26 J_HBars_chooseSymbols_d25 (by decide) rfl ?_
          exact J37 _ _ (by simp only [if_neg q21]) (lk_1r l34 (by decide)) lk_1s (lk_1i l36 (by decide))
  exact I1 n1 _ _ _ (lk_1r (lk_1r l0 (by decide)) (by decide)) (lk_1i lk_1s (by decide)) lk_1s hn1
theorem f_HBars_chooseSymbols_fr {M : im_M} {r : im_M} (h : f_HBars_chooseSymbols M = some r) : fr 68719476736 [(31, 9)] M r := by
  replace h : ed (f_HBars_chooseSymbols M) (fun x => x = r) := ⟨r, h, rfl⟩
  unfold f_HBars_chooseSymbols at h
  obtain ⟨Q1, hQ1, h⟩ := bd1_ed h
  have K1 : ∀ (y2 : Int32), Q1 y2 → fr 68719476736 [(31, 9)] M r := by
    intro y2 h
    replace h := hQ1 _ h
    obtain ⟨g41, h⟩ := ed_gd h
    obtain ⟨Q3, hQ3, h⟩ := bd1_ed h
    have K3 : ∀ (M4 : im_M), fr 68719476736 [(31, 9)] M M4 → Q3 M4 → fr 68719476736 [(31, 9)] M r := by
      intro M4 hM4 h
      replace h := hQ3 _ h
      obtain ⟨Q5, hQ5, h⟩ := bd1_ed h
      obtain ⟨x5, e5, h⟩ := h
      replace h := hQ5 _ h
      obtain ⟨Q6, hQ6, h⟩ := bd1_ed h
      obtain ⟨M6, e6, h⟩ := h
      replace h := hQ6 _ h
      exact fr_retV h (fr_tr (fr_mono (by decide) (by decide +kernel) (f_HBars_addSymbol_fr e6)) hM4)
    obtain ⟨r3, hr3, hq3⟩ := h
    obtain ⟨n3, hn3⟩ := lp_n hr3
    have I3 : ∀ (n : Nat) (x7 : Int32) (x8 : Int32) (x9 : Int32) (M10 : im_M), fr 68719476736 [(31, 9)] M M10 → lpn (uc4 (f_HBars_chooseSymbols_L51)) n (x7, x8, x9, M10) = some r3 → fr 68719476736 [(31, 9)] M r := by
      intro n
      induction n with
      | zero => intro x7 x8 x9 M10 hM10 hn; exact (lpn_0 hn).elim
      | succ n ih =>
        intro x7 x8 x9 M10 hM10 hn
        have h := lpn_ed4 hn
        unfold f_HBars_chooseSymbols_L51 at h
        by_cases q55 : 128 ≤ x9
        · replace h := ed_pos q55 h
          exact K3 _ hM10 (lq_r h hq3)
        · replace h := ed_neg q55 h
          by_cases q63 : (im_i M10 31 6) ≤ x8
          · replace h := ed_pos q63 h
            exact K3 _ hM10 (lq_r h hq3)
          · replace h := ed_neg q63 h
            obtain ⟨Q11, hQ11, h⟩ := bd1_ed h
            obtain ⟨x11, e11, h⟩ := h
            replace h := hQ11 _ h
            obtain ⟨Q12, hQ12, h⟩ := bd1_ed h
            obtain ⟨M12, e12, h⟩ := h
            replace h := hQ12 _ h
            obtain ⟨Q13, hQ13, h⟩ := bd1_ed h
            obtain ⟨x13, e13, h⟩ := h
            replace h := hQ13 _ h
            obtain ⟨Q14, hQ14, h⟩ := bd3_ed h
            have J14 : ∀ (y18 : Int32) (y19 : Int32) (M20 : im_M), fr 68719476736 [(31, 9)] M M20 → Q14 (y18, y19, M20) → fr 68719476736 [(31, 9)] M r := by
              intro y18 y19 M20 hM20 h
              replace h := hQ14 _ _ _ h
              exact ih _ _ _ _ hM20 (lq_l h)
            by_cases q88 : ¬ x11 = x13
            · replace h := ed_pos q88 h
              by_cases q105 : ¬ x11 = 98
              · replace h := ed_pos q105 h
                by_cases q130 : ¬ x11 = 102
                · replace h := ed_pos q130 h
                  exact J14 _ _ _ (fr_tr (fr_mono (by decide) (by decide +kernel) (f_HBars_addSymbol_fr e12)) hM10) (ed_some h)
                · replace h := ed_neg q130 h
                  exact J14 _ _ _ (fr_tr (fr_mono (by decide) (by decide +kernel) (f_HBars_addSymbol_fr e12)) hM10) (ed_some h)
              · replace h := ed_neg q105 h
                obtain ⟨Q15, hQ15, h⟩ := bd1_ed h
                obtain ⟨x15, e15, h⟩ := h
                replace h := hQ15 _ h
                obtain ⟨Q16, hQ16, h⟩ := bd1_ed h
                obtain ⟨M16, e16, h⟩ := h
                replace h := hQ16 _ h
                exact J14 _ _ _ (fr_tr (fr_mono (by decide) (by decide +kernel) (f_HBars_addSymbol_fr e16)) (fr_tr (fr_mono (by decide) (by decide +kernel) (f_HBars_addSymbol_fr e12)) hM10)) (ed_some h)
            · replace h := ed_neg q88 h
              obtain ⟨Q17, hQ17, h⟩ := bd1_ed h
              obtain ⟨x17, e17, h⟩ := h
              replace h := hQ17 _ h
              exact J14 _ _ _ (fr_tr (fr_mono (by decide) (by decide +kernel) (f_HBars_addSymbol_fr e12)) hM10) (ed_some h)
    exact I3 n3 _ _ _ _ (fr_F (by decide) (fr_I (by decide) fr_refl)) hn3
  obtain ⟨r1, hr1, hq1⟩ := h
  obtain ⟨n1, hn1⟩ := lp_n hr1
  have I1 : ∀ (n : Nat) (x25 : Int32) (x26 : Int32), lpn (uc2 (f_HBars_chooseSymbols_L4 M)) n (x25, x26) = some r1 → fr 68719476736 [(31, 9)] M r := by
    intro n
    induction n with
    | zero => intro x25 x26 hn; exact (lpn_0 hn).elim
    | succ n ih =>
      intro x25 x26 hn
      have h := lpn_ed2 hn
      unfold f_HBars_chooseSymbols_L4 at h
      by_cases q6 : 3 ≤ x26
      · replace h := ed_pos q6 h
        exact K1 _ (lq_r h hq1)
      · replace h := ed_neg q6 h
        obtain ⟨g14, h⟩ := ed_gd h
        obtain ⟨g20, h⟩ := ed_gd h
        exact ih _ _ (lq_l h)
  exact I1 n1 _ _ hn1
noncomputable def f_HBars_addWidths_L2 (v2 : Int32) (x3 : Int32) (M4 : im_M) : Option ((Int32 × im_M) ⊕ (im_M)) := if x3 ≤ 0 then some (.inr M4) else gd (¬ x3 = (0 : Int32)) <| gd (inb (im_i M4 31 2) 900) <| some (.inl ((x3 / 10), (im_setI (im_setI M4 33 (Int32.toNatClampNeg (im_i M4 31 2)) ((v2 / x3) - (v2 / x3) / 10 * 10)) 31 2 ((im_i (im_setI M4 33 (Int32.toNatClampNeg (im_i M4 31 2)) ((v2 / x3) - (v2 / x3) / 10 * 10)) 31 2) + 1))))
noncomputable def f_HBars_addWidths (p0 : Int32) (p1 : Int32) (M : im_M) : Option (im_M) := bd1 (lp (uc2 (f_HBars_addWidths_L2 p0)) (p1, M)) fun (M5 : im_M) => some M5
theorem J_HBars_addWidths_d0 : decode J_HBars_addWidths.2.1 0 = .ok (.iload_n 2, 1) := by decide +kernel
theorem J_HBars_addWidths_d1 : decode J_HBars_addWidths.2.1 1 = .ok (.istore_n 3, 1) := by decide +kernel
theorem J_HBars_addWidths_d2 : decode J_HBars_addWidths.2.1 2 = .ok (.iload_n 3, 1) := by decide +kernel
theorem J_HBars_addWidths_d3 : decode J_HBars_addWidths.2.1 3 = .ok (.ifCond .le 36, 3) := by decide +kernel
theorem J_HBars_addWidths_d6 : decode J_HBars_addWidths.2.1 6 = .ok (.aload_n 0, 1) := by decide +kernel
theorem J_HBars_addWidths_d7 : decode J_HBars_addWidths.2.1 7 = .ok (.getfield 17, 3) := by decide +kernel
theorem J_HBars_addWidths_d10 : decode J_HBars_addWidths.2.1 10 = .ok (.aload_n 0, 1) := by decide +kernel
theorem J_HBars_addWidths_d11 : decode J_HBars_addWidths.2.1 11 = .ok (.getfield 86, 3) := by decide +kernel
theorem J_HBars_addWidths_d14 : decode J_HBars_addWidths.2.1 14 = .ok (.iload_n 1, 1) := by decide +kernel
theorem J_HBars_addWidths_d15 : decode J_HBars_addWidths.2.1 15 = .ok (.iload_n 3, 1) := by decide +kernel
theorem J_HBars_addWidths_d16 : decode J_HBars_addWidths.2.1 16 = .ok (.idiv, 1) := by decide +kernel
theorem J_HBars_addWidths_d17 : decode J_HBars_addWidths.2.1 17 = .ok (.bipush 10, 2) := by decide +kernel
theorem J_HBars_addWidths_d19 : decode J_HBars_addWidths.2.1 19 = .ok (.irem, 1) := by decide +kernel
theorem J_HBars_addWidths_d20 : decode J_HBars_addWidths.2.1 20 = .ok (.iastore, 1) := by decide +kernel
theorem J_HBars_addWidths_d21 : decode J_HBars_addWidths.2.1 21 = .ok (.aload_n 0, 1) := by decide +kernel
theorem J_HBars_addWidths_d22 : decode J_HBars_addWidths.2.1 22 = .ok (.dup, 1) := by decide +kernel
theorem J_HBars_addWidths_d23 : decode J_HBars_addWidths.2.1 23 = .ok (.getfield 86, 3) := by decide +kernel
theorem J_HBars_addWidths_d26 : decode J_HBars_addWidths.2.1 26 = .ok (.iconst 1, 1) := by decide +kernel
theorem J_HBars_addWidths_d27 : decode J_HBars_addWidths.2.1 27 = .ok (.iadd, 1) := by decide +kernel
theorem J_HBars_addWidths_d28 : decode J_HBars_addWidths.2.1 28 = .ok (.putfield 86, 3) := by decide +kernel
theorem J_HBars_addWidths_d31 : decode J_HBars_addWidths.2.1 31 = .ok (.iload_n 3, 1) := by decide +kernel
theorem J_HBars_addWidths_d32 : decode J_HBars_addWidths.2.1 32 = .ok (.bipush 10, 2) := by decide +kernel
theorem J_HBars_addWidths_d34 : decode J_HBars_addWidths.2.1 34 = .ok (.idiv, 1) := by decide +kernel
theorem J_HBars_addWidths_d35 : decode J_HBars_addWidths.2.1 35 = .ok (.istore_n 3, 1) := by decide +kernel
theorem J_HBars_addWidths_d36 : decode J_HBars_addWidths.2.1 36 = .ok (.goto (-34), 3) := by decide +kernel
theorem J_HBars_addWidths_d39 : decode J_HBars_addWidths.2.1 39 = .ok (.return_, 1) := by decide +kernel
theorem f_HBars_addWidths_ok {L : Nat} {xs : Nat → Int32} {dep : Nat} {w : Bool} {p0 : Int32} {p1 : Int32} {M : im_M} {Q : im_M → Prop} (hM : lw_S w M) (h : ed (f_HBars_addWidths p0 p1 M) Q) : ia (tb_G L xs) dep J_HBars_addWidths (rwV w Q) (0, lv_args 0 [.ref 31, .int p0, .int p1], [], M) := by
  have hS : im_St (tb_G L xs) dep J_HBars_addWidths (ia (tb_G L xs) dep J_HBars_addWidths (rwV w Q)) := ia_St
  unfold f_HBars_addWidths at h
  have l0 : im_lk (lv_args 0 [.ref 31, .int p0, .int p1]) 0 = some (.ref 31) := rfl
  have l1 : im_lk (lv_args 0 [.ref 31, .int p0, .int p1]) 1 = some (.int p0) := rfl
  have l2 : im_lk (lv_args 0 [.ref 31, .int p0, .int p1]) 2 = some (.int p1) := rfl
  refine iq_iload_n hS 1 J_HBars_addWidths_d0 l2 rfl ?_
  refine iq_istore_n hS 2 J_HBars_addWidths_d1 (by decide) rfl ?_
  obtain ⟨Q1, hQ1, h⟩ := bd1_ed h
  have K1 : ∀ (M2 : im_M) (L' : List (Nat × Value)), lw_S w M2 → Q1 M2 → ia (tb_G L xs) dep J_HBars_addWidths (rwV w Q) (39, L', [], M2) := by
    intro M2 L' hM2  h
    replace h := hQ1 _ h
    exact iq_ret J_HBars_addWidths_d39 rfl ⟨rfl, hM2, ed_some h⟩
  obtain ⟨r1, hr1, hq1⟩ := h
  obtain ⟨n1, hn1⟩ := lp_n hr1
  have I1 : ∀ (n : Nat) (x3 : Int32) (M4 : im_M) (L' : List (Nat × Value)), lw_S w M4 → im_lk L' 0 = some (.ref 31) → im_lk L' 1 = some (.int p0) → im_lk L' 3 = some (.int x3) → lpn (uc2 (f_HBars_addWidths_L2 p0)) n (x3, M4) = some r1 → ia (tb_G L xs) dep J_HBars_addWidths (rwV w Q) (2, L', [], M4) := by
    intro n
    induction n with
    | zero => intro x3 M4 L' hM4 l5 l6 l7 hn; exact (lpn_0 hn).elim
    | succ n ih =>
      intro x3 M4 L' hM4 l5 l6 l7 hn
      have h := lpn_ed2 hn
      unfold f_HBars_addWidths_L2 at h
      refine iq_iload_n hS 3 J_HBars_addWidths_d2 l7 rfl ?_
      refine iq_if_le hS 6 J_HBars_addWidths_d3 (t := 39) rfl (fun q3 => ?_) rfl (fun q3 => ?_)
      · replace h := ed_pos q3 h
        exact K1 _ _ hM4  (lq_r h hq1)
      · replace h := ed_neg q3 h
        refine iq_aload_n hS 7 J_HBars_addWidths_d6 l5 rfl ?_
        refine iq_getR hS 10 J_HBars_addWidths_d7 lf_0_17 (Or.inr ⟨_, rfl⟩) (ka_31 hM4) (ra_31_1 hM4) rfl ?_
        refine iq_aload_n hS 11 J_HBars_addWidths_d10 l5 rfl ?_
        refine iq_getI hS 14 J_HBars_addWidths_d11 lf_0_86 (Or.inl rfl) (ka_31 hM4) rfl ?_
        refine iq_iload_n hS 15 J_HBars_addWidths_d14 l6 rfl ?_
        refine iq_iload_n hS 16 J_HBars_addWidths_d15 l7 rfl ?_
        obtain ⟨g16, h⟩ := ed_gd h
        refine iq_idiv hS 17 J_HBars_addWidths_d16 g16 rfl ?_
        refine iq_bipush hS 19 J_HBars_addWidths_d17 (v := 10) (by decide +kernel) rfl ?_
        refine iq_irem hS 20 J_HBars_addWidths_d19 (by decide) rfl ?_
        obtain ⟨g20, h⟩ := ed_gd h
        refine iq_iastore hS 21 J_HBars_addWidths_d20 ⟨(ka_33 hM4).1, (ka_33 hM4).2, g20.1, ix_lt (kl_33 hM4) g20.2⟩ rfl ?_
        refine iq_aload_n hS 22 J_HBars_addWidths_d21 l5 rfl ?_
        refine iq_dup hS 23 J_HBars_addWidths_d22 rfl rfl ?_
        refine iq_getI hS 26 J_HBars_addWidths_d23 lf_0_86 (Or.inl rfl) (ka_31 (lw_sI hM4)) rfl ?_
        refine iq_iconst hS 27 J_HBars_addWidths_d26 (v := 1) (by decide +kernel) rfl ?_
        refine iq_iadd hS 28 J_HBars_addWidths_d27 rfl ?_
        refine iq_putI hS 31 J_HBars_addWidths_d28 lf_0_86 (Or.inl rfl) rfl (ka_31 (lw_sI hM4)) rfl ?_
        refine iq_iload_n hS 32 J_HBars_addWidths_d31 l7 rfl ?_
        refine iq_bipush hS 34 J_HBars_addWidths_d32 (v := 10) (by decide +kernel) rfl ?_
        refine iq_idiv hS 35 J_HBars_addWidths_d34 (by decide) rfl ?_
        refine iq_istore_n hS 36 J_HBars_addWidths_d35 (by decide) rfl ?_
        refine iq_goto hS J_HBars_addWidths_d36 (t := 2) rfl ?_
        exact ih _ _ _ (lw_sI (lw_sI hM4)) (lk_1r l5 (by decide)) (lk_1i l6 (by decide)) lk_1s (lq_l h)
  exact I1 n1 _ _ _ hM (lk_1r l0 (by decide)) (lk_1i l1 (by decide)) lk_1s hn1
theorem f_HBars_addWidths_fr {p0 : Int32} {p1 : Int32} {M : im_M} {r : im_M} (h : f_HBars_addWidths p0 p1 M = some r) : fr 8589934592 [(31, 2)] M r := by
  replace h : ed (f_HBars_addWidths p0 p1 M) (fun x => x = r) := ⟨r, h, rfl⟩
  unfold f_HBars_addWidths at h
  obtain ⟨Q1, hQ1, h⟩ := bd1_ed h
  have K1 : ∀ (M2 : im_M), fr 8589934592 [(31, 2)] M M2 → Q1 M2 → fr 8589934592 [(31, 2)] M r := by
    intro M2 hM2 h
    replace h := hQ1 _ h
    exact fr_retV h hM2
  obtain ⟨r1, hr1, hq1⟩ := h
  obtain ⟨n1, hn1⟩ := lp_n hr1
  have I1 : ∀ (n : Nat) (x3 : Int32) (M4 : im_M), fr 8589934592 [(31, 2)] M M4 → lpn (uc2 (f_HBars_addWidths_L2 p0)) n (x3, M4) = some r1 → fr 8589934592 [(31, 2)] M r := by
    intro n
    induction n with
    | zero => intro x3 M4 hM4 hn; exact (lpn_0 hn).elim
    | succ n ih =>
      intro x3 M4 hM4 hn
      have h := lpn_ed2 hn
      unfold f_HBars_addWidths_L2 at h
      by_cases q3 : x3 ≤ 0
      · replace h := ed_pos q3 h
        exact K1 _ hM4 (lq_r h hq1)
      · replace h := ed_neg q3 h
        obtain ⟨g16, h⟩ := ed_gd h
        obtain ⟨g20, h⟩ := ed_gd h
        exact ih _ _ (fr_F (by decide) (fr_I (by decide) hM4)) (lq_l h)
  exact I1 n1 _ _ fr_refl hn1
noncomputable def f_HBars_layWidths_L7 (x2 : Int32) (M3 : im_M) : Option ((Int32 × im_M) ⊕ (im_M)) := if (im_i M3 31 9) ≤ x2 then some (.inr M3) else gd (inb x2 140) <| gd (inb (im_i M3 36 (Int32.toNatClampNeg x2)) 106) <| bd1 (f_HBars_addWidths (xa_3 (im_i M3 36 (Int32.toNatClampNeg x2))) 100000 M3) fun (M4 : im_M) => some (.inl ((x2 + 1), M4))
noncomputable def f_HBars_layWidths (M : im_M) : Option (im_M) := bd1 (lp (uc2 (f_HBars_layWidths_L7)) (0, (im_setI M 31 2 0))) fun (M5 : im_M) => bd1 (f_HBars_addWidths 2331112 1000000 M5) fun (M6 : im_M) => some M6
theorem J_HBars_layWidths_d0 : decode J_HBars_layWidths.2.1 0 = .ok (.aload_n 0, 1) := by decide +kernel
theorem J_HBars_layWidths_d1 : decode J_HBars_layWidths.2.1 1 = .ok (.iconst 0, 1) := by decide +kernel
theorem J_HBars_layWidths_d2 : decode J_HBars_layWidths.2.1 2 = .ok (.putfield 86, 3) := by decide +kernel
theorem J_HBars_layWidths_d5 : decode J_HBars_layWidths.2.1 5 = .ok (.iconst 0, 1) := by decide +kernel
theorem J_HBars_layWidths_d6 : decode J_HBars_layWidths.2.1 6 = .ok (.istore_n 1, 1) := by decide +kernel
theorem J_HBars_layWidths_d7 : decode J_HBars_layWidths.2.1 7 = .ok (.iload_n 1, 1) := by decide +kernel
theorem J_HBars_layWidths_d8 : decode J_HBars_layWidths.2.1 8 = .ok (.aload_n 0, 1) := by decide +kernel
theorem J_HBars_layWidths_d9 : decode J_HBars_layWidths.2.1 9 = .ok (.getfield 73, 3) := by decide +kernel
theorem J_HBars_layWidths_d12 : decode J_HBars_layWidths.2.1 12 = .ok (.if_icmp .ge 25, 3) := by decide +kernel
theorem J_HBars_layWidths_d15 : decode J_HBars_layWidths.2.1 15 = .ok (.aload_n 0, 1) := by decide +kernel
theorem J_HBars_layWidths_d16 : decode J_HBars_layWidths.2.1 16 = .ok (.getstatic 89, 3) := by decide +kernel
theorem J_HBars_layWidths_d19 : decode J_HBars_layWidths.2.1 19 = .ok (.aload_n 0, 1) := by decide +kernel
theorem J_HBars_layWidths_d20 : decode J_HBars_layWidths.2.1 20 = .ok (.getfield 26, 3) := by decide +kernel
theorem J_HBars_layWidths_d23 : decode J_HBars_layWidths.2.1 23 = .ok (.iload_n 1, 1) := by decide +kernel
theorem J_HBars_layWidths_d24 : decode J_HBars_layWidths.2.1 24 = .ok (.iaload, 1) := by decide +kernel
theorem J_HBars_layWidths_d25 : decode J_HBars_layWidths.2.1 25 = .ok (.iaload, 1) := by decide +kernel
theorem J_HBars_layWidths_d26 : decode J_HBars_layWidths.2.1 26 = .ok (.ldc 92, 2) := by decide +kernel
theorem J_HBars_layWidths_d28 : decode J_HBars_layWidths.2.1 28 = .ok (.invokevirtual 93, 3) := by decide +kernel
theorem J_HBars_layWidths_d31 : decode J_HBars_layWidths.2.1 31 = .ok (.iinc 1 1, 3) := by decide +kernel
theorem J_HBars_layWidths_d34 : decode J_HBars_layWidths.2.1 34 = .ok (.goto (-27), 3) := by decide +kernel
theorem J_HBars_layWidths_d37 : decode J_HBars_layWidths.2.1 37 = .ok (.aload_n 0, 1) := by decide +kernel
theorem J_HBars_layWidths_d38 : decode J_HBars_layWidths.2.1 38 = .ok (.ldc 97, 2) := by decide +kernel
theorem J_HBars_layWidths_d40 : decode J_HBars_layWidths.2.1 40 = .ok (.ldc 98, 2) := by decide +kernel
theorem J_HBars_layWidths_d42 : decode J_HBars_layWidths.2.1 42 = .ok (.invokevirtual 93, 3) := by decide +kernel
theorem J_HBars_layWidths_d45 : decode J_HBars_layWidths.2.1 45 = .ok (.return_, 1) := by decide +kernel
theorem f_HBars_layWidths_ok {L : Nat} {xs : Nat → Int32} {dep : Nat} {w : Bool} {M : im_M} {Q : im_M → Prop} (hM : lw_S w M) (h : ed (f_HBars_layWidths M) Q) : ia (tb_G L xs) (dep + 1) J_HBars_layWidths (rwV w Q) (0, lv_args 0 [.ref 31], [], M) := by
  have hS : im_St (tb_G L xs) (dep + 1) J_HBars_layWidths (ia (tb_G L xs) (dep + 1) J_HBars_layWidths (rwV w Q)) := ia_St
  unfold f_HBars_layWidths at h
  have l0 : im_lk (lv_args 0 [.ref 31]) 0 = some (.ref 31) := rfl
  refine iq_aload_n hS 1 J_HBars_layWidths_d0 l0 rfl ?_
  refine iq_iconst hS 2 J_HBars_layWidths_d1 (v := 0) (by decide +kernel) rfl ?_
  refine iq_putI hS 5 J_HBars_layWidths_d2 lf_0_86 (Or.inl rfl) rfl (ka_31 hM) rfl ?_
  refine iq_iconst hS 6 J_HBars_layWidths_d5 (v := 0) (by decide +kernel) rfl ?_
  refine iq_istore_n hS 7 J_HBars_layWidths_d6 (by decide) rfl ?_
  obtain ⟨Q1, hQ1, h⟩ := bd1_ed h
  have K1 : ∀ (M2 : im_M) (L' : List (Nat × Value)), lw_S w M2 → im_lk L' 0 = some (.ref 31) → Q1 M2 → ia (tb_G L xs) (dep + 1) J_HBars_layWidths (rwV w Q) (37, L', [], M2) := by
    intro M2 L' hM2 l3 h
    replace h := hQ1 _ h
    refine iq_aload_n hS 38 J_HBars_layWidths_d37 l3 rfl ?_
    refine iq_ldc hS 40 J_HBars_layWidths_d38 lk_0_97 rfl ?_
    refine iq_ldc hS 42 J_HBars_layWidths_d40 lk_0_98 rfl ?_
    obtain ⟨Q4, hQ4, h⟩ := bd1_ed h
    refine iq_cwV hS 45 J_HBars_layWidths_d42 rfl (pr_inst (vs := [_, _]) lc_0_93 lT_127 rfl rfl (by decide) (by decide) rfl (Nat.le_of_ble_eq_true rfl) (Nat.le_of_ble_eq_true rfl) (fun _ => Or.inl (pr_b (ka_31 hM2) (by decide) rfl))) (f_HBars_addWidths_ok (dep := dep + 0) hM2 h) rfl ?_
    intro M4 hM4 h
    replace h := hQ4 _ h
    exact iq_ret J_HBars_layWidths_d45 rfl ⟨rfl, hM4, ed_some h⟩
  obtain ⟨r1, hr1, hq1⟩ := h
  obtain ⟨n1, hn1⟩ := lp_n hr1
  have I1 : ∀ (n : Nat) (x5 : Int32) (M6 : im_M) (L' : List (Nat × Value)), lw_S w M6 → im_lk L' 0 = some (.ref 31) → im_lk L' 1 = some (.int x5) → lpn (uc2 (f_HBars_layWidths_L7)) n (x5, M6) = some r1 → ia (tb_G L xs) (dep + 1) J_HBars_layWidths (rwV w Q) (7, L', [], M6) := by
    intro n
    induction n with
    | zero => intro x5 M6 L' hM6 l7 l8 hn; exact (lpn_0 hn).elim
    | succ n ih =>
      intro x5 M6 L' hM6 l7 l8 hn
      have h := lpn_ed2 hn
      unfold f_HBars_layWidths_L7 at h
      refine iq_iload_n hS 8 J_HBars_layWidths_d7 l8 rfl ?_
      refine iq_aload_n hS 9 J_HBars_layWidths_d8 l7 rfl ?_
      refine iq_getI hS 12 J_HBars_layWidths_d9 lf_0_73 (Or.inl rfl) (ka_31 hM6) rfl ?_
      refine iq_icmp_ge hS 15 J_HBars_layWidths_d12 (t := 37) rfl (fun q12 => ?_) rfl (fun q12 => ?_)
      · replace h := ed_pos q12 h
        exact K1 _ _ hM6 l7 (lq_r h hq1)
      · replace h := ed_neg q12 h
        refine iq_aload_n hS 16 J_HBars_layWidths_d15 l7 rfl ?_
        refine iq_getstatic hS 19 J_HBars_layWidths_d16 gs_0_89 rfl ?_
        refine iq_aload_n hS 20 J_HBars_layWidths_d19 l7 rfl ?_
        refine iq_getR hS 23 J_HBars_layWidths_d20 lf_0_26 (Or.inr ⟨_, rfl⟩) (ka_31 hM6) (ra_31_8 hM6) rfl ?_
        refine iq_iload_n hS 24 J_HBars_layWidths_d23 l8 rfl ?_
        obtain ⟨g24, h⟩ := ed_gd h
        refine iq_iaload hS 25 J_HBars_layWidths_d24 ⟨(ka_36 hM6).1, (ka_36 hM6).2, g24.1, ix_lt (kl_36 hM6) g24.2⟩ rfl ?_
        obtain ⟨g25, h⟩ := ed_gd h
        refine iq_xl_3 hS 26 J_HBars_layWidths_d25 hM6 g25 rfl ?_
        refine iq_ldc hS 28 J_HBars_layWidths_d26 lk_0_92 rfl ?_
        obtain ⟨Q9, hQ9, h⟩ := bd1_ed h
        refine iq_cwV hS 31 J_HBars_layWidths_d28 rfl (pr_inst (vs := [_, _]) lc_0_93 lT_127 rfl rfl (by decide) (by decide) rfl (Nat.le_of_ble_eq_true rfl) (Nat.le_of_ble_eq_true rfl) (fun _ => Or.inl (pr_b (ka_31 hM6) (by decide) rfl))) (f_HBars_addWidths_ok (dep := dep + 0) hM6 h) rfl ?_
        intro M9 hM9 h
        replace h := hQ9 _ h
        refine iq_iincv hS 34 J_HBars_layWidths_d31 (c := 1) (by decide +kernel) l8 (by decide) rfl ?_
        refine iq_goto hS J_HBars_layWidths_d34 (t := 7) rfl ?_
        exact ih _ _ _ hM9 (lk_1r l7 (by decide)) lk_1s (lq_l h)
  exact I1 n1 _ _ _ (lw_sI hM) (lk_1r l0 (by decide)) lk_1s hn1
theorem f_HBars_layWidths_fr {M : im_M} {r : im_M} (h : f_HBars_layWidths M = some r) : fr 8589934592 [(31, 2)] M r := by
  replace h : ed (f_HBars_layWidths M) (fun x => x = r) := ⟨r, h, rfl⟩
  unfold f_HBars_layWidths at h
  obtain ⟨Q1, hQ1, h⟩ := bd1_ed h
  have K1 : ∀ (M2 : im_M), fr 8589934592 [(31, 2)] M M2 → Q1 M2 → fr 8589934592 [(31, 2)] M r := by
    intro M2 hM2 h
    replace h := hQ1 _ h
    obtain ⟨Q3, hQ3, h⟩ := bd1_ed h
    obtain ⟨M3, e3, h⟩ := h
    replace h := hQ3 _ h
    exact fr_retV h (fr_tr (fr_mono (by decide) (by decide +kernel) (f_HBars_addWidths_fr e3)) hM2)
  obtain ⟨r1, hr1, hq1⟩ := h
  obtain ⟨n1, hn1⟩ := lp_n hr1
  have I1 : ∀ (n : Nat) (x4 : Int32) (M5 : im_M), fr 8589934592 [(31, 2)] M M5 → lpn (uc2 (f_HBars_layWidths_L7)) n (x4, M5) = some r1 → fr 8589934592 [(31, 2)] M r := by
    intro n
    induction n with
    | zero => intro x4 M5 hM5 hn; exact (lpn_0 hn).elim
    | succ n ih =>
      intro x4 M5 hM5 hn
      have h := lpn_ed2 hn
      unfold f_HBars_layWidths_L7 at h
      by_cases q12 : (im_i M5 31 9) ≤ x4
      · replace h := ed_pos q12 h
        exact K1 _ hM5 (lq_r h hq1)
      · replace h := ed_neg q12 h
        obtain ⟨g24, h⟩ := ed_gd h
        obtain ⟨g25, h⟩ := ed_gd h
        obtain ⟨Q6, hQ6, h⟩ := bd1_ed h
        obtain ⟨M6, e6, h⟩ := h
        replace h := hQ6 _ h
        exact ih _ _ (fr_tr (fr_mono (by decide) (by decide +kernel) (f_HBars_addWidths_fr e6)) hM5) (lq_l h)
  exact I1 n1 _ _ (fr_F (by decide) fr_refl) hn1
noncomputable def f_HBars_layText_L11 (v2 : Int32) (v3 : Int32) (x4 : Int32) (M5 : im_M) : Option ((Int32 × im_M) ⊕ ((im_M) ⊕ (Int32 × im_M))) := if v3 ≤ x4 then some (.inr (.inl M5)) else gd (inb (v2 + x4) 24000) <| gd (inb x4 65) <| gd (inb x4 65) <| if (im_i (im_setI M5 34 (Int32.toNatClampNeg x4) ((im_i M5 14 (Int32.toNatClampNeg (v2 + x4))) &&& 255)) 34 (Int32.toNatClampNeg x4)) ≤ 128 then some (.inl ((x4 + 1), (im_setI M5 34 (Int32.toNatClampNeg x4) ((im_i M5 14 (Int32.toNatClampNeg (v2 + x4))) &&& 255)))) else some (.inr (.inr (0, (im_setI M5 34 (Int32.toNatClampNeg x4) ((im_i M5 14 (Int32.toNatClampNeg (v2 + x4))) &&& 255)))))
noncomputable def f_HBars_layText (p1 : Int32) (p2 : Int32) (M : im_M) : Option (Int32 × im_M) := if p2 ≤ 64 then bs1 (lp (uc2 (f_HBars_layText_L11 p1 p2)) (0, M)) (fun (M6 : im_M) => bd1 (f_HBars_countFewest (im_setI M6 31 6 p2)) fun (M7 : im_M) => bd1 (f_HBars_chooseSymbols M7) fun (M8 : im_M) => bd1 (f_HBars_layWidths M8) fun (M9 : im_M) => some (1, M9)) (fun t => some t) else some (0, M)
theorem J_HBars_layText_d0 : decode J_HBars_layText.2.1 0 = .ok (.iload_n 3, 1) := by decide +kernel
theorem J_HBars_layText_d1 : decode J_HBars_layText.2.1 1 = .ok (.bipush 64, 2) := by decide +kernel
theorem J_HBars_layText_d3 : decode J_HBars_layText.2.1 3 = .ok (.if_icmp .le 5, 3) := by decide +kernel
theorem J_HBars_layText_d6 : decode J_HBars_layText.2.1 6 = .ok (.iconst 0, 1) := by decide +kernel
theorem J_HBars_layText_d7 : decode J_HBars_layText.2.1 7 = .ok (.ireturn, 1) := by decide +kernel
theorem J_HBars_layText_d8 : decode J_HBars_layText.2.1 8 = .ok (.iconst 0, 1) := by decide +kernel
theorem J_HBars_layText_d9 : decode J_HBars_layText.2.1 9 = .ok (.istore 4, 2) := by decide +kernel
theorem J_HBars_layText_d11 : decode J_HBars_layText.2.1 11 = .ok (.iload 4, 2) := by decide +kernel
theorem J_HBars_layText_d13 : decode J_HBars_layText.2.1 13 = .ok (.iload_n 3, 1) := by decide +kernel
theorem J_HBars_layText_d14 : decode J_HBars_layText.2.1 14 = .ok (.if_icmp .ge 41, 3) := by decide +kernel
theorem J_HBars_layText_d17 : decode J_HBars_layText.2.1 17 = .ok (.aload_n 0, 1) := by decide +kernel
theorem J_HBars_layText_d18 : decode J_HBars_layText.2.1 18 = .ok (.getfield 20, 3) := by decide +kernel
theorem J_HBars_layText_d21 : decode J_HBars_layText.2.1 21 = .ok (.iload 4, 2) := by decide +kernel
theorem J_HBars_layText_d23 : decode J_HBars_layText.2.1 23 = .ok (.aload_n 1, 1) := by decide +kernel
theorem J_HBars_layText_d24 : decode J_HBars_layText.2.1 24 = .ok (.iload_n 2, 1) := by decide +kernel
theorem J_HBars_layText_d25 : decode J_HBars_layText.2.1 25 = .ok (.iload 4, 2) := by decide +kernel
theorem J_HBars_layText_d27 : decode J_HBars_layText.2.1 27 = .ok (.iadd, 1) := by decide +kernel
theorem J_HBars_layText_d28 : decode J_HBars_layText.2.1 28 = .ok (.baload, 1) := by decide +kernel
theorem J_HBars_layText_d29 : decode J_HBars_layText.2.1 29 = .ok (.sipush 255, 3) := by decide +kernel
theorem J_HBars_layText_d32 : decode J_HBars_layText.2.1 32 = .ok (.iand, 1) := by decide +kernel
theorem J_HBars_layText_d33 : decode J_HBars_layText.2.1 33 = .ok (.iastore, 1) := by decide +kernel
theorem J_HBars_layText_d34 : decode J_HBars_layText.2.1 34 = .ok (.aload_n 0, 1) := by decide +kernel
theorem J_HBars_layText_d35 : decode J_HBars_layText.2.1 35 = .ok (.getfield 20, 3) := by decide +kernel
theorem J_HBars_layText_d38 : decode J_HBars_layText.2.1 38 = .ok (.iload 4, 2) := by decide +kernel
theorem J_HBars_layText_d40 : decode J_HBars_layText.2.1 40 = .ok (.iaload, 1) := by decide +kernel
theorem J_HBars_layText_d41 : decode J_HBars_layText.2.1 41 = .ok (.sipush 128, 3) := by decide +kernel
theorem J_HBars_layText_d44 : decode J_HBars_layText.2.1 44 = .ok (.if_icmp .le 5, 3) := by decide +kernel
theorem J_HBars_layText_d47 : decode J_HBars_layText.2.1 47 = .ok (.iconst 0, 1) := by decide +kernel
theorem J_HBars_layText_d48 : decode J_HBars_layText.2.1 48 = .ok (.ireturn, 1) := by decide +kernel
theorem J_HBars_layText_d49 : decode J_HBars_layText.2.1 49 = .ok (.iinc 4 1, 3) := by decide +kernel
theorem J_HBars_layText_d52 : decode J_HBars_layText.2.1 52 = .ok (.goto (-41), 3) := by decide +kernel
theorem J_HBars_layText_d55 : decode J_HBars_layText.2.1 55 = .ok (.aload_n 0, 1) := by decide +kernel
theorem J_HBars_layText_d56 : decode J_HBars_layText.2.1 56 = .ok (.iload_n 3, 1) := by decide +kernel
theorem J_HBars_layText_d57 : decode J_HBars_layText.2.1 57 = .ok (.putfield 32, 3) := by decide +kernel
theorem J_HBars_layText_d60 : decode J_HBars_layText.2.1 60 = .ok (.aload_n 0, 1) := by decide +kernel
theorem J_HBars_layText_d61 : decode J_HBars_layText.2.1 61 = .ok (.invokevirtual 36, 3) := by decide +kernel
theorem J_HBars_layText_d64 : decode J_HBars_layText.2.1 64 = .ok (.aload_n 0, 1) := by decide +kernel
theorem J_HBars_layText_d65 : decode J_HBars_layText.2.1 65 = .ok (.invokevirtual 39, 3) := by decide +kernel
theorem J_HBars_layText_d68 : decode J_HBars_layText.2.1 68 = .ok (.aload_n 0, 1) := by decide +kernel
theorem J_HBars_layText_d69 : decode J_HBars_layText.2.1 69 = .ok (.invokevirtual 42, 3) := by decide +kernel
theorem J_HBars_layText_d72 : decode J_HBars_layText.2.1 72 = .ok (.iconst 1, 1) := by decide +kernel
theorem J_HBars_layText_d73 : decode J_HBars_layText.2.1 73 = .ok (.ireturn, 1) := by decide +kernel
theorem f_HBars_layText_ok {L : Nat} {xs : Nat → Int32} {dep : Nat} {w : Bool} {p1 : Int32} {p2 : Int32} {M : im_M} {Q : Int32 × im_M → Prop} (hM : lw_S w M) (h : ed (f_HBars_layText p1 p2 M) Q) : ia (tb_G L xs) (dep + 4) J_HBars_layText (rwI w Q) (0, lv_args 0 [.ref 31, .ref 14, .int p1, .int p2], [], M) := by
  have hS : im_St (tb_G L xs) (dep + 4) J_HBars_layText (ia (tb_G L xs) (dep + 4) J_HBars_layText (rwI w Q)) := ia_St
  unfold f_HBars_layText at h
  have l0 : im_lk (lv_args 0 [.ref 31, .ref 14, .int p1, .int p2]) 0 = some (.ref 31) := rfl
  have l1 : im_lk (lv_args 0 [.ref 31, .ref 14, .int p1, .int p2]) 1 = some (.ref 14) := rfl
  have l2 : im_lk (lv_args 0 [.ref 31, .ref 14, .int p1, .int p2]) 2 = some (.int p1) := rfl
  have l3 : im_lk (lv_args 0 [.ref 31, .ref 14, .int p1, .int p2]) 3 = some (.int p2) := rfl
  refine iq_iload_n hS 1 J_HBars_layText_d0 l3 rfl ?_
  refine iq_bipush hS 3 J_HBars_layText_d1 (v := 64) (by decide +kernel) rfl ?_
  refine iq_icmp_le hS 6 J_HBars_layText_d3 (t := 8) rfl (fun q3 => ?_) rfl (fun q3 => ?_)
  · replace h := ed_pos q3 h
    refine iq_iconst hS 9 J_HBars_layText_d8 (v := 0) (by decide +kernel) rfl ?_
    refine iq_istore hS 11 J_HBars_layText_d9 (by decide) rfl ?_
    obtain ⟨Q1, hQ1, hR1, h⟩ := bs1_ed h
    have K1 : ∀ (M2 : im_M) (L' : List (Nat × Value)), lw_S w M2 → im_lk L' 0 = some (.ref 31) → im_lk L' 3 = some (.int p2) → Q1 (.inl M2) → ia (tb_G L xs) (dep + 4) J_HBars_layText (rwI w Q) (55, L', [], M2) := by
      intro M2 L' hM2 l3 l4 h
      replace h := hQ1 _ h
      refine iq_aload_n hS 56 J_HBars_layText_d55 l3 rfl ?_
      refine iq_iload_n hS 57 J_HBars_layText_d56 l4 rfl ?_
      refine iq_putI hS 60 J_HBars_layText_d57 lf_0_32 (Or.inl rfl) rfl (ka_31 hM2) rfl ?_
      refine iq_aload_n hS 61 J_HBars_layText_d60 l3 rfl ?_
      obtain ⟨Q5, hQ5, h⟩ := bd1_ed h
      refine iq_cwV hS 64 J_HBars_layText_d61 rfl (pr_inst (vs := []) lc_0_36 lT_116 rfl rfl (by decide) (by decide) rfl (Nat.le_of_ble_eq_true rfl) (Nat.le_of_ble_eq_true rfl) (fun _ => Or.inl (pr_b (ka_31 (lw_sI hM2)) (by decide) rfl))) (f_HBars_countFewest_ok (dep := dep + 0) (lw_sI hM2) h) rfl ?_
      intro M5 hM5 h
      replace h := hQ5 _ h
      refine iq_aload_n hS 65 J_HBars_layText_d64 l3 rfl ?_
      obtain ⟨Q6, hQ6, h⟩ := bd1_ed h
      refine iq_cwV hS 68 J_HBars_layText_d65 rfl (pr_inst (vs := []) lc_0_39 lT_122 rfl rfl (by decide) (by decide) rfl (Nat.le_of_ble_eq_true rfl) (Nat.le_of_ble_eq_true rfl) (fun _ => Or.inl (pr_b (ka_31 hM5) (by decide) rfl))) (f_HBars_chooseSymbols_ok (dep := dep + 0) hM5 h) rfl ?_
      intro M6 hM6 h
      replace h := hQ6 _ h
      refine iq_aload_n hS 69 J_HBars_layText_d68 l3 rfl ?_
      obtain ⟨Q7, hQ7, h⟩ := bd1_ed h
      refine iq_cwV hS 72 J_HBars_layText_d69 rfl (pr_inst (vs := []) lc_0_42 lT_126 rfl rfl (by decide) (by decide) rfl (Nat.le_of_ble_eq_true rfl) (Nat.le_of_ble_eq_true rfl) (fun _ => Or.inl (pr_b (ka_31 hM6) (by decide) rfl))) (f_HBars_layWidths_ok (dep := dep + 2) hM6 h) rfl ?_
      intro M7 hM7 h
      replace h := hQ7 _ h
      refine iq_iconst hS 73 J_HBars_layText_d72 (v := 1) (by decide +kernel) rfl ?_
      exact iq_iret J_HBars_layText_d73 rfl rfl ⟨_, rfl, hM7, ed_some h⟩
    obtain ⟨r1, hr1, hq1⟩ := h
    obtain ⟨n1, hn1⟩ := lp_n hr1
    have I1 : ∀ (n : Nat) (x8 : Int32) (M9 : im_M) (L' : List (Nat × Value)), lw_S w M9 → im_lk L' 0 = some (.ref 31) → im_lk L' 1 = some (.ref 14) → im_lk L' 2 = some (.int p1) → im_lk L' 3 = some (.int p2) → im_lk L' 4 = some (.int x8) → lpn (uc2 (f_HBars_layText_L11 p1 p2)) n (x8, M9) = some r1 → ia (tb_G L xs) (dep + 4) J_HBars_layText (rwI w Q) (11, L', [], M9) := by
      intro n
      induction n with
      | zero => intro x8 M9 L' hM9 l10 l11 l12 l13 l14 hn; exact (lpn_0 hn).elim
      | succ n ih =>
        intro x8 M9 L' hM9 l10 l11 l12 l13 l14 hn
        have h := lpn_ed2 hn
        unfold f_HBars_layText_L11 at h
        refine iq_iload hS 13 J_HBars_layText_d11 l14 rfl ?_
        refine iq_iload_n hS 14 J_HBars_layText_d13 l13 rfl ?_
        refine iq_icmp_ge hS 17 J_HBars_layText_d14 (t := 55) rfl (fun q14 => ?_) rfl (fun q14 => ?_)
        · replace h := ed_pos q14 h
          exact K1 _ _ hM9 l10 l13 (lq_r h hq1)
        · replace h := ed_neg q14 h
          refine iq_aload_n hS 18 J_HBars_layText_d17 l10 rfl ?_
          refine iq_getR hS 21 J_HBars_layText_d18 lf_0_20 (Or.inr ⟨_, rfl⟩) (ka_31 hM9) (ra_31_5 hM9) rfl ?_
          refine iq_iload hS 23 J_HBars_layText_d21 l14 rfl ?_
          refine iq_aload_n hS 24 J_HBars_layText_d23 l11 rfl ?_
          refine iq_iload_n hS 25 J_HBars_layText_d24 l12 rfl ?_
          refine iq_iload hS 27 J_HBars_layText_d25 l14 rfl ?_
          refine iq_iadd hS 28 J_HBars_layText_d27 rfl ?_
          obtain ⟨g28, h⟩ := ed_gd h
          refine iq_baload hS 29 J_HBars_layText_d28 ⟨(ka_14 hM9).1, (ka_14 hM9).2, g28.1, ix_lt (kl_14 hM9) g28.2⟩ rfl ?_
          refine iq_sipush hS 32 J_HBars_layText_d29 (v := 255) (by decide +kernel) rfl ?_
          refine iq_iand hS 33 J_HBars_layText_d32 rfl ?_
          obtain ⟨g33, h⟩ := ed_gd h
          refine iq_iastore hS 34 J_HBars_layText_d33 ⟨(ka_34 hM9).1, (ka_34 hM9).2, g33.1, ix_lt (kl_34 hM9) g33.2⟩ rfl ?_
          refine iq_aload_n hS 35 J_HBars_layText_d34 l10 rfl ?_
          refine iq_getR hS 38 J_HBars_layText_d35 lf_0_20 (Or.inr ⟨_, rfl⟩) (ka_31 (lw_sI hM9)) (ra_31_5 (lw_sI hM9)) rfl ?_
          refine iq_iload hS 40 J_HBars_layText_d38 l14 rfl ?_
          obtain ⟨g40, h⟩ := ed_gd h
          refine iq_iaload hS 41 J_HBars_layText_d40 ⟨(ka_34 (lw_sI hM9)).1, (ka_34 (lw_sI hM9)).2, g40.1, ix_lt (kl_34 (lw_sI hM9)) g40.2⟩ rfl ?_
          refine iq_sipush hS 44 J_HBars_layText_d41 (v := 128) (by decide +kernel) rfl ?_
          refine iq_icmp_le hS 47 J_HBars_layText_d44 (t := 49) rfl (fun q44 => ?_) rfl (fun q44 => ?_)
          · replace h := ed_pos q44 h
            refine iq_iincv hS 52 J_HBars_layText_d49 (c := 1) (by decide +kernel) l14 (by decide) rfl ?_
            refine iq_goto hS J_HBars_layText_d52 (t := 11) rfl ?_
            exact ih _ _ _ (lw_sI hM9) (lk_1r l10 (by decide)) (lk_1r l11 (by decide)) (lk_1i l12 (by decide)) (lk_1i l13 (by decide)) lk_1s (lq_l h)
          · replace h := ed_neg q44 h
            refine iq_iconst hS 48 J_HBars_layText_d47 (v := 0) (by decide +kernel) rfl ?_
            exact iq_iret J_HBars_layText_d48 rfl rfl ⟨_, rfl, (lw_sI hM9), ed_some (hR1 _ (lq_r h hq1))⟩
    exact I1 n1 _ _ _ hM (lk_1r l0 (by decide)) (lk_1r l1 (by decide)) (lk_1i l2 (by decide)) (lk_1i l3 (by decide)) lk_1s hn1
  · replace h := ed_neg q3 h
    refine iq_iconst hS 7 J_HBars_layText_d6 (v := 0) (by decide +kernel) rfl ?_
    exact iq_iret J_HBars_layText_d7 rfl rfl ⟨_, rfl, hM, ed_some h⟩
theorem f_HBars_layText_fr {p1 : Int32} {p2 : Int32} {M : im_M} {r : Int32 × im_M} (h : f_HBars_layText p1 p2 M = some r) : fr 128849018880 [(31, 2), (31, 6), (31, 9)] M r.2 := by
  replace h : ed (f_HBars_layText p1 p2 M) (fun x => x = r) := ⟨r, h, rfl⟩
  unfold f_HBars_layText at h
  by_cases q3 : p2 ≤ 64
  · replace h := ed_pos q3 h
    obtain ⟨Q1, hQ1, hR1, h⟩ := bs1_ed h
    have K1 : ∀ (M2 : im_M), fr 128849018880 [(31, 2), (31, 6), (31, 9)] M M2 → Q1 (.inl M2) → fr 128849018880 [(31, 2), (31, 6), (31, 9)] M r.2 := by
      intro M2 hM2 h
      replace h := hQ1 _ h
      obtain ⟨Q3, hQ3, h⟩ := bd1_ed h
      obtain ⟨M3, e3, h⟩ := h
      replace h := hQ3 _ h
      obtain ⟨Q4, hQ4, h⟩ := bd1_ed h
      obtain ⟨M4, e4, h⟩ := h
      replace h := hQ4 _ h
      obtain ⟨Q5, hQ5, h⟩ := bd1_ed h
      obtain ⟨M5, e5, h⟩ := h
      replace h := hQ5 _ h
      exact fr_ret h (fr_tr (fr_mono (by decide) (by decide +kernel) (f_HBars_layWidths_fr e5)) (fr_tr (fr_mono (by decide) (by decide +kernel) (f_HBars_chooseSymbols_fr e4)) (fr_tr (fr_mono (by decide) (by decide +kernel) (f_HBars_countFewest_fr e3)) (fr_F (by decide) hM2))))
    obtain ⟨r1, hr1, hq1⟩ := h
    obtain ⟨n1, hn1⟩ := lp_n hr1
    have I1 : ∀ (n : Nat) (x6 : Int32) (M7 : im_M), fr 128849018880 [(31, 2), (31, 6), (31, 9)] M M7 → lpn (uc2 (f_HBars_layText_L11 p1 p2)) n (x6, M7) = some r1 → fr 128849018880 [(31, 2), (31, 6), (31, 9)] M r.2 := by
      intro n
      induction n with
      | zero => intro x6 M7 hM7 hn; exact (lpn_0 hn).elim
      | succ n ih =>
        intro x6 M7 hM7 hn
        have h := lpn_ed2 hn
        unfold f_HBars_layText_L11 at h
        by_cases q14 : p2 ≤ x6
        · replace h := ed_pos q14 h
          exact K1 _ hM7 (lq_r h hq1)
        · replace h := ed_neg q14 h
          obtain ⟨g28, h⟩ := ed_gd h
          obtain ⟨g33, h⟩ := ed_gd h
          obtain ⟨g40, h⟩ := ed_gd h
          by_cases q44 : (im_i (im_setI M7 34 (Int32.toNatClampNeg x6) ((im_i M7 14 (Int32.toNatClampNeg (p1 + x6))) &&& 255)) 34 (Int32.toNatClampNeg x6)) ≤ 128
          · replace h := ed_pos q44 h
            exact ih _ _ (fr_I (by decide) hM7) (lq_l h)
          · replace h := ed_neg q44 h
            exact fr_ret (hR1 _ (lq_r h hq1)) (fr_I (by decide) hM7)
    exact I1 n1 _ _ fr_refl hn1
  · replace h := ed_neg q3 h
    exact fr_ret h fr_refl
noncomputable def f_HPen_drawBars_L6 (w : Bool) (v2 : Int32) (v3 : Int32) (v4 : Int32) (x5 : Int32) (x6 : Int32) (M7 : im_M) : Option ((Int32 × Int32 × im_M) ⊕ (im_M)) := if v2 = 0 then some (.inr M7) else if (im_i M7 31 2) ≤ x6 then some (.inr M7) else gd (inb x6 900) <| bd1 (if ¬ (x6 - x6 / 2 * 2) = 0 then some M7 else bd1 (f_HPen_strike w x5 0 (v3 * (im_i M7 33 (Int32.toNatClampNeg x6))) v4 M7) fun (M9 : im_M) => some M9) fun (M10 : im_M) => some (.inl ((x5 + (v3 * (im_i M7 33 (Int32.toNatClampNeg x6)))), (x6 + 1), M10))
noncomputable def f_HPen_drawBars (w : Bool) (p0 : Int32) (p1 : Int32) (p2 : Int32) (M : im_M) : Option (im_M) := bd1 (lp (uc3 (f_HPen_drawBars_L6 w p0 p1 p2)) (0, 0, M)) fun (M18 : im_M) => some M18
theorem J_HPen_drawBars_d0 : decode J_HPen_drawBars.2.1 0 = .ok (.iconst 0, 1) := by decide +kernel
theorem J_HPen_drawBars_d1 : decode J_HPen_drawBars.2.1 1 = .ok (.istore 4, 2) := by decide +kernel
theorem J_HPen_drawBars_d3 : decode J_HPen_drawBars.2.1 3 = .ok (.iconst 0, 1) := by decide +kernel
theorem J_HPen_drawBars_d4 : decode J_HPen_drawBars.2.1 4 = .ok (.istore 5, 2) := by decide +kernel
theorem J_HPen_drawBars_d6 : decode J_HPen_drawBars.2.1 6 = .ok (.iload_n 1, 1) := by decide +kernel
theorem J_HPen_drawBars_d7 : decode J_HPen_drawBars.2.1 7 = .ok (.ifCond .eq 59, 3) := by decide +kernel
theorem J_HPen_drawBars_d10 : decode J_HPen_drawBars.2.1 10 = .ok (.iload 5, 2) := by decide +kernel
theorem J_HPen_drawBars_d12 : decode J_HPen_drawBars.2.1 12 = .ok (.aload_n 0, 1) := by decide +kernel
theorem J_HPen_drawBars_d13 : decode J_HPen_drawBars.2.1 13 = .ok (.getfield 23, 3) := by decide +kernel
theorem J_HPen_drawBars_d16 : decode J_HPen_drawBars.2.1 16 = .ok (.getfield 121, 3) := by decide +kernel
theorem J_HPen_drawBars_d19 : decode J_HPen_drawBars.2.1 19 = .ok (.if_icmp .ge 47, 3) := by decide +kernel
theorem J_HPen_drawBars_d22 : decode J_HPen_drawBars.2.1 22 = .ok (.iload_n 2, 1) := by decide +kernel
theorem J_HPen_drawBars_d23 : decode J_HPen_drawBars.2.1 23 = .ok (.aload_n 0, 1) := by decide +kernel
theorem J_HPen_drawBars_d24 : decode J_HPen_drawBars.2.1 24 = .ok (.getfield 23, 3) := by decide +kernel
theorem J_HPen_drawBars_d27 : decode J_HPen_drawBars.2.1 27 = .ok (.getfield 124, 3) := by decide +kernel
theorem J_HPen_drawBars_d30 : decode J_HPen_drawBars.2.1 30 = .ok (.iload 5, 2) := by decide +kernel
theorem J_HPen_drawBars_d32 : decode J_HPen_drawBars.2.1 32 = .ok (.iaload, 1) := by decide +kernel
theorem J_HPen_drawBars_d33 : decode J_HPen_drawBars.2.1 33 = .ok (.imul, 1) := by decide +kernel
theorem J_HPen_drawBars_d34 : decode J_HPen_drawBars.2.1 34 = .ok (.istore 6, 2) := by decide +kernel
theorem J_HPen_drawBars_d36 : decode J_HPen_drawBars.2.1 36 = .ok (.iload 5, 2) := by decide +kernel
theorem J_HPen_drawBars_d38 : decode J_HPen_drawBars.2.1 38 = .ok (.iconst 2, 1) := by decide +kernel
theorem J_HPen_drawBars_d39 : decode J_HPen_drawBars.2.1 39 = .ok (.irem, 1) := by decide +kernel
theorem J_HPen_drawBars_d40 : decode J_HPen_drawBars.2.1 40 = .ok (.ifCond .ne 13, 3) := by decide +kernel
theorem J_HPen_drawBars_d43 : decode J_HPen_drawBars.2.1 43 = .ok (.aload_n 0, 1) := by decide +kernel
theorem J_HPen_drawBars_d44 : decode J_HPen_drawBars.2.1 44 = .ok (.iload 4, 2) := by decide +kernel
theorem J_HPen_drawBars_d46 : decode J_HPen_drawBars.2.1 46 = .ok (.iconst 0, 1) := by decide +kernel
theorem J_HPen_drawBars_d47 : decode J_HPen_drawBars.2.1 47 = .ok (.iload 6, 2) := by decide +kernel
theorem J_HPen_drawBars_d49 : decode J_HPen_drawBars.2.1 49 = .ok (.iload_n 3, 1) := by decide +kernel
theorem J_HPen_drawBars_d50 : decode J_HPen_drawBars.2.1 50 = .ok (.invokevirtual 118, 3) := by decide +kernel
theorem J_HPen_drawBars_d53 : decode J_HPen_drawBars.2.1 53 = .ok (.iload 4, 2) := by decide +kernel
theorem J_HPen_drawBars_d55 : decode J_HPen_drawBars.2.1 55 = .ok (.iload 6, 2) := by decide +kernel
theorem J_HPen_drawBars_d57 : decode J_HPen_drawBars.2.1 57 = .ok (.iadd, 1) := by decide +kernel
theorem J_HPen_drawBars_d58 : decode J_HPen_drawBars.2.1 58 = .ok (.istore 4, 2) := by decide +kernel
theorem J_HPen_drawBars_d60 : decode J_HPen_drawBars.2.1 60 = .ok (.iinc 5 1, 3) := by decide +kernel
theorem J_HPen_drawBars_d63 : decode J_HPen_drawBars.2.1 63 = .ok (.goto (-57), 3) := by decide +kernel
theorem J_HPen_drawBars_d66 : decode J_HPen_drawBars.2.1 66 = .ok (.return_, 1) := by decide +kernel
theorem f_HPen_drawBars_ok {L : Nat} {xs : Nat → Int32} {dep : Nat} {w : Bool} {p0 : Int32} {p1 : Int32} {p2 : Int32} {M : im_M} {Q : im_M → Prop} (hM : lw_S w M) (h : ed (f_HPen_drawBars w p0 p1 p2 M) Q) : ia (tb_G L xs) (dep + 3) J_HPen_drawBars (rwV w Q) (0, lv_args 0 [.ref 56, .int p0, .int p1, .int p2], [], M) := by
  have hS : im_St (tb_G L xs) (dep + 3) J_HPen_drawBars (ia (tb_G L xs) (dep + 3) J_HPen_drawBars (rwV w Q)) := ia_St
  unfold f_HPen_drawBars at h
  have l0 : im_lk (lv_args 0 [.ref 56, .int p0, .int p1, .int p2]) 0 = some (.ref 56) := rfl
  have l1 : im_lk (lv_args 0 [.ref 56, .int p0, .int p1, .int p2]) 1 = some (.int p0) := rfl
  have l2 : im_lk (lv_args 0 [.ref 56, .int p0, .int p1, .int p2]) 2 = some (.int p1) := rfl
  have l3 : im_lk (lv_args 0 [.ref 56, .int p0, .int p1, .int p2]) 3 = some (.int p2) := rfl
  refine iq_iconst hS 1 J_HPen_drawBars_d0 (v := 0) (by decide +kernel) rfl ?_
  refine iq_istore hS 3 J_HPen_drawBars_d1 (by decide) rfl ?_
  refine iq_iconst hS 4 J_HPen_drawBars_d3 (v := 0) (by decide +kernel) rfl ?_
  refine iq_istore hS 6 J_HPen_drawBars_d4 (by decide) rfl ?_
  obtain ⟨Q1, hQ1, h⟩ := bd1_ed h
  have K1 : ∀ (M2 : im_M) (L' : List (Nat × Value)), lw_S w M2 → Q1 M2 → ia (tb_G L xs) (dep + 3) J_HPen_drawBars (rwV w Q) (66, L', [], M2) := by
    intro M2 L' hM2  h
    replace h := hQ1 _ h
    exact iq_ret J_HPen_drawBars_d66 rfl ⟨rfl, hM2, ed_some h⟩
  obtain ⟨r1, hr1, hq1⟩ := h
  obtain ⟨n1, hn1⟩ := lp_n hr1
  have I1 : ∀ (n : Nat) (x3 : Int32) (x4 : Int32) (M5 : im_M) (L' : List (Nat × Value)), lw_S w M5 → im_lk L' 0 = some (.ref 56) → im_lk L' 1 = some (.int p0) → im_lk L' 2 = some (.int p1) → im_lk L' 3 = some (.int p2) → im_lk L' 4 = some (.int x3) → im_lk L' 5 = some (.int x4) → lpn (uc3 (f_HPen_drawBars_L6 w p0 p1 p2)) n (x3, x4, M5) = some r1 → ia (tb_G L xs) (dep + 3) J_HPen_drawBars (rwV w Q) (6, L', [], M5) := by
    intro n
    induction n with
    | zero => intro x3 x4 M5 L' hM5 l6 l7 l8 l9 l10 l11 hn; exact (lpn_0 hn).elim
    | succ n ih =>
      intro x3 x4 M5 L' hM5 l6 l7 l8 l9 l10 l11 hn
      have h := lpn_ed3 hn
      unfold f_HPen_drawBars_L6 at h
      refine iq_iload_n hS 7 J_HPen_drawBars_d6 l7 rfl ?_
      refine iq_if_eq hS 10 J_HPen_drawBars_d7 (t := 66) rfl (fun q7 => ?_) rfl (fun q7 => ?_)
      · replace h := ed_pos q7 h
        exact K1 _ _ hM5  (lq_r h hq1)
      · replace h := ed_neg q7 h
        refine iq_iload hS 12 J_HPen_drawBars_d10 l11 rfl ?_
        refine iq_aload_n hS 13 J_HPen_drawBars_d12 l6 rfl ?_
        refine iq_getR hS 16 J_HPen_drawBars_d13 lf_6_23 (Or.inl ⟨_, rfl⟩) (ka_56 hM5) (ra_56_1 hM5) rfl ?_
        refine iq_getI hS 19 J_HPen_drawBars_d16 lf_6_121 (Or.inl rfl) (ka_31 hM5) rfl ?_
        refine iq_icmp_ge hS 22 J_HPen_drawBars_d19 (t := 66) rfl (fun q19 => ?_) rfl (fun q19 => ?_)
        · replace h := ed_pos q19 h
          exact K1 _ _ hM5  (lq_r h hq1)
        · replace h := ed_neg q19 h
          refine iq_iload_n hS 23 J_HPen_drawBars_d22 l8 rfl ?_
          refine iq_aload_n hS 24 J_HPen_drawBars_d23 l6 rfl ?_
          refine iq_getR hS 27 J_HPen_drawBars_d24 lf_6_23 (Or.inl ⟨_, rfl⟩) (ka_56 hM5) (ra_56_1 hM5) rfl ?_
          refine iq_getR hS 30 J_HPen_drawBars_d27 lf_6_124 (Or.inr ⟨_, rfl⟩) (ka_31 hM5) (ra_31_1 hM5) rfl ?_
          refine iq_iload hS 32 J_HPen_drawBars_d30 l11 rfl ?_
          obtain ⟨g32, h⟩ := ed_gd h
          refine iq_iaload hS 33 J_HPen_drawBars_d32 ⟨(ka_33 hM5).1, (ka_33 hM5).2, g32.1, ix_lt (kl_33 hM5) g32.2⟩ rfl ?_
          refine iq_imul hS 34 J_HPen_drawBars_d33 rfl ?_
          refine iq_istore hS 36 J_HPen_drawBars_d34 (by decide) rfl ?_
          refine iq_iload hS 38 J_HPen_drawBars_d36 (lk_1i l11 (by decide)) rfl ?_
          refine iq_iconst hS 39 J_HPen_drawBars_d38 (v := 2) (by decide +kernel) rfl ?_
          refine iq_irem hS 40 J_HPen_drawBars_d39 (by decide) rfl ?_
          obtain ⟨Q12, hQ12, h⟩ := bd1_ed h
          have J12 : ∀ (M14 : im_M) (L' : List (Nat × Value)), lw_S w M14 → im_lk L' 0 = some (.ref 56) → im_lk L' 1 = some (.int p0) → im_lk L' 2 = some (.int p1) → im_lk L' 3 = some (.int p2) → im_lk L' 4 = some (.int x3) → im_lk L' 5 = some (.int x4) → im_lk L' 6 = some (.int (p1 * (im_i M5 33 (Int32.toNatClampNeg x4)))) → Q12 M14 → ia (tb_G L xs) (dep + 3) J_HPen_drawBars (rwV w Q) (53, L', [], M14) := by
            intro M14 L' hM14 l15 l16 l17 l18 l19 l20 l21 h
            replace h := hQ12 _ h
            refine iq_iload hS 55 J_HPen_drawBars_d53 l19 rfl ?_
            refine iq_iload hS 57 J_HPen_drawBars_d55 l21 rfl ?_
            refine iq_iadd hS 58 J_HPen_drawBars_d57 rfl ?_
            refine iq_istore hS 60 J_HPen_drawBars_d58 (by decide) rfl ?_
            refine iq_iincv hS 63 J_HPen_drawBars_d60 (c := 1) (by decide +kernel) (lk_1i l20 (by decide)) (by decide) rfl ?_
            refine iq_goto hS J_HPen_drawBars_d63 (t := 6) rfl ?_
            exact ih _ _ _ _ hM14 (lk_1r (lk_1r l15 (by decide)) (by decide)) (lk_1i (lk_1i l16 (by decide)) (by decide)) (lk_1i (lk_1i l17 (by decide)) (by decide)) (lk_1i (lk_1i l18 (by decide)) (by decide)) (lk_1i lk_1s (by decide)) lk_1s (lq_l h)
          refine iq_if_ne hS 43 J_HPen_drawBars_d40 (t := 53) rfl (fun q40 => ?_) rfl (fun q40 => ?_)
          · replace h := ed_pos q40 h
            exact J12 _ _ hM5 (lk_1r l6 (by decide)) (lk_1i l7 (by decide)) (lk_1i l8 (by decide)) (lk_1i l9 (by decide)) (lk_1i l10 (by decide)) (lk_1i l11 (by decide)) lk_1s (ed_some h)
          · replace h := ed_neg q40 h
            refine iq_aload_n hS 44 J_HPen_drawBars_d43 (lk_1r l6 (by decide)) rfl ?_
            refine iq_iload hS 46 J_HPen_drawBars_d44 (lk_1i l10 (by decide)) rfl ?_
            refine iq_iconst hS 47 J_HPen_drawBars_d46 (v := 0) (by decide +kernel) rfl ?_
            refine iq_iload hS 49 J_HPen_drawBars_d47 lk_1s rfl ?_
            refine iq_iload_n hS 50 J_HPen_drawBars_d49 (lk_1i l9 (by decide)) rfl ?_
            obtain ⟨Q13, hQ13, h⟩ := bd1_ed h
            refine iq_cwV hS 53 J_HPen_drawBars_d50 rfl (pr_inst (vs := [_, _, _, _]) lc_6_118 lT_112 rfl rfl (by decide) (by decide) rfl (Nat.le_of_ble_eq_true rfl) (Nat.le_of_ble_eq_true rfl) (fun _ => Or.inl (pr_b (ka_56 hM5) (by decide) rfl))) (f_HPen_strike_ok (dep := dep + 0) hM5 h) rfl ?_
            intro M13 hM13 h
            replace h := hQ13 _ h
            exact J12 _ _ hM13 (lk_1r l6 (by decide)) (lk_1i l7 (by decide)) (lk_1i l8 (by decide)) (lk_1i l9 (by decide)) (lk_1i l10 (by decide)) (lk_1i l11 (by decide)) lk_1s (ed_some h)
  exact I1 n1 _ _ _ _ hM (lk_1r (lk_1r l0 (by decide)) (by decide)) (lk_1i (lk_1i l1 (by decide)) (by decide)) (lk_1i (lk_1i l2 (by decide)) (by decide)) (lk_1i (lk_1i l3 (by decide)) (by decide)) (lk_1i lk_1s (by decide)) lk_1s hn1
theorem f_HPen_drawBars_fr {w : Bool} {p0 : Int32} {p1 : Int32} {p2 : Int32} {M : im_M} {r : im_M} (h : f_HPen_drawBars w p0 p1 p2 M = some r) : fr 1610612736 [(28, 3)] M r := by
  replace h : ed (f_HPen_drawBars w p0 p1 p2 M) (fun x => x = r) := ⟨r, h, rfl⟩
  unfold f_HPen_drawBars at h
  obtain ⟨Q1, hQ1, h⟩ := bd1_ed h
  have K1 : ∀ (M2 : im_M), fr 1610612736 [(28, 3)] M M2 → Q1 M2 → fr 1610612736 [(28, 3)] M r := by
    intro M2 hM2 h
    replace h := hQ1 _ h
    exact fr_retV h hM2
  obtain ⟨r1, hr1, hq1⟩ := h
  obtain ⟨n1, hn1⟩ := lp_n hr1
  have I1 : ∀ (n : Nat) (x3 : Int32) (x4 : Int32) (M5 : im_M), fr 1610612736 [(28, 3)] M M5 → lpn (uc3 (f_HPen_drawBars_L6 w p0 p1 p2)) n (x3, x4, M5) = some r1 → fr 1610612736 [(28, 3)] M r := by
    intro n
    induction n with
    | zero => intro x3 x4 M5 hM5 hn; exact (lpn_0 hn).elim
    | succ n ih =>
      intro x3 x4 M5 hM5 hn
      have h := lpn_ed3 hn
      unfold f_HPen_drawBars_L6 at h
      by_cases q7 : p0 = 0
      · replace h := ed_pos q7 h
        exact K1 _ hM5 (lq_r h hq1)
      · replace h := ed_neg q7 h
        by_cases q19 : (im_i M5 31 2) ≤ x4
        · replace h := ed_pos q19 h
          exact K1 _ hM5 (lq_r h hq1)
        · replace h := ed_neg q19 h
          obtain ⟨g32, h⟩ := ed_gd h
          obtain ⟨Q6, hQ6, h⟩ := bd1_ed h
          have J6 : ∀ (M8 : im_M), fr 1610612736 [(28, 3)] M M8 → Q6 M8 → fr 1610612736 [(28, 3)] M r := by
            intro M8 hM8 h
            replace h := hQ6 _ h
            exact ih _ _ _ hM8 (lq_l h)
          by_cases q40 : ¬ (x4 - x4 / 2 * 2) = 0
          · replace h := ed_pos q40 h
            exact J6 _ hM5 (ed_some h)
          · replace h := ed_neg q40 h
            obtain ⟨Q7, hQ7, h⟩ := bd1_ed h
            obtain ⟨M7, e7, h⟩ := h
            replace h := hQ7 _ h
            exact J6 _ (fr_tr (fr_mono (by decide) (by decide +kernel) (f_HPen_strike_fr e7)) hM5) (ed_some h)
  exact I1 n1 _ _ _ fr_refl hn1
noncomputable def f_Math_floorMod2 (p0 : Int32) (p1 : Int32) (M : im_M) : Option (Int32) := gd (¬ p1 = (0 : Int32)) <| if 0 ≤ (p0 ^^^ p1) then some (p0 - p0 / p1 * p1) else if (p0 - p0 / p1 * p1) = 0 then some (p0 - p0 / p1 * p1) else some ((p0 - p0 / p1 * p1) + p1)
theorem J_Math_floorMod2_d0 : decode J_Math_floorMod2.2.1 0 = .ok (.iload_n 0, 1) := by decide +kernel
theorem J_Math_floorMod2_d1 : decode J_Math_floorMod2.2.1 1 = .ok (.iload_n 1, 1) := by decide +kernel
theorem J_Math_floorMod2_d2 : decode J_Math_floorMod2.2.1 2 = .ok (.irem, 1) := by decide +kernel
theorem J_Math_floorMod2_d3 : decode J_Math_floorMod2.2.1 3 = .ok (.istore_n 2, 1) := by decide +kernel
theorem J_Math_floorMod2_d4 : decode J_Math_floorMod2.2.1 4 = .ok (.iload_n 0, 1) := by decide +kernel
theorem J_Math_floorMod2_d5 : decode J_Math_floorMod2.2.1 5 = .ok (.iload_n 1, 1) := by decide +kernel
theorem J_Math_floorMod2_d6 : decode J_Math_floorMod2.2.1 6 = .ok (.ixor, 1) := by decide +kernel
theorem J_Math_floorMod2_d7 : decode J_Math_floorMod2.2.1 7 = .ok (.ifCond .ge 11, 3) := by decide +kernel
theorem J_Math_floorMod2_d10 : decode J_Math_floorMod2.2.1 10 = .ok (.iload_n 2, 1) := by decide +kernel
theorem J_Math_floorMod2_d11 : decode J_Math_floorMod2.2.1 11 = .ok (.ifCond .eq 7, 3) := by decide +kernel
theorem J_Math_floorMod2_d14 : decode J_Math_floorMod2.2.1 14 = .ok (.iload_n 2, 1) := by decide +kernel
theorem J_Math_floorMod2_d15 : decode J_Math_floorMod2.2.1 15 = .ok (.iload_n 1, 1) := by decide +kernel
theorem J_Math_floorMod2_d16 : decode J_Math_floorMod2.2.1 16 = .ok (.iadd, 1) := by decide +kernel
theorem J_Math_floorMod2_d17 : decode J_Math_floorMod2.2.1 17 = .ok (.ireturn, 1) := by decide +kernel
theorem J_Math_floorMod2_d18 : decode J_Math_floorMod2.2.1 18 = .ok (.iload_n 2, 1) := by decide +kernel
theorem J_Math_floorMod2_d19 : decode J_Math_floorMod2.2.1 19 = .ok (.ireturn, 1) := by decide +kernel
theorem f_Math_floorMod2_ok {L : Nat} {xs : Nat → Int32} {dep : Nat} {w : Bool} {p0 : Int32} {p1 : Int32} {M : im_M} {Q : Int32 → Prop} (hM : lw_S w M) (h : ed (f_Math_floorMod2 p0 p1 M) Q) : ia (tb_G L xs) dep J_Math_floorMod2 (rpI M Q) (0, lv_args 0 [.int p0, .int p1], [], M) := by
  have hS : im_St (tb_G L xs) dep J_Math_floorMod2 (ia (tb_G L xs) dep J_Math_floorMod2 (rpI M Q)) := ia_St
  unfold f_Math_floorMod2 at h
  have l0 : im_lk (lv_args 0 [.int p0, .int p1]) 0 = some (.int p0) := rfl
  have l1 : im_lk (lv_args 0 [.int p0, .int p1]) 1 = some (.int p1) := rfl
  refine iq_iload_n hS 1 J_Math_floorMod2_d0 l0 rfl ?_
  refine iq_iload_n hS 2 J_Math_floorMod2_d1 l1 rfl ?_
  obtain ⟨g2, h⟩ := ed_gd h
  refine iq_irem hS 3 J_Math_floorMod2_d2 g2 rfl ?_
  refine iq_istore_n hS 4 J_Math_floorMod2_d3 (by decide) rfl ?_
  refine iq_iload_n hS 5 J_Math_floorMod2_d4 (lk_1i l0 (by decide)) rfl ?_
  refine iq_iload_n hS 6 J_Math_floorMod2_d5 (lk_1i l1 (by decide)) rfl ?_
  refine iq_ixor hS 7 J_Math_floorMod2_d6 rfl ?_
  refine iq_if_ge hS 10 J_Math_floorMod2_d7 (t := 18) rfl (fun q7 => ?_) rfl (fun q7 => ?_)
  · replace h := ed_pos q7 h
    refine iq_iload_n hS 19 J_Math_floorMod2_d18 lk_1s rfl ?_
    exact iq_iret J_Math_floorMod2_d19 rfl rfl ⟨_, rfl, rfl, ed_some h⟩
  · replace h := ed_neg q7 h
    refine iq_iload_n hS 11 J_Math_floorMod2_d10 lk_1s rfl ?_
    refine iq_if_eq hS 14 J_Math_floorMod2_d11 (t := 18) rfl (fun q11 => ?_) rfl (fun q11 => ?_)
    · replace h := ed_pos q11 h
      refine iq_iload_n hS 19 J_Math_floorMod2_d18 lk_1s rfl ?_
      exact iq_iret J_Math_floorMod2_d19 rfl rfl ⟨_, rfl, rfl, ed_some h⟩
    · replace h := ed_neg q11 h
      refine iq_iload_n hS 15 J_Math_floorMod2_d14 lk_1s rfl ?_
      refine iq_iload_n hS 16 J_Math_floorMod2_d15 (lk_1i l1 (by decide)) rfl ?_
      refine iq_iadd hS 17 J_Math_floorMod2_d16 rfl ?_
      exact iq_iret J_Math_floorMod2_d17 rfl rfl ⟨_, rfl, rfl, ed_some h⟩
noncomputable def f_HBars_checkFigure_L4 (M4 : im_M) (x2 : Int32) (x3 : Int32) : Option ((Int32 × Int32) ⊕ (Int32)) := if 12 ≤ x3 then some (.inr x2) else bd1 (if ¬ (x3 - x3 / 2 * 2) = 0 then gd (inb x3 13) <| some ((3 : Int32) * (im_i M4 37 (Int32.toNatClampNeg x3))) else gd (inb x3 13) <| some (im_i M4 37 (Int32.toNatClampNeg x3))) fun (y6 : Int32) => some (.inl ((x2 + y6), (x3 + 1)))
noncomputable def f_HBars_checkFigure (M : im_M) : Option (Int32) := bd1 (lp (uc2 (f_HBars_checkFigure_L4 M)) (0, 0)) fun (y9 : Int32) => some (((10 : Int32) - (y9 - y9 / 10 * 10)) - ((10 : Int32) - (y9 - y9 / 10 * 10)) / 10 * 10)
theorem J_HBars_checkFigure_d0 : decode J_HBars_checkFigure.2.1 0 = .ok (.iconst 0, 1) := by decide +kernel
theorem J_HBars_checkFigure_d1 : decode J_HBars_checkFigure.2.1 1 = .ok (.istore_n 1, 1) := by decide +kernel
theorem J_HBars_checkFigure_d2 : decode J_HBars_checkFigure.2.1 2 = .ok (.iconst 0, 1) := by decide +kernel
theorem J_HBars_checkFigure_d3 : decode J_HBars_checkFigure.2.1 3 = .ok (.istore_n 2, 1) := by decide +kernel
theorem J_HBars_checkFigure_d4 : decode J_HBars_checkFigure.2.1 4 = .ok (.iload_n 2, 1) := by decide +kernel
theorem J_HBars_checkFigure_d5 : decode J_HBars_checkFigure.2.1 5 = .ok (.bipush 12, 2) := by decide +kernel
theorem J_HBars_checkFigure_d7 : decode J_HBars_checkFigure.2.1 7 = .ok (.if_icmp .ge 35, 3) := by decide +kernel
theorem J_HBars_checkFigure_d10 : decode J_HBars_checkFigure.2.1 10 = .ok (.iload_n 1, 1) := by decide +kernel
theorem J_HBars_checkFigure_d11 : decode J_HBars_checkFigure.2.1 11 = .ok (.iload_n 2, 1) := by decide +kernel
theorem J_HBars_checkFigure_d12 : decode J_HBars_checkFigure.2.1 12 = .ok (.iconst 2, 1) := by decide +kernel
theorem J_HBars_checkFigure_d13 : decode J_HBars_checkFigure.2.1 13 = .ok (.irem, 1) := by decide +kernel
theorem J_HBars_checkFigure_d14 : decode J_HBars_checkFigure.2.1 14 = .ok (.ifCond .ne 12, 3) := by decide +kernel
theorem J_HBars_checkFigure_d17 : decode J_HBars_checkFigure.2.1 17 = .ok (.aload_n 0, 1) := by decide +kernel
theorem J_HBars_checkFigure_d18 : decode J_HBars_checkFigure.2.1 18 = .ok (.getfield 29, 3) := by decide +kernel
theorem J_HBars_checkFigure_d21 : decode J_HBars_checkFigure.2.1 21 = .ok (.iload_n 2, 1) := by decide +kernel
theorem J_HBars_checkFigure_d22 : decode J_HBars_checkFigure.2.1 22 = .ok (.iaload, 1) := by decide +kernel
theorem J_HBars_checkFigure_d23 : decode J_HBars_checkFigure.2.1 23 = .ok (.goto 11, 3) := by decide +kernel
theorem J_HBars_checkFigure_d26 : decode J_HBars_checkFigure.2.1 26 = .ok (.iconst 3, 1) := by decide +kernel
theorem J_HBars_checkFigure_d27 : decode J_HBars_checkFigure.2.1 27 = .ok (.aload_n 0, 1) := by decide +kernel
theorem J_HBars_checkFigure_d28 : decode J_HBars_checkFigure.2.1 28 = .ok (.getfield 29, 3) := by decide +kernel
theorem J_HBars_checkFigure_d31 : decode J_HBars_checkFigure.2.1 31 = .ok (.iload_n 2, 1) := by decide +kernel
theorem J_HBars_checkFigure_d32 : decode J_HBars_checkFigure.2.1 32 = .ok (.iaload, 1) := by decide +kernel
theorem J_HBars_checkFigure_d33 : decode J_HBars_checkFigure.2.1 33 = .ok (.imul, 1) := by decide +kernel
theorem J_HBars_checkFigure_d34 : decode J_HBars_checkFigure.2.1 34 = .ok (.iadd, 1) := by decide +kernel
theorem J_HBars_checkFigure_d35 : decode J_HBars_checkFigure.2.1 35 = .ok (.istore_n 1, 1) := by decide +kernel
theorem J_HBars_checkFigure_d36 : decode J_HBars_checkFigure.2.1 36 = .ok (.iinc 2 1, 3) := by decide +kernel
theorem J_HBars_checkFigure_d39 : decode J_HBars_checkFigure.2.1 39 = .ok (.goto (-35), 3) := by decide +kernel
theorem J_HBars_checkFigure_d42 : decode J_HBars_checkFigure.2.1 42 = .ok (.bipush 10, 2) := by decide +kernel
theorem J_HBars_checkFigure_d44 : decode J_HBars_checkFigure.2.1 44 = .ok (.iload_n 1, 1) := by decide +kernel
theorem J_HBars_checkFigure_d45 : decode J_HBars_checkFigure.2.1 45 = .ok (.bipush 10, 2) := by decide +kernel
theorem J_HBars_checkFigure_d47 : decode J_HBars_checkFigure.2.1 47 = .ok (.irem, 1) := by decide +kernel
theorem J_HBars_checkFigure_d48 : decode J_HBars_checkFigure.2.1 48 = .ok (.isub, 1) := by decide +kernel
theorem J_HBars_checkFigure_d49 : decode J_HBars_checkFigure.2.1 49 = .ok (.bipush 10, 2) := by decide +kernel
theorem J_HBars_checkFigure_d51 : decode J_HBars_checkFigure.2.1 51 = .ok (.irem, 1) := by decide +kernel
theorem J_HBars_checkFigure_d52 : decode J_HBars_checkFigure.2.1 52 = .ok (.ireturn, 1) := by decide +kernel
theorem f_HBars_checkFigure_ok {L : Nat} {xs : Nat → Int32} {dep : Nat} {w : Bool} {M : im_M} {Q : Int32 → Prop} (hM : lw_S w M) (h : ed (f_HBars_checkFigure M) Q) : ia (tb_G L xs) dep J_HBars_checkFigure (rpI M Q) (0, lv_args 0 [.ref 31], [], M) := by
  have hS : im_St (tb_G L xs) dep J_HBars_checkFigure (ia (tb_G L xs) dep J_HBars_checkFigure (rpI M Q)) := ia_St
  unfold f_HBars_checkFigure at h
  have l0 : im_lk (lv_args 0 [.ref 31]) 0 = some (.ref 31) := rfl
  refine iq_iconst hS 1 J_HBars_checkFigure_d0 (v := 0) (by decide +kernel) rfl ?_
  refine iq_istore_n hS 2 J_HBars_checkFigure_d1 (by decide) rfl ?_
  refine iq_iconst hS 3 J_HBars_checkFigure_d2 (v := 0) (by decide +kernel) rfl ?_
  refine iq_istore_n hS 4 J_HBars_checkFigure_d3 (by decide) rfl ?_
  obtain ⟨Q1, hQ1, h⟩ := bd1_ed h
  have K1 : ∀ (y2 : Int32) (L' : List (Nat × Value)), im_lk L' 1 = some (.int y2) → Q1 y2 → ia (tb_G L xs) dep J_HBars_checkFigure (rpI M Q) (42, L', [], M) := by
    intro y2 L' l3 h
    replace h := hQ1 _ h
    refine iq_bipush hS 44 J_HBars_checkFigure_d42 (v := 10) (by decide +kernel) rfl ?_
    refine iq_iload_n hS 45 J_HBars_checkFigure_d44 l3 rfl ?_
    refine iq_bipush hS 47 J_HBars_checkFigure_d45 (v := 10) (by decide +kernel) rfl ?_
    refine iq_irem hS 48 J_HBars_checkFigure_d47 (by decide) rfl ?_
    refine iq_isub hS 49 J_HBars_checkFigure_d48 rfl ?_
    refine iq_bipush hS 51 J_HBars_checkFigure_d49 (v := 10) (by decide +kernel) rfl ?_
    refine iq_irem hS 52 J_HBars_checkFigure_d51 (by decide) rfl ?_
    exact iq_iret J_HBars_checkFigure_d52 rfl rfl ⟨_, rfl, rfl, ed_some h⟩
  obtain ⟨r1, hr1, hq1⟩ := h
  obtain ⟨n1, hn1⟩ := lp_n hr1
  have I1 : ∀ (n : Nat) (x4 : Int32) (x5 : Int32) (L' : List (Nat × Value)), im_lk L' 0 = some (.ref 31) → im_lk L' 1 = some (.int x4) → im_lk L' 2 = some (.int x5) → lpn (uc2 (f_HBars_checkFigure_L4 M)) n (x4, x5) = some r1 → ia (tb_G L xs) dep J_HBars_checkFigure (rpI M Q) (4, L', [], M) := by
    intro n
    induction n with
    | zero => intro x4 x5 L' l6 l7 l8 hn; exact (lpn_0 hn).elim
    | succ n ih =>
      intro x4 x5 L' l6 l7 l8 hn
      have h := lpn_ed2 hn
      unfold f_HBars_checkFigure_L4 at h
      refine iq_iload_n hS 5 J_HBars_checkFigure_d4 l8 rfl ?_
      refine iq_bipush hS 7 J_HBars_checkFigure_d5 (v := 12) (by decide +kernel) rfl ?_
      refine iq_icmp_ge hS 10 J_HBars_checkFigure_d7 (t := 42) rfl (fun q7 => ?_) rfl (fun q7 => ?_)
      · replace h := ed_pos q7 h
        exact K1 _ _ l7 (lq_r h hq1)
      · replace h := ed_neg q7 h
        refine iq_iload_n hS 11 J_HBars_checkFigure_d10 l7 rfl ?_
        refine iq_iload_n hS 12 J_HBars_checkFigure_d11 l8 rfl ?_
        refine iq_iconst hS 13 J_HBars_checkFigure_d12 (v := 2) (by decide +kernel) rfl ?_
        refine iq_irem hS 14 J_HBars_checkFigure_d13 (by decide) rfl ?_
        obtain ⟨Q9, hQ9, h⟩ := bd1_ed h
        have J9 : ∀ (y10 : Int32) (L' : List (Nat × Value)), im_lk L' 0 = some (.ref 31) → im_lk L' 2 = some (.int x5) → Q9 y10 → ia (tb_G L xs) dep J_HBars_checkFigure (rpI M Q) (34, L', [.int y10, .int x4], M) := by
          intro y10 L' l11 l12 h
          replace h := hQ9 _ h
          refine iq_iadd hS 35 J_HBars_checkFigure_d34 rfl ?_
          refine iq_istore_n hS 36 J_HBars_checkFigure_d35 (by decide) rfl ?_
          refine iq_iincv hS 39 J_HBars_checkFigure_d36 (c := 1) (by decide +kernel) (lk_1i l12 (by decide)) (by decide) rfl ?_
          refine iq_goto hS J_HBars_checkFigure_d39 (t := 4) rfl ?_
          exact ih _ _ _ (lk_1r (lk_1r l11 (by decide)) (by decide)) (lk_1i lk_1s (by decide)) lk_1s (lq_l h)
        refine iq_if_ne hS 17 J_HBars_checkFigure_d14 (t := 26) rfl (fun q14 => ?_) rfl (fun q14 => ?_)
        · replace h := ed_pos q14 h
          refine iq_iconst hS 27 J_HBars_checkFigure_d26 (v := 3) (by decide +kernel) rfl ?_
          refine iq_aload_n hS 28 J_HBars_checkFigure_d27 l6 rfl ?_
          refine iq_getR hS 31 J_HBars_checkFigure_d28 lf_0_29 (Or.inr ⟨_, rfl⟩) (ka_31 hM) (ra_31_10 hM) rfl ?_
          refine iq_iload_n hS 32 J_HBars_checkFigure_d31 l8 rfl ?_
          obtain ⟨g32, h⟩ := ed_gd h
          refine iq_iaload hS 33 J_HBars_checkFigure_d32 ⟨(ka_37 hM).1, (ka_37 hM).2, g32.1, ix_lt (kl_37 hM) g32.2⟩ rfl ?_
          refine iq_imul hS 34 J_HBars_checkFigure_d33 rfl ?_
          exact J9 _ _ l6 l8 (ed_some h)
        · replace h := ed_neg q14 h
          refine iq_aload_n hS 18 J_HBars_checkFigure_d17 l6 rfl ?_
          refine iq_getR hS 21 J_HBars_checkFigure_d18 lf_0_29 (Or.inr ⟨_, rfl⟩) (ka_31 hM) (ra_31_10 hM) rfl ?_
          refine iq_iload_n hS 22 J_HBars_checkFigure_d21 l8 rfl ?_
          obtain ⟨g22, h⟩ := ed_gd h
          refine iq_iaload hS 23 J_HBars_checkFigure_d22 ⟨(ka_37 hM).1, (ka_37 hM).2, g22.1, ix_lt (kl_37 hM) g22.2⟩ rfl ?_
          refine iq_goto hS J_HBars_checkFigure_d23 (t := 34) rfl ?_
          exact J9 _ _ l6 l8 (ed_some h)
  exact I1 n1 _ _ _ (lk_1r (lk_1r l0 (by decide)) (by decide)) (lk_1i lk_1s (by decide)) lk_1s hn1
noncomputable def f_HBars_layFigures_L2 (v2 : Int32) (x3 : Int32) (M4 : im_M) : Option ((Int32 × im_M) ⊕ (im_M)) := if 12 ≤ x3 then some (.inr M4) else gd (inb (v2 + x3) 24000) <| bd1 (f_Math_floorMod2 ((im_i M4 14 (Int32.toNatClampNeg (v2 + x3))) - 48) 10 M4) fun (x5 : Int32) => gd (inb x3 13) <| some (.inl ((x3 + 1), (im_setI M4 37 (Int32.toNatClampNeg x3) x5)))
noncomputable def f_HBars_layFigures_L59 (x10 : Int32) (M11 : im_M) : Option ((Int32 × im_M) ⊕ (im_M)) := if 13 ≤ x10 then some (.inr M11) else bd1 (if ¬ x10 = 7 then some M11 else bd1 (f_HBars_addWidths 11111 10000 M11) fun (M13 : im_M) => some M13) fun (M14 : im_M) => bd1 (jn0 (fun (_ : Unit) => some 0) fun k18 => if 7 ≤ x10 then k18 () else gd (inb 0 13) <| gd (inb (im_i M14 37 (Int32.toNatClampNeg 0)) 10) <| if (((xa_4 (im_i M14 37 (Int32.toNatClampNeg 0))) >>> (((6 : Int32) - x10) &&& 31 : Int32) : Int32) &&& 1) = 0 then k18 () else some 1) fun (y21 : Int32) => bd1 (if y21 = 0 then gd (inb x10 13) <| gd (inb (im_i M14 37 (Int32.toNatClampNeg x10)) 10) <| some (xa_6 (im_i M14 37 (Int32.toNatClampNeg x10))) else gd (inb x10 13) <| gd (inb (im_i M14 37 (Int32.toNatClampNeg x10)) 10) <| some (xa_5 (im_i M14 37 (Int32.toNatClampNeg x10)))) fun (y25 : Int32) => bd1 (f_HBars_addWidths y25 1000 M14) fun (M28 : im_M) => some (.inl ((x10 + 1), M28))
noncomputable def f_HBars_layFigures (p1 : Int32) (M : im_M) : Option (im_M) := bd1 (lp (uc2 (f_HBars_layFigures_L2 p1)) (0, M)) fun (M6 : im_M) => bd1 (f_HBars_checkFigure M6) fun (x7 : Int32) => gd (inb 12 13) <| bd1 (f_HBars_addWidths 111 100 (im_setI (im_setI M6 37 (Int32.toNatClampNeg 12) x7) 31 2 0)) fun (M8 : im_M) => bd1 (lp (uc2 (f_HBars_layFigures_L59)) (1, M8)) fun (M29 : im_M) => bd1 (f_HBars_addWidths 111 100 M29) fun (M30 : im_M) => some M30
theorem J_HBars_layFigures_d0 : decode J_HBars_layFigures.2.1 0 = .ok (.iconst 0, 1) := by decide +kernel
theorem J_HBars_layFigures_d1 : decode J_HBars_layFigures.2.1 1 = .ok (.istore_n 3, 1) := by decide +kernel
theorem J_HBars_layFigures_d2 : decode J_HBars_layFigures.2.1 2 = .ok (.iload_n 3, 1) := by decide +kernel
theorem J_HBars_layFigures_d3 : decode J_HBars_layFigures.2.1 3 = .ok (.bipush 12, 2) := by decide +kernel
theorem J_HBars_layFigures_d5 : decode J_HBars_layFigures.2.1 5 = .ok (.if_icmp .ge 28, 3) := by decide +kernel
theorem J_HBars_layFigures_d8 : decode J_HBars_layFigures.2.1 8 = .ok (.aload_n 0, 1) := by decide +kernel
theorem J_HBars_layFigures_d9 : decode J_HBars_layFigures.2.1 9 = .ok (.getfield 29, 3) := by decide +kernel
theorem J_HBars_layFigures_d12 : decode J_HBars_layFigures.2.1 12 = .ok (.iload_n 3, 1) := by decide +kernel
theorem J_HBars_layFigures_d13 : decode J_HBars_layFigures.2.1 13 = .ok (.aload_n 1, 1) := by decide +kernel
theorem J_HBars_layFigures_d14 : decode J_HBars_layFigures.2.1 14 = .ok (.iload_n 2, 1) := by decide +kernel
theorem J_HBars_layFigures_d15 : decode J_HBars_layFigures.2.1 15 = .ok (.iload_n 3, 1) := by decide +kernel
theorem J_HBars_layFigures_d16 : decode J_HBars_layFigures.2.1 16 = .ok (.iadd, 1) := by decide +kernel
theorem J_HBars_layFigures_d17 : decode J_HBars_layFigures.2.1 17 = .ok (.baload, 1) := by decide +kernel
theorem J_HBars_layFigures_d18 : decode J_HBars_layFigures.2.1 18 = .ok (.bipush 48, 2) := by decide +kernel
theorem J_HBars_layFigures_d20 : decode J_HBars_layFigures.2.1 20 = .ok (.isub, 1) := by decide +kernel
theorem J_HBars_layFigures_d21 : decode J_HBars_layFigures.2.1 21 = .ok (.bipush 10, 2) := by decide +kernel
theorem J_HBars_layFigures_d23 : decode J_HBars_layFigures.2.1 23 = .ok (.invokestatic 99, 3) := by decide +kernel
theorem J_HBars_layFigures_d26 : decode J_HBars_layFigures.2.1 26 = .ok (.iastore, 1) := by decide +kernel
theorem J_HBars_layFigures_d27 : decode J_HBars_layFigures.2.1 27 = .ok (.iinc 3 1, 3) := by decide +kernel
theorem J_HBars_layFigures_d30 : decode J_HBars_layFigures.2.1 30 = .ok (.goto (-28), 3) := by decide +kernel
theorem J_HBars_layFigures_d33 : decode J_HBars_layFigures.2.1 33 = .ok (.aload_n 0, 1) := by decide +kernel
theorem J_HBars_layFigures_d34 : decode J_HBars_layFigures.2.1 34 = .ok (.getfield 29, 3) := by decide +kernel
theorem J_HBars_layFigures_d37 : decode J_HBars_layFigures.2.1 37 = .ok (.bipush 12, 2) := by decide +kernel
theorem J_HBars_layFigures_d39 : decode J_HBars_layFigures.2.1 39 = .ok (.aload_n 0, 1) := by decide +kernel
theorem J_HBars_layFigures_d40 : decode J_HBars_layFigures.2.1 40 = .ok (.invokevirtual 102, 3) := by decide +kernel
theorem J_HBars_layFigures_d43 : decode J_HBars_layFigures.2.1 43 = .ok (.iastore, 1) := by decide +kernel
theorem J_HBars_layFigures_d44 : decode J_HBars_layFigures.2.1 44 = .ok (.aload_n 0, 1) := by decide +kernel
theorem J_HBars_layFigures_d45 : decode J_HBars_layFigures.2.1 45 = .ok (.iconst 0, 1) := by decide +kernel
theorem J_HBars_layFigures_d46 : decode J_HBars_layFigures.2.1 46 = .ok (.putfield 86, 3) := by decide +kernel
theorem J_HBars_layFigures_d49 : decode J_HBars_layFigures.2.1 49 = .ok (.aload_n 0, 1) := by decide +kernel
theorem J_HBars_layFigures_d50 : decode J_HBars_layFigures.2.1 50 = .ok (.bipush 111, 2) := by decide +kernel
theorem J_HBars_layFigures_d52 : decode J_HBars_layFigures.2.1 52 = .ok (.bipush 100, 2) := by decide +kernel
theorem J_HBars_layFigures_d54 : decode J_HBars_layFigures.2.1 54 = .ok (.invokevirtual 93, 3) := by decide +kernel
theorem J_HBars_layFigures_d57 : decode J_HBars_layFigures.2.1 57 = .ok (.iconst 1, 1) := by decide +kernel
theorem J_HBars_layFigures_d58 : decode J_HBars_layFigures.2.1 58 = .ok (.istore_n 3, 1) := by decide +kernel
theorem J_HBars_layFigures_d59 : decode J_HBars_layFigures.2.1 59 = .ok (.iload_n 3, 1) := by decide +kernel
theorem J_HBars_layFigures_d60 : decode J_HBars_layFigures.2.1 60 = .ok (.bipush 13, 2) := by decide +kernel
theorem J_HBars_layFigures_d62 : decode J_HBars_layFigures.2.1 62 = .ok (.if_icmp .ge 93, 3) := by decide +kernel
theorem J_HBars_layFigures_d65 : decode J_HBars_layFigures.2.1 65 = .ok (.iload_n 3, 1) := by decide +kernel
theorem J_HBars_layFigures_d66 : decode J_HBars_layFigures.2.1 66 = .ok (.bipush 7, 2) := by decide +kernel
theorem J_HBars_layFigures_d68 : decode J_HBars_layFigures.2.1 68 = .ok (.if_icmp .ne 13, 3) := by decide +kernel
theorem J_HBars_layFigures_d71 : decode J_HBars_layFigures.2.1 71 = .ok (.aload_n 0, 1) := by decide +kernel
theorem J_HBars_layFigures_d72 : decode J_HBars_layFigures.2.1 72 = .ok (.sipush 11111, 3) := by decide +kernel
theorem J_HBars_layFigures_d75 : decode J_HBars_layFigures.2.1 75 = .ok (.sipush 10000, 3) := by decide +kernel
theorem J_HBars_layFigures_d78 : decode J_HBars_layFigures.2.1 78 = .ok (.invokevirtual 93, 3) := by decide +kernel
theorem J_HBars_layFigures_d81 : decode J_HBars_layFigures.2.1 81 = .ok (.iload_n 3, 1) := by decide +kernel
theorem J_HBars_layFigures_d82 : decode J_HBars_layFigures.2.1 82 = .ok (.bipush 7, 2) := by decide +kernel
theorem J_HBars_layFigures_d84 : decode J_HBars_layFigures.2.1 84 = .ok (.if_icmp .ge 27, 3) := by decide +kernel
theorem J_HBars_layFigures_d87 : decode J_HBars_layFigures.2.1 87 = .ok (.getstatic 106, 3) := by decide +kernel
theorem J_HBars_layFigures_d90 : decode J_HBars_layFigures.2.1 90 = .ok (.aload_n 0, 1) := by decide +kernel
theorem J_HBars_layFigures_d91 : decode J_HBars_layFigures.2.1 91 = .ok (.getfield 29, 3) := by decide +kernel
theorem J_HBars_layFigures_d94 : decode J_HBars_layFigures.2.1 94 = .ok (.iconst 0, 1) := by decide +kernel
theorem J_HBars_layFigures_d95 : decode J_HBars_layFigures.2.1 95 = .ok (.iaload, 1) := by decide +kernel
theorem J_HBars_layFigures_d96 : decode J_HBars_layFigures.2.1 96 = .ok (.iaload, 1) := by decide +kernel
theorem J_HBars_layFigures_d97 : decode J_HBars_layFigures.2.1 97 = .ok (.bipush 6, 2) := by decide +kernel
theorem J_HBars_layFigures_d99 : decode J_HBars_layFigures.2.1 99 = .ok (.iload_n 3, 1) := by decide +kernel
theorem J_HBars_layFigures_d100 : decode J_HBars_layFigures.2.1 100 = .ok (.isub, 1) := by decide +kernel
theorem J_HBars_layFigures_d101 : decode J_HBars_layFigures.2.1 101 = .ok (.ishr, 1) := by decide +kernel
theorem J_HBars_layFigures_d102 : decode J_HBars_layFigures.2.1 102 = .ok (.iconst 1, 1) := by decide +kernel
theorem J_HBars_layFigures_d103 : decode J_HBars_layFigures.2.1 103 = .ok (.iand, 1) := by decide +kernel
theorem J_HBars_layFigures_d104 : decode J_HBars_layFigures.2.1 104 = .ok (.ifCond .eq 7, 3) := by decide +kernel
theorem J_HBars_layFigures_d107 : decode J_HBars_layFigures.2.1 107 = .ok (.iconst 1, 1) := by decide +kernel
theorem J_HBars_layFigures_d108 : decode J_HBars_layFigures.2.1 108 = .ok (.goto 4, 3) := by decide +kernel
theorem J_HBars_layFigures_d111 : decode J_HBars_layFigures.2.1 111 = .ok (.iconst 0, 1) := by decide +kernel
theorem J_HBars_layFigures_d112 : decode J_HBars_layFigures.2.1 112 = .ok (.istore 4, 2) := by decide +kernel
theorem J_HBars_layFigures_d114 : decode J_HBars_layFigures.2.1 114 = .ok (.aload_n 0, 1) := by decide +kernel
theorem J_HBars_layFigures_d115 : decode J_HBars_layFigures.2.1 115 = .ok (.iload 4, 2) := by decide +kernel
theorem J_HBars_layFigures_d117 : decode J_HBars_layFigures.2.1 117 = .ok (.ifCond .eq 16, 3) := by decide +kernel
theorem J_HBars_layFigures_d120 : decode J_HBars_layFigures.2.1 120 = .ok (.getstatic 109, 3) := by decide +kernel
theorem J_HBars_layFigures_d123 : decode J_HBars_layFigures.2.1 123 = .ok (.aload_n 0, 1) := by decide +kernel
theorem J_HBars_layFigures_d124 : decode J_HBars_layFigures.2.1 124 = .ok (.getfield 29, 3) := by decide +kernel
theorem J_HBars_layFigures_d127 : decode J_HBars_layFigures.2.1 127 = .ok (.iload_n 3, 1) := by decide +kernel
theorem J_HBars_layFigures_d128 : decode J_HBars_layFigures.2.1 128 = .ok (.iaload, 1) := by decide +kernel
theorem J_HBars_layFigures_d129 : decode J_HBars_layFigures.2.1 129 = .ok (.iaload, 1) := by decide +kernel
theorem J_HBars_layFigures_d130 : decode J_HBars_layFigures.2.1 130 = .ok (.goto 13, 3) := by decide +kernel
theorem J_HBars_layFigures_d133 : decode J_HBars_layFigures.2.1 133 = .ok (.getstatic 112, 3) := by decide +kernel
theorem J_HBars_layFigures_d136 : decode J_HBars_layFigures.2.1 136 = .ok (.aload_n 0, 1) := by decide +kernel
theorem J_HBars_layFigures_d137 : decode J_HBars_layFigures.2.1 137 = .ok (.getfield 29, 3) := by decide +kernel
theorem J_HBars_layFigures_d140 : decode J_HBars_layFigures.2.1 140 = .ok (.iload_n 3, 1) := by decide +kernel
theorem J_HBars_layFigures_d141 : decode J_HBars_layFigures.2.1 141 = .ok (.iaload, 1) := by decide +kernel
theorem J_HBars_layFigures_d142 : decode J_HBars_layFigures.2.1 142 = .ok (.iaload, 1) := by decide +kernel
theorem J_HBars_layFigures_d143 : decode J_HBars_layFigures.2.1 143 = .ok (.sipush 1000, 3) := by decide +kernel
theorem J_HBars_layFigures_d146 : decode J_HBars_layFigures.2.1 146 = .ok (.invokevirtual 93, 3) := by decide +kernel
theorem J_HBars_layFigures_d149 : decode J_HBars_layFigures.2.1 149 = .ok (.iinc 3 1, 3) := by decide +kernel
theorem J_HBars_layFigures_d152 : decode J_HBars_layFigures.2.1 152 = .ok (.goto (-93), 3) := by decide +kernel
theorem J_HBars_layFigures_d155 : decode J_HBars_layFigures.2.1 155 = .ok (.aload_n 0, 1) := by decide +kernel
theorem J_HBars_layFigures_d156 : decode J_HBars_layFigures.2.1 156 = .ok (.bipush 111, 2) := by decide +kernel
theorem J_HBars_layFigures_d158 : decode J_HBars_layFigures.2.1 158 = .ok (.bipush 100, 2) := by decide +kernel
theorem J_HBars_layFigures_d160 : decode J_HBars_layFigures.2.1 160 = .ok (.invokevirtual 93, 3) := by decide +kernel
theorem J_HBars_layFigures_d163 : decode J_HBars_layFigures.2.1 163 = .ok (.return_, 1) := by decide +kernel
theorem f_HBars_layFigures_ok {L : Nat} {xs : Nat → Int32} {dep : Nat} {w : Bool} {p1 : Int32} {M : im_M} {Q : im_M → Prop} (hM : lw_S w M) (h : ed (f_HBars_layFigures p1 M) Q) : ia (tb_G L xs) (dep + 1) J_HBars_layFigures (rwV w Q) (0, lv_args 0 [.ref 31, .ref 14, .int p1], [], M) := by
  have hS : im_St (tb_G L xs) (dep + 1) J_HBars_layFigures (ia (tb_G L xs) (dep + 1) J_HBars_layFigures (rwV w Q)) := ia_St
  unfold f_HBars_layFigures at h
  have l0 : im_lk (lv_args 0 [.ref 31, .ref 14, .int p1]) 0 = some (.ref 31) := rfl
  have l1 : im_lk (lv_args 0 [.ref 31, .ref 14, .int p1]) 1 = some (.ref 14) := rfl
  have l2 : im_lk (lv_args 0 [.ref 31, .ref 14, .int p1]) 2 = some (.int p1) := rfl
  refine iq_iconst hS 1 J_HBars_layFigures_d0 (v := 0) (by decide +kernel) rfl ?_
  refine iq_istore_n hS 2 J_HBars_layFigures_d1 (by decide) rfl ?_
  obtain ⟨Q1, hQ1, h⟩ := bd1_ed h
  have K1 : ∀ (M2 : im_M) (L' : List (Nat × Value)), lw_S w M2 → im_lk L' 0 = some (.ref 31) → Q1 M2 → ia (tb_G L xs) (dep + 1) J_HBars_layFigures (rwV w Q) (33, L', [], M2) := by
    intro M2 L' hM2 l3 h
    replace h := hQ1 _ h
    refine iq_aload_n hS 34 J_HBars_layFigures_d33 l3 rfl ?_
    refine iq_getR hS 37 J_HBars_layFigures_d34 lf_0_29 (Or.inr ⟨_, rfl⟩) (ka_31 hM2) (ra_31_10 hM2) rfl ?_
    refine iq_bipush hS 39 J_HBars_layFigures_d37 (v := 12) (by decide +kernel) rfl ?_
    refine iq_aload_n hS 40 J_HBars_layFigures_d39 l3 rfl ?_
    obtain ⟨Q4, hQ4, h⟩ := bd1_ed h
    refine iq_cpI hS 43 J_HBars_layFigures_d40 rfl (pr_inst (vs := []) lc_0_102 lT_131 rfl rfl (by decide) (by decide) rfl (Nat.le_of_ble_eq_true rfl) (Nat.le_of_ble_eq_true rfl) (fun _ => Or.inl (pr_b (ka_31 hM2) (by decide) rfl))) (f_HBars_checkFigure_ok (dep := dep + 0) hM2 h) rfl ?_
    intro x4 h
    replace h := hQ4 _ h
    obtain ⟨g43, h⟩ := ed_gd h
    refine iq_iastore hS 44 J_HBars_layFigures_d43 ⟨(ka_37 hM2).1, (ka_37 hM2).2, g43.1, ix_lt (kl_37 hM2) g43.2⟩ rfl ?_
    refine iq_aload_n hS 45 J_HBars_layFigures_d44 l3 rfl ?_
    refine iq_iconst hS 46 J_HBars_layFigures_d45 (v := 0) (by decide +kernel) rfl ?_
    refine iq_putI hS 49 J_HBars_layFigures_d46 lf_0_86 (Or.inl rfl) rfl (ka_31 (lw_sI hM2)) rfl ?_
    refine iq_aload_n hS 50 J_HBars_layFigures_d49 l3 rfl ?_
    refine iq_bipush hS 52 J_HBars_layFigures_d50 (v := 111) (by decide +kernel) rfl ?_
    refine iq_bipush hS 54 J_HBars_layFigures_d52 (v := 100) (by decide +kernel) rfl ?_
    obtain ⟨Q5, hQ5, h⟩ := bd1_ed h
    refine iq_cwV hS 57 J_HBars_layFigures_d54 rfl (pr_inst (vs := [_, _]) lc_0_93 lT_127 rfl rfl (by decide) (by decide) rfl (Nat.le_of_ble_eq_true rfl) (Nat.le_of_ble_eq_true rfl) (fun _ => Or.inl (pr_b (ka_31 (lw_sI (lw_sI hM2))) (by decide) rfl))) (f_HBars_addWidths_ok (dep := dep + 0) (lw_sI (lw_sI hM2)) h) rfl ?_
    intro M5 hM5 h
    replace h := hQ5 _ h
    refine iq_iconst hS 58 J_HBars_layFigures_d57 (v := 1) (by decide +kernel) rfl ?_
    refine iq_istore_n hS 59 J_HBars_layFigures_d58 (by decide) rfl ?_
    obtain ⟨Q6, hQ6, h⟩ := bd1_ed h
    have K6 : ∀ (M7 : im_M) (L' : List (Nat × Value)), lw_S w M7 → im_lk L' 0 = some (.ref 31) → Q6 M7 → ia (tb_G L xs) (dep + 1) J_HBars_layFigures (rwV w Q) (155, L', [], M7) := by
      intro M7 L' hM7 l8 h
      replace h := hQ6 _ h
      refine iq_aload_n hS 156 J_HBars_layFigures_d155 l8 rfl ?_
      refine iq_bipush hS 158 J_HBars_layFigures_d156 (v := 111) (by decide +kernel) rfl ?_
      refine iq_bipush hS 160 J_HBars_layFigures_d158 (v := 100) (by decide +kernel) rfl ?_
      obtain ⟨Q9, hQ9, h⟩ := bd1_ed h
      refine iq_cwV hS 163 J_HBars_layFigures_d160 rfl (pr_inst (vs := [_, _]) lc_0_93 lT_127 rfl rfl (by decide) (by decide) rfl (Nat.le_of_ble_eq_true rfl) (Nat.le_of_ble_eq_true rfl) (fun _ => Or.inl (pr_b (ka_31 hM7) (by decide) rfl))) (f_HBars_addWidths_ok (dep := dep + 0) hM7 h) rfl ?_
      intro M9 hM9 h
      replace h := hQ9 _ h
      exact iq_ret J_HBars_layFigures_d163 rfl ⟨rfl, hM9, ed_some h⟩
    obtain ⟨r6, hr6, hq6⟩ := h
    obtain ⟨n6, hn6⟩ := lp_n hr6
    have I6 : ∀ (n : Nat) (x10 : Int32) (M11 : im_M) (L' : List (Nat × Value)), lw_S w M11 → im_lk L' 0 = some (.ref 31) → im_lk L' 3 = some (.int x10) → lpn (uc2 (f_HBars_layFigures_L59)) n (x10, M11) = some r6 → ia (tb_G L xs) (dep + 1) J_HBars_layFigures (rwV w Q) (59, L', [], M11) := by
      intro n
      induction n with
      | zero => intro x10 M11 L' hM11 l12 l13 hn; exact (lpn_0 hn).elim
      | succ n ih =>
        intro x10 M11 L' hM11 l12 l13 hn
        have h := lpn_ed2 hn
        unfold f_HBars_layFigures_L59 at h
        refine iq_iload_n hS 60 J_HBars_layFigures_d59 l13 rfl ?_
        refine iq_bipush hS 62 J_HBars_layFigures_d60 (v := 13) (by decide +kernel) rfl ?_
        refine iq_icmp_ge hS 65 J_HBars_layFigures_d62 (t := 155) rfl (fun q62 => ?_) rfl (fun q62 => ?_)
        · replace h := ed_pos q62 h
          exact K6 _ _ hM11 l12 (lq_r h hq6)
        · replace h := ed_neg q62 h
          refine iq_iload_n hS 66 J_HBars_layFigures_d65 l13 rfl ?_
          refine iq_bipush hS 68 J_HBars_layFigures_d66 (v := 7) (by decide +kernel) rfl ?_
          obtain ⟨Q14, hQ14, h⟩ := bd1_ed h
          have J14 : ∀ (M16 : im_M) (L' : List (Nat × Value)), lw_S w M16 → im_lk L' 0 = some (.ref 31) → im_lk L' 3 = some (.int x10) → Q14 M16 → ia (tb_G L xs) (dep + 1) J_HBars_layFigures (rwV w Q) (81, L', [], M16) := by
            intro M16 L' hM16 l17 l18 h
            replace h := hQ14 _ h
            refine iq_iload_n hS 82 J_HBars_layFigures_d81 l18 rfl ?_
            refine iq_bipush hS 84 J_HBars_layFigures_d82 (v := 7) (by decide +kernel) rfl ?_
            obtain ⟨Q19, hQ19, h⟩ := bd1_ed h
            have J19 : ∀ (y23 : Int32) (L' : List (Nat × Value)), im_lk L' 0 = some (.ref 31) → im_lk L' 3 = some (.int x10) → Q19 y23 → ia (tb_G L xs) (dep + 1) J_HBars_layFigures (rwV w Q) (112, L', [.int y23], M16) := by
              intro y23 L' l24 l25 h
              replace h := hQ19 _ h
              refine iq_istore hS 114 J_HBars_layFigures_d112 (by decide) rfl ?_
              refine iq_aload_n hS 115 J_HBars_layFigures_d114 (lk_1r l24 (by decide)) rfl ?_
              refine iq_iload hS 117 J_HBars_layFigures_d115 lk_1s rfl ?_
              obtain ⟨Q26, hQ26, h⟩ := bd1_ed h
              have J26 : ∀ (y27 : Int32) (L' : List (Nat × Value)), im_lk L' 0 = some (.ref 31) → im_lk L' 3 = some (.int x10) → Q26 y27 → ia (tb_G L xs) (dep + 1) J_HBars_layFigures (rwV w Q) (143, L', [.int y27, .ref 31], M16) := by
                intro y27 L' l28 l29 h
                replace h := hQ26 _ h
                refine iq_sipush hS 146 J_HBars_layFigures_d143 (v := 1000) (by decide +kernel) rfl ?_
                obtain ⟨Q30, hQ30, h⟩ := bd1_ed h
                refine iq_cwV hS 149 J_HBars_layFigures_d146 rfl (pr_inst (vs := [_, _]) lc_0_93 lT_127 rfl rfl (by decide) (by decide) rfl (Nat.le_of_ble_eq_true rfl) (Nat.le_of_ble_eq_true rfl) (fun _ => Or.inl (pr_b (ka_31 hM16) (by decide) rfl))) (f_HBars_addWidths_ok (dep := dep + 0) hM16 h) rfl ?_
                intro M30 hM30 h
                replace h := hQ30 _ h
                refine iq_iincv hS 152 J_HBars_layFigures_d149 (c := 1) (by decide +kernel) l29 (by decide) rfl ?_
                refine iq_goto hS J_HBars_layFigures_d152 (t := 59) rfl ?_
                exact ih _ _ _ hM30 (lk_1r l28 (by decide)) lk_1s (lq_l h)
              refine iq_if_eq hS 120 J_HBars_layFigures_d117 (t := 133) rfl (fun q117 => ?_) rfl (fun q117 => ?_)
              · replace h := ed_pos q117 h
                refine iq_getstatic hS 136 J_HBars_layFigures_d133 gs_0_112 rfl ?_
                refine iq_aload_n hS 137 J_HBars_layFigures_d136 (lk_1r l24 (by decide)) rfl ?_
                refine iq_getR hS 140 J_HBars_layFigures_d137 lf_0_29 (Or.inr ⟨_, rfl⟩) (ka_31 hM16) (ra_31_10 hM16) rfl ?_
                refine iq_iload_n hS 141 J_HBars_layFigures_d140 (lk_1i l25 (by decide)) rfl ?_
                obtain ⟨g141, h⟩ := ed_gd h
                refine iq_iaload hS 142 J_HBars_layFigures_d141 ⟨(ka_37 hM16).1, (ka_37 hM16).2, g141.1, ix_lt (kl_37 hM16) g141.2⟩ rfl ?_
                obtain ⟨g142, h⟩ := ed_gd h
                refine iq_xl_6 hS 143 J_HBars_layFigures_d142 hM16 g142 rfl ?_
                exact J26 _ _ (lk_1r l24 (by decide)) (lk_1i l25 (by decide)) (ed_some h)
              · replace h := ed_neg q117 h
                refine iq_getstatic hS 123 J_HBars_layFigures_d120 gs_0_109 rfl ?_
                refine iq_aload_n hS 124 J_HBars_layFigures_d123 (lk_1r l24 (by decide)) rfl ?_
                refine iq_getR hS 127 J_HBars_layFigures_d124 lf_0_29 (Or.inr ⟨_, rfl⟩) (ka_31 hM16) (ra_31_10 hM16) rfl ?_
                refine iq_iload_n hS 128 J_HBars_layFigures_d127 (lk_1i l25 (by decide)) rfl ?_
                obtain ⟨g128, h⟩ := ed_gd h
                refine iq_iaload hS 129 J_HBars_layFigures_d128 ⟨(ka_37 hM16).1, (ka_37 hM16).2, g128.1, ix_lt (kl_37 hM16) g128.2⟩ rfl ?_
                obtain ⟨g129, h⟩ := ed_gd h
                refine iq_xl_5 hS 130 J_HBars_layFigures_d129 hM16 g129 rfl ?_
                refine iq_goto hS J_HBars_layFigures_d130 (t := 143) rfl ?_
                exact J26 _ _ (lk_1r l24 (by decide)) (lk_1i l25 (by decide)) (ed_some h)
            obtain ⟨k20, Q20, hQ20, hk20, h⟩ := jn0_ed h
            have J20 : ∀  (L' : List (Nat × Value)), im_lk L' 0 = some (.ref 31) → im_lk L' 3 = some (.int x10) → Q20 () → ia (tb_G L xs) (dep + 1) J_HBars_layFigures (rwV w Q) (111, L', [], M16) := by
              intro  L' l21 l22 h
              replace h := hQ20  h
              refine iq_iconst hS 112 J_HBars_layFigures_d111 (v := 0) (by decide +kernel) rfl ?_
              exact J19 _ _ l21 l22 (ed_some h)
            refine iq_icmp_ge hS 87 J_HBars_layFigures_d84 (t := 111) rfl (fun q84 => ?_) rfl (fun q84 => ?_)
            · replace h := ed_pos q84 h
              exact J20  _ l17 l18 (hk20  h)
            · replace h := ed_neg q84 h
              refine iq_getstatic hS 90 J_HBars_layFigures_d87 gs_0_106 rfl ?_
              refine iq_aload_n hS 91 J_HBars_layFigures_d90 l17 rfl ?_
              refine iq_getR hS 94 J_HBars_layFigures_d91 lf_0_29 (Or.inr ⟨_, rfl⟩) (ka_31 hM16) (ra_31_10 hM16) rfl ?_
              refine iq_iconst hS 95 J_HBars_layFigures_d94 (v := 0) (by decide +kernel) rfl ?_
              obtain ⟨g95, h⟩ := ed_gd h
              refine iq_iaload hS 96 J_HBars_layFigures_d95 ⟨(ka_37 hM16).1, (ka_37 hM16).2, g95.1, ix_lt (kl_37 hM16) g95.2⟩ rfl ?_
              obtain ⟨g96, h⟩ := ed_gd h
              refine iq_xl_4 hS 97 J_HBars_layFigures_d96 hM16 g96 rfl ?_
              refine iq_bipush hS 99 J_HBars_layFigures_d97 (v := 6) (by decide +kernel) rfl ?_
              refine iq_iload_n hS 100 J_HBars_layFigures_d99 l18 rfl ?_
              refine iq_isub hS 101 J_HBars_layFigures_d100 rfl ?_
              refine iq_ishr hS 102 J_HBars_layFigures_d101 rfl ?_
              refine iq_iconst hS 103 J_HBars_layFigures_d102 (v := 1) (by decide +kernel) rfl ?_
              refine iq_iand hS 104 J_HBars_layFigures_d103 rfl ?_
              refine iq_if_eq hS 107 J_HBars_layFigures_d104 (t := 111) rfl (fun q104 => ?_) rfl (fun q104 => ?_)
              · replace h := ed_pos q104 h
                exact J20  _ l17 l18 (hk20  h)
              · replace h := ed_neg q104 h
                refine iq_iconst hS 108 J_HBars_layFigures_d107 (v := 1) (by decide +kernel) rfl ?_
                refine iq_goto hS J_HBars_layFigures_d108 (t := 112) rfl ?_
                exact J19 _ _ l17 l18 (ed_some h)
          refine iq_icmp_ne hS 71 J_HBars_layFigures_d68 (t := 81) rfl (fun q68 => ?_) rfl (fun q68 => ?_)
          · replace h := ed_pos q68 h
            exact J14 _ _ hM11 l12 l13 (ed_some h)
          · replace h := ed_neg q68 h
            refine iq_aload_n hS 72 J_HBars_layFigures_d71 l12 rfl ?_
            refine iq_sipush hS 75 J_HBars_layFigures_d72 (v := 11111) (by decide +kernel) rfl ?_
            refine iq_sipush hS 78 J_HBars_layFigures_d75 (v := 10000) (by decide +kernel) rfl ?_
            obtain ⟨Q15, hQ15, h⟩ := bd1_ed h
            refine iq_cwV hS 81 J_HBars_layFigures_d78 rfl (pr_inst (vs := [_, _]) lc_0_93 lT_127 rfl rfl (by decide) (by decide) rfl (Nat.le_of_ble_eq_true rfl) (Nat.le_of_ble_eq_true rfl) (fun _ => Or.inl (pr_b (ka_31 hM11) (by decide) rfl))) (f_HBars_addWidths_ok (dep := dep + 0) hM11 h) rfl ?_
            intro M15 hM15 h
            replace h := hQ15 _ h
            exact J14 _ _ hM15 l12 l13 (ed_some h)
    exact I6 n6 _ _ _ hM5 (lk_1r l3 (by decide)) lk_1s hn6
  obtain ⟨r1, hr1, hq1⟩ := h
  obtain ⟨n1, hn1⟩ := lp_n hr1
  have I1 : ∀ (n : Nat) (x31 : Int32) (M32 : im_M) (L' : List (Nat × Value)), lw_S w M32 → im_lk L' 0 = some (.ref 31) → im_lk L' 1 = some (.ref 14) → im_lk L' 2 = some (.int p1) → im_lk L' 3 = some (.int x31) → lpn (uc2 (f_HBars_layFigures_L2 p1)) n (x31, M32) = some r1 → ia (tb_G L xs) (dep + 1) J_HBars_layFigures (rwV w Q) (2, L', [], M32) := by
    intro n
    induction n with
    | zero => intro x31 M32 L' hM32 l33 l34 l35 l36 hn; exact (lpn_0 hn).elim
    | succ n ih =>
      intro x31 M32 L' hM32 l33 l34 l35 l36 hn
      have h := lpn_ed2 hn
      unfold f_HBars_layFigures_L2 at h
      refine iq_iload_n hS 3 J_HBars_layFigures_d2 l36 rfl ?_
      refine iq_bipush hS 5 J_HBars_layFigures_d3 (v := 12) (by decide +kernel) rfl ?_
      refine iq_icmp_ge hS 8 J_HBars_layFigures_d5 (t := 33) rfl (fun q5 => ?_) rfl (fun q5 => ?_)
      · replace h := ed_pos q5 h
        exact K1 _ _ hM32 l33 (lq_r h hq1)
      · replace h := ed_neg q5 h
        refine iq_aload_n hS 9 J_HBars_layFigures_d8 l33 rfl ?_
        refine iq_getR hS 12 J_HBars_layFigures_d9 lf_0_29 (Or.inr ⟨_, rfl⟩) (ka_31 hM32) (ra_31_10 hM32) rfl ?_
        refine iq_iload_n hS 13 J_HBars_layFigures_d12 l36 rfl ?_
        refine iq_aload_n hS 14 J_HBars_layFigures_d13 l34 rfl ?_
        refine iq_iload_n hS 15 J_HBars_layFigures_d14 l35 rfl ?_
        refine iq_iload_n hS 16 J_HBars_layFigures_d15 l36 rfl ?_
        refine iq_iadd hS 17 J_HBars_layFigures_d16 rfl ?_
        obtain ⟨g17, h⟩ := ed_gd h
        refine iq_baload hS 18 J_HBars_layFigures_d17 ⟨(ka_14 hM32).1, (ka_14 hM32).2, g17.1, ix_lt (kl_14 hM32) g17.2⟩ rfl ?_
        refine iq_bipush hS 20 J_HBars_layFigures_d18 (v := 48) (by decide +kernel) rfl ?_
        refine iq_isub hS 21 J_HBars_layFigures_d20 rfl ?_
        refine iq_bipush hS 23 J_HBars_layFigures_d21 (v := 10) (by decide +kernel) rfl ?_
        obtain ⟨Q37, hQ37, h⟩ := bd1_ed h
        refine iq_cpI hS 26 J_HBars_layFigures_d23 rfl (pr_stat (vs := [_, _]) lc_0_99 lT_130 rfl rfl (by decide) rfl (Nat.le_of_ble_eq_true rfl) (Nat.le_of_ble_eq_true rfl)) (f_Math_floorMod2_ok (dep := dep + 0) hM32 h) rfl ?_
        intro x37 h
        replace h := hQ37 _ h
        obtain ⟨g26, h⟩ := ed_gd h
        refine iq_iastore hS 27 J_HBars_layFigures_d26 ⟨(ka_37 hM32).1, (ka_37 hM32).2, g26.1, ix_lt (kl_37 hM32) g26.2⟩ rfl ?_
        refine iq_iincv hS 30 J_HBars_layFigures_d27 (c := 1) (by decide +kernel) l36 (by decide) rfl ?_
        refine iq_goto hS J_HBars_layFigures_d30 (t := 2) rfl ?_
        exact ih _ _ _ (lw_sI hM32) (lk_1r l33 (by decide)) (lk_1r l34 (by decide)) (lk_1i l35 (by decide)) lk_1s (lq_l h)
  exact I1 n1 _ _ _ hM (lk_1r l0 (by decide)) (lk_1r l1 (by decide)) (lk_1i l2 (by decide)) lk_1s hn1
theorem f_HBars_layFigures_fr {p1 : Int32} {M : im_M} {r : im_M} (h : f_HBars_layFigures p1 M = some r) : fr 146028888064 [(31, 2)] M r := by
  replace h : ed (f_HBars_layFigures p1 M) (fun x => x = r) := ⟨r, h, rfl⟩
  unfold f_HBars_layFigures at h
  obtain ⟨Q1, hQ1, h⟩ := bd1_ed h
  have K1 : ∀ (M2 : im_M), fr 146028888064 [(31, 2)] M M2 → Q1 M2 → fr 146028888064 [(31, 2)] M r := by
    intro M2 hM2 h
    replace h := hQ1 _ h
    obtain ⟨Q3, hQ3, h⟩ := bd1_ed h
    obtain ⟨x3, e3, h⟩ := h
    replace h := hQ3 _ h
    obtain ⟨g43, h⟩ := ed_gd h
    obtain ⟨Q4, hQ4, h⟩ := bd1_ed h
    obtain ⟨M4, e4, h⟩ := h
    replace h := hQ4 _ h
    obtain ⟨Q5, hQ5, h⟩ := bd1_ed h
    have K5 : ∀ (M6 : im_M), fr 146028888064 [(31, 2)] M M6 → Q5 M6 → fr 146028888064 [(31, 2)] M r := by
      intro M6 hM6 h
      replace h := hQ5 _ h
      obtain ⟨Q7, hQ7, h⟩ := bd1_ed h
      obtain ⟨M7, e7, h⟩ := h
      replace h := hQ7 _ h
      exact fr_retV h (fr_tr (fr_mono (by decide) (by decide +kernel) (f_HBars_addWidths_fr e7)) hM6)
    obtain ⟨r5, hr5, hq5⟩ := h
    obtain ⟨n5, hn5⟩ := lp_n hr5
    have I5 : ∀ (n : Nat) (x8 : Int32) (M9 : im_M), fr 146028888064 [(31, 2)] M M9 → lpn (uc2 (f_HBars_layFigures_L59)) n (x8, M9) = some r5 → fr 146028888064 [(31, 2)] M r := by
      intro n
      induction n with
      | zero => intro x8 M9 hM9 hn; exact (lpn_0 hn).elim
      | succ n ih =>
        intro x8 M9 hM9 hn
        have h := lpn_ed2 hn
        unfold f_HBars_layFigures_L59 at h
        by_cases q62 : 13 ≤ x8
        · replace h := ed_pos q62 h
          exact K5 _ hM9 (lq_r h hq5)
        · replace h := ed_neg q62 h
          obtain ⟨Q10, hQ10, h⟩ := bd1_ed h
          have J10 : ∀ (M12 : im_M), fr 146028888064 [(31, 2)] M M12 → Q10 M12 → fr 146028888064 [(31, 2)] M r := by
            intro M12 hM12 h
            replace h := hQ10 _ h
            obtain ⟨Q15, hQ15, h⟩ := bd1_ed h
            have J15 : ∀ (y19 : Int32), Q15 y19 → fr 146028888064 [(31, 2)] M r := by
              intro y19 h
              replace h := hQ15 _ h
              obtain ⟨Q22, hQ22, h⟩ := bd1_ed h
              have J22 : ∀ (y23 : Int32), Q22 y23 → fr 146028888064 [(31, 2)] M r := by
                intro y23 h
                replace h := hQ22 _ h
                obtain ⟨Q26, hQ26, h⟩ := bd1_ed h
                obtain ⟨M26, e26, h⟩ := h
                replace h := hQ26 _ h
                exact ih _ _ (fr_tr (fr_mono (by decide) (by decide +kernel) (f_HBars_addWidths_fr e26)) hM12) (lq_l h)
              by_cases q117 : y19 = 0
              · replace h := ed_pos q117 h
                obtain ⟨g141, h⟩ := ed_gd h
                obtain ⟨g142, h⟩ := ed_gd h
                exact J22 _ (ed_some h)
              · replace h := ed_neg q117 h
                obtain ⟨g128, h⟩ := ed_gd h
                obtain ⟨g129, h⟩ := ed_gd h
                exact J22 _ (ed_some h)
            obtain ⟨k16, Q16, hQ16, hk16, h⟩ := jn0_ed h
            have J16 : Q16 () → fr 146028888064 [(31, 2)] M r := by
              intro  h
              replace h := hQ16  h
              exact J15 _ (ed_some h)
            by_cases q84 : 7 ≤ x8
            · replace h := ed_pos q84 h
              exact J16  (hk16  h)
            · replace h := ed_neg q84 h
              obtain ⟨g95, h⟩ := ed_gd h
              obtain ⟨g96, h⟩ := ed_gd h
              by_cases q104 : (((xa_4 (im_i M12 37 (Int32.toNatClampNeg 0))) >>> (((6 : Int32) - x8) &&& 31 : Int32) : Int32) &&& 1) = 0
              · replace h := ed_pos q104 h
                exact J16  (hk16  h)
              · replace h := ed_neg q104 h
                exact J15 _ (ed_some h)
          by_cases q68 : ¬ x8 = 7
          · replace h := ed_pos q68 h
            exact J10 _ hM9 (ed_some h)
          · replace h := ed_neg q68 h
            obtain ⟨Q11, hQ11, h⟩ := bd1_ed h
            obtain ⟨M11, e11, h⟩ := h
            replace h := hQ11 _ h
            exact J10 _ (fr_tr (fr_mono (by decide) (by decide +kernel) (f_HBars_addWidths_fr e11)) hM9) (ed_some h)
    exact I5 n5 _ _ (fr_tr (fr_mono (by decide) (by decide +kernel) (f_HBars_addWidths_fr e4)) (fr_F (by decide) (fr_I (by decide) hM2))) hn5
  obtain ⟨r1, hr1, hq1⟩ := h
  obtain ⟨n1, hn1⟩ := lp_n hr1
  have I1 : ∀ (n : Nat) (x27 : Int32) (M28 : im_M), fr 146028888064 [(31, 2)] M M28 → lpn (uc2 (f_HBars_layFigures_L2 p1)) n (x27, M28) = some r1 → fr 146028888064 [(31, 2)] M r := by
    intro n
    induction n with
    | zero => intro x27 M28 hM28 hn; exact (lpn_0 hn).elim
    | succ n ih =>
      intro x27 M28 hM28 hn
      have h := lpn_ed2 hn
      unfold f_HBars_layFigures_L2 at h
      by_cases q5 : 12 ≤ x27
      · replace h := ed_pos q5 h
        exact K1 _ hM28 (lq_r h hq1)
      · replace h := ed_neg q5 h
        obtain ⟨g17, h⟩ := ed_gd h
        obtain ⟨Q29, hQ29, h⟩ := bd1_ed h
        obtain ⟨x29, e29, h⟩ := h
        replace h := hQ29 _ h
        obtain ⟨g26, h⟩ := ed_gd h
        exact ih _ _ (fr_I (by decide) hM28) (lq_l h)
  exact I1 n1 _ _ fr_refl hn1
noncomputable def f_HSegments_groupOf (p0 : Int32) (M : im_M) : Option (Int32) := if 10 ≤ p0 then if 27 ≤ p0 then some 2 else some 1 else some 0
theorem J_HSegments_groupOf_d0 : decode J_HSegments_groupOf.2.1 0 = .ok (.iload_n 0, 1) := by decide +kernel
theorem J_HSegments_groupOf_d1 : decode J_HSegments_groupOf.2.1 1 = .ok (.bipush 10, 2) := by decide +kernel
theorem J_HSegments_groupOf_d3 : decode J_HSegments_groupOf.2.1 3 = .ok (.if_icmp .ge 7, 3) := by decide +kernel
theorem J_HSegments_groupOf_d6 : decode J_HSegments_groupOf.2.1 6 = .ok (.iconst 0, 1) := by decide +kernel
theorem J_HSegments_groupOf_d7 : decode J_HSegments_groupOf.2.1 7 = .ok (.goto 14, 3) := by decide +kernel
theorem J_HSegments_groupOf_d10 : decode J_HSegments_groupOf.2.1 10 = .ok (.iload_n 0, 1) := by decide +kernel
theorem J_HSegments_groupOf_d11 : decode J_HSegments_groupOf.2.1 11 = .ok (.bipush 27, 2) := by decide +kernel
theorem J_HSegments_groupOf_d13 : decode J_HSegments_groupOf.2.1 13 = .ok (.if_icmp .ge 7, 3) := by decide +kernel
theorem J_HSegments_groupOf_d16 : decode J_HSegments_groupOf.2.1 16 = .ok (.iconst 1, 1) := by decide +kernel
theorem J_HSegments_groupOf_d17 : decode J_HSegments_groupOf.2.1 17 = .ok (.goto 4, 3) := by decide +kernel
theorem J_HSegments_groupOf_d20 : decode J_HSegments_groupOf.2.1 20 = .ok (.iconst 2, 1) := by decide +kernel
theorem J_HSegments_groupOf_d21 : decode J_HSegments_groupOf.2.1 21 = .ok (.ireturn, 1) := by decide +kernel
theorem f_HSegments_groupOf_ok {L : Nat} {xs : Nat → Int32} {dep : Nat} {w : Bool} {p0 : Int32} {M : im_M} {Q : Int32 → Prop} (hM : lw_S w M) (h : ed (f_HSegments_groupOf p0 M) Q) : ia (tb_G L xs) dep J_HSegments_groupOf (rpI M Q) (0, lv_args 0 [.int p0], [], M) := by
  have hS : im_St (tb_G L xs) dep J_HSegments_groupOf (ia (tb_G L xs) dep J_HSegments_groupOf (rpI M Q)) := ia_St
  unfold f_HSegments_groupOf at h
  have l0 : im_lk (lv_args 0 [.int p0]) 0 = some (.int p0) := rfl
  refine iq_iload_n hS 1 J_HSegments_groupOf_d0 l0 rfl ?_
  refine iq_bipush hS 3 J_HSegments_groupOf_d1 (v := 10) (by decide +kernel) rfl ?_
  refine iq_icmp_ge hS 6 J_HSegments_groupOf_d3 (t := 10) rfl (fun q3 => ?_) rfl (fun q3 => ?_)
  · replace h := ed_pos q3 h
    refine iq_iload_n hS 11 J_HSegments_groupOf_d10 l0 rfl ?_
    refine iq_bipush hS 13 J_HSegments_groupOf_d11 (v := 27) (by decide +kernel) rfl ?_
    refine iq_icmp_ge hS 16 J_HSegments_groupOf_d13 (t := 20) rfl (fun q13 => ?_) rfl (fun q13 => ?_)
    · replace h := ed_pos q13 h
      refine iq_iconst hS 21 J_HSegments_groupOf_d20 (v := 2) (by decide +kernel) rfl ?_
      exact iq_iret J_HSegments_groupOf_d21 rfl rfl ⟨_, rfl, rfl, ed_some h⟩
    · replace h := ed_neg q13 h
      refine iq_iconst hS 17 J_HSegments_groupOf_d16 (v := 1) (by decide +kernel) rfl ?_
      refine iq_goto hS J_HSegments_groupOf_d17 (t := 21) rfl ?_
      exact iq_iret J_HSegments_groupOf_d21 rfl rfl ⟨_, rfl, rfl, ed_some h⟩
  · replace h := ed_neg q3 h
    refine iq_iconst hS 7 J_HSegments_groupOf_d6 (v := 0) (by decide +kernel) rfl ?_
    refine iq_goto hS J_HSegments_groupOf_d7 (t := 21) rfl ?_
    exact iq_iret J_HSegments_groupOf_d21 rfl rfl ⟨_, rfl, rfl, ed_some h⟩
noncomputable def f_Arrays_fill_3_L10 (v3 : Int32) (v4 : Int32) (x5 : Int32) (M6 : im_M) : Option ((Int32 × im_M) ⊕ (im_M)) := if v3 ≤ x5 then some (.inr M6) else gd (inb x5 1407) <| some (.inl ((x5 + 1), (im_setI M6 41 (Int32.toNatClampNeg x5) v4)))
noncomputable def f_Arrays_fill_3 (p1 : Int32) (p2 : Int32) (p3 : Int32) (M : im_M) : Option (im_M) := bd0 (f_Arrays_rangeCheck 1407 p1 p2 M) fun (_ : Unit) => bd1 (lp (uc2 (f_Arrays_fill_3_L10 p2 p3)) (p1, M)) fun (M7 : im_M) => some M7
theorem f_Arrays_fill_3_ok {L : Nat} {xs : Nat → Int32} {dep : Nat} {w : Bool} {p1 : Int32} {p2 : Int32} {p3 : Int32} {M : im_M} {Q : im_M → Prop} (hM : lw_S w M) (h : ed (f_Arrays_fill_3 p1 p2 p3 M) Q) : ia (tb_G L xs) (dep + 1) J_Arrays_fill (rwV w Q) (0, lv_args 0 [.ref 41, .int p1, .int p2, .int p3], [], M) := by
  have hS : im_St (tb_G L xs) (dep + 1) J_Arrays_fill (ia (tb_G L xs) (dep + 1) J_Arrays_fill (rwV w Q)) := ia_St
  unfold f_Arrays_fill_3 at h
  have l0 : im_lk (lv_args 0 [.ref 41, .int p1, .int p2, .int p3]) 0 = some (.ref 41) := rfl
  have l1 : im_lk (lv_args 0 [.ref 41, .int p1, .int p2, .int p3]) 1 = some (.int p1) := rfl
  have l2 : im_lk (lv_args 0 [.ref 41, .int p1, .int p2, .int p3]) 2 = some (.int p2) := rfl
  have l3 : im_lk (lv_args 0 [.ref 41, .int p1, .int p2, .int p3]) 3 = some (.int p3) := rfl
  refine iq_aload_n hS 1 J_Arrays_fill_d0 l0 rfl ?_
  refine iq_alenv hS 2 J_Arrays_fill_d1 (v := 1407) (ka_41 hM) (by decide) (by decide) (kl_41 hM) (by decide +kernel) rfl ?_
  refine iq_iload_n hS 3 J_Arrays_fill_d2 l1 rfl ?_
  refine iq_iload_n hS 4 J_Arrays_fill_d3 l2 rfl ?_
  obtain ⟨Q1, hQ1, h⟩ := bd0_ed h
  refine iq_cpV hS 7 J_Arrays_fill_d4 rfl (pr_stat (vs := [_, _, _]) lc_22_13 lT_54 rfl rfl (by decide) rfl (Nat.le_of_ble_eq_true rfl) (Nat.le_of_ble_eq_true rfl)) (f_Arrays_rangeCheck_ok (dep := dep + 0) hM h) rfl ?_
  intro h
  replace h := hQ1  h
  refine iq_iload_n hS 8 J_Arrays_fill_d7 l1 rfl ?_
  refine iq_istore hS 10 J_Arrays_fill_d8 (by decide) rfl ?_
  obtain ⟨Q2, hQ2, h⟩ := bd1_ed h
  have K2 : ∀ (M3 : im_M) (L' : List (Nat × Value)), lw_S w M3 → Q2 M3 → ia (tb_G L xs) (dep + 1) J_Arrays_fill (rwV w Q) (27, L', [], M3) := by
    intro M3 L' hM3  h
    replace h := hQ2 _ h
    exact iq_ret J_Arrays_fill_d27 rfl ⟨rfl, hM3, ed_some h⟩
  obtain ⟨r2, hr2, hq2⟩ := h
  obtain ⟨n2, hn2⟩ := lp_n hr2
  have I2 : ∀ (n : Nat) (x4 : Int32) (M5 : im_M) (L' : List (Nat × Value)), lw_S w M5 → im_lk L' 0 = some (.ref 41) → im_lk L' 2 = some (.int p2) → im_lk L' 3 = some (.int p3) → im_lk L' 4 = some (.int x4) → lpn (uc2 (f_Arrays_fill_3_L10 p2 p3)) n (x4, M5) = some r2 → ia (tb_G L xs) (dep + 1) J_Arrays_fill (rwV w Q) (10, L', [], M5) := by
    intro n
    induction n with
    | zero => intro x4 M5 L' hM5 l6 l7 l8 l9 hn; exact (lpn_0 hn).elim
    | succ n ih =>
      intro x4 M5 L' hM5 l6 l7 l8 l9 hn
      have h := lpn_ed2 hn
      unfold f_Arrays_fill_3_L10 at h
      refine iq_iload hS 12 J_Arrays_fill_d10 l9 rfl ?_
      refine iq_iload_n hS 13 J_Arrays_fill_d12 l7 rfl ?_
      refine iq_icmp_ge hS 16 J_Arrays_fill_d13 (t := 27) rfl (fun q13 => ?_) rfl (fun q13 => ?_)
      · replace h := ed_pos q13 h
        exact K2 _ _ hM5  (lq_r h hq2)
      · replace h := ed_neg q13 h
        refine iq_aload_n hS 17 J_Arrays_fill_d16 l6 rfl ?_
        refine iq_iload hS 19 J_Arrays_fill_d17 l9 rfl ?_
        refine iq_iload_n hS 20 J_Arrays_fill_d19 l8 rfl ?_
        obtain ⟨g20, h⟩ := ed_gd h
        refine iq_iastore hS 21 J_Arrays_fill_d20 ⟨(ka_41 hM5).1, (ka_41 hM5).2, g20.1, ix_lt (kl_41 hM5) g20.2⟩ rfl ?_
        refine iq_iincv hS 24 J_Arrays_fill_d21 (c := 1) (by decide +kernel) l9 (by decide) rfl ?_
        refine iq_goto hS J_Arrays_fill_d24 (t := 10) rfl ?_
        exact ih _ _ _ (lw_sI hM5) (lk_1r l6 (by decide)) (lk_1i l7 (by decide)) (lk_1i l8 (by decide)) lk_1s (lq_l h)
  exact I2 n2 _ _ _ hM (lk_1r l0 (by decide)) (lk_1i l2 (by decide)) (lk_1i l3 (by decide)) lk_1s hn2
theorem f_Arrays_fill_3_fr {p1 : Int32} {p2 : Int32} {p3 : Int32} {M : im_M} {r : im_M} (h : f_Arrays_fill_3 p1 p2 p3 M = some r) : fr 2199023255552 [] M r := by
  replace h : ed (f_Arrays_fill_3 p1 p2 p3 M) (fun x => x = r) := ⟨r, h, rfl⟩
  unfold f_Arrays_fill_3 at h
  obtain ⟨Q1, hQ1, h⟩ := bd0_ed h
  obtain ⟨_, e1, h⟩ := h
  replace h := hQ1  h
  obtain ⟨Q2, hQ2, h⟩ := bd1_ed h
  have K2 : ∀ (M3 : im_M), fr 2199023255552 [] M M3 → Q2 M3 → fr 2199023255552 [] M r := by
    intro M3 hM3 h
    replace h := hQ2 _ h
    exact fr_retV h hM3
  obtain ⟨r2, hr2, hq2⟩ := h
  obtain ⟨n2, hn2⟩ := lp_n hr2
  have I2 : ∀ (n : Nat) (x4 : Int32) (M5 : im_M), fr 2199023255552 [] M M5 → lpn (uc2 (f_Arrays_fill_3_L10 p2 p3)) n (x4, M5) = some r2 → fr 2199023255552 [] M r := by
    intro n
    induction n with
    | zero => intro x4 M5 hM5 hn; exact (lpn_0 hn).elim
    | succ n ih =>
      intro x4 M5 hM5 hn
      have h := lpn_ed2 hn
      unfold f_Arrays_fill_3_L10 at h
      by_cases q13 : p2 ≤ x4
      · replace h := ed_pos q13 h
        exact K2 _ hM5 (lq_r h hq2)
      · replace h := ed_neg q13 h
        obtain ⟨g20, h⟩ := ed_gd h
        exact ih _ _ (fr_I (by decide) hM5) (lq_l h)
  exact I2 n2 _ _ fr_refl hn2
noncomputable def f_String_isLatin1_1 (M : im_M) : Option (Int32) := if (1 : Int32) = 0 then some 0 else if ¬ (0 : Int32) = 0 then some 0 else some 1
theorem f_String_isLatin1_1_ok {L : Nat} {xs : Nat → Int32} {dep : Nat} {w : Bool} {M : im_M} {Q : Int32 → Prop} (hM : lw_S w M) (h : ed (f_String_isLatin1_1 M) Q) : ia (tb_G L xs) dep J_String_isLatin1 (rpI M Q) (0, lv_args 0 [.ref 2000001], [], M) := by
  have hS : im_St (tb_G L xs) dep J_String_isLatin1 (ia (tb_G L xs) dep J_String_isLatin1 (rpI M Q)) := ia_St
  unfold f_String_isLatin1_1 at h
  have l0 : im_lk (lv_args 0 [.ref 2000001]) 0 = some (.ref 2000001) := rfl
  refine iq_getstatic hS 3 J_String_isLatin1_d0 gs_19_38 rfl ?_
  refine iq_if_eq hS 6 J_String_isLatin1_d3 (t := 17) rfl (fun q3 => ?_) rfl (fun q3 => ?_)
  · replace h := ed_pos q3 h
    refine iq_iconst hS 18 J_String_isLatin1_d17 (v := 0) (by decide +kernel) rfl ?_
    exact iq_iret J_String_isLatin1_d18 rfl rfl ⟨_, rfl, rfl, ed_some h⟩
  · replace h := ed_neg q3 h
    refine iq_aload_n hS 7 J_String_isLatin1_d6 l0 rfl ?_
    refine iq_xcod hS 10 J_String_isLatin1_d7 (gf_of (by decide +kernel)) (gvT_of (by decide +kernel)) xks_1 rfl ?_
    refine iq_if_ne hS 13 J_String_isLatin1_d10 (t := 17) rfl (fun q10 => ?_) rfl (fun q10 => ?_)
    · replace h := ed_pos q10 h
      refine iq_iconst hS 18 J_String_isLatin1_d17 (v := 0) (by decide +kernel) rfl ?_
      exact iq_iret J_String_isLatin1_d18 rfl rfl ⟨_, rfl, rfl, ed_some h⟩
    · replace h := ed_neg q10 h
      refine iq_iconst hS 14 J_String_isLatin1_d13 (v := 1) (by decide +kernel) rfl ?_
      refine iq_goto hS J_String_isLatin1_d14 (t := 18) rfl ?_
      exact iq_iret J_String_isLatin1_d18 rfl rfl ⟨_, rfl, rfl, ed_some h⟩
noncomputable def f_String_coder_1 (M : im_M) : Option (Int32) := if (1 : Int32) = 0 then some 1 else some 0
theorem f_String_coder_1_ok {L : Nat} {xs : Nat → Int32} {dep : Nat} {w : Bool} {M : im_M} {Q : Int32 → Prop} (hM : lw_S w M) (h : ed (f_String_coder_1 M) Q) : ia (tb_G L xs) dep J_String_coder (rpI M Q) (0, lv_args 0 [.ref 2000001], [], M) := by
  have hS : im_St (tb_G L xs) dep J_String_coder (ia (tb_G L xs) dep J_String_coder (rpI M Q)) := ia_St
  unfold f_String_coder_1 at h
  have l0 : im_lk (lv_args 0 [.ref 2000001]) 0 = some (.ref 2000001) := rfl
  refine iq_getstatic hS 3 J_String_coder_d0 gs_19_38 rfl ?_
  refine iq_if_eq hS 6 J_String_coder_d3 (t := 13) rfl (fun q3 => ?_) rfl (fun q3 => ?_)
  · replace h := ed_pos q3 h
    refine iq_iconst hS 14 J_String_coder_d13 (v := 1) (by decide +kernel) rfl ?_
    exact iq_iret J_String_coder_d14 rfl rfl ⟨_, rfl, rfl, ed_some h⟩
  · replace h := ed_neg q3 h
    refine iq_aload_n hS 7 J_String_coder_d6 l0 rfl ?_
    refine iq_xcod hS 10 J_String_coder_d7 (gf_of (by decide +kernel)) (gvT_of (by decide +kernel)) xks_1 rfl ?_
    refine iq_goto hS J_String_coder_d10 (t := 14) rfl ?_
    exact iq_iret J_String_coder_d14 rfl rfl ⟨_, rfl, rfl, ed_some h⟩
noncomputable def f_String_length_1 (M : im_M) : Option (Int32) := bd1 (f_String_coder_1 M) fun (x1 : Int32) => some ((Int32.ofNat 45) >>> (x1 &&& 31 : Int32) : Int32)
theorem f_String_length_1_ok {L : Nat} {xs : Nat → Int32} {dep : Nat} {w : Bool} {M : im_M} {Q : Int32 → Prop} (hM : lw_S w M) (h : ed (f_String_length_1 M) Q) : ia (tb_G L xs) (dep + 1) J_String_length (rpI M Q) (0, lv_args 0 [.ref 2000001], [], M) := by
  have hS : im_St (tb_G L xs) (dep + 1) J_String_length (ia (tb_G L xs) (dep + 1) J_String_length (rpI M Q)) := ia_St
  unfold f_String_length_1 at h
  have l0 : im_lk (lv_args 0 [.ref 2000001]) 0 = some (.ref 2000001) := rfl
  refine iq_aload_n hS 1 J_String_length_d0 l0 rfl ?_
  refine iq_xval hS 4 J_String_length_d1 (gf_of (by decide +kernel)) (gvT_of (by decide +kernel)) xks_1 (b := 3000001) rfl rfl ?_
  refine iq_xalen hS 5 J_String_length_d4 (by rw [(hM).1]; decide) (Or.inr (by rw [xkb_1])) rfl ?_
  rw [xkb_1]
  refine iq_aload_n hS 6 J_String_length_d5 l0 rfl ?_
  obtain ⟨Q1, hQ1, h⟩ := bd1_ed h
  refine iq_cpI hS 9 J_String_length_d6 rfl (pr_inst (vs := []) lc_19_335 lT_24 rfl rfl (by decide) (by decide) rfl (Nat.le_of_ble_eq_true rfl) (Nat.le_of_ble_eq_true rfl) (fun _ => Or.inr ⟨xks_1, rfl⟩)) (f_String_coder_1_ok (dep := dep + 0) hM h) rfl ?_
  intro x1 h
  replace h := hQ1 _ h
  refine iq_ishr hS 10 J_String_length_d9 rfl ?_
  exact iq_iret J_String_length_d10 rfl rfl ⟨_, rfl, rfl, ed_some h⟩
noncomputable def f_StringLatin1_indexOfChar_1_L7 (v2 : Int32) (v3 : Int32) (M5 : im_M) (x4 : Int32) : Option ((Int32) ⊕ ((Unit) ⊕ (Int32))) := if v2 ≤ x4 then some (.inr (.inl ())) else gd (inb x4 45) <| if ¬ (xb_1 x4) = v3 then some (.inl (x4 + 1)) else some (.inr (.inr x4))
noncomputable def f_StringLatin1_indexOfChar_1 (p1 : Int32) (p2 : Int32) (p3 : Int32) (M : im_M) : Option (Int32) := bs0 (lp (uc1 (f_StringLatin1_indexOfChar_1_L7 p3 ((Int32.toInt8 p1).toInt32) M)) p2) (fun (_ : Unit) => some (-1)) (fun t => some t)
theorem f_StringLatin1_indexOfChar_1_ok {L : Nat} {xs : Nat → Int32} {dep : Nat} {w : Bool} {p1 : Int32} {p2 : Int32} {p3 : Int32} {M : im_M} {Q : Int32 → Prop} (hM : lw_S w M) (h : ed (f_StringLatin1_indexOfChar_1 p1 p2 p3 M) Q) : ia (tb_G L xs) dep J_StringLatin1_indexOfChar (rpI M Q) (0, lv_args 0 [.ref 3000001, .int p1, .int p2, .int p3], [], M) := by
  have hS : im_St (tb_G L xs) dep J_StringLatin1_indexOfChar (ia (tb_G L xs) dep J_StringLatin1_indexOfChar (rpI M Q)) := ia_St
  unfold f_StringLatin1_indexOfChar_1 at h
  have l0 : im_lk (lv_args 0 [.ref 3000001, .int p1, .int p2, .int p3]) 0 = some (.ref 3000001) := rfl
  have l1 : im_lk (lv_args 0 [.ref 3000001, .int p1, .int p2, .int p3]) 1 = some (.int p1) := rfl
  have l2 : im_lk (lv_args 0 [.ref 3000001, .int p1, .int p2, .int p3]) 2 = some (.int p2) := rfl
  have l3 : im_lk (lv_args 0 [.ref 3000001, .int p1, .int p2, .int p3]) 3 = some (.int p3) := rfl
  refine iq_iload_n hS 1 J_StringLatin1_indexOfChar_d0 l1 rfl ?_
  refine iq_i2b hS 2 J_StringLatin1_indexOfChar_d1 rfl ?_
  refine iq_istore hS 4 J_StringLatin1_indexOfChar_d2 (by decide) rfl ?_
  refine iq_iload_n hS 5 J_StringLatin1_indexOfChar_d4 (lk_1i l2 (by decide)) rfl ?_
  refine iq_istore hS 7 J_StringLatin1_indexOfChar_d5 (by decide) rfl ?_
  obtain ⟨Q1, hQ1, hR1, h⟩ := bs0_ed h
  have K1 : ∀  (L' : List (Nat × Value)), Q1 (.inl ()) → ia (tb_G L xs) dep J_StringLatin1_indexOfChar (rpI M Q) (31, L', [], M) := by
    intro  L'  h
    replace h := hQ1  h
    refine iq_iconst hS 32 J_StringLatin1_indexOfChar_d31 (v := (-1)) (by decide +kernel) rfl ?_
    exact iq_iret J_StringLatin1_indexOfChar_d32 rfl rfl ⟨_, rfl, rfl, ed_some h⟩
  obtain ⟨r1, hr1, hq1⟩ := h
  obtain ⟨n1, hn1⟩ := lp_n hr1
  have I1 : ∀ (n : Nat) (x2 : Int32) (L' : List (Nat × Value)), im_lk L' 0 = some (.ref 3000001) → im_lk L' 3 = some (.int p3) → im_lk L' 4 = some (.int ((Int32.toInt8 p1).toInt32)) → im_lk L' 5 = some (.int x2) → lpn (uc1 (f_StringLatin1_indexOfChar_1_L7 p3 ((Int32.toInt8 p1).toInt32) M)) n x2 = some r1 → ia (tb_G L xs) dep J_StringLatin1_indexOfChar (rpI M Q) (7, L', [], M) := by
    intro n
    induction n with
    | zero => intro x2 L' l3 l4 l5 l6 hn; exact (lpn_0 hn).elim
    | succ n ih =>
      intro x2 L' l3 l4 l5 l6 hn
      have h := lpn_ed1 hn
      unfold f_StringLatin1_indexOfChar_1_L7 at h
      refine iq_iload hS 9 J_StringLatin1_indexOfChar_d7 l6 rfl ?_
      refine iq_iload_n hS 10 J_StringLatin1_indexOfChar_d9 l4 rfl ?_
      refine iq_icmp_ge hS 13 J_StringLatin1_indexOfChar_d10 (t := 31) rfl (fun q10 => ?_) rfl (fun q10 => ?_)
      · replace h := ed_pos q10 h
        exact K1  _  (lq_r h hq1)
      · replace h := ed_neg q10 h
        refine iq_aload_n hS 14 J_StringLatin1_indexOfChar_d13 l3 rfl ?_
        refine iq_iload hS 16 J_StringLatin1_indexOfChar_d14 l6 rfl ?_
        obtain ⟨g16, h⟩ := ed_gd h
        refine iq_xlb_1 hS 17 J_StringLatin1_indexOfChar_d16 hM g16 rfl ?_
        refine iq_iload hS 19 J_StringLatin1_indexOfChar_d17 l5 rfl ?_
        refine iq_icmp_ne hS 22 J_StringLatin1_indexOfChar_d19 (t := 25) rfl (fun q19 => ?_) rfl (fun q19 => ?_)
        · replace h := ed_pos q19 h
          refine iq_iincv hS 28 J_StringLatin1_indexOfChar_d25 (c := 1) (by decide +kernel) l6 (by decide) rfl ?_
          refine iq_goto hS J_StringLatin1_indexOfChar_d28 (t := 7) rfl ?_
          exact ih _ _ (lk_1r l3 (by decide)) (lk_1i l4 (by decide)) (lk_1i l5 (by decide)) lk_1s (lq_l h)
        · replace h := ed_neg q19 h
          refine iq_iload hS 24 J_StringLatin1_indexOfChar_d22 l6 rfl ?_
          exact iq_iret J_StringLatin1_indexOfChar_d24 rfl rfl ⟨_, rfl, rfl, ed_some (hR1 _ (lq_r h hq1))⟩
  exact I1 n1 _ _ (lk_1r (lk_1r l0 (by decide)) (by decide)) (lk_1i (lk_1i l3 (by decide)) (by decide)) (lk_1i lk_1s (by decide)) lk_1s hn1
noncomputable def f_StringLatin1_indexOf_1 (p1 : Int32) (p2 : Int32) (p3 : Int32) (M : im_M) : Option (Int32) := bd1 (f_StringLatin1_canEncode p1 M) fun (x1 : Int32) => if ¬ x1 = 0 then bd1 (f_Math_max p2 0 M) fun (x2 : Int32) => bd1 (f_Math_min p3 (Int32.ofNat 45) M) fun (x3 : Int32) => if x2 < x3 then bd1 (f_StringLatin1_indexOfChar_1 p1 x2 x3 M) fun (x4 : Int32) => some x4 else some (-1) else some (-1)
theorem f_StringLatin1_indexOf_1_ok {L : Nat} {xs : Nat → Int32} {dep : Nat} {w : Bool} {p1 : Int32} {p2 : Int32} {p3 : Int32} {M : im_M} {Q : Int32 → Prop} (hM : lw_S w M) (h : ed (f_StringLatin1_indexOf_1 p1 p2 p3 M) Q) : ia (tb_G L xs) (dep + 1) J_StringLatin1_indexOf (rpI M Q) (0, lv_args 0 [.ref 3000001, .int p1, .int p2, .int p3], [], M) := by
  have hS : im_St (tb_G L xs) (dep + 1) J_StringLatin1_indexOf (ia (tb_G L xs) (dep + 1) J_StringLatin1_indexOf (rpI M Q)) := ia_St
  unfold f_StringLatin1_indexOf_1 at h
  have l0 : im_lk (lv_args 0 [.ref 3000001, .int p1, .int p2, .int p3]) 0 = some (.ref 3000001) := rfl
  have l1 : im_lk (lv_args 0 [.ref 3000001, .int p1, .int p2, .int p3]) 1 = some (.int p1) := rfl
  have l2 : im_lk (lv_args 0 [.ref 3000001, .int p1, .int p2, .int p3]) 2 = some (.int p2) := rfl
  have l3 : im_lk (lv_args 0 [.ref 3000001, .int p1, .int p2, .int p3]) 3 = some (.int p3) := rfl
  refine iq_iload_n hS 1 J_StringLatin1_indexOf_d0 l1 rfl ?_
  obtain ⟨Q1, hQ1, h⟩ := bd1_ed h
  refine iq_cpI hS 4 J_StringLatin1_indexOf_d1 rfl (pr_stat (vs := [_]) lc_20_88 lT_26 rfl rfl (by decide) rfl (Nat.le_of_ble_eq_true rfl) (Nat.le_of_ble_eq_true rfl)) (f_StringLatin1_canEncode_ok (dep := dep + 0) hM h) rfl ?_
  intro x1 h
  replace h := hQ1 _ h
  refine iq_if_ne hS 7 J_StringLatin1_indexOf_d4 (t := 9) rfl (fun q4 => ?_) rfl (fun q4 => ?_)
  · replace h := ed_pos q4 h
    refine iq_iload_n hS 10 J_StringLatin1_indexOf_d9 l2 rfl ?_
    refine iq_iconst hS 11 J_StringLatin1_indexOf_d10 (v := 0) (by decide +kernel) rfl ?_
    obtain ⟨Q2, hQ2, h⟩ := bd1_ed h
    refine iq_cpI hS 14 J_StringLatin1_indexOf_d11 rfl (pr_stat (vs := [_, _]) lc_20_92 lT_27 rfl rfl (by decide) rfl (Nat.le_of_ble_eq_true rfl) (Nat.le_of_ble_eq_true rfl)) (f_Math_max_ok (dep := dep + 0) hM h) rfl ?_
    intro x2 h
    replace h := hQ2 _ h
    refine iq_istore_n hS 15 J_StringLatin1_indexOf_d14 (by decide) rfl ?_
    refine iq_iload_n hS 16 J_StringLatin1_indexOf_d15 (lk_1i l3 (by decide)) rfl ?_
    refine iq_aload_n hS 17 J_StringLatin1_indexOf_d16 (lk_1r l0 (by decide)) rfl ?_
    refine iq_xalen hS 18 J_StringLatin1_indexOf_d17 (by rw [(hM).1]; decide) (Or.inr (by rw [xkb_1])) rfl ?_
    rw [xkb_1]
    obtain ⟨Q3, hQ3, h⟩ := bd1_ed h
    refine iq_cpI hS 21 J_StringLatin1_indexOf_d18 rfl (pr_stat (vs := [_, _]) lc_20_38 lT_28 rfl rfl (by decide) rfl (Nat.le_of_ble_eq_true rfl) (Nat.le_of_ble_eq_true rfl)) (f_Math_min_ok (dep := dep + 0) hM h) rfl ?_
    intro x3 h
    replace h := hQ3 _ h
    refine iq_istore_n hS 22 J_StringLatin1_indexOf_d21 (by decide) rfl ?_
    refine iq_iload_n hS 23 J_StringLatin1_indexOf_d22 (lk_1i lk_1s (by decide)) rfl ?_
    refine iq_iload_n hS 24 J_StringLatin1_indexOf_d23 lk_1s rfl ?_
    refine iq_icmp_lt hS 27 J_StringLatin1_indexOf_d24 (t := 29) rfl (fun q24 => ?_) rfl (fun q24 => ?_)
    · replace h := ed_pos q24 h
      refine iq_aload_n hS 30 J_StringLatin1_indexOf_d29 (lk_1r (lk_1r l0 (by decide)) (by decide)) rfl ?_
      refine iq_iload_n hS 31 J_StringLatin1_indexOf_d30 (lk_1i (lk_1i l1 (by decide)) (by decide)) rfl ?_
      refine iq_iload_n hS 32 J_StringLatin1_indexOf_d31 (lk_1i lk_1s (by decide)) rfl ?_
      refine iq_iload_n hS 33 J_StringLatin1_indexOf_d32 lk_1s rfl ?_
      obtain ⟨Q4, hQ4, h⟩ := bd1_ed h
      refine iq_cpI hS 36 J_StringLatin1_indexOf_d33 rfl (pr_stat (vs := [_, _, _, _]) lc_20_95 lT_29 rfl rfl (by decide) rfl (Nat.le_of_ble_eq_true rfl) (Nat.le_of_ble_eq_true rfl)) (f_StringLatin1_indexOfChar_1_ok (dep := dep + 0) hM h) rfl ?_
      intro x4 h
      replace h := hQ4 _ h
      exact iq_iret J_StringLatin1_indexOf_d36 rfl rfl ⟨_, rfl, rfl, ed_some h⟩
    · replace h := ed_neg q24 h
      refine iq_iconst hS 28 J_StringLatin1_indexOf_d27 (v := (-1)) (by decide +kernel) rfl ?_
      exact iq_iret J_StringLatin1_indexOf_d28 rfl rfl ⟨_, rfl, rfl, ed_some h⟩
  · replace h := ed_neg q4 h
    refine iq_iconst hS 8 J_StringLatin1_indexOf_d7 (v := (-1)) (by decide +kernel) rfl ?_
    exact iq_iret J_StringLatin1_indexOf_d8 rfl rfl ⟨_, rfl, rfl, ed_some h⟩
noncomputable def f_String_indexOf2_1 (p0 : Int32) (p1 : Int32) (M : im_M) : Option (Int32) := bd1 (f_String_isLatin1_1 M) fun (x1 : Int32) => if x1 = 0 then bd1 (f_String_length_1 M) fun (x2 : Int32) => none else bd1 (f_String_length_1 M) fun (x3 : Int32) => bd1 (f_StringLatin1_indexOf_1 p0 p1 x3 M) fun (x4 : Int32) => some x4
theorem f_String_indexOf2_1_ok {L : Nat} {xs : Nat → Int32} {dep : Nat} {w : Bool} {p0 : Int32} {p1 : Int32} {M : im_M} {Q : Int32 → Prop} (hM : lw_S w M) (h : ed (f_String_indexOf2_1 p0 p1 M) Q) : ia (tb_G L xs) (dep + 2) J_String_indexOf2 (rpI M Q) (0, lv_args 0 [.ref 2000001, .int p0, .int p1], [], M) := by
  have hS : im_St (tb_G L xs) (dep + 2) J_String_indexOf2 (ia (tb_G L xs) (dep + 2) J_String_indexOf2 (rpI M Q)) := ia_St
  unfold f_String_indexOf2_1 at h
  have l0 : im_lk (lv_args 0 [.ref 2000001, .int p0, .int p1]) 0 = some (.ref 2000001) := rfl
  have l1 : im_lk (lv_args 0 [.ref 2000001, .int p0, .int p1]) 1 = some (.int p0) := rfl
  have l2 : im_lk (lv_args 0 [.ref 2000001, .int p0, .int p1]) 2 = some (.int p1) := rfl
  refine iq_aload_n hS 1 J_String_indexOf2_d0 l0 rfl ?_
  obtain ⟨Q1, hQ1, h⟩ := bd1_ed h
  refine iq_cpI hS 4 J_String_indexOf2_d1 rfl (pr_inst (vs := []) lc_19_492 lT_22 rfl rfl (by decide) (by decide) rfl (Nat.le_of_ble_eq_true rfl) (Nat.le_of_ble_eq_true rfl) (fun _ => Or.inr ⟨xks_1, rfl⟩)) (f_String_isLatin1_1_ok (dep := dep + 1) hM h) rfl ?_
  intro x1 h
  replace h := hQ1 _ h
  refine iq_if_eq hS 7 J_String_indexOf2_d4 (t := 23) rfl (fun q4 => ?_) rfl (fun q4 => ?_)
  · replace h := ed_pos q4 h
    refine iq_aload_n hS 24 J_String_indexOf2_d23 l0 rfl ?_
    refine iq_xval hS 27 J_String_indexOf2_d24 (gf_of (by decide +kernel)) (gvT_of (by decide +kernel)) xks_1 (b := 3000001) rfl rfl ?_
    refine iq_iload_n hS 28 J_String_indexOf2_d27 l1 rfl ?_
    refine iq_iload_n hS 29 J_String_indexOf2_d28 l2 rfl ?_
    refine iq_aload_n hS 30 J_String_indexOf2_d29 l0 rfl ?_
    obtain ⟨Q2, hQ2, h⟩ := bd1_ed h
    refine iq_cpI hS 33 J_String_indexOf2_d30 rfl (pr_inst (vs := []) lc_19_505 lT_23 rfl rfl (by decide) (by decide) rfl (Nat.le_of_ble_eq_true rfl) (Nat.le_of_ble_eq_true rfl) (fun _ => Or.inr ⟨xks_1, rfl⟩)) (f_String_length_1_ok (dep := dep + 0) hM h) rfl ?_
    intro x2 h
    replace h := hQ2 _ h
    exact (ed_none h).elim
  · replace h := ed_neg q4 h
    refine iq_aload_n hS 8 J_String_indexOf2_d7 l0 rfl ?_
    refine iq_xval hS 11 J_String_indexOf2_d8 (gf_of (by decide +kernel)) (gvT_of (by decide +kernel)) xks_1 (b := 3000001) rfl rfl ?_
    refine iq_iload_n hS 12 J_String_indexOf2_d11 l1 rfl ?_
    refine iq_iload_n hS 13 J_String_indexOf2_d12 l2 rfl ?_
    refine iq_aload_n hS 14 J_String_indexOf2_d13 l0 rfl ?_
    obtain ⟨Q3, hQ3, h⟩ := bd1_ed h
    refine iq_cpI hS 17 J_String_indexOf2_d14 rfl (pr_inst (vs := []) lc_19_505 lT_23 rfl rfl (by decide) (by decide) rfl (Nat.le_of_ble_eq_true rfl) (Nat.le_of_ble_eq_true rfl) (fun _ => Or.inr ⟨xks_1, rfl⟩)) (f_String_length_1_ok (dep := dep + 0) hM h) rfl ?_
    intro x3 h
    replace h := hQ3 _ h
    obtain ⟨Q4, hQ4, h⟩ := bd1_ed h
    refine iq_cpI hS 20 J_String_indexOf2_d17 rfl (pr_stat (vs := [_, _, _, _]) lc_19_637 lT_25 rfl rfl (by decide) rfl (Nat.le_of_ble_eq_true rfl) (Nat.le_of_ble_eq_true rfl)) (f_StringLatin1_indexOf_1_ok (dep := dep + 0) hM h) rfl ?_
    intro x4 h
    replace h := hQ4 _ h
    refine iq_goto hS J_String_indexOf2_d20 (t := 36) rfl ?_
    exact iq_iret J_String_indexOf2_d36 rfl rfl ⟨_, rfl, rfl, ed_some h⟩
noncomputable def f_String_indexOf_1 (p0 : Int32) (M : im_M) : Option (Int32) := bd1 (f_String_indexOf2_1 p0 0 M) fun (x1 : Int32) => some x1
theorem f_String_indexOf_1_ok {L : Nat} {xs : Nat → Int32} {dep : Nat} {w : Bool} {p0 : Int32} {M : im_M} {Q : Int32 → Prop} (hM : lw_S w M) (h : ed (f_String_indexOf_1 p0 M) Q) : ia (tb_G L xs) (dep + 3) J_String_indexOf (rpI M Q) (0, lv_args 0 [.ref 2000001, .int p0], [], M) := by
  have hS : im_St (tb_G L xs) (dep + 3) J_String_indexOf (ia (tb_G L xs) (dep + 3) J_String_indexOf (rpI M Q)) := ia_St
  unfold f_String_indexOf_1 at h
  have l0 : im_lk (lv_args 0 [.ref 2000001, .int p0]) 0 = some (.ref 2000001) := rfl
  have l1 : im_lk (lv_args 0 [.ref 2000001, .int p0]) 1 = some (.int p0) := rfl
  refine iq_aload_n hS 1 J_String_indexOf_d0 l0 rfl ?_
  refine iq_iload_n hS 2 J_String_indexOf_d1 l1 rfl ?_
  refine iq_iconst hS 3 J_String_indexOf_d2 (v := 0) (by decide +kernel) rfl ?_
  obtain ⟨Q1, hQ1, h⟩ := bd1_ed h
  refine iq_cpI hS 6 J_String_indexOf_d3 rfl (pr_inst (vs := [_, _]) lc_19_633 lT_21 rfl rfl (by decide) (by decide) rfl (Nat.le_of_ble_eq_true rfl) (Nat.le_of_ble_eq_true rfl) (fun _ => Or.inr ⟨xks_1, rfl⟩)) (f_String_indexOf2_1_ok (dep := dep + 0) hM h) rfl ?_
  intro x1 h
  replace h := hQ1 _ h
  exact iq_iret J_String_indexOf_d6 rfl rfl ⟨_, rfl, rfl, ed_some h⟩
noncomputable def f_HSegments_isOf (p0 : Int32) (p1 : Int32) (M : im_M) : Option (Int32) := jn0 (fun (_ : Unit) => some 1) fun k1 => if p0 = 2 then k1 () else if ¬ p0 = 0 then bd1 (f_String_indexOf_1 (((Int32.toUInt32 p1) % 65536).toInt32) M) fun (x2 : Int32) => if x2 < 0 then some 0 else k1 () else if p1 < 48 then some 0 else if 57 < p1 then some 0 else k1 ()
theorem J_HSegments_isOf_d0 : decode J_HSegments_isOf.2.1 0 = .ok (.iload_n 0, 1) := by decide +kernel
theorem J_HSegments_isOf_d1 : decode J_HSegments_isOf.2.1 1 = .ok (.iconst 2, 1) := by decide +kernel
theorem J_HSegments_isOf_d2 : decode J_HSegments_isOf.2.1 2 = .ok (.if_icmp .eq 32, 3) := by decide +kernel
theorem J_HSegments_isOf_d5 : decode J_HSegments_isOf.2.1 5 = .ok (.iload_n 0, 1) := by decide +kernel
theorem J_HSegments_isOf_d6 : decode J_HSegments_isOf.2.1 6 = .ok (.ifCond .ne 18, 3) := by decide +kernel
theorem J_HSegments_isOf_d9 : decode J_HSegments_isOf.2.1 9 = .ok (.iload_n 1, 1) := by decide +kernel
theorem J_HSegments_isOf_d10 : decode J_HSegments_isOf.2.1 10 = .ok (.bipush 48, 2) := by decide +kernel
theorem J_HSegments_isOf_d12 : decode J_HSegments_isOf.2.1 12 = .ok (.if_icmp .lt 26, 3) := by decide +kernel
theorem J_HSegments_isOf_d15 : decode J_HSegments_isOf.2.1 15 = .ok (.iload_n 1, 1) := by decide +kernel
theorem J_HSegments_isOf_d16 : decode J_HSegments_isOf.2.1 16 = .ok (.bipush 57, 2) := by decide +kernel
theorem J_HSegments_isOf_d18 : decode J_HSegments_isOf.2.1 18 = .ok (.if_icmp .gt 20, 3) := by decide +kernel
theorem J_HSegments_isOf_d21 : decode J_HSegments_isOf.2.1 21 = .ok (.goto 13, 3) := by decide +kernel
theorem J_HSegments_isOf_d24 : decode J_HSegments_isOf.2.1 24 = .ok (.ldc 42, 2) := by decide +kernel
theorem J_HSegments_isOf_d26 : decode J_HSegments_isOf.2.1 26 = .ok (.iload_n 1, 1) := by decide +kernel
theorem J_HSegments_isOf_d27 : decode J_HSegments_isOf.2.1 27 = .ok (.i2c, 1) := by decide +kernel
theorem J_HSegments_isOf_d28 : decode J_HSegments_isOf.2.1 28 = .ok (.invokevirtual 44, 3) := by decide +kernel
theorem J_HSegments_isOf_d31 : decode J_HSegments_isOf.2.1 31 = .ok (.ifCond .lt 7, 3) := by decide +kernel
theorem J_HSegments_isOf_d34 : decode J_HSegments_isOf.2.1 34 = .ok (.iconst 1, 1) := by decide +kernel
theorem J_HSegments_isOf_d35 : decode J_HSegments_isOf.2.1 35 = .ok (.goto 4, 3) := by decide +kernel
theorem J_HSegments_isOf_d38 : decode J_HSegments_isOf.2.1 38 = .ok (.iconst 0, 1) := by decide +kernel
theorem J_HSegments_isOf_d39 : decode J_HSegments_isOf.2.1 39 = .ok (.ireturn, 1) := by decide +kernel
theorem f_HSegments_isOf_ok {L : Nat} {xs : Nat → Int32} {dep : Nat} {w : Bool} {p0 : Int32} {p1 : Int32} {M : im_M} {Q : Int32 → Prop} (hM : lw_S w M) (h : ed (f_HSegments_isOf p0 p1 M) Q) : ia (tb_G L xs) (dep + 4) J_HSegments_isOf (rpI M Q) (0, lv_args 0 [.int p0, .int p1], [], M) := by
  have hS : im_St (tb_G L xs) (dep + 4) J_HSegments_isOf (ia (tb_G L xs) (dep + 4) J_HSegments_isOf (rpI M Q)) := ia_St
  unfold f_HSegments_isOf at h
  have l0 : im_lk (lv_args 0 [.int p0, .int p1]) 0 = some (.int p0) := rfl
  have l1 : im_lk (lv_args 0 [.int p0, .int p1]) 1 = some (.int p1) := rfl
  refine iq_iload_n hS 1 J_HSegments_isOf_d0 l0 rfl ?_
  refine iq_iconst hS 2 J_HSegments_isOf_d1 (v := 2) (by decide +kernel) rfl ?_
  obtain ⟨k1, Q1, hQ1, hk1, h⟩ := jn0_ed h
  have J1 : ∀  (L' : List (Nat × Value)), Q1 () → ia (tb_G L xs) (dep + 4) J_HSegments_isOf (rpI M Q) (34, L', [], M) := by
    intro  L'  h
    replace h := hQ1  h
    refine iq_iconst hS 35 J_HSegments_isOf_d34 (v := 1) (by decide +kernel) rfl ?_
    refine iq_goto hS J_HSegments_isOf_d35 (t := 39) rfl ?_
    exact iq_iret J_HSegments_isOf_d39 rfl rfl ⟨_, rfl, rfl, ed_some h⟩
  refine iq_icmp_eq hS 5 J_HSegments_isOf_d2 (t := 34) rfl (fun q2 => ?_) rfl (fun q2 => ?_)
  · replace h := ed_pos q2 h
    exact J1  _  (hk1  h)
  · replace h := ed_neg q2 h
    refine iq_iload_n hS 6 J_HSegments_isOf_d5 l0 rfl ?_
    refine iq_if_ne hS 9 J_HSegments_isOf_d6 (t := 24) rfl (fun q6 => ?_) rfl (fun q6 => ?_)
    · replace h := ed_pos q6 h
      refine iq_ldcs hS 26 J_HSegments_isOf_d24 (a := 2000001) (gk_of (by decide +kernel)) (gsT_of (by decide +kernel)) rfl ?_
      refine iq_iload_n hS 27 J_HSegments_isOf_d26 l1 rfl ?_
      refine iq_i2c hS 28 J_HSegments_isOf_d27 rfl ?_
      obtain ⟨Q2, hQ2, h⟩ := bd1_ed h
      refine iq_cpI hS 31 J_HSegments_isOf_d28 rfl (pr_inst (vs := [_]) lc_7_44 lT_20 rfl rfl (by decide) (by decide) rfl (Nat.le_of_ble_eq_true rfl) (Nat.le_of_ble_eq_true rfl) (fun _ => Or.inr ⟨xks_1, rfl⟩)) (f_String_indexOf_1_ok (dep := dep + 0) hM h) rfl ?_
      intro x2 h
      replace h := hQ2 _ h
      refine iq_if_lt hS 34 J_HSegments_isOf_d31 (t := 38) rfl (fun q31 => ?_) rfl (fun q31 => ?_)
      · replace h := ed_pos q31 h
        refine iq_iconst hS 39 J_HSegments_isOf_d38 (v := 0) (by decide +kernel) rfl ?_
        exact iq_iret J_HSegments_isOf_d39 rfl rfl ⟨_, rfl, rfl, ed_some h⟩
      · replace h := ed_neg q31 h
        exact J1  _  (hk1  h)
    · replace h := ed_neg q6 h
      refine iq_iload_n hS 10 J_HSegments_isOf_d9 l1 rfl ?_
      refine iq_bipush hS 12 J_HSegments_isOf_d10 (v := 48) (by decide +kernel) rfl ?_
      refine iq_icmp_lt hS 15 J_HSegments_isOf_d12 (t := 38) rfl (fun q12 => ?_) rfl (fun q12 => ?_)
      · replace h := ed_pos q12 h
        refine iq_iconst hS 39 J_HSegments_isOf_d38 (v := 0) (by decide +kernel) rfl ?_
        exact iq_iret J_HSegments_isOf_d39 rfl rfl ⟨_, rfl, rfl, ed_some h⟩
      · replace h := ed_neg q12 h
        refine iq_iload_n hS 16 J_HSegments_isOf_d15 l1 rfl ?_
        refine iq_bipush hS 18 J_HSegments_isOf_d16 (v := 57) (by decide +kernel) rfl ?_
        refine iq_icmp_gt hS 21 J_HSegments_isOf_d18 (t := 38) rfl (fun q18 => ?_) rfl (fun q18 => ?_)
        · replace h := ed_pos q18 h
          refine iq_iconst hS 39 J_HSegments_isOf_d38 (v := 0) (by decide +kernel) rfl ?_
          exact iq_iret J_HSegments_isOf_d39 rfl rfl ⟨_, rfl, rfl, ed_some h⟩
        · replace h := ed_neg q18 h
          refine iq_goto hS J_HSegments_isOf_d21 (t := 34) rfl ?_
          exact J1  _  (hk1  h)
noncomputable def f_HSegments_bitsBy (p0 : Int32) (p1 : Int32) (p2 : Int32) (p3 : Int32) (M : im_M) : Option (Int32) := gd (inb (((7 : Int32) * p2) + p1) 21) <| gd (inb p1 7) <| bd1 (if ¬ (xa_8 p1) = p2 then gd (inb (((3 : Int32) * p3) + p2) 9) <| some ((4 : Int32) + (xa_9 (((3 : Int32) * p3) + p2))) else some 0) fun (y2 : Int32) => gd (inb (xa_7 (((7 : Int32) * p2) + p1)) 7) <| gd (inb (((7 : Int32) * (p0 + 1)) + (xa_7 (((7 : Int32) * p2) + p1))) 1407) <| some ((y2 + (xa_10 (xa_7 (((7 : Int32) * p2) + p1)))) + (im_i M 41 (Int32.toNatClampNeg (((7 : Int32) * (p0 + 1)) + (xa_7 (((7 : Int32) * p2) + p1))))))
theorem J_HSegments_bitsBy_d0 : decode J_HSegments_bitsBy.2.1 0 = .ok (.getstatic 62, 3) := by decide +kernel
theorem J_HSegments_bitsBy_d3 : decode J_HSegments_bitsBy.2.1 3 = .ok (.bipush 7, 2) := by decide +kernel
theorem J_HSegments_bitsBy_d5 : decode J_HSegments_bitsBy.2.1 5 = .ok (.iload_n 3, 1) := by decide +kernel
theorem J_HSegments_bitsBy_d6 : decode J_HSegments_bitsBy.2.1 6 = .ok (.imul, 1) := by decide +kernel
theorem J_HSegments_bitsBy_d7 : decode J_HSegments_bitsBy.2.1 7 = .ok (.iload_n 2, 1) := by decide +kernel
theorem J_HSegments_bitsBy_d8 : decode J_HSegments_bitsBy.2.1 8 = .ok (.iadd, 1) := by decide +kernel
theorem J_HSegments_bitsBy_d9 : decode J_HSegments_bitsBy.2.1 9 = .ok (.iaload, 1) := by decide +kernel
theorem J_HSegments_bitsBy_d10 : decode J_HSegments_bitsBy.2.1 10 = .ok (.istore 5, 2) := by decide +kernel
theorem J_HSegments_bitsBy_d12 : decode J_HSegments_bitsBy.2.1 12 = .ok (.getstatic 69, 3) := by decide +kernel
theorem J_HSegments_bitsBy_d15 : decode J_HSegments_bitsBy.2.1 15 = .ok (.iload_n 2, 1) := by decide +kernel
theorem J_HSegments_bitsBy_d16 : decode J_HSegments_bitsBy.2.1 16 = .ok (.iaload, 1) := by decide +kernel
theorem J_HSegments_bitsBy_d17 : decode J_HSegments_bitsBy.2.1 17 = .ok (.iload_n 3, 1) := by decide +kernel
theorem J_HSegments_bitsBy_d18 : decode J_HSegments_bitsBy.2.1 18 = .ok (.if_icmp .ne 7, 3) := by decide +kernel
theorem J_HSegments_bitsBy_d21 : decode J_HSegments_bitsBy.2.1 21 = .ok (.iconst 0, 1) := by decide +kernel
theorem J_HSegments_bitsBy_d22 : decode J_HSegments_bitsBy.2.1 22 = .ok (.goto 15, 3) := by decide +kernel
theorem J_HSegments_bitsBy_d25 : decode J_HSegments_bitsBy.2.1 25 = .ok (.iconst 4, 1) := by decide +kernel
theorem J_HSegments_bitsBy_d26 : decode J_HSegments_bitsBy.2.1 26 = .ok (.getstatic 72, 3) := by decide +kernel
theorem J_HSegments_bitsBy_d29 : decode J_HSegments_bitsBy.2.1 29 = .ok (.iconst 3, 1) := by decide +kernel
theorem J_HSegments_bitsBy_d30 : decode J_HSegments_bitsBy.2.1 30 = .ok (.iload 4, 2) := by decide +kernel
theorem J_HSegments_bitsBy_d32 : decode J_HSegments_bitsBy.2.1 32 = .ok (.imul, 1) := by decide +kernel
theorem J_HSegments_bitsBy_d33 : decode J_HSegments_bitsBy.2.1 33 = .ok (.iload_n 3, 1) := by decide +kernel
theorem J_HSegments_bitsBy_d34 : decode J_HSegments_bitsBy.2.1 34 = .ok (.iadd, 1) := by decide +kernel
theorem J_HSegments_bitsBy_d35 : decode J_HSegments_bitsBy.2.1 35 = .ok (.iaload, 1) := by decide +kernel
theorem J_HSegments_bitsBy_d36 : decode J_HSegments_bitsBy.2.1 36 = .ok (.iadd, 1) := by decide +kernel
theorem J_HSegments_bitsBy_d37 : decode J_HSegments_bitsBy.2.1 37 = .ok (.istore 6, 2) := by decide +kernel
theorem J_HSegments_bitsBy_d39 : decode J_HSegments_bitsBy.2.1 39 = .ok (.iload 6, 2) := by decide +kernel
theorem J_HSegments_bitsBy_d41 : decode J_HSegments_bitsBy.2.1 41 = .ok (.getstatic 75, 3) := by decide +kernel
theorem J_HSegments_bitsBy_d44 : decode J_HSegments_bitsBy.2.1 44 = .ok (.iload 5, 2) := by decide +kernel
theorem J_HSegments_bitsBy_d46 : decode J_HSegments_bitsBy.2.1 46 = .ok (.iaload, 1) := by decide +kernel
theorem J_HSegments_bitsBy_d47 : decode J_HSegments_bitsBy.2.1 47 = .ok (.iadd, 1) := by decide +kernel
theorem J_HSegments_bitsBy_d48 : decode J_HSegments_bitsBy.2.1 48 = .ok (.aload_n 0, 1) := by decide +kernel
theorem J_HSegments_bitsBy_d49 : decode J_HSegments_bitsBy.2.1 49 = .ok (.getfield 17, 3) := by decide +kernel
theorem J_HSegments_bitsBy_d52 : decode J_HSegments_bitsBy.2.1 52 = .ok (.bipush 7, 2) := by decide +kernel
theorem J_HSegments_bitsBy_d54 : decode J_HSegments_bitsBy.2.1 54 = .ok (.iload_n 1, 1) := by decide +kernel
theorem J_HSegments_bitsBy_d55 : decode J_HSegments_bitsBy.2.1 55 = .ok (.iconst 1, 1) := by decide +kernel
theorem J_HSegments_bitsBy_d56 : decode J_HSegments_bitsBy.2.1 56 = .ok (.iadd, 1) := by decide +kernel
theorem J_HSegments_bitsBy_d57 : decode J_HSegments_bitsBy.2.1 57 = .ok (.imul, 1) := by decide +kernel
theorem J_HSegments_bitsBy_d58 : decode J_HSegments_bitsBy.2.1 58 = .ok (.iload 5, 2) := by decide +kernel
theorem J_HSegments_bitsBy_d60 : decode J_HSegments_bitsBy.2.1 60 = .ok (.iadd, 1) := by decide +kernel
theorem J_HSegments_bitsBy_d61 : decode J_HSegments_bitsBy.2.1 61 = .ok (.iaload, 1) := by decide +kernel
theorem J_HSegments_bitsBy_d62 : decode J_HSegments_bitsBy.2.1 62 = .ok (.iadd, 1) := by decide +kernel
theorem J_HSegments_bitsBy_d63 : decode J_HSegments_bitsBy.2.1 63 = .ok (.ireturn, 1) := by decide +kernel
theorem f_HSegments_bitsBy_ok {L : Nat} {xs : Nat → Int32} {dep : Nat} {w : Bool} {p0 : Int32} {p1 : Int32} {p2 : Int32} {p3 : Int32} {M : im_M} {Q : Int32 → Prop} (hM : lw_S w M) (h : ed (f_HSegments_bitsBy p0 p1 p2 p3 M) Q) : ia (tb_G L xs) dep J_HSegments_bitsBy (rpI M Q) (0, lv_args 0 [.ref 39, .int p0, .int p1, .int p2, .int p3], [], M) := by
  have hS : im_St (tb_G L xs) dep J_HSegments_bitsBy (ia (tb_G L xs) dep J_HSegments_bitsBy (rpI M Q)) := ia_St
  unfold f_HSegments_bitsBy at h
  have l0 : im_lk (lv_args 0 [.ref 39, .int p0, .int p1, .int p2, .int p3]) 0 = some (.ref 39) := rfl
  have l1 : im_lk (lv_args 0 [.ref 39, .int p0, .int p1, .int p2, .int p3]) 1 = some (.int p0) := rfl
  have l2 : im_lk (lv_args 0 [.ref 39, .int p0, .int p1, .int p2, .int p3]) 2 = some (.int p1) := rfl
  have l3 : im_lk (lv_args 0 [.ref 39, .int p0, .int p1, .int p2, .int p3]) 3 = some (.int p2) := rfl
  have l4 : im_lk (lv_args 0 [.ref 39, .int p0, .int p1, .int p2, .int p3]) 4 = some (.int p3) := rfl
  refine iq_getstatic hS 3 J_HSegments_bitsBy_d0 gs_7_62 rfl ?_
  refine iq_bipush hS 5 J_HSegments_bitsBy_d3 (v := 7) (by decide +kernel) rfl ?_
  refine iq_iload_n hS 6 J_HSegments_bitsBy_d5 l3 rfl ?_
  refine iq_imul hS 7 J_HSegments_bitsBy_d6 rfl ?_
  refine iq_iload_n hS 8 J_HSegments_bitsBy_d7 l2 rfl ?_
  refine iq_iadd hS 9 J_HSegments_bitsBy_d8 rfl ?_
  obtain ⟨g9, h⟩ := ed_gd h
  refine iq_xl_7 hS 10 J_HSegments_bitsBy_d9 hM g9 rfl ?_
  refine iq_istore hS 12 J_HSegments_bitsBy_d10 (by decide) rfl ?_
  refine iq_getstatic hS 15 J_HSegments_bitsBy_d12 gs_7_69 rfl ?_
  refine iq_iload_n hS 16 J_HSegments_bitsBy_d15 (lk_1i l2 (by decide)) rfl ?_
  obtain ⟨g16, h⟩ := ed_gd h
  refine iq_xl_8 hS 17 J_HSegments_bitsBy_d16 hM g16 rfl ?_
  refine iq_iload_n hS 18 J_HSegments_bitsBy_d17 (lk_1i l3 (by decide)) rfl ?_
  obtain ⟨Q1, hQ1, h⟩ := bd1_ed h
  have J1 : ∀ (y2 : Int32) (L' : List (Nat × Value)), im_lk L' 0 = some (.ref 39) → im_lk L' 1 = some (.int p0) → im_lk L' 5 = some (.int (xa_7 (((7 : Int32) * p2) + p1))) → Q1 y2 → ia (tb_G L xs) dep J_HSegments_bitsBy (rpI M Q) (37, L', [.int y2], M) := by
    intro y2 L' l3 l4 l5 h
    replace h := hQ1 _ h
    refine iq_istore hS 39 J_HSegments_bitsBy_d37 (by decide) rfl ?_
    refine iq_iload hS 41 J_HSegments_bitsBy_d39 lk_1s rfl ?_
    refine iq_getstatic hS 44 J_HSegments_bitsBy_d41 gs_7_75 rfl ?_
    refine iq_iload hS 46 J_HSegments_bitsBy_d44 (lk_1i l5 (by decide)) rfl ?_
    obtain ⟨g46, h⟩ := ed_gd h
    refine iq_xl_10 hS 47 J_HSegments_bitsBy_d46 hM g46 rfl ?_
    refine iq_iadd hS 48 J_HSegments_bitsBy_d47 rfl ?_
    refine iq_aload_n hS 49 J_HSegments_bitsBy_d48 (lk_1r l3 (by decide)) rfl ?_
    refine iq_getR hS 52 J_HSegments_bitsBy_d49 lf_7_17 (Or.inr ⟨_, rfl⟩) (ka_39 hM) (ra_39_3 hM) rfl ?_
    refine iq_bipush hS 54 J_HSegments_bitsBy_d52 (v := 7) (by decide +kernel) rfl ?_
    refine iq_iload_n hS 55 J_HSegments_bitsBy_d54 (lk_1i l4 (by decide)) rfl ?_
    refine iq_iconst hS 56 J_HSegments_bitsBy_d55 (v := 1) (by decide +kernel) rfl ?_
    refine iq_iadd hS 57 J_HSegments_bitsBy_d56 rfl ?_
    refine iq_imul hS 58 J_HSegments_bitsBy_d57 rfl ?_
    refine iq_iload hS 60 J_HSegments_bitsBy_d58 (lk_1i l5 (by decide)) rfl ?_
    refine iq_iadd hS 61 J_HSegments_bitsBy_d60 rfl ?_
    obtain ⟨g61, h⟩ := ed_gd h
    refine iq_iaload hS 62 J_HSegments_bitsBy_d61 ⟨(ka_41 hM).1, (ka_41 hM).2, g61.1, ix_lt (kl_41 hM) g61.2⟩ rfl ?_
    refine iq_iadd hS 63 J_HSegments_bitsBy_d62 rfl ?_
    exact iq_iret J_HSegments_bitsBy_d63 rfl rfl ⟨_, rfl, rfl, ed_some h⟩
  refine iq_icmp_ne hS 21 J_HSegments_bitsBy_d18 (t := 25) rfl (fun q18 => ?_) rfl (fun q18 => ?_)
  · replace h := ed_pos q18 h
    refine iq_iconst hS 26 J_HSegments_bitsBy_d25 (v := 4) (by decide +kernel) rfl ?_
    refine iq_getstatic hS 29 J_HSegments_bitsBy_d26 gs_7_72 rfl ?_
    refine iq_iconst hS 30 J_HSegments_bitsBy_d29 (v := 3) (by decide +kernel) rfl ?_
    refine iq_iload hS 32 J_HSegments_bitsBy_d30 (lk_1i l4 (by decide)) rfl ?_
    refine iq_imul hS 33 J_HSegments_bitsBy_d32 rfl ?_
    refine iq_iload_n hS 34 J_HSegments_bitsBy_d33 (lk_1i l3 (by decide)) rfl ?_
    refine iq_iadd hS 35 J_HSegments_bitsBy_d34 rfl ?_
    obtain ⟨g35, h⟩ := ed_gd h
    refine iq_xl_9 hS 36 J_HSegments_bitsBy_d35 hM g35 rfl ?_
    refine iq_iadd hS 37 J_HSegments_bitsBy_d36 rfl ?_
    exact J1 _ _ (lk_1r l0 (by decide)) (lk_1i l1 (by decide)) lk_1s (ed_some h)
  · replace h := ed_neg q18 h
    refine iq_iconst hS 22 J_HSegments_bitsBy_d21 (v := 0) (by decide +kernel) rfl ?_
    refine iq_goto hS J_HSegments_bitsBy_d22 (t := 37) rfl ?_
    exact J1 _ _ (lk_1r l0 (by decide)) (lk_1i l1 (by decide)) lk_1s (ed_some h)
noncomputable def f_HSegments_leastMode_L6 (v2 : Int32) (v3 : Int32) (v4 : Int32) (v5 : Int32) (M8 : im_M) (x6 : Int32) (x7 : Int32) : Option ((Int32 × Int32) ⊕ (Int32)) := if x7 < 0 then some (.inr x6) else bd1 (f_HSegments_isOf x7 v4 M8) fun (x9 : Int32) => bd1 (if x9 = 0 then some x6 else bd1 (f_HSegments_bitsBy v2 v3 x7 v5 M8) fun (x11 : Int32) => bd1 (f_HSegments_bitsBy v2 v3 x6 v5 M8) fun (x12 : Int32) => if x12 < x11 then some x6 else some x7) fun (y13 : Int32) => some (.inl (y13, (x7 + (-1))))
noncomputable def f_HSegments_leastMode (p0 : Int32) (p1 : Int32) (p2 : Int32) (p3 : Int32) (M : im_M) : Option (Int32) := bd1 (lp (uc2 (f_HSegments_leastMode_L6 p0 p1 p2 p3 M)) (2, 1)) fun (y21 : Int32) => some y21
theorem J_HSegments_leastMode_d0 : decode J_HSegments_leastMode.2.1 0 = .ok (.iconst 2, 1) := by decide +kernel
theorem J_HSegments_leastMode_d1 : decode J_HSegments_leastMode.2.1 1 = .ok (.istore 5, 2) := by decide +kernel
theorem J_HSegments_leastMode_d3 : decode J_HSegments_leastMode.2.1 3 = .ok (.iconst 1, 1) := by decide +kernel
theorem J_HSegments_leastMode_d4 : decode J_HSegments_leastMode.2.1 4 = .ok (.istore 6, 2) := by decide +kernel
theorem J_HSegments_leastMode_d6 : decode J_HSegments_leastMode.2.1 6 = .ok (.iload 6, 2) := by decide +kernel
theorem J_HSegments_leastMode_d8 : decode J_HSegments_leastMode.2.1 8 = .ok (.ifCond .lt 45, 3) := by decide +kernel
theorem J_HSegments_leastMode_d11 : decode J_HSegments_leastMode.2.1 11 = .ok (.iload 6, 2) := by decide +kernel
theorem J_HSegments_leastMode_d13 : decode J_HSegments_leastMode.2.1 13 = .ok (.iload_n 3, 1) := by decide +kernel
theorem J_HSegments_leastMode_d14 : decode J_HSegments_leastMode.2.1 14 = .ok (.invokestatic 65, 3) := by decide +kernel
theorem J_HSegments_leastMode_d17 : decode J_HSegments_leastMode.2.1 17 = .ok (.ifCond .eq 30, 3) := by decide +kernel
theorem J_HSegments_leastMode_d20 : decode J_HSegments_leastMode.2.1 20 = .ok (.aload_n 0, 1) := by decide +kernel
theorem J_HSegments_leastMode_d21 : decode J_HSegments_leastMode.2.1 21 = .ok (.iload_n 1, 1) := by decide +kernel
theorem J_HSegments_leastMode_d22 : decode J_HSegments_leastMode.2.1 22 = .ok (.iload_n 2, 1) := by decide +kernel
theorem J_HSegments_leastMode_d23 : decode J_HSegments_leastMode.2.1 23 = .ok (.iload 6, 2) := by decide +kernel
theorem J_HSegments_leastMode_d25 : decode J_HSegments_leastMode.2.1 25 = .ok (.iload 4, 2) := by decide +kernel
theorem J_HSegments_leastMode_d27 : decode J_HSegments_leastMode.2.1 27 = .ok (.invokevirtual 59, 3) := by decide +kernel
theorem J_HSegments_leastMode_d30 : decode J_HSegments_leastMode.2.1 30 = .ok (.aload_n 0, 1) := by decide +kernel
theorem J_HSegments_leastMode_d31 : decode J_HSegments_leastMode.2.1 31 = .ok (.iload_n 1, 1) := by decide +kernel
theorem J_HSegments_leastMode_d32 : decode J_HSegments_leastMode.2.1 32 = .ok (.iload_n 2, 1) := by decide +kernel
theorem J_HSegments_leastMode_d33 : decode J_HSegments_leastMode.2.1 33 = .ok (.iload 5, 2) := by decide +kernel
theorem J_HSegments_leastMode_d35 : decode J_HSegments_leastMode.2.1 35 = .ok (.iload 4, 2) := by decide +kernel
theorem J_HSegments_leastMode_d37 : decode J_HSegments_leastMode.2.1 37 = .ok (.invokevirtual 59, 3) := by decide +kernel
theorem J_HSegments_leastMode_d40 : decode J_HSegments_leastMode.2.1 40 = .ok (.if_icmp .gt 7, 3) := by decide +kernel
theorem J_HSegments_leastMode_d43 : decode J_HSegments_leastMode.2.1 43 = .ok (.iload 6, 2) := by decide +kernel
theorem J_HSegments_leastMode_d45 : decode J_HSegments_leastMode.2.1 45 = .ok (.istore 5, 2) := by decide +kernel
theorem J_HSegments_leastMode_d47 : decode J_HSegments_leastMode.2.1 47 = .ok (.iinc 6 (-1), 3) := by decide +kernel
theorem J_HSegments_leastMode_d50 : decode J_HSegments_leastMode.2.1 50 = .ok (.goto (-44), 3) := by decide +kernel
theorem J_HSegments_leastMode_d53 : decode J_HSegments_leastMode.2.1 53 = .ok (.iload 5, 2) := by decide +kernel
theorem J_HSegments_leastMode_d55 : decode J_HSegments_leastMode.2.1 55 = .ok (.ireturn, 1) := by decide +kernel
theorem f_HSegments_leastMode_ok {L : Nat} {xs : Nat → Int32} {dep : Nat} {w : Bool} {p0 : Int32} {p1 : Int32} {p2 : Int32} {p3 : Int32} {M : im_M} {Q : Int32 → Prop} (hM : lw_S w M) (h : ed (f_HSegments_leastMode p0 p1 p2 p3 M) Q) : ia (tb_G L xs) (dep + 5) J_HSegments_leastMode (rpI M Q) (0, lv_args 0 [.ref 39, .int p0, .int p1, .int p2, .int p3], [], M) := by
  have hS : im_St (tb_G L xs) (dep + 5) J_HSegments_leastMode (ia (tb_G L xs) (dep + 5) J_HSegments_leastMode (rpI M Q)) := ia_St
  unfold f_HSegments_leastMode at h
  have l0 : im_lk (lv_args 0 [.ref 39, .int p0, .int p1, .int p2, .int p3]) 0 = some (.ref 39) := rfl
  have l1 : im_lk (lv_args 0 [.ref 39, .int p0, .int p1, .int p2, .int p3]) 1 = some (.int p0) := rfl
  have l2 : im_lk (lv_args 0 [.ref 39, .int p0, .int p1, .int p2, .int p3]) 2 = some (.int p1) := rfl
  have l3 : im_lk (lv_args 0 [.ref 39, .int p0, .int p1, .int p2, .int p3]) 3 = some (.int p2) := rfl
  have l4 : im_lk (lv_args 0 [.ref 39, .int p0, .int p1, .int p2, .int p3]) 4 = some (.int p3) := rfl
  refine iq_iconst hS 1 J_HSegments_leastMode_d0 (v := 2) (by decide +kernel) rfl ?_
  refine iq_istore hS 3 J_HSegments_leastMode_d1 (by decide) rfl ?_
  refine iq_iconst hS 4 J_HSegments_leastMode_d3 (v := 1) (by decide +kernel) rfl ?_
  refine iq_istore hS 6 J_HSegments_leastMode_d4 (by decide) rfl ?_
  obtain ⟨Q1, hQ1, h⟩ := bd1_ed h
  have K1 : ∀ (y2 : Int32) (L' : List (Nat × Value)), im_lk L' 5 = some (.int y2) → Q1 y2 → ia (tb_G L xs) (dep + 5) J_HSegments_leastMode (rpI M Q) (53, L', [], M) := by
    intro y2 L' l3 h
    replace h := hQ1 _ h
    refine iq_iload hS 55 J_HSegments_leastMode_d53 l3 rfl ?_
    exact iq_iret J_HSegments_leastMode_d55 rfl rfl ⟨_, rfl, rfl, ed_some h⟩
  obtain ⟨r1, hr1, hq1⟩ := h
  obtain ⟨n1, hn1⟩ := lp_n hr1
  have I1 : ∀ (n : Nat) (x4 : Int32) (x5 : Int32) (L' : List (Nat × Value)), im_lk L' 0 = some (.ref 39) → im_lk L' 1 = some (.int p0) → im_lk L' 2 = some (.int p1) → im_lk L' 3 = some (.int p2) → im_lk L' 4 = some (.int p3) → im_lk L' 5 = some (.int x4) → im_lk L' 6 = some (.int x5) → lpn (uc2 (f_HSegments_leastMode_L6 p0 p1 p2 p3 M)) n (x4, x5) = some r1 → ia (tb_G L xs) (dep + 5) J_HSegments_leastMode (rpI M Q) (6, L', [], M) := by
    intro n
    induction n with
    | zero => intro x4 x5 L' l6 l7 l8 l9 l10 l11 l12 hn; exact (lpn_0 hn).elim
    | succ n ih =>
      intro x4 x5 L' l6 l7 l8 l9 l10 l11 l12 hn
      have h := lpn_ed2 hn
      unfold f_HSegments_leastMode_L6 at h
      refine iq_iload hS 8 J_HSegments_leastMode_d6 l12 rfl ?_
      refine iq_if_lt hS 11 J_HSegments_leastMode_d8 (t := 53) rfl (fun q8 => ?_) rfl (fun q8 => ?_)
      · replace h := ed_pos q8 h
        exact K1 _ _ l11 (lq_r h hq1)
      · replace h := ed_neg q8 h
        refine iq_iload hS 13 J_HSegments_leastMode_d11 l12 rfl ?_
        refine iq_iload_n hS 14 J_HSegments_leastMode_d13 l9 rfl ?_
        obtain ⟨Q13, hQ13, h⟩ := bd1_ed h
        refine iq_cpI hS 17 J_HSegments_leastMode_d14 rfl (pr_stat (vs := [_, _]) lc_7_65 lT_137 rfl rfl (by decide) rfl (Nat.le_of_ble_eq_true rfl) (Nat.le_of_ble_eq_true rfl)) (f_HSegments_isOf_ok (dep := dep + 0) hM h) rfl ?_
        intro x13 h
        replace h := hQ13 _ h
        obtain ⟨Q14, hQ14, h⟩ := bd1_ed h
        have J14 : ∀ (y17 : Int32) (L' : List (Nat × Value)), im_lk L' 0 = some (.ref 39) → im_lk L' 1 = some (.int p0) → im_lk L' 2 = some (.int p1) → im_lk L' 3 = some (.int p2) → im_lk L' 4 = some (.int p3) → im_lk L' 5 = some (.int y17) → im_lk L' 6 = some (.int x5) → Q14 y17 → ia (tb_G L xs) (dep + 5) J_HSegments_leastMode (rpI M Q) (47, L', [], M) := by
          intro y17 L' l18 l19 l20 l21 l22 l23 l24 h
          replace h := hQ14 _ h
          refine iq_iincv hS 50 J_HSegments_leastMode_d47 (c := (-1)) (by decide +kernel) l24 (by decide) rfl ?_
          refine iq_goto hS J_HSegments_leastMode_d50 (t := 6) rfl ?_
          exact ih _ _ _ (lk_1r l18 (by decide)) (lk_1i l19 (by decide)) (lk_1i l20 (by decide)) (lk_1i l21 (by decide)) (lk_1i l22 (by decide)) (lk_1i l23 (by decide)) lk_1s (lq_l h)
        refine iq_if_eq hS 20 J_HSegments_leastMode_d17 (t := 47) rfl (fun q17 => ?_) rfl (fun q17 => ?_)
        · replace h := ed_pos q17 h
          exact J14 _ _ l6 l7 l8 l9 l10 l11 l12 (ed_some h)
        · replace h := ed_neg q17 h
          refine iq_aload_n hS 21 J_HSegments_leastMode_d20 l6 rfl ?_
          refine iq_iload_n hS 22 J_HSegments_leastMode_d21 l7 rfl ?_
          refine iq_iload_n hS 23 J_HSegments_leastMode_d22 l8 rfl ?_
          refine iq_iload hS 25 J_HSegments_leastMode_d23 l12 rfl ?_
          refine iq_iload hS 27 J_HSegments_leastMode_d25 l10 rfl ?_
          obtain ⟨Q15, hQ15, h⟩ := bd1_ed h
          refine iq_cpI hS 30 J_HSegments_leastMode_d27 rfl (pr_inst (vs := [_, _, _, _]) lc_7_59 lT_138 rfl rfl (by decide) (by decide) rfl (Nat.le_of_ble_eq_true rfl) (Nat.le_of_ble_eq_true rfl) (fun _ => Or.inl (pr_b (ka_39 hM) (by decide) rfl))) (f_HSegments_bitsBy_ok (dep := dep + 4) hM h) rfl ?_
          intro x15 h
          replace h := hQ15 _ h
          refine iq_aload_n hS 31 J_HSegments_leastMode_d30 l6 rfl ?_
          refine iq_iload_n hS 32 J_HSegments_leastMode_d31 l7 rfl ?_
          refine iq_iload_n hS 33 J_HSegments_leastMode_d32 l8 rfl ?_
          refine iq_iload hS 35 J_HSegments_leastMode_d33 l11 rfl ?_
          refine iq_iload hS 37 J_HSegments_leastMode_d35 l10 rfl ?_
          obtain ⟨Q16, hQ16, h⟩ := bd1_ed h
          refine iq_cpI hS 40 J_HSegments_leastMode_d37 rfl (pr_inst (vs := [_, _, _, _]) lc_7_59 lT_138 rfl rfl (by decide) (by decide) rfl (Nat.le_of_ble_eq_true rfl) (Nat.le_of_ble_eq_true rfl) (fun _ => Or.inl (pr_b (ka_39 hM) (by decide) rfl))) (f_HSegments_bitsBy_ok (dep := dep + 4) hM h) rfl ?_
          intro x16 h
          replace h := hQ16 _ h
          refine iq_icmp_gt hS 43 J_HSegments_leastMode_d40 (t := 47) rfl (fun q40 => ?_) rfl (fun q40 => ?_)
          · replace h := ed_pos q40 h
            exact J14 _ _ l6 l7 l8 l9 l10 l11 l12 (ed_some h)
          · replace h := ed_neg q40 h
            refine iq_iload hS 45 J_HSegments_leastMode_d43 l12 rfl ?_
            refine iq_istore hS 47 J_HSegments_leastMode_d45 (by decide) rfl ?_
            exact J14 _ _ (lk_1r l6 (by decide)) (lk_1i l7 (by decide)) (lk_1i l8 (by decide)) (lk_1i l9 (by decide)) (lk_1i l10 (by decide)) lk_1s (lk_1i l12 (by decide)) (ed_some h)
  exact I1 n1 _ _ _ (lk_1r (lk_1r l0 (by decide)) (by decide)) (lk_1i (lk_1i l1 (by decide)) (by decide)) (lk_1i (lk_1i l2 (by decide)) (by decide)) (lk_1i (lk_1i l3 (by decide)) (by decide)) (lk_1i (lk_1i l4 (by decide)) (by decide)) (lk_1i lk_1s (by decide)) lk_1s hn1
noncomputable def f_HSegments_plan_L32 (v9 : Int32) (v10 : Int32) (v11 : Int32) (v12 : Int32) (x13 : Int32) (M14 : im_M) : Option ((Int32 × im_M) ⊕ (im_M)) := if 7 ≤ x13 then some (.inr M14) else gd (inb (v9 + v12) 24000) <| bd1 (f_HSegments_leastMode v12 x13 ((im_i M14 14 (Int32.toNatClampNeg (v9 + v12))) &&& 255) v11 M14) fun (x15 : Int32) => bd1 (f_HSegments_bitsBy v12 x13 x15 v11 M14) fun (x16 : Int32) => gd (inb (((7 : Int32) * v12) + x13) 1407) <| some (.inl ((x13 + 1), (im_setI M14 41 (Int32.toNatClampNeg (((7 : Int32) * v12) + x13)) x16)))
noncomputable def f_HSegments_plan_L24 (v3 : Int32) (v4 : Int32) (v5 : Int32) (x6 : Int32) (M7 : im_M) : Option ((Int32 × im_M) ⊕ (im_M)) := if x6 < 0 then some (.inr M7) else bd1 (lp (uc2 (f_HSegments_plan_L32 v3 v4 v5 x6)) (0, M7)) fun (M17 : im_M) => some (.inl ((x6 + (-1)), M17))
noncomputable def f_HSegments_plan_L105 (v20 : Int32) (v21 : Int32) (v22 : Int32) (x23 : Int32) (x24 : Int32) (M25 : im_M) : Option ((Int32 × Int32 × im_M) ⊕ (im_M)) := if v21 ≤ x24 then some (.inr M25) else gd (inb (v20 + x24) 24000) <| bd1 (f_HSegments_leastMode x24 x23 ((im_i M25 14 (Int32.toNatClampNeg (v20 + x24))) &&& 255) v22 M25) fun (x26 : Int32) => gd (inb x24 200) <| gd (inb (((7 : Int32) * x26) + x23) 21) <| some (.inl ((xa_7 (((7 : Int32) * x26) + x23)), (x24 + 1), (im_setI M25 42 (Int32.toNatClampNeg x24) (vp_nar .byte ((Int32.toInt8 x26).toInt32)))))
noncomputable def f_HSegments_plan (p1 : Int32) (p2 : Int32) (p3 : Int32) (M : im_M) : Option (Int32 × im_M) := bd1 (f_Arrays_fill_3 ((7 : Int32) * p2) (((7 : Int32) * p2) + 7) 0 M) fun (M1 : im_M) => bd1 (lp (uc2 (f_HSegments_plan_L24 p1 p2 p3)) ((p2 - 1), M1)) fun (M18 : im_M) => bd1 (lp (uc3 (f_HSegments_plan_L105 p1 p2 p3)) (6, 0, M18)) fun (M27 : im_M) => gd (inb 6 1407) <| some ((im_i M27 41 (Int32.toNatClampNeg 6)), M27)
theorem J_HSegments_plan_d0 : decode J_HSegments_plan.2.1 0 = .ok (.aload_n 0, 1) := by decide +kernel
theorem J_HSegments_plan_d1 : decode J_HSegments_plan.2.1 1 = .ok (.getfield 17, 3) := by decide +kernel
theorem J_HSegments_plan_d4 : decode J_HSegments_plan.2.1 4 = .ok (.bipush 7, 2) := by decide +kernel
theorem J_HSegments_plan_d6 : decode J_HSegments_plan.2.1 6 = .ok (.iload_n 3, 1) := by decide +kernel
theorem J_HSegments_plan_d7 : decode J_HSegments_plan.2.1 7 = .ok (.imul, 1) := by decide +kernel
theorem J_HSegments_plan_d8 : decode J_HSegments_plan.2.1 8 = .ok (.bipush 7, 2) := by decide +kernel
theorem J_HSegments_plan_d10 : decode J_HSegments_plan.2.1 10 = .ok (.iload_n 3, 1) := by decide +kernel
theorem J_HSegments_plan_d11 : decode J_HSegments_plan.2.1 11 = .ok (.imul, 1) := by decide +kernel
theorem J_HSegments_plan_d12 : decode J_HSegments_plan.2.1 12 = .ok (.bipush 7, 2) := by decide +kernel
theorem J_HSegments_plan_d14 : decode J_HSegments_plan.2.1 14 = .ok (.iadd, 1) := by decide +kernel
theorem J_HSegments_plan_d15 : decode J_HSegments_plan.2.1 15 = .ok (.iconst 0, 1) := by decide +kernel
theorem J_HSegments_plan_d16 : decode J_HSegments_plan.2.1 16 = .ok (.invokestatic 49, 3) := by decide +kernel
theorem J_HSegments_plan_d19 : decode J_HSegments_plan.2.1 19 = .ok (.iload_n 3, 1) := by decide +kernel
theorem J_HSegments_plan_d20 : decode J_HSegments_plan.2.1 20 = .ok (.iconst 1, 1) := by decide +kernel
theorem J_HSegments_plan_d21 : decode J_HSegments_plan.2.1 21 = .ok (.isub, 1) := by decide +kernel
theorem J_HSegments_plan_d22 : decode J_HSegments_plan.2.1 22 = .ok (.istore 5, 2) := by decide +kernel
theorem J_HSegments_plan_d24 : decode J_HSegments_plan.2.1 24 = .ok (.iload 5, 2) := by decide +kernel
theorem J_HSegments_plan_d26 : decode J_HSegments_plan.2.1 26 = .ok (.ifCond .lt 72, 3) := by decide +kernel
theorem J_HSegments_plan_d29 : decode J_HSegments_plan.2.1 29 = .ok (.iconst 0, 1) := by decide +kernel
theorem J_HSegments_plan_d30 : decode J_HSegments_plan.2.1 30 = .ok (.istore 6, 2) := by decide +kernel
theorem J_HSegments_plan_d32 : decode J_HSegments_plan.2.1 32 = .ok (.iload 6, 2) := by decide +kernel
theorem J_HSegments_plan_d34 : decode J_HSegments_plan.2.1 34 = .ok (.bipush 7, 2) := by decide +kernel
theorem J_HSegments_plan_d36 : decode J_HSegments_plan.2.1 36 = .ok (.if_icmp .ge 56, 3) := by decide +kernel
theorem J_HSegments_plan_d39 : decode J_HSegments_plan.2.1 39 = .ok (.aload_n 0, 1) := by decide +kernel
theorem J_HSegments_plan_d40 : decode J_HSegments_plan.2.1 40 = .ok (.iload 5, 2) := by decide +kernel
theorem J_HSegments_plan_d42 : decode J_HSegments_plan.2.1 42 = .ok (.iload 6, 2) := by decide +kernel
theorem J_HSegments_plan_d44 : decode J_HSegments_plan.2.1 44 = .ok (.aload_n 1, 1) := by decide +kernel
theorem J_HSegments_plan_d45 : decode J_HSegments_plan.2.1 45 = .ok (.iload_n 2, 1) := by decide +kernel
theorem J_HSegments_plan_d46 : decode J_HSegments_plan.2.1 46 = .ok (.iload 5, 2) := by decide +kernel
theorem J_HSegments_plan_d48 : decode J_HSegments_plan.2.1 48 = .ok (.iadd, 1) := by decide +kernel
theorem J_HSegments_plan_d49 : decode J_HSegments_plan.2.1 49 = .ok (.baload, 1) := by decide +kernel
theorem J_HSegments_plan_d50 : decode J_HSegments_plan.2.1 50 = .ok (.sipush 255, 3) := by decide +kernel
theorem J_HSegments_plan_d53 : decode J_HSegments_plan.2.1 53 = .ok (.iand, 1) := by decide +kernel
theorem J_HSegments_plan_d54 : decode J_HSegments_plan.2.1 54 = .ok (.iload 4, 2) := by decide +kernel
theorem J_HSegments_plan_d56 : decode J_HSegments_plan.2.1 56 = .ok (.invokevirtual 55, 3) := by decide +kernel
theorem J_HSegments_plan_d59 : decode J_HSegments_plan.2.1 59 = .ok (.istore 7, 2) := by decide +kernel
theorem J_HSegments_plan_d61 : decode J_HSegments_plan.2.1 61 = .ok (.aload_n 0, 1) := by decide +kernel
theorem J_HSegments_plan_d62 : decode J_HSegments_plan.2.1 62 = .ok (.getfield 17, 3) := by decide +kernel
theorem J_HSegments_plan_d65 : decode J_HSegments_plan.2.1 65 = .ok (.bipush 7, 2) := by decide +kernel
theorem J_HSegments_plan_d67 : decode J_HSegments_plan.2.1 67 = .ok (.iload 5, 2) := by decide +kernel
theorem J_HSegments_plan_d69 : decode J_HSegments_plan.2.1 69 = .ok (.imul, 1) := by decide +kernel
theorem J_HSegments_plan_d70 : decode J_HSegments_plan.2.1 70 = .ok (.iload 6, 2) := by decide +kernel
theorem J_HSegments_plan_d72 : decode J_HSegments_plan.2.1 72 = .ok (.iadd, 1) := by decide +kernel
theorem J_HSegments_plan_d73 : decode J_HSegments_plan.2.1 73 = .ok (.aload_n 0, 1) := by decide +kernel
theorem J_HSegments_plan_d74 : decode J_HSegments_plan.2.1 74 = .ok (.iload 5, 2) := by decide +kernel
theorem J_HSegments_plan_d76 : decode J_HSegments_plan.2.1 76 = .ok (.iload 6, 2) := by decide +kernel
theorem J_HSegments_plan_d78 : decode J_HSegments_plan.2.1 78 = .ok (.iload 7, 2) := by decide +kernel
theorem J_HSegments_plan_d80 : decode J_HSegments_plan.2.1 80 = .ok (.iload 4, 2) := by decide +kernel
theorem J_HSegments_plan_d82 : decode J_HSegments_plan.2.1 82 = .ok (.invokevirtual 59, 3) := by decide +kernel
theorem J_HSegments_plan_d85 : decode J_HSegments_plan.2.1 85 = .ok (.iastore, 1) := by decide +kernel
theorem J_HSegments_plan_d86 : decode J_HSegments_plan.2.1 86 = .ok (.iinc 6 1, 3) := by decide +kernel
theorem J_HSegments_plan_d89 : decode J_HSegments_plan.2.1 89 = .ok (.goto (-57), 3) := by decide +kernel
theorem J_HSegments_plan_d92 : decode J_HSegments_plan.2.1 92 = .ok (.iinc 5 (-1), 3) := by decide +kernel
theorem J_HSegments_plan_d95 : decode J_HSegments_plan.2.1 95 = .ok (.goto (-71), 3) := by decide +kernel
theorem J_HSegments_plan_d98 : decode J_HSegments_plan.2.1 98 = .ok (.bipush 6, 2) := by decide +kernel
theorem J_HSegments_plan_d100 : decode J_HSegments_plan.2.1 100 = .ok (.istore 5, 2) := by decide +kernel
theorem J_HSegments_plan_d102 : decode J_HSegments_plan.2.1 102 = .ok (.iconst 0, 1) := by decide +kernel
theorem J_HSegments_plan_d103 : decode J_HSegments_plan.2.1 103 = .ok (.istore 6, 2) := by decide +kernel
theorem J_HSegments_plan_d105 : decode J_HSegments_plan.2.1 105 = .ok (.iload 6, 2) := by decide +kernel
theorem J_HSegments_plan_d107 : decode J_HSegments_plan.2.1 107 = .ok (.iload_n 3, 1) := by decide +kernel
theorem J_HSegments_plan_d108 : decode J_HSegments_plan.2.1 108 = .ok (.if_icmp .ge 55, 3) := by decide +kernel
theorem J_HSegments_plan_d111 : decode J_HSegments_plan.2.1 111 = .ok (.aload_n 0, 1) := by decide +kernel
theorem J_HSegments_plan_d112 : decode J_HSegments_plan.2.1 112 = .ok (.iload 6, 2) := by decide +kernel
theorem J_HSegments_plan_d114 : decode J_HSegments_plan.2.1 114 = .ok (.iload 5, 2) := by decide +kernel
theorem J_HSegments_plan_d116 : decode J_HSegments_plan.2.1 116 = .ok (.aload_n 1, 1) := by decide +kernel
theorem J_HSegments_plan_d117 : decode J_HSegments_plan.2.1 117 = .ok (.iload_n 2, 1) := by decide +kernel
theorem J_HSegments_plan_d118 : decode J_HSegments_plan.2.1 118 = .ok (.iload 6, 2) := by decide +kernel
theorem J_HSegments_plan_d120 : decode J_HSegments_plan.2.1 120 = .ok (.iadd, 1) := by decide +kernel
theorem J_HSegments_plan_d121 : decode J_HSegments_plan.2.1 121 = .ok (.baload, 1) := by decide +kernel
theorem J_HSegments_plan_d122 : decode J_HSegments_plan.2.1 122 = .ok (.sipush 255, 3) := by decide +kernel
theorem J_HSegments_plan_d125 : decode J_HSegments_plan.2.1 125 = .ok (.iand, 1) := by decide +kernel
theorem J_HSegments_plan_d126 : decode J_HSegments_plan.2.1 126 = .ok (.iload 4, 2) := by decide +kernel
theorem J_HSegments_plan_d128 : decode J_HSegments_plan.2.1 128 = .ok (.invokevirtual 55, 3) := by decide +kernel
theorem J_HSegments_plan_d131 : decode J_HSegments_plan.2.1 131 = .ok (.istore 7, 2) := by decide +kernel
theorem J_HSegments_plan_d133 : decode J_HSegments_plan.2.1 133 = .ok (.aload_n 0, 1) := by decide +kernel
theorem J_HSegments_plan_d134 : decode J_HSegments_plan.2.1 134 = .ok (.getfield 21, 3) := by decide +kernel
theorem J_HSegments_plan_d137 : decode J_HSegments_plan.2.1 137 = .ok (.iload 6, 2) := by decide +kernel
theorem J_HSegments_plan_d139 : decode J_HSegments_plan.2.1 139 = .ok (.iload 7, 2) := by decide +kernel
theorem J_HSegments_plan_d141 : decode J_HSegments_plan.2.1 141 = .ok (.i2b, 1) := by decide +kernel
theorem J_HSegments_plan_d142 : decode J_HSegments_plan.2.1 142 = .ok (.bastore, 1) := by decide +kernel
theorem J_HSegments_plan_d143 : decode J_HSegments_plan.2.1 143 = .ok (.getstatic 62, 3) := by decide +kernel
theorem J_HSegments_plan_d146 : decode J_HSegments_plan.2.1 146 = .ok (.bipush 7, 2) := by decide +kernel
theorem J_HSegments_plan_d148 : decode J_HSegments_plan.2.1 148 = .ok (.iload 7, 2) := by decide +kernel
theorem J_HSegments_plan_d150 : decode J_HSegments_plan.2.1 150 = .ok (.imul, 1) := by decide +kernel
theorem J_HSegments_plan_d151 : decode J_HSegments_plan.2.1 151 = .ok (.iload 5, 2) := by decide +kernel
theorem J_HSegments_plan_d153 : decode J_HSegments_plan.2.1 153 = .ok (.iadd, 1) := by decide +kernel
theorem J_HSegments_plan_d154 : decode J_HSegments_plan.2.1 154 = .ok (.iaload, 1) := by decide +kernel
theorem J_HSegments_plan_d155 : decode J_HSegments_plan.2.1 155 = .ok (.istore 5, 2) := by decide +kernel
theorem J_HSegments_plan_d157 : decode J_HSegments_plan.2.1 157 = .ok (.iinc 6 1, 3) := by decide +kernel
theorem J_HSegments_plan_d160 : decode J_HSegments_plan.2.1 160 = .ok (.goto (-55), 3) := by decide +kernel
theorem J_HSegments_plan_d163 : decode J_HSegments_plan.2.1 163 = .ok (.aload_n 0, 1) := by decide +kernel
theorem J_HSegments_plan_d164 : decode J_HSegments_plan.2.1 164 = .ok (.getfield 17, 3) := by decide +kernel
theorem J_HSegments_plan_d167 : decode J_HSegments_plan.2.1 167 = .ok (.bipush 6, 2) := by decide +kernel
theorem J_HSegments_plan_d169 : decode J_HSegments_plan.2.1 169 = .ok (.iaload, 1) := by decide +kernel
theorem J_HSegments_plan_d170 : decode J_HSegments_plan.2.1 170 = .ok (.ireturn, 1) := by decide +kernel
theorem f_HSegments_plan_ok {L : Nat} {xs : Nat → Int32} {dep : Nat} {w : Bool} {p1 : Int32} {p2 : Int32} {p3 : Int32} {M : im_M} {Q : Int32 × im_M → Prop} (hM : lw_S w M) (h : ed (f_HSegments_plan p1 p2 p3 M) Q) : ia (tb_G L xs) (dep + 6) J_HSegments_plan (rwI w Q) (0, lv_args 0 [.ref 39, .ref 14, .int p1, .int p2, .int p3], [], M) := by
  have hS : im_St (tb_G L xs) (dep + 6) J_HSegments_plan (ia (tb_G L xs) (dep + 6) J_HSegments_plan (rwI w Q)) := ia_St
  unfold f_HSegments_plan at h
  have l0 : im_lk (lv_args 0 [.ref 39, .ref 14, .int p1, .int p2, .int p3]) 0 = some (.ref 39) := rfl
  have l1 : im_lk (lv_args 0 [.ref 39, .ref 14, .int p1, .int p2, .int p3]) 1 = some (.ref 14) := rfl
  have l2 : im_lk (lv_args 0 [.ref 39, .ref 14, .int p1, .int p2, .int p3]) 2 = some (.int p1) := rfl
  have l3 : im_lk (lv_args 0 [.ref 39, .ref 14, .int p1, .int p2, .int p3]) 3 = some (.int p2) := rfl
  have l4 : im_lk (lv_args 0 [.ref 39, .ref 14, .int p1, .int p2, .int p3]) 4 = some (.int p3) := rfl
  refine iq_aload_n hS 1 J_HSegments_plan_d0 l0 rfl ?_
  refine iq_getR hS 4 J_HSegments_plan_d1 lf_7_17 (Or.inr ⟨_, rfl⟩) (ka_39 hM) (ra_39_3 hM) rfl ?_
  refine iq_bipush hS 6 J_HSegments_plan_d4 (v := 7) (by decide +kernel) rfl ?_
  refine iq_iload_n hS 7 J_HSegments_plan_d6 l3 rfl ?_
  refine iq_imul hS 8 J_HSegments_plan_d7 rfl ?_
  refine iq_bipush hS 10 J_HSegments_plan_d8 (v := 7) (by decide +kernel) rfl ?_
  refine iq_iload_n hS 11 J_HSegments_plan_d10 l3 rfl ?_
  refine iq_imul hS 12 J_HSegments_plan_d11 rfl ?_
  refine iq_bipush hS 14 J_HSegments_plan_d12 (v := 7) (by decide +kernel) rfl ?_
  refine iq_iadd hS 15 J_HSegments_plan_d14 rfl ?_
  refine iq_iconst hS 16 J_HSegments_plan_d15 (v := 0) (by decide +kernel) rfl ?_
  obtain ⟨Q1, hQ1, h⟩ := bd1_ed h
  refine iq_cwV hS 19 J_HSegments_plan_d16 rfl (pr_stat (vs := [_, _, _, _]) lc_7_49 lT_53 rfl rfl (by decide) rfl (Nat.le_of_ble_eq_true rfl) (Nat.le_of_ble_eq_true rfl)) (f_Arrays_fill_3_ok (dep := dep + 4) hM h) rfl ?_
  intro M1 hM1 h
  replace h := hQ1 _ h
  refine iq_iload_n hS 20 J_HSegments_plan_d19 l3 rfl ?_
  refine iq_iconst hS 21 J_HSegments_plan_d20 (v := 1) (by decide +kernel) rfl ?_
  refine iq_isub hS 22 J_HSegments_plan_d21 rfl ?_
  refine iq_istore hS 24 J_HSegments_plan_d22 (by decide) rfl ?_
  obtain ⟨Q2, hQ2, h⟩ := bd1_ed h
  have K2 : ∀ (M3 : im_M) (L' : List (Nat × Value)), lw_S w M3 → im_lk L' 0 = some (.ref 39) → im_lk L' 1 = some (.ref 14) → im_lk L' 2 = some (.int p1) → im_lk L' 3 = some (.int p2) → im_lk L' 4 = some (.int p3) → Q2 M3 → ia (tb_G L xs) (dep + 6) J_HSegments_plan (rwI w Q) (98, L', [], M3) := by
    intro M3 L' hM3 l4 l5 l6 l7 l8 h
    replace h := hQ2 _ h
    refine iq_bipush hS 100 J_HSegments_plan_d98 (v := 6) (by decide +kernel) rfl ?_
    refine iq_istore hS 102 J_HSegments_plan_d100 (by decide) rfl ?_
    refine iq_iconst hS 103 J_HSegments_plan_d102 (v := 0) (by decide +kernel) rfl ?_
    refine iq_istore hS 105 J_HSegments_plan_d103 (by decide) rfl ?_
    obtain ⟨Q9, hQ9, h⟩ := bd1_ed h
    have K9 : ∀ (M10 : im_M) (L' : List (Nat × Value)), lw_S w M10 → im_lk L' 0 = some (.ref 39) → Q9 M10 → ia (tb_G L xs) (dep + 6) J_HSegments_plan (rwI w Q) (163, L', [], M10) := by
      intro M10 L' hM10 l11 h
      replace h := hQ9 _ h
      refine iq_aload_n hS 164 J_HSegments_plan_d163 l11 rfl ?_
      refine iq_getR hS 167 J_HSegments_plan_d164 lf_7_17 (Or.inr ⟨_, rfl⟩) (ka_39 hM10) (ra_39_3 hM10) rfl ?_
      refine iq_bipush hS 169 J_HSegments_plan_d167 (v := 6) (by decide +kernel) rfl ?_
      obtain ⟨g169, h⟩ := ed_gd h
      refine iq_iaload hS 170 J_HSegments_plan_d169 ⟨(ka_41 hM10).1, (ka_41 hM10).2, g169.1, ix_lt (kl_41 hM10) g169.2⟩ rfl ?_
      exact iq_iret J_HSegments_plan_d170 rfl rfl ⟨_, rfl, hM10, ed_some h⟩
    obtain ⟨r9, hr9, hq9⟩ := h
    obtain ⟨n9, hn9⟩ := lp_n hr9
    have I9 : ∀ (n : Nat) (x12 : Int32) (x13 : Int32) (M14 : im_M) (L' : List (Nat × Value)), lw_S w M14 → im_lk L' 0 = some (.ref 39) → im_lk L' 1 = some (.ref 14) → im_lk L' 2 = some (.int p1) → im_lk L' 3 = some (.int p2) → im_lk L' 4 = some (.int p3) → im_lk L' 5 = some (.int x12) → im_lk L' 6 = some (.int x13) → lpn (uc3 (f_HSegments_plan_L105 p1 p2 p3)) n (x12, x13, M14) = some r9 → ia (tb_G L xs) (dep + 6) J_HSegments_plan (rwI w Q) (105, L', [], M14) := by
      intro n
      induction n with
      | zero => intro x12 x13 M14 L' hM14 l15 l16 l17 l18 l19 l20 l21 hn; exact (lpn_0 hn).elim
      | succ n ih =>
        intro x12 x13 M14 L' hM14 l15 l16 l17 l18 l19 l20 l21 hn
        have h := lpn_ed3 hn
        unfold f_HSegments_plan_L105 at h
        refine iq_iload hS 107 J_HSegments_plan_d105 l21 rfl ?_
        refine iq_iload_n hS 108 J_HSegments_plan_d107 l18 rfl ?_
        refine iq_icmp_ge hS 111 J_HSegments_plan_d108 (t := 163) rfl (fun q108 => ?_) rfl (fun q108 => ?_)
        · replace h := ed_pos q108 h
          exact K9 _ _ hM14 l15 (lq_r h hq9)
        · replace h := ed_neg q108 h
          refine iq_aload_n hS 112 J_HSegments_plan_d111 l15 rfl ?_
          refine iq_iload hS 114 J_HSegments_plan_d112 l21 rfl ?_
          refine iq_iload hS 116 J_HSegments_plan_d114 l20 rfl ?_
          refine iq_aload_n hS 117 J_HSegments_plan_d116 l16 rfl ?_
          refine iq_iload_n hS 118 J_HSegments_plan_d117 l17 rfl ?_
          refine iq_iload hS 120 J_HSegments_plan_d118 l21 rfl ?_
          refine iq_iadd hS 121 J_HSegments_plan_d120 rfl ?_
          obtain ⟨g121, h⟩ := ed_gd h
          refine iq_baload hS 122 J_HSegments_plan_d121 ⟨(ka_14 hM14).1, (ka_14 hM14).2, g121.1, ix_lt (kl_14 hM14) g121.2⟩ rfl ?_
          refine iq_sipush hS 125 J_HSegments_plan_d122 (v := 255) (by decide +kernel) rfl ?_
          refine iq_iand hS 126 J_HSegments_plan_d125 rfl ?_
          refine iq_iload hS 128 J_HSegments_plan_d126 l19 rfl ?_
          obtain ⟨Q22, hQ22, h⟩ := bd1_ed h
          refine iq_cpI hS 131 J_HSegments_plan_d128 rfl (pr_inst (vs := [_, _, _, _]) lc_7_55 lT_136 rfl rfl (by decide) (by decide) rfl (Nat.le_of_ble_eq_true rfl) (Nat.le_of_ble_eq_true rfl) (fun _ => Or.inl (pr_b (ka_39 hM14) (by decide) rfl))) (f_HSegments_leastMode_ok (dep := dep + 0) hM14 h) rfl ?_
          intro x22 h
          replace h := hQ22 _ h
          refine iq_istore hS 133 J_HSegments_plan_d131 (by decide) rfl ?_
          refine iq_aload_n hS 134 J_HSegments_plan_d133 (lk_1r l15 (by decide)) rfl ?_
          refine iq_getR hS 137 J_HSegments_plan_d134 lf_7_21 (Or.inr ⟨_, rfl⟩) (ka_39 hM14) (ra_39_4 hM14) rfl ?_
          refine iq_iload hS 139 J_HSegments_plan_d137 (lk_1i l21 (by decide)) rfl ?_
          refine iq_iload hS 141 J_HSegments_plan_d139 lk_1s rfl ?_
          refine iq_i2b hS 142 J_HSegments_plan_d141 rfl ?_
          obtain ⟨g142, h⟩ := ed_gd h
          refine iq_bastore hS 143 J_HSegments_plan_d142 ⟨(ka_42 hM14).1, (ka_42 hM14).2, g142.1, ix_lt (kl_42 hM14) g142.2⟩ rfl ?_
          refine iq_getstatic hS 146 J_HSegments_plan_d143 gs_7_62 rfl ?_
          refine iq_bipush hS 148 J_HSegments_plan_d146 (v := 7) (by decide +kernel) rfl ?_
          refine iq_iload hS 150 J_HSegments_plan_d148 lk_1s rfl ?_
          refine iq_imul hS 151 J_HSegments_plan_d150 rfl ?_
          refine iq_iload hS 153 J_HSegments_plan_d151 (lk_1i l20 (by decide)) rfl ?_
          refine iq_iadd hS 154 J_HSegments_plan_d153 rfl ?_
          obtain ⟨g154, h⟩ := ed_gd h
          refine iq_xl_7 hS 155 J_HSegments_plan_d154 (lw_sI hM14) g154 rfl ?_
          refine iq_istore hS 157 J_HSegments_plan_d155 (by decide) rfl ?_
          refine iq_iincv hS 160 J_HSegments_plan_d157 (c := 1) (by decide +kernel) (lk_1i (lk_1i l21 (by decide)) (by decide)) (by decide) rfl ?_
          refine iq_goto hS J_HSegments_plan_d160 (t := 105) rfl ?_
          exact ih _ _ _ _ (lw_sI hM14) (lk_1r (lk_1r (lk_1r l15 (by decide)) (by decide)) (by decide)) (lk_1r (lk_1r (lk_1r l16 (by decide)) (by decide)) (by decide)) (lk_1i (lk_1i (lk_1i l17 (by decide)) (by decide)) (by decide)) (lk_1i (lk_1i (lk_1i l18 (by decide)) (by decide)) (by decide)) (lk_1i (lk_1i (lk_1i l19 (by decide)) (by decide)) (by decide)) (lk_1i lk_1s (by decide)) lk_1s (lq_l h)
    exact I9 n9 _ _ _ _ hM3 (lk_1r (lk_1r l4 (by decide)) (by decide)) (lk_1r (lk_1r l5 (by decide)) (by decide)) (lk_1i (lk_1i l6 (by decide)) (by decide)) (lk_1i (lk_1i l7 (by decide)) (by decide)) (lk_1i (lk_1i l8 (by decide)) (by decide)) (lk_1i lk_1s (by decide)) lk_1s hn9
  obtain ⟨r2, hr2, hq2⟩ := h
  obtain ⟨n2, hn2⟩ := lp_n hr2
  have I2 : ∀ (n : Nat) (x23 : Int32) (M24 : im_M) (L' : List (Nat × Value)), lw_S w M24 → im_lk L' 0 = some (.ref 39) → im_lk L' 1 = some (.ref 14) → im_lk L' 2 = some (.int p1) → im_lk L' 3 = some (.int p2) → im_lk L' 4 = some (.int p3) → im_lk L' 5 = some (.int x23) → lpn (uc2 (f_HSegments_plan_L24 p1 p2 p3)) n (x23, M24) = some r2 → ia (tb_G L xs) (dep + 6) J_HSegments_plan (rwI w Q) (24, L', [], M24) := by
    intro n
    induction n with
    | zero => intro x23 M24 L' hM24 l25 l26 l27 l28 l29 l30 hn; exact (lpn_0 hn).elim
    | succ n ih =>
      intro x23 M24 L' hM24 l25 l26 l27 l28 l29 l30 hn
      have h := lpn_ed2 hn
      unfold f_HSegments_plan_L24 at h
      refine iq_iload hS 26 J_HSegments_plan_d24 l30 rfl ?_
      refine iq_if_lt hS 29 J_HSegments_plan_d26 (t := 98) rfl (fun q26 => ?_) rfl (fun q26 => ?_)
      · replace h := ed_pos q26 h
        exact K2 _ _ hM24 l25 l26 l27 l28 l29 (lq_r h hq2)
      · replace h := ed_neg q26 h
        refine iq_iconst hS 30 J_HSegments_plan_d29 (v := 0) (by decide +kernel) rfl ?_
        refine iq_istore hS 32 J_HSegments_plan_d30 (by decide) rfl ?_
        obtain ⟨Q31, hQ31, h⟩ := bd1_ed h
        have K31 : ∀ (M32 : im_M) (L' : List (Nat × Value)), lw_S w M32 → im_lk L' 0 = some (.ref 39) → im_lk L' 1 = some (.ref 14) → im_lk L' 2 = some (.int p1) → im_lk L' 3 = some (.int p2) → im_lk L' 4 = some (.int p3) → im_lk L' 5 = some (.int x23) → Q31 M32 → ia (tb_G L xs) (dep + 6) J_HSegments_plan (rwI w Q) (92, L', [], M32) := by
          intro M32 L' hM32 l33 l34 l35 l36 l37 l38 h
          replace h := hQ31 _ h
          refine iq_iincv hS 95 J_HSegments_plan_d92 (c := (-1)) (by decide +kernel) l38 (by decide) rfl ?_
          refine iq_goto hS J_HSegments_plan_d95 (t := 24) rfl ?_
          exact ih _ _ _ hM32 (lk_1r l33 (by decide)) (lk_1r l34 (by decide)) (lk_1i l35 (by decide)) (lk_1i l36 (by decide)) (lk_1i l37 (by decide)) lk_1s (lq_l h)
        obtain ⟨r31, hr31, hq31⟩ := h
        obtain ⟨n31, hn31⟩ := lp_n hr31
        have I31 : ∀ (n : Nat) (x39 : Int32) (M40 : im_M) (L' : List (Nat × Value)), lw_S w M40 → im_lk L' 0 = some (.ref 39) → im_lk L' 1 = some (.ref 14) → im_lk L' 2 = some (.int p1) → im_lk L' 3 = some (.int p2) → im_lk L' 4 = some (.int p3) → im_lk L' 5 = some (.int x23) → im_lk L' 6 = some (.int x39) → lpn (uc2 (f_HSegments_plan_L32 p1 p2 p3 x23)) n (x39, M40) = some r31 → ia (tb_G L xs) (dep + 6) J_HSegments_plan (rwI w Q) (32, L', [], M40) := by
          intro n
          induction n with
          | zero => intro x39 M40 L' hM40 l41 l42 l43 l44 l45 l46 l47 hn; exact (lpn_0 hn).elim
          | succ n ih =>
            intro x39 M40 L' hM40 l41 l42 l43 l44 l45 l46 l47 hn
            have h := lpn_ed2 hn
            unfold f_HSegments_plan_L32 at h
            refine iq_iload hS 34 J_HSegments_plan_d32 l47 rfl ?_
            refine iq_bipush hS 36 J_HSegments_plan_d34 (v := 7) (by decide +kernel) rfl ?_
            refine iq_icmp_ge hS 39 J_HSegments_plan_d36 (t := 92) rfl (fun q36 => ?_) rfl (fun q36 => ?_)
            · replace h := ed_pos q36 h
              exact K31 _ _ hM40 l41 l42 l43 l44 l45 l46 (lq_r h hq31)
            · replace h := ed_neg q36 h
              refine iq_aload_n hS 40 J_HSegments_plan_d39 l41 rfl ?_
              refine iq_iload hS 42 J_HSegments_plan_d40 l46 rfl ?_
              refine iq_iload hS 44 J_HSegments_plan_d42 l47 rfl ?_
              refine iq_aload_n hS 45 J_HSegments_plan_d44 l42 rfl ?_
              refine iq_iload_n hS 46 J_HSegments_plan_d45 l43 rfl ?_
              refine iq_iload hS 48 J_HSegments_plan_d46 l46 rfl ?_
              refine iq_iadd hS 49 J_HSegments_plan_d48 rfl ?_
              obtain ⟨g49, h⟩ := ed_gd h
              refine iq_baload hS 50 J_HSegments_plan_d49 ⟨(ka_14 hM40).1, (ka_14 hM40).2, g49.1, ix_lt (kl_14 hM40) g49.2⟩ rfl ?_
              refine iq_sipush hS 53 J_HSegments_plan_d50 (v := 255) (by decide +kernel) rfl ?_
              refine iq_iand hS 54 J_HSegments_plan_d53 rfl ?_
              refine iq_iload hS 56 J_HSegments_plan_d54 l45 rfl ?_
              obtain ⟨Q48, hQ48, h⟩ := bd1_ed h
              refine iq_cpI hS 59 J_HSegments_plan_d56 rfl (pr_inst (vs := [_, _, _, _]) lc_7_55 lT_136 rfl rfl (by decide) (by decide) rfl (Nat.le_of_ble_eq_true rfl) (Nat.le_of_ble_eq_true rfl) (fun _ => Or.inl (pr_b (ka_39 hM40) (by decide) rfl))) (f_HSegments_leastMode_ok (dep := dep + 0) hM40 h) rfl ?_
              intro x48 h
              replace h := hQ48 _ h
              refine iq_istore hS 61 J_HSegments_plan_d59 (by decide) rfl ?_
              refine iq_aload_n hS 62 J_HSegments_plan_d61 (lk_1r l41 (by decide)) rfl ?_
              refine iq_getR hS 65 J_HSegments_plan_d62 lf_7_17 (Or.inr ⟨_, rfl⟩) (ka_39 hM40) (ra_39_3 hM40) rfl ?_
              refine iq_bipush hS 67 J_HSegments_plan_d65 (v := 7) (by decide +kernel) rfl ?_
              refine iq_iload hS 69 J_HSegments_plan_d67 (lk_1i l46 (by decide)) rfl ?_
              refine iq_imul hS 70 J_HSegments_plan_d69 rfl ?_
              refine iq_iload hS 72 J_HSegments_plan_d70 (lk_1i l47 (by decide)) rfl ?_
              refine iq_iadd hS 73 J_HSegments_plan_d72 rfl ?_
              refine iq_aload_n hS 74 J_HSegments_plan_d73 (lk_1r l41 (by decide)) rfl ?_
              refine iq_iload hS 76 J_HSegments_plan_d74 (lk_1i l46 (by decide)) rfl ?_
              refine iq_iload hS 78 J_HSegments_plan_d76 (lk_1i l47 (by decide)) rfl ?_
              refine iq_iload hS 80 J_HSegments_plan_d78 lk_1s rfl ?_
              refine iq_iload hS 82 J_HSegments_plan_d80 (lk_1i l45 (by decide)) rfl ?_
              obtain ⟨Q49, hQ49, h⟩ := bd1_ed h
              refine iq_cpI hS 85 J_HSegments_plan_d82 rfl (pr_inst (vs := [_, _, _, _]) lc_7_59 lT_138 rfl rfl (by decide) (by decide) rfl (Nat.le_of_ble_eq_true rfl) (Nat.le_of_ble_eq_true rfl) (fun _ => Or.inl (pr_b (ka_39 hM40) (by decide) rfl))) (f_HSegments_bitsBy_ok (dep := dep + 5) hM40 h) rfl ?_
              intro x49 h
              replace h := hQ49 _ h
              obtain ⟨g85, h⟩ := ed_gd h
              refine iq_iastore hS 86 J_HSegments_plan_d85 ⟨(ka_41 hM40).1, (ka_41 hM40).2, g85.1, ix_lt (kl_41 hM40) g85.2⟩ rfl ?_
              refine iq_iincv hS 89 J_HSegments_plan_d86 (c := 1) (by decide +kernel) (lk_1i l47 (by decide)) (by decide) rfl ?_
              refine iq_goto hS J_HSegments_plan_d89 (t := 32) rfl ?_
              exact ih _ _ _ (lw_sI hM40) (lk_1r (lk_1r l41 (by decide)) (by decide)) (lk_1r (lk_1r l42 (by decide)) (by decide)) (lk_1i (lk_1i l43 (by decide)) (by decide)) (lk_1i (lk_1i l44 (by decide)) (by decide)) (lk_1i (lk_1i l45 (by decide)) (by decide)) (lk_1i (lk_1i l46 (by decide)) (by decide)) lk_1s (lq_l h)
        exact I31 n31 _ _ _ hM24 (lk_1r l25 (by decide)) (lk_1r l26 (by decide)) (lk_1i l27 (by decide)) (lk_1i l28 (by decide)) (lk_1i l29 (by decide)) (lk_1i l30 (by decide)) lk_1s hn31
  exact I2 n2 _ _ _ hM1 (lk_1r l0 (by decide)) (lk_1r l1 (by decide)) (lk_1i l2 (by decide)) (lk_1i l3 (by decide)) (lk_1i l4 (by decide)) lk_1s hn2
theorem f_HSegments_plan_fr {p1 : Int32} {p2 : Int32} {p3 : Int32} {M : im_M} {r : Int32 × im_M} (h : f_HSegments_plan p1 p2 p3 M = some r) : fr 6597069766656 [] M r.2 := by
  replace h : ed (f_HSegments_plan p1 p2 p3 M) (fun x => x = r) := ⟨r, h, rfl⟩
  unfold f_HSegments_plan at h
  obtain ⟨Q1, hQ1, h⟩ := bd1_ed h
  obtain ⟨M1, e1, h⟩ := h
  replace h := hQ1 _ h
  obtain ⟨Q2, hQ2, h⟩ := bd1_ed h
  have K2 : ∀ (M3 : im_M), fr 6597069766656 [] M M3 → Q2 M3 → fr 6597069766656 [] M r.2 := by
    intro M3 hM3 h
    replace h := hQ2 _ h
    obtain ⟨Q4, hQ4, h⟩ := bd1_ed h
    have K4 : ∀ (M5 : im_M), fr 6597069766656 [] M M5 → Q4 M5 → fr 6597069766656 [] M r.2 := by
      intro M5 hM5 h
      replace h := hQ4 _ h
      obtain ⟨g169, h⟩ := ed_gd h
      exact fr_ret h hM5
    obtain ⟨r4, hr4, hq4⟩ := h
    obtain ⟨n4, hn4⟩ := lp_n hr4
    have I4 : ∀ (n : Nat) (x6 : Int32) (x7 : Int32) (M8 : im_M), fr 6597069766656 [] M M8 → lpn (uc3 (f_HSegments_plan_L105 p1 p2 p3)) n (x6, x7, M8) = some r4 → fr 6597069766656 [] M r.2 := by
      intro n
      induction n with
      | zero => intro x6 x7 M8 hM8 hn; exact (lpn_0 hn).elim
      | succ n ih =>
        intro x6 x7 M8 hM8 hn
        have h := lpn_ed3 hn
        unfold f_HSegments_plan_L105 at h
        by_cases q108 : p2 ≤ x7
        · replace h := ed_pos q108 h
          exact K4 _ hM8 (lq_r h hq4)
        · replace h := ed_neg q108 h
          obtain ⟨g121, h⟩ := ed_gd h
          obtain ⟨Q9, hQ9, h⟩ := bd1_ed h
          obtain ⟨x9, e9, h⟩ := h
          replace h := hQ9 _ h
          obtain ⟨g142, h⟩ := ed_gd h
          obtain ⟨g154, h⟩ := ed_gd h
          exact ih _ _ _ (fr_I (by decide) hM8) (lq_l h)
    exact I4 n4 _ _ _ hM3 hn4
  obtain ⟨r2, hr2, hq2⟩ := h
  obtain ⟨n2, hn2⟩ := lp_n hr2
  have I2 : ∀ (n : Nat) (x10 : Int32) (M11 : im_M), fr 6597069766656 [] M M11 → lpn (uc2 (f_HSegments_plan_L24 p1 p2 p3)) n (x10, M11) = some r2 → fr 6597069766656 [] M r.2 := by
    intro n
    induction n with
    | zero => intro x10 M11 hM11 hn; exact (lpn_0 hn).elim
    | succ n ih =>
      intro x10 M11 hM11 hn
      have h := lpn_ed2 hn
      unfold f_HSegments_plan_L24 at h
      by_cases q26 : x10 < 0
      · replace h := ed_pos q26 h
        exact K2 _ hM11 (lq_r h hq2)
      · replace h := ed_neg q26 h
        obtain ⟨Q12, hQ12, h⟩ := bd1_ed h
        have K12 : ∀ (M13 : im_M), fr 6597069766656 [] M M13 → Q12 M13 → fr 6597069766656 [] M r.2 := by
          intro M13 hM13 h
          replace h := hQ12 _ h
          exact ih _ _ hM13 (lq_l h)
        obtain ⟨r12, hr12, hq12⟩ := h
        obtain ⟨n12, hn12⟩ := lp_n hr12
        have I12 : ∀ (n : Nat) (x14 : Int32) (M15 : im_M), fr 6597069766656 [] M M15 → lpn (uc2 (f_HSegments_plan_L32 p1 p2 p3 x10)) n (x14, M15) = some r12 → fr 6597069766656 [] M r.2 := by
          intro n
          induction n with
          | zero => intro x14 M15 hM15 hn; exact (lpn_0 hn).elim
          | succ n ih =>
            intro x14 M15 hM15 hn
            have h := lpn_ed2 hn
            unfold f_HSegments_plan_L32 at h
            by_cases q36 : 7 ≤ x14
            · replace h := ed_pos q36 h
              exact K12 _ hM15 (lq_r h hq12)
            · replace h := ed_neg q36 h
              obtain ⟨g49, h⟩ := ed_gd h
              obtain ⟨Q16, hQ16, h⟩ := bd1_ed h
              obtain ⟨x16, e16, h⟩ := h
              replace h := hQ16 _ h
              obtain ⟨Q17, hQ17, h⟩ := bd1_ed h
              obtain ⟨x17, e17, h⟩ := h
              replace h := hQ17 _ h
              obtain ⟨g85, h⟩ := ed_gd h
              exact ih _ _ (fr_I (by decide) hM15) (lq_l h)
        exact I12 n12 _ _ hM11 hn12
  exact I2 n2 _ _ (fr_tr (fr_mono (by decide) (by decide +kernel) (f_Arrays_fill_3_fr e1)) fr_refl) hn2
noncomputable def f_HBlocks_codewordsOf (p0 : Int32) (M : im_M) : Option (Int32) := bd1 (if p0 ≤ 1 then some (((((16 : Int32) * p0) + 128) * p0) + 64) else some ((((((16 : Int32) * p0) + 128) * p0) + 64) - (((((25 : Int32) * ((p0 / 7) + 2)) - 10) * ((p0 / 7) + 2)) - 55))) fun (y2 : Int32) => some (((if p0 ≤ 6 then y2 else (y2 + (-36))) : Int32) / 8)
theorem J_HBlocks_codewordsOf_d0 : decode J_HBlocks_codewordsOf.2.1 0 = .ok (.bipush 16, 2) := by decide +kernel
theorem J_HBlocks_codewordsOf_d2 : decode J_HBlocks_codewordsOf.2.1 2 = .ok (.iload_n 0, 1) := by decide +kernel
theorem J_HBlocks_codewordsOf_d3 : decode J_HBlocks_codewordsOf.2.1 3 = .ok (.imul, 1) := by decide +kernel
theorem J_HBlocks_codewordsOf_d4 : decode J_HBlocks_codewordsOf.2.1 4 = .ok (.sipush 128, 3) := by decide +kernel
theorem J_HBlocks_codewordsOf_d7 : decode J_HBlocks_codewordsOf.2.1 7 = .ok (.iadd, 1) := by decide +kernel
theorem J_HBlocks_codewordsOf_d8 : decode J_HBlocks_codewordsOf.2.1 8 = .ok (.iload_n 0, 1) := by decide +kernel
theorem J_HBlocks_codewordsOf_d9 : decode J_HBlocks_codewordsOf.2.1 9 = .ok (.imul, 1) := by decide +kernel
theorem J_HBlocks_codewordsOf_d10 : decode J_HBlocks_codewordsOf.2.1 10 = .ok (.bipush 64, 2) := by decide +kernel
theorem J_HBlocks_codewordsOf_d12 : decode J_HBlocks_codewordsOf.2.1 12 = .ok (.iadd, 1) := by decide +kernel
theorem J_HBlocks_codewordsOf_d13 : decode J_HBlocks_codewordsOf.2.1 13 = .ok (.istore_n 1, 1) := by decide +kernel
theorem J_HBlocks_codewordsOf_d14 : decode J_HBlocks_codewordsOf.2.1 14 = .ok (.iload_n 0, 1) := by decide +kernel
theorem J_HBlocks_codewordsOf_d15 : decode J_HBlocks_codewordsOf.2.1 15 = .ok (.iconst 1, 1) := by decide +kernel
theorem J_HBlocks_codewordsOf_d16 : decode J_HBlocks_codewordsOf.2.1 16 = .ok (.if_icmp .le 25, 3) := by decide +kernel
theorem J_HBlocks_codewordsOf_d19 : decode J_HBlocks_codewordsOf.2.1 19 = .ok (.iload_n 0, 1) := by decide +kernel
theorem J_HBlocks_codewordsOf_d20 : decode J_HBlocks_codewordsOf.2.1 20 = .ok (.bipush 7, 2) := by decide +kernel
theorem J_HBlocks_codewordsOf_d22 : decode J_HBlocks_codewordsOf.2.1 22 = .ok (.idiv, 1) := by decide +kernel
theorem J_HBlocks_codewordsOf_d23 : decode J_HBlocks_codewordsOf.2.1 23 = .ok (.iconst 2, 1) := by decide +kernel
theorem J_HBlocks_codewordsOf_d24 : decode J_HBlocks_codewordsOf.2.1 24 = .ok (.iadd, 1) := by decide +kernel
theorem J_HBlocks_codewordsOf_d25 : decode J_HBlocks_codewordsOf.2.1 25 = .ok (.istore_n 2, 1) := by decide +kernel
theorem J_HBlocks_codewordsOf_d26 : decode J_HBlocks_codewordsOf.2.1 26 = .ok (.iload_n 1, 1) := by decide +kernel
theorem J_HBlocks_codewordsOf_d27 : decode J_HBlocks_codewordsOf.2.1 27 = .ok (.bipush 25, 2) := by decide +kernel
theorem J_HBlocks_codewordsOf_d29 : decode J_HBlocks_codewordsOf.2.1 29 = .ok (.iload_n 2, 1) := by decide +kernel
theorem J_HBlocks_codewordsOf_d30 : decode J_HBlocks_codewordsOf.2.1 30 = .ok (.imul, 1) := by decide +kernel
theorem J_HBlocks_codewordsOf_d31 : decode J_HBlocks_codewordsOf.2.1 31 = .ok (.bipush 10, 2) := by decide +kernel
theorem J_HBlocks_codewordsOf_d33 : decode J_HBlocks_codewordsOf.2.1 33 = .ok (.isub, 1) := by decide +kernel
theorem J_HBlocks_codewordsOf_d34 : decode J_HBlocks_codewordsOf.2.1 34 = .ok (.iload_n 2, 1) := by decide +kernel
theorem J_HBlocks_codewordsOf_d35 : decode J_HBlocks_codewordsOf.2.1 35 = .ok (.imul, 1) := by decide +kernel
theorem J_HBlocks_codewordsOf_d36 : decode J_HBlocks_codewordsOf.2.1 36 = .ok (.bipush 55, 2) := by decide +kernel
theorem J_HBlocks_codewordsOf_d38 : decode J_HBlocks_codewordsOf.2.1 38 = .ok (.isub, 1) := by decide +kernel
theorem J_HBlocks_codewordsOf_d39 : decode J_HBlocks_codewordsOf.2.1 39 = .ok (.isub, 1) := by decide +kernel
theorem J_HBlocks_codewordsOf_d40 : decode J_HBlocks_codewordsOf.2.1 40 = .ok (.istore_n 1, 1) := by decide +kernel
theorem J_HBlocks_codewordsOf_d41 : decode J_HBlocks_codewordsOf.2.1 41 = .ok (.iload_n 0, 1) := by decide +kernel
theorem J_HBlocks_codewordsOf_d42 : decode J_HBlocks_codewordsOf.2.1 42 = .ok (.bipush 6, 2) := by decide +kernel
theorem J_HBlocks_codewordsOf_d44 : decode J_HBlocks_codewordsOf.2.1 44 = .ok (.if_icmp .le 6, 3) := by decide +kernel
theorem J_HBlocks_codewordsOf_d47 : decode J_HBlocks_codewordsOf.2.1 47 = .ok (.iinc 1 (-36), 3) := by decide +kernel
theorem J_HBlocks_codewordsOf_d50 : decode J_HBlocks_codewordsOf.2.1 50 = .ok (.iload_n 1, 1) := by decide +kernel
theorem J_HBlocks_codewordsOf_d51 : decode J_HBlocks_codewordsOf.2.1 51 = .ok (.bipush 8, 2) := by decide +kernel
theorem J_HBlocks_codewordsOf_d53 : decode J_HBlocks_codewordsOf.2.1 53 = .ok (.idiv, 1) := by decide +kernel
theorem J_HBlocks_codewordsOf_d54 : decode J_HBlocks_codewordsOf.2.1 54 = .ok (.ireturn, 1) := by decide +kernel
theorem f_HBlocks_codewordsOf_ok {L : Nat} {xs : Nat → Int32} {dep : Nat} {w : Bool} {p0 : Int32} {M : im_M} {Q : Int32 → Prop} (hM : lw_S w M) (h : ed (f_HBlocks_codewordsOf p0 M) Q) : ia (tb_G L xs) dep J_HBlocks_codewordsOf (rpI M Q) (0, lv_args 0 [.int p0], [], M) := by
  have hS : im_St (tb_G L xs) dep J_HBlocks_codewordsOf (ia (tb_G L xs) dep J_HBlocks_codewordsOf (rpI M Q)) := ia_St
  unfold f_HBlocks_codewordsOf at h
  have l0 : im_lk (lv_args 0 [.int p0]) 0 = some (.int p0) := rfl
  refine iq_bipush hS 2 J_HBlocks_codewordsOf_d0 (v := 16) (by decide +kernel) rfl ?_
  refine iq_iload_n hS 3 J_HBlocks_codewordsOf_d2 l0 rfl ?_
  refine iq_imul hS 4 J_HBlocks_codewordsOf_d3 rfl ?_
  refine iq_sipush hS 7 J_HBlocks_codewordsOf_d4 (v := 128) (by decide +kernel) rfl ?_
  refine iq_iadd hS 8 J_HBlocks_codewordsOf_d7 rfl ?_
  refine iq_iload_n hS 9 J_HBlocks_codewordsOf_d8 l0 rfl ?_
  refine iq_imul hS 10 J_HBlocks_codewordsOf_d9 rfl ?_
  refine iq_bipush hS 12 J_HBlocks_codewordsOf_d10 (v := 64) (by decide +kernel) rfl ?_
  refine iq_iadd hS 13 J_HBlocks_codewordsOf_d12 rfl ?_
  refine iq_istore_n hS 14 J_HBlocks_codewordsOf_d13 (by decide) rfl ?_
  refine iq_iload_n hS 15 J_HBlocks_codewordsOf_d14 (lk_1i l0 (by decide)) rfl ?_
  refine iq_iconst hS 16 J_HBlocks_codewordsOf_d15 (v := 1) (by decide +kernel) rfl ?_
  obtain ⟨Q1, hQ1, h⟩ := bd1_ed h
  have J1 : ∀ (y2 : Int32) (L' : List (Nat × Value)), im_lk L' 0 = some (.int p0) → im_lk L' 1 = some (.int y2) → Q1 y2 → ia (tb_G L xs) dep J_HBlocks_codewordsOf (rpI M Q) (41, L', [], M) := by
    intro y2 L' l3 l4 h
    replace h := hQ1 _ h
    refine iq_iload_n hS 42 J_HBlocks_codewordsOf_d41 l3 rfl ?_
    refine iq_bipush hS 44 J_HBlocks_codewordsOf_d42 (v := 6) (by decide +kernel) rfl ?_
    have J5 : ∀ (z6 : Int32) (L' : List (Nat × Value)), z6 = ((if p0 ≤ 6 then y2 else (y2 + (-36))) : Int32) → im_lk L' 1 = some (.int z6) → ia (tb_G L xs) dep J_HBlocks_codewordsOf (rpI M Q) (50, L', [], M) := by
      intro z6 L' e7 l8
      subst e7
      refine iq_iload_n hS 51 J_HBlocks_codewordsOf_d50 l8 rfl ?_
      refine iq_bipush hS 53 J_HBlocks_codewordsOf_d51 (v := 8) (by decide +kernel) rfl ?_
      refine iq_idiv hS 54 J_HBlocks_codewordsOf_d53 (by decide) rfl ?_
      exact iq_iret J_HBlocks_codewordsOf_d54 rfl rfl ⟨_, rfl, rfl, ed_some h⟩
    refine iq_icmp_le hS 47 J_HBlocks_codewordsOf_d44 (t := 50) rfl (fun q44 => ?_) rfl (fun q44 => ?_)
    · exact J5 _ _ (by simp only [if_pos q44]) l4
    · refine iq_iincv hS 50 J_HBlocks_codewordsOf_d47 (c := (-36)) (by decide +kernel) l4 (by decide) rfl ?_
      exact J5 _ _ (by simp only [if_neg q44]) lk_1s
  refine iq_icmp_le hS 19 J_HBlocks_codewordsOf_d16 (t := 41) rfl (fun q16 => ?_) rfl (fun q16 => ?_)
  · replace h := ed_pos q16 h
    exact J1 _ _ (lk_1i l0 (by decide)) lk_1s (ed_some h)
  · replace h := ed_neg q16 h
    refine iq_iload_n hS 20 J_HBlocks_codewordsOf_d19 (lk_1i l0 (by decide)) rfl ?_
    refine iq_bipush hS 22 J_HBlocks_codewordsOf_d20 (v := 7) (by decide +kernel) rfl ?_
    refine iq_idiv hS 23 J_HBlocks_codewordsOf_d22 (by decide) rfl ?_
    refine iq_iconst hS 24 J_HBlocks_codewordsOf_d23 (v := 2) (by decide +kernel) rfl ?_
    refine iq_iadd hS 25 J_HBlocks_codewordsOf_d24 rfl ?_
    refine iq_istore_n hS 26 J_HBlocks_codewordsOf_d25 (by decide) rfl ?_
    refine iq_iload_n hS 27 J_HBlocks_codewordsOf_d26 (lk_1i lk_1s (by decide)) rfl ?_
    refine iq_bipush hS 29 J_HBlocks_codewordsOf_d27 (v := 25) (by decide +kernel) rfl ?_
    refine iq_iload_n hS 30 J_HBlocks_codewordsOf_d29 lk_1s rfl ?_
    refine iq_imul hS 31 J_HBlocks_codewordsOf_d30 rfl ?_
    refine iq_bipush hS 33 J_HBlocks_codewordsOf_d31 (v := 10) (by decide +kernel) rfl ?_
    refine iq_isub hS 34 J_HBlocks_codewordsOf_d33 rfl ?_
    refine iq_iload_n hS 35 J_HBlocks_codewordsOf_d34 lk_1s rfl ?_
    refine iq_imul hS 36 J_HBlocks_codewordsOf_d35 rfl ?_
    refine iq_bipush hS 38 J_HBlocks_codewordsOf_d36 (v := 55) (by decide +kernel) rfl ?_
    refine iq_isub hS 39 J_HBlocks_codewordsOf_d38 rfl ?_
    refine iq_isub hS 40 J_HBlocks_codewordsOf_d39 rfl ?_
    refine iq_istore_n hS 41 J_HBlocks_codewordsOf_d40 (by decide) rfl ?_
    exact J1 _ _ (lk_1i (lk_1i (lk_1i l0 (by decide)) (by decide)) (by decide)) lk_1s (ed_some h)
noncomputable def f_HBlocks_holds (p0 : Int32) (p1 : Int32) (M : im_M) : Option (Int32) := bd1 (f_HBlocks_codewordsOf p0 M) fun (x1 : Int32) => gd (inb ((((40 : Int32) * p1) + p0) - 1) 160) <| gd (inb ((((40 : Int32) * p1) + p0) - 1) 160) <| some (x1 - ((xa_11 ((((40 : Int32) * p1) + p0) - 1)) * (xa_12 ((((40 : Int32) * p1) + p0) - 1))))
theorem J_HBlocks_holds_d0 : decode J_HBlocks_holds.2.1 0 = .ok (.bipush 40, 2) := by decide +kernel
theorem J_HBlocks_holds_d2 : decode J_HBlocks_holds.2.1 2 = .ok (.iload_n 1, 1) := by decide +kernel
theorem J_HBlocks_holds_d3 : decode J_HBlocks_holds.2.1 3 = .ok (.imul, 1) := by decide +kernel
theorem J_HBlocks_holds_d4 : decode J_HBlocks_holds.2.1 4 = .ok (.iload_n 0, 1) := by decide +kernel
theorem J_HBlocks_holds_d5 : decode J_HBlocks_holds.2.1 5 = .ok (.iadd, 1) := by decide +kernel
theorem J_HBlocks_holds_d6 : decode J_HBlocks_holds.2.1 6 = .ok (.iconst 1, 1) := by decide +kernel
theorem J_HBlocks_holds_d7 : decode J_HBlocks_holds.2.1 7 = .ok (.isub, 1) := by decide +kernel
theorem J_HBlocks_holds_d8 : decode J_HBlocks_holds.2.1 8 = .ok (.istore_n 2, 1) := by decide +kernel
theorem J_HBlocks_holds_d9 : decode J_HBlocks_holds.2.1 9 = .ok (.iload_n 0, 1) := by decide +kernel
theorem J_HBlocks_holds_d10 : decode J_HBlocks_holds.2.1 10 = .ok (.invokestatic 43, 3) := by decide +kernel
theorem J_HBlocks_holds_d13 : decode J_HBlocks_holds.2.1 13 = .ok (.getstatic 47, 3) := by decide +kernel
theorem J_HBlocks_holds_d16 : decode J_HBlocks_holds.2.1 16 = .ok (.iload_n 2, 1) := by decide +kernel
theorem J_HBlocks_holds_d17 : decode J_HBlocks_holds.2.1 17 = .ok (.iaload, 1) := by decide +kernel
theorem J_HBlocks_holds_d18 : decode J_HBlocks_holds.2.1 18 = .ok (.getstatic 50, 3) := by decide +kernel
theorem J_HBlocks_holds_d21 : decode J_HBlocks_holds.2.1 21 = .ok (.iload_n 2, 1) := by decide +kernel
theorem J_HBlocks_holds_d22 : decode J_HBlocks_holds.2.1 22 = .ok (.iaload, 1) := by decide +kernel
theorem J_HBlocks_holds_d23 : decode J_HBlocks_holds.2.1 23 = .ok (.imul, 1) := by decide +kernel
theorem J_HBlocks_holds_d24 : decode J_HBlocks_holds.2.1 24 = .ok (.isub, 1) := by decide +kernel
theorem J_HBlocks_holds_d25 : decode J_HBlocks_holds.2.1 25 = .ok (.ireturn, 1) := by decide +kernel
theorem f_HBlocks_holds_ok {L : Nat} {xs : Nat → Int32} {dep : Nat} {w : Bool} {p0 : Int32} {p1 : Int32} {M : im_M} {Q : Int32 → Prop} (hM : lw_S w M) (h : ed (f_HBlocks_holds p0 p1 M) Q) : ia (tb_G L xs) (dep + 1) J_HBlocks_holds (rpI M Q) (0, lv_args 0 [.int p0, .int p1], [], M) := by
  have hS : im_St (tb_G L xs) (dep + 1) J_HBlocks_holds (ia (tb_G L xs) (dep + 1) J_HBlocks_holds (rpI M Q)) := ia_St
  unfold f_HBlocks_holds at h
  have l0 : im_lk (lv_args 0 [.int p0, .int p1]) 0 = some (.int p0) := rfl
  have l1 : im_lk (lv_args 0 [.int p0, .int p1]) 1 = some (.int p1) := rfl
  refine iq_bipush hS 2 J_HBlocks_holds_d0 (v := 40) (by decide +kernel) rfl ?_
  refine iq_iload_n hS 3 J_HBlocks_holds_d2 l1 rfl ?_
  refine iq_imul hS 4 J_HBlocks_holds_d3 rfl ?_
  refine iq_iload_n hS 5 J_HBlocks_holds_d4 l0 rfl ?_
  refine iq_iadd hS 6 J_HBlocks_holds_d5 rfl ?_
  refine iq_iconst hS 7 J_HBlocks_holds_d6 (v := 1) (by decide +kernel) rfl ?_
  refine iq_isub hS 8 J_HBlocks_holds_d7 rfl ?_
  refine iq_istore_n hS 9 J_HBlocks_holds_d8 (by decide) rfl ?_
  refine iq_iload_n hS 10 J_HBlocks_holds_d9 (lk_1i l0 (by decide)) rfl ?_
  obtain ⟨Q1, hQ1, h⟩ := bd1_ed h
  refine iq_cpI hS 13 J_HBlocks_holds_d10 rfl (pr_stat (vs := [_]) lc_1_43 lT_140 rfl rfl (by decide) rfl (Nat.le_of_ble_eq_true rfl) (Nat.le_of_ble_eq_true rfl)) (f_HBlocks_codewordsOf_ok (dep := dep + 0) hM h) rfl ?_
  intro x1 h
  replace h := hQ1 _ h
  refine iq_getstatic hS 16 J_HBlocks_holds_d13 gs_1_47 rfl ?_
  refine iq_iload_n hS 17 J_HBlocks_holds_d16 lk_1s rfl ?_
  obtain ⟨g17, h⟩ := ed_gd h
  refine iq_xl_11 hS 18 J_HBlocks_holds_d17 hM g17 rfl ?_
  refine iq_getstatic hS 21 J_HBlocks_holds_d18 gs_1_50 rfl ?_
  refine iq_iload_n hS 22 J_HBlocks_holds_d21 lk_1s rfl ?_
  obtain ⟨g22, h⟩ := ed_gd h
  refine iq_xl_12 hS 23 J_HBlocks_holds_d22 hM g22 rfl ?_
  refine iq_imul hS 24 J_HBlocks_holds_d23 rfl ?_
  refine iq_isub hS 25 J_HBlocks_holds_d24 rfl ?_
  exact iq_iret J_HBlocks_holds_d25 rfl rfl ⟨_, rfl, rfl, ed_some h⟩
noncomputable def f_Arrays_fill3_L10 (v3 : Int32) (v4 : Int32) (x5 : Int32) (M6 : im_M) : Option ((Int32 × im_M) ⊕ (im_M)) := if v3 ≤ x5 then some (.inr M6) else gd (inb x5 2956) <| some (.inl ((x5 + 1), (im_setI M6 40 (Int32.toNatClampNeg x5) (vp_nar .byte v4))))
noncomputable def f_Arrays_fill3 (p1 : Int32) (p2 : Int32) (p3 : Int32) (M : im_M) : Option (im_M) := bd0 (f_Arrays_rangeCheck 2956 p1 p2 M) fun (_ : Unit) => bd1 (lp (uc2 (f_Arrays_fill3_L10 p2 p3)) (p1, M)) fun (M7 : im_M) => some M7
theorem J_Arrays_fill3_d0 : decode J_Arrays_fill3.2.1 0 = .ok (.aload_n 0, 1) := by decide +kernel
theorem J_Arrays_fill3_d1 : decode J_Arrays_fill3.2.1 1 = .ok (.arraylength, 1) := by decide +kernel
theorem J_Arrays_fill3_d2 : decode J_Arrays_fill3.2.1 2 = .ok (.iload_n 1, 1) := by decide +kernel
theorem J_Arrays_fill3_d3 : decode J_Arrays_fill3.2.1 3 = .ok (.iload_n 2, 1) := by decide +kernel
theorem J_Arrays_fill3_d4 : decode J_Arrays_fill3.2.1 4 = .ok (.invokestatic 13, 3) := by decide +kernel
theorem J_Arrays_fill3_d7 : decode J_Arrays_fill3.2.1 7 = .ok (.iload_n 1, 1) := by decide +kernel
theorem J_Arrays_fill3_d8 : decode J_Arrays_fill3.2.1 8 = .ok (.istore 4, 2) := by decide +kernel
theorem J_Arrays_fill3_d10 : decode J_Arrays_fill3.2.1 10 = .ok (.iload 4, 2) := by decide +kernel
theorem J_Arrays_fill3_d12 : decode J_Arrays_fill3.2.1 12 = .ok (.iload_n 2, 1) := by decide +kernel
theorem J_Arrays_fill3_d13 : decode J_Arrays_fill3.2.1 13 = .ok (.if_icmp .ge 14, 3) := by decide +kernel
theorem J_Arrays_fill3_d16 : decode J_Arrays_fill3.2.1 16 = .ok (.aload_n 0, 1) := by decide +kernel
theorem J_Arrays_fill3_d17 : decode J_Arrays_fill3.2.1 17 = .ok (.iload 4, 2) := by decide +kernel
theorem J_Arrays_fill3_d19 : decode J_Arrays_fill3.2.1 19 = .ok (.iload_n 3, 1) := by decide +kernel
theorem J_Arrays_fill3_d20 : decode J_Arrays_fill3.2.1 20 = .ok (.bastore, 1) := by decide +kernel
theorem J_Arrays_fill3_d21 : decode J_Arrays_fill3.2.1 21 = .ok (.iinc 4 1, 3) := by decide +kernel
theorem J_Arrays_fill3_d24 : decode J_Arrays_fill3.2.1 24 = .ok (.goto (-14), 3) := by decide +kernel
theorem J_Arrays_fill3_d27 : decode J_Arrays_fill3.2.1 27 = .ok (.return_, 1) := by decide +kernel
theorem f_Arrays_fill3_ok {L : Nat} {xs : Nat → Int32} {dep : Nat} {w : Bool} {p1 : Int32} {p2 : Int32} {p3 : Int32} {M : im_M} {Q : im_M → Prop} (hM : lw_S w M) (h : ed (f_Arrays_fill3 p1 p2 p3 M) Q) : ia (tb_G L xs) (dep + 1) J_Arrays_fill3 (rwV w Q) (0, lv_args 0 [.ref 40, .int p1, .int p2, .int p3], [], M) := by
  have hS : im_St (tb_G L xs) (dep + 1) J_Arrays_fill3 (ia (tb_G L xs) (dep + 1) J_Arrays_fill3 (rwV w Q)) := ia_St
  unfold f_Arrays_fill3 at h
  have l0 : im_lk (lv_args 0 [.ref 40, .int p1, .int p2, .int p3]) 0 = some (.ref 40) := rfl
  have l1 : im_lk (lv_args 0 [.ref 40, .int p1, .int p2, .int p3]) 1 = some (.int p1) := rfl
  have l2 : im_lk (lv_args 0 [.ref 40, .int p1, .int p2, .int p3]) 2 = some (.int p2) := rfl
  have l3 : im_lk (lv_args 0 [.ref 40, .int p1, .int p2, .int p3]) 3 = some (.int p3) := rfl
  refine iq_aload_n hS 1 J_Arrays_fill3_d0 l0 rfl ?_
  refine iq_alenv hS 2 J_Arrays_fill3_d1 (v := 2956) (ka_40 hM) (by decide) (by decide) (kl_40 hM) (by decide +kernel) rfl ?_
  refine iq_iload_n hS 3 J_Arrays_fill3_d2 l1 rfl ?_
  refine iq_iload_n hS 4 J_Arrays_fill3_d3 l2 rfl ?_
  obtain ⟨Q1, hQ1, h⟩ := bd0_ed h
  refine iq_cpV hS 7 J_Arrays_fill3_d4 rfl (pr_stat (vs := [_, _, _]) lc_22_13 lT_54 rfl rfl (by decide) rfl (Nat.le_of_ble_eq_true rfl) (Nat.le_of_ble_eq_true rfl)) (f_Arrays_rangeCheck_ok (dep := dep + 0) hM h) rfl ?_
  intro h
  replace h := hQ1  h
  refine iq_iload_n hS 8 J_Arrays_fill3_d7 l1 rfl ?_
  refine iq_istore hS 10 J_Arrays_fill3_d8 (by decide) rfl ?_
  obtain ⟨Q2, hQ2, h⟩ := bd1_ed h
  have K2 : ∀ (M3 : im_M) (L' : List (Nat × Value)), lw_S w M3 → Q2 M3 → ia (tb_G L xs) (dep + 1) J_Arrays_fill3 (rwV w Q) (27, L', [], M3) := by
    intro M3 L' hM3  h
    replace h := hQ2 _ h
    exact iq_ret J_Arrays_fill3_d27 rfl ⟨rfl, hM3, ed_some h⟩
  obtain ⟨r2, hr2, hq2⟩ := h
  obtain ⟨n2, hn2⟩ := lp_n hr2
  have I2 : ∀ (n : Nat) (x4 : Int32) (M5 : im_M) (L' : List (Nat × Value)), lw_S w M5 → im_lk L' 0 = some (.ref 40) → im_lk L' 2 = some (.int p2) → im_lk L' 3 = some (.int p3) → im_lk L' 4 = some (.int x4) → lpn (uc2 (f_Arrays_fill3_L10 p2 p3)) n (x4, M5) = some r2 → ia (tb_G L xs) (dep + 1) J_Arrays_fill3 (rwV w Q) (10, L', [], M5) := by
    intro n
    induction n with
    | zero => intro x4 M5 L' hM5 l6 l7 l8 l9 hn; exact (lpn_0 hn).elim
    | succ n ih =>
      intro x4 M5 L' hM5 l6 l7 l8 l9 hn
      have h := lpn_ed2 hn
      unfold f_Arrays_fill3_L10 at h
      refine iq_iload hS 12 J_Arrays_fill3_d10 l9 rfl ?_
      refine iq_iload_n hS 13 J_Arrays_fill3_d12 l7 rfl ?_
      refine iq_icmp_ge hS 16 J_Arrays_fill3_d13 (t := 27) rfl (fun q13 => ?_) rfl (fun q13 => ?_)
      · replace h := ed_pos q13 h
        exact K2 _ _ hM5  (lq_r h hq2)
      · replace h := ed_neg q13 h
        refine iq_aload_n hS 17 J_Arrays_fill3_d16 l6 rfl ?_
        refine iq_iload hS 19 J_Arrays_fill3_d17 l9 rfl ?_
        refine iq_iload_n hS 20 J_Arrays_fill3_d19 l8 rfl ?_
        obtain ⟨g20, h⟩ := ed_gd h
        refine iq_bastore hS 21 J_Arrays_fill3_d20 ⟨(ka_40 hM5).1, (ka_40 hM5).2, g20.1, ix_lt (kl_40 hM5) g20.2⟩ rfl ?_
        refine iq_iincv hS 24 J_Arrays_fill3_d21 (c := 1) (by decide +kernel) l9 (by decide) rfl ?_
        refine iq_goto hS J_Arrays_fill3_d24 (t := 10) rfl ?_
        exact ih _ _ _ (lw_sI hM5) (lk_1r l6 (by decide)) (lk_1i l7 (by decide)) (lk_1i l8 (by decide)) lk_1s (lq_l h)
  exact I2 n2 _ _ _ hM (lk_1r l0 (by decide)) (lk_1i l2 (by decide)) (lk_1i l3 (by decide)) lk_1s hn2
theorem f_Arrays_fill3_fr {p1 : Int32} {p2 : Int32} {p3 : Int32} {M : im_M} {r : im_M} (h : f_Arrays_fill3 p1 p2 p3 M = some r) : fr 1099511627776 [] M r := by
  replace h : ed (f_Arrays_fill3 p1 p2 p3 M) (fun x => x = r) := ⟨r, h, rfl⟩
  unfold f_Arrays_fill3 at h
  obtain ⟨Q1, hQ1, h⟩ := bd0_ed h
  obtain ⟨_, e1, h⟩ := h
  replace h := hQ1  h
  obtain ⟨Q2, hQ2, h⟩ := bd1_ed h
  have K2 : ∀ (M3 : im_M), fr 1099511627776 [] M M3 → Q2 M3 → fr 1099511627776 [] M r := by
    intro M3 hM3 h
    replace h := hQ2 _ h
    exact fr_retV h hM3
  obtain ⟨r2, hr2, hq2⟩ := h
  obtain ⟨n2, hn2⟩ := lp_n hr2
  have I2 : ∀ (n : Nat) (x4 : Int32) (M5 : im_M), fr 1099511627776 [] M M5 → lpn (uc2 (f_Arrays_fill3_L10 p2 p3)) n (x4, M5) = some r2 → fr 1099511627776 [] M r := by
    intro n
    induction n with
    | zero => intro x4 M5 hM5 hn; exact (lpn_0 hn).elim
    | succ n ih =>
      intro x4 M5 hM5 hn
      have h := lpn_ed2 hn
      unfold f_Arrays_fill3_L10 at h
      by_cases q13 : p2 ≤ x4
      · replace h := ed_pos q13 h
        exact K2 _ hM5 (lq_r h hq2)
      · replace h := ed_neg q13 h
        obtain ⟨g20, h⟩ := ed_gd h
        exact ih _ _ (fr_I (by decide) hM5) (lq_l h)
  exact I2 n2 _ _ fr_refl hn2
noncomputable def f_HSegments_put_L4 (v2 : Int32) (x3 : Int32) (M4 : im_M) : Option ((Int32 × im_M) ⊕ (im_M)) := if x3 < 0 then some (.inr M4) else bd1 (if ((v2 >>> (x3 &&& 31 : Int32) : Int32) &&& 1) = 0 then some M4 else if 2956 ≤ ((im_i M4 39 5) / 8) then some M4 else gd (inb ((im_i M4 39 5) / 8) 2956) <| gd (inb ((im_i M4 39 5) / 8) 2956) <| some (im_setI M4 40 (Int32.toNatClampNeg ((im_i M4 39 5) / 8)) (vp_nar .byte ((Int32.toInt8 ((im_i M4 40 (Int32.toNatClampNeg ((im_i M4 39 5) / 8))) ||| (Int32.toInt8 ((128 : Int32) >>> (((im_i M4 39 5) - (im_i M4 39 5) / 8 * 8) &&& 31 : Int32) : Int32)).toInt32)).toInt32)))) fun (M6 : im_M) => some (.inl ((x3 + (-1)), (im_setI M6 39 5 ((im_i M6 39 5) + 1))))
noncomputable def f_HSegments_put (p0 : Int32) (p1 : Int32) (M : im_M) : Option (im_M) := bd1 (lp (uc2 (f_HSegments_put_L4 p0)) ((p1 - 1), M)) fun (M10 : im_M) => some M10
theorem J_HSegments_put_d0 : decode J_HSegments_put.2.1 0 = .ok (.iload_n 2, 1) := by decide +kernel
theorem J_HSegments_put_d1 : decode J_HSegments_put.2.1 1 = .ok (.iconst 1, 1) := by decide +kernel
theorem J_HSegments_put_d2 : decode J_HSegments_put.2.1 2 = .ok (.isub, 1) := by decide +kernel
theorem J_HSegments_put_d3 : decode J_HSegments_put.2.1 3 = .ok (.istore_n 3, 1) := by decide +kernel
theorem J_HSegments_put_d4 : decode J_HSegments_put.2.1 4 = .ok (.iload_n 3, 1) := by decide +kernel
theorem J_HSegments_put_d5 : decode J_HSegments_put.2.1 5 = .ok (.ifCond .lt 68, 3) := by decide +kernel
theorem J_HSegments_put_d8 : decode J_HSegments_put.2.1 8 = .ok (.iload_n 1, 1) := by decide +kernel
theorem J_HSegments_put_d9 : decode J_HSegments_put.2.1 9 = .ok (.iload_n 3, 1) := by decide +kernel
theorem J_HSegments_put_d10 : decode J_HSegments_put.2.1 10 = .ok (.ishr, 1) := by decide +kernel
theorem J_HSegments_put_d11 : decode J_HSegments_put.2.1 11 = .ok (.iconst 1, 1) := by decide +kernel
theorem J_HSegments_put_d12 : decode J_HSegments_put.2.1 12 = .ok (.iand, 1) := by decide +kernel
theorem J_HSegments_put_d13 : decode J_HSegments_put.2.1 13 = .ok (.ifCond .eq 44, 3) := by decide +kernel
theorem J_HSegments_put_d16 : decode J_HSegments_put.2.1 16 = .ok (.aload_n 0, 1) := by decide +kernel
theorem J_HSegments_put_d17 : decode J_HSegments_put.2.1 17 = .ok (.getfield 81, 3) := by decide +kernel
theorem J_HSegments_put_d20 : decode J_HSegments_put.2.1 20 = .ok (.bipush 8, 2) := by decide +kernel
theorem J_HSegments_put_d22 : decode J_HSegments_put.2.1 22 = .ok (.idiv, 1) := by decide +kernel
theorem J_HSegments_put_d23 : decode J_HSegments_put.2.1 23 = .ok (.sipush 2956, 3) := by decide +kernel
theorem J_HSegments_put_d26 : decode J_HSegments_put.2.1 26 = .ok (.if_icmp .ge 31, 3) := by decide +kernel
theorem J_HSegments_put_d29 : decode J_HSegments_put.2.1 29 = .ok (.aload_n 0, 1) := by decide +kernel
theorem J_HSegments_put_d30 : decode J_HSegments_put.2.1 30 = .ok (.getfield 11, 3) := by decide +kernel
theorem J_HSegments_put_d33 : decode J_HSegments_put.2.1 33 = .ok (.aload_n 0, 1) := by decide +kernel
theorem J_HSegments_put_d34 : decode J_HSegments_put.2.1 34 = .ok (.getfield 81, 3) := by decide +kernel
theorem J_HSegments_put_d37 : decode J_HSegments_put.2.1 37 = .ok (.bipush 8, 2) := by decide +kernel
theorem J_HSegments_put_d39 : decode J_HSegments_put.2.1 39 = .ok (.idiv, 1) := by decide +kernel
theorem J_HSegments_put_d40 : decode J_HSegments_put.2.1 40 = .ok (.dup2, 1) := by decide +kernel
theorem J_HSegments_put_d41 : decode J_HSegments_put.2.1 41 = .ok (.baload, 1) := by decide +kernel
theorem J_HSegments_put_d42 : decode J_HSegments_put.2.1 42 = .ok (.sipush 128, 3) := by decide +kernel
theorem J_HSegments_put_d45 : decode J_HSegments_put.2.1 45 = .ok (.aload_n 0, 1) := by decide +kernel
theorem J_HSegments_put_d46 : decode J_HSegments_put.2.1 46 = .ok (.getfield 81, 3) := by decide +kernel
theorem J_HSegments_put_d49 : decode J_HSegments_put.2.1 49 = .ok (.bipush 8, 2) := by decide +kernel
theorem J_HSegments_put_d51 : decode J_HSegments_put.2.1 51 = .ok (.irem, 1) := by decide +kernel
theorem J_HSegments_put_d52 : decode J_HSegments_put.2.1 52 = .ok (.ishr, 1) := by decide +kernel
theorem J_HSegments_put_d53 : decode J_HSegments_put.2.1 53 = .ok (.i2b, 1) := by decide +kernel
theorem J_HSegments_put_d54 : decode J_HSegments_put.2.1 54 = .ok (.ior, 1) := by decide +kernel
theorem J_HSegments_put_d55 : decode J_HSegments_put.2.1 55 = .ok (.i2b, 1) := by decide +kernel
theorem J_HSegments_put_d56 : decode J_HSegments_put.2.1 56 = .ok (.bastore, 1) := by decide +kernel
theorem J_HSegments_put_d57 : decode J_HSegments_put.2.1 57 = .ok (.aload_n 0, 1) := by decide +kernel
theorem J_HSegments_put_d58 : decode J_HSegments_put.2.1 58 = .ok (.dup, 1) := by decide +kernel
theorem J_HSegments_put_d59 : decode J_HSegments_put.2.1 59 = .ok (.getfield 81, 3) := by decide +kernel
theorem J_HSegments_put_d62 : decode J_HSegments_put.2.1 62 = .ok (.iconst 1, 1) := by decide +kernel
theorem J_HSegments_put_d63 : decode J_HSegments_put.2.1 63 = .ok (.iadd, 1) := by decide +kernel
theorem J_HSegments_put_d64 : decode J_HSegments_put.2.1 64 = .ok (.putfield 81, 3) := by decide +kernel
theorem J_HSegments_put_d67 : decode J_HSegments_put.2.1 67 = .ok (.iinc 3 (-1), 3) := by decide +kernel
theorem J_HSegments_put_d70 : decode J_HSegments_put.2.1 70 = .ok (.goto (-66), 3) := by decide +kernel
theorem J_HSegments_put_d73 : decode J_HSegments_put.2.1 73 = .ok (.return_, 1) := by decide +kernel
theorem f_HSegments_put_ok {L : Nat} {xs : Nat → Int32} {dep : Nat} {w : Bool} {p0 : Int32} {p1 : Int32} {M : im_M} {Q : im_M → Prop} (hM : lw_S w M) (h : ed (f_HSegments_put p0 p1 M) Q) : ia (tb_G L xs) dep J_HSegments_put (rwV w Q) (0, lv_args 0 [.ref 39, .int p0, .int p1], [], M) := by
  have hS : im_St (tb_G L xs) dep J_HSegments_put (ia (tb_G L xs) dep J_HSegments_put (rwV w Q)) := ia_St
  unfold f_HSegments_put at h
  have l0 : im_lk (lv_args 0 [.ref 39, .int p0, .int p1]) 0 = some (.ref 39) := rfl
  have l1 : im_lk (lv_args 0 [.ref 39, .int p0, .int p1]) 1 = some (.int p0) := rfl
  have l2 : im_lk (lv_args 0 [.ref 39, .int p0, .int p1]) 2 = some (.int p1) := rfl
  refine iq_iload_n hS 1 J_HSegments_put_d0 l2 rfl ?_
  refine iq_iconst hS 2 J_HSegments_put_d1 (v := 1) (by decide +kernel) rfl ?_
  refine iq_isub hS 3 J_HSegments_put_d2 rfl ?_
  refine iq_istore_n hS 4 J_HSegments_put_d3 (by decide) rfl ?_
  obtain ⟨Q1, hQ1, h⟩ := bd1_ed h
  have K1 : ∀ (M2 : im_M) (L' : List (Nat × Value)), lw_S w M2 → Q1 M2 → ia (tb_G L xs) dep J_HSegments_put (rwV w Q) (73, L', [], M2) := by
    intro M2 L' hM2  h
    replace h := hQ1 _ h
    exact iq_ret J_HSegments_put_d73 rfl ⟨rfl, hM2, ed_some h⟩
  obtain ⟨r1, hr1, hq1⟩ := h
  obtain ⟨n1, hn1⟩ := lp_n hr1
  have I1 : ∀ (n : Nat) (x3 : Int32) (M4 : im_M) (L' : List (Nat × Value)), lw_S w M4 → im_lk L' 0 = some (.ref 39) → im_lk L' 1 = some (.int p0) → im_lk L' 3 = some (.int x3) → lpn (uc2 (f_HSegments_put_L4 p0)) n (x3, M4) = some r1 → ia (tb_G L xs) dep J_HSegments_put (rwV w Q) (4, L', [], M4) := by
    intro n
    induction n with
    | zero => intro x3 M4 L' hM4 l5 l6 l7 hn; exact (lpn_0 hn).elim
    | succ n ih =>
      intro x3 M4 L' hM4 l5 l6 l7 hn
      have h := lpn_ed2 hn
      unfold f_HSegments_put_L4 at h
      refine iq_iload_n hS 5 J_HSegments_put_d4 l7 rfl ?_
      refine iq_if_lt hS 8 J_HSegments_put_d5 (t := 73) rfl (fun q5 => ?_) rfl (fun q5 => ?_)
      · replace h := ed_pos q5 h
        exact K1 _ _ hM4  (lq_r h hq1)
      · replace h := ed_neg q5 h
        refine iq_iload_n hS 9 J_HSegments_put_d8 l6 rfl ?_
        refine iq_iload_n hS 10 J_HSegments_put_d9 l7 rfl ?_
        refine iq_ishr hS 11 J_HSegments_put_d10 rfl ?_
        refine iq_iconst hS 12 J_HSegments_put_d11 (v := 1) (by decide +kernel) rfl ?_
        refine iq_iand hS 13 J_HSegments_put_d12 rfl ?_
        obtain ⟨Q8, hQ8, h⟩ := bd1_ed h
        have J8 : ∀ (M9 : im_M) (L' : List (Nat × Value)), lw_S w M9 → im_lk L' 0 = some (.ref 39) → im_lk L' 1 = some (.int p0) → im_lk L' 3 = some (.int x3) → Q8 M9 → ia (tb_G L xs) dep J_HSegments_put (rwV w Q) (57, L', [], M9) := by
          intro M9 L' hM9 l10 l11 l12 h
          replace h := hQ8 _ h
          refine iq_aload_n hS 58 J_HSegments_put_d57 l10 rfl ?_
          refine iq_dup hS 59 J_HSegments_put_d58 rfl rfl ?_
          refine iq_getI hS 62 J_HSegments_put_d59 lf_7_81 (Or.inl rfl) (ka_39 hM9) rfl ?_
          refine iq_iconst hS 63 J_HSegments_put_d62 (v := 1) (by decide +kernel) rfl ?_
          refine iq_iadd hS 64 J_HSegments_put_d63 rfl ?_
          refine iq_putI hS 67 J_HSegments_put_d64 lf_7_81 (Or.inl rfl) rfl (ka_39 hM9) rfl ?_
          refine iq_iincv hS 70 J_HSegments_put_d67 (c := (-1)) (by decide +kernel) l12 (by decide) rfl ?_
          refine iq_goto hS J_HSegments_put_d70 (t := 4) rfl ?_
          exact ih _ _ _ (lw_sI hM9) (lk_1r l10 (by decide)) (lk_1i l11 (by decide)) lk_1s (lq_l h)
        refine iq_if_eq hS 16 J_HSegments_put_d13 (t := 57) rfl (fun q13 => ?_) rfl (fun q13 => ?_)
        · replace h := ed_pos q13 h
          exact J8 _ _ hM4 l5 l6 l7 (ed_some h)
        · replace h := ed_neg q13 h
          refine iq_aload_n hS 17 J_HSegments_put_d16 l5 rfl ?_
          refine iq_getI hS 20 J_HSegments_put_d17 lf_7_81 (Or.inl rfl) (ka_39 hM4) rfl ?_
          refine iq_bipush hS 22 J_HSegments_put_d20 (v := 8) (by decide +kernel) rfl ?_
          refine iq_idiv hS 23 J_HSegments_put_d22 (by decide) rfl ?_
          refine iq_sipush hS 26 J_HSegments_put_d23 (v := 2956) (by decide +kernel) rfl ?_
          refine iq_icmp_ge hS 29 J_HSegments_put_d26 (t := 57) rfl (fun q26 => ?_) rfl (fun q26 => ?_)
          · replace h := ed_pos q26 h
            exact J8 _ _ hM4 l5 l6 l7 (ed_some h)
          · replace h := ed_neg q26 h
            refine iq_aload_n hS 30 J_HSegments_put_d29 l5 rfl ?_
            refine iq_getR hS 33 J_HSegments_put_d30 lf_7_11 (Or.inr ⟨_, rfl⟩) (ka_39 hM4) (ra_39_0 hM4) rfl ?_
            refine iq_aload_n hS 34 J_HSegments_put_d33 l5 rfl ?_
            refine iq_getI hS 37 J_HSegments_put_d34 lf_7_81 (Or.inl rfl) (ka_39 hM4) rfl ?_
            refine iq_bipush hS 39 J_HSegments_put_d37 (v := 8) (by decide +kernel) rfl ?_
            refine iq_idiv hS 40 J_HSegments_put_d39 (by decide) rfl ?_
            refine iq_dup2 hS 41 J_HSegments_put_d40 rfl rfl rfl ?_
            obtain ⟨g41, h⟩ := ed_gd h
            refine iq_baload hS 42 J_HSegments_put_d41 ⟨(ka_40 hM4).1, (ka_40 hM4).2, g41.1, ix_lt (kl_40 hM4) g41.2⟩ rfl ?_
            refine iq_sipush hS 45 J_HSegments_put_d42 (v := 128) (by decide +kernel) rfl ?_
            refine iq_aload_n hS 46 J_HSegments_put_d45 l5 rfl ?_
            refine iq_getI hS 49 J_HSegments_put_d46 lf_7_81 (Or.inl rfl) (ka_39 hM4) rfl ?_
            refine iq_bipush hS 51 J_HSegments_put_d49 (v := 8) (by decide +kernel) rfl ?_
            refine iq_irem hS 52 J_HSegments_put_d51 (by decide) rfl ?_
            refine iq_ishr hS 53 J_HSegments_put_d52 rfl ?_
            refine iq_i2b hS 54 J_HSegments_put_d53 rfl ?_
            refine iq_ior hS 55 J_HSegments_put_d54 rfl ?_
            refine iq_i2b hS 56 J_HSegments_put_d55 rfl ?_
            obtain ⟨g56, h⟩ := ed_gd h
            refine iq_bastore hS 57 J_HSegments_put_d56 ⟨(ka_40 hM4).1, (ka_40 hM4).2, g56.1, ix_lt (kl_40 hM4) g56.2⟩ rfl ?_
            exact J8 _ _ (lw_sI hM4) l5 l6 l7 (ed_some h)
  exact I1 n1 _ _ _ hM (lk_1r l0 (by decide)) (lk_1i l1 (by decide)) lk_1s hn1
theorem f_HSegments_put_fr {p0 : Int32} {p1 : Int32} {M : im_M} {r : im_M} (h : f_HSegments_put p0 p1 M = some r) : fr 1099511627776 [(39, 5)] M r := by
  replace h : ed (f_HSegments_put p0 p1 M) (fun x => x = r) := ⟨r, h, rfl⟩
  unfold f_HSegments_put at h
  obtain ⟨Q1, hQ1, h⟩ := bd1_ed h
  have K1 : ∀ (M2 : im_M), fr 1099511627776 [(39, 5)] M M2 → Q1 M2 → fr 1099511627776 [(39, 5)] M r := by
    intro M2 hM2 h
    replace h := hQ1 _ h
    exact fr_retV h hM2
  obtain ⟨r1, hr1, hq1⟩ := h
  obtain ⟨n1, hn1⟩ := lp_n hr1
  have I1 : ∀ (n : Nat) (x3 : Int32) (M4 : im_M), fr 1099511627776 [(39, 5)] M M4 → lpn (uc2 (f_HSegments_put_L4 p0)) n (x3, M4) = some r1 → fr 1099511627776 [(39, 5)] M r := by
    intro n
    induction n with
    | zero => intro x3 M4 hM4 hn; exact (lpn_0 hn).elim
    | succ n ih =>
      intro x3 M4 hM4 hn
      have h := lpn_ed2 hn
      unfold f_HSegments_put_L4 at h
      by_cases q5 : x3 < 0
      · replace h := ed_pos q5 h
        exact K1 _ hM4 (lq_r h hq1)
      · replace h := ed_neg q5 h
        obtain ⟨Q5, hQ5, h⟩ := bd1_ed h
        have J5 : ∀ (M6 : im_M), fr 1099511627776 [(39, 5)] M M6 → Q5 M6 → fr 1099511627776 [(39, 5)] M r := by
          intro M6 hM6 h
          replace h := hQ5 _ h
          exact ih _ _ (fr_F (by decide) hM6) (lq_l h)
        by_cases q13 : ((p0 >>> (x3 &&& 31 : Int32) : Int32) &&& 1) = 0
        · replace h := ed_pos q13 h
          exact J5 _ hM4 (ed_some h)
        · replace h := ed_neg q13 h
          by_cases q26 : 2956 ≤ ((im_i M4 39 5) / 8)
          · replace h := ed_pos q26 h
            exact J5 _ hM4 (ed_some h)
          · replace h := ed_neg q26 h
            obtain ⟨g41, h⟩ := ed_gd h
            obtain ⟨g56, h⟩ := ed_gd h
            exact J5 _ (fr_I (by decide) hM4) (ed_some h)
  exact I1 n1 _ _ fr_refl hn1
noncomputable def f_HSegments_base (p0 : Int32) (M : im_M) : Option (Int32) := if ¬ p0 = 0 then some 45 else some 10
theorem J_HSegments_base_d0 : decode J_HSegments_base.2.1 0 = .ok (.iload_n 0, 1) := by decide +kernel
theorem J_HSegments_base_d1 : decode J_HSegments_base.2.1 1 = .ok (.ifCond .ne 8, 3) := by decide +kernel
theorem J_HSegments_base_d4 : decode J_HSegments_base.2.1 4 = .ok (.bipush 10, 2) := by decide +kernel
theorem J_HSegments_base_d6 : decode J_HSegments_base.2.1 6 = .ok (.goto 5, 3) := by decide +kernel
theorem J_HSegments_base_d9 : decode J_HSegments_base.2.1 9 = .ok (.bipush 45, 2) := by decide +kernel
theorem J_HSegments_base_d11 : decode J_HSegments_base.2.1 11 = .ok (.ireturn, 1) := by decide +kernel
theorem f_HSegments_base_ok {L : Nat} {xs : Nat → Int32} {dep : Nat} {w : Bool} {p0 : Int32} {M : im_M} {Q : Int32 → Prop} (hM : lw_S w M) (h : ed (f_HSegments_base p0 M) Q) : ia (tb_G L xs) dep J_HSegments_base (rpI M Q) (0, lv_args 0 [.int p0], [], M) := by
  have hS : im_St (tb_G L xs) dep J_HSegments_base (ia (tb_G L xs) dep J_HSegments_base (rpI M Q)) := ia_St
  unfold f_HSegments_base at h
  have l0 : im_lk (lv_args 0 [.int p0]) 0 = some (.int p0) := rfl
  refine iq_iload_n hS 1 J_HSegments_base_d0 l0 rfl ?_
  refine iq_if_ne hS 4 J_HSegments_base_d1 (t := 9) rfl (fun q1 => ?_) rfl (fun q1 => ?_)
  · replace h := ed_pos q1 h
    refine iq_bipush hS 11 J_HSegments_base_d9 (v := 45) (by decide +kernel) rfl ?_
    exact iq_iret J_HSegments_base_d11 rfl rfl ⟨_, rfl, rfl, ed_some h⟩
  · replace h := ed_neg q1 h
    refine iq_bipush hS 6 J_HSegments_base_d4 (v := 10) (by decide +kernel) rfl ?_
    refine iq_goto hS J_HSegments_base_d6 (t := 11) rfl ?_
    exact iq_iret J_HSegments_base_d11 rfl rfl ⟨_, rfl, rfl, ed_some h⟩
noncomputable def f_HSegments_partBits (p0 : Int32) (p1 : Int32) (M : im_M) : Option (Int32) := if ¬ p0 = 0 then if ¬ p0 = 1 then some 8 else some (((5 : Int32) * p1) + 1) else some (((3 : Int32) * p1) + 1)
theorem J_HSegments_partBits_d0 : decode J_HSegments_partBits.2.1 0 = .ok (.iload_n 0, 1) := by decide +kernel
theorem J_HSegments_partBits_d1 : decode J_HSegments_partBits.2.1 1 = .ok (.ifCond .ne 11, 3) := by decide +kernel
theorem J_HSegments_partBits_d4 : decode J_HSegments_partBits.2.1 4 = .ok (.iconst 3, 1) := by decide +kernel
theorem J_HSegments_partBits_d5 : decode J_HSegments_partBits.2.1 5 = .ok (.iload_n 1, 1) := by decide +kernel
theorem J_HSegments_partBits_d6 : decode J_HSegments_partBits.2.1 6 = .ok (.imul, 1) := by decide +kernel
theorem J_HSegments_partBits_d7 : decode J_HSegments_partBits.2.1 7 = .ok (.iconst 1, 1) := by decide +kernel
theorem J_HSegments_partBits_d8 : decode J_HSegments_partBits.2.1 8 = .ok (.iadd, 1) := by decide +kernel
theorem J_HSegments_partBits_d9 : decode J_HSegments_partBits.2.1 9 = .ok (.goto 18, 3) := by decide +kernel
theorem J_HSegments_partBits_d12 : decode J_HSegments_partBits.2.1 12 = .ok (.iload_n 0, 1) := by decide +kernel
theorem J_HSegments_partBits_d13 : decode J_HSegments_partBits.2.1 13 = .ok (.iconst 1, 1) := by decide +kernel
theorem J_HSegments_partBits_d14 : decode J_HSegments_partBits.2.1 14 = .ok (.if_icmp .ne 11, 3) := by decide +kernel
theorem J_HSegments_partBits_d17 : decode J_HSegments_partBits.2.1 17 = .ok (.iconst 5, 1) := by decide +kernel
theorem J_HSegments_partBits_d18 : decode J_HSegments_partBits.2.1 18 = .ok (.iload_n 1, 1) := by decide +kernel
theorem J_HSegments_partBits_d19 : decode J_HSegments_partBits.2.1 19 = .ok (.imul, 1) := by decide +kernel
theorem J_HSegments_partBits_d20 : decode J_HSegments_partBits.2.1 20 = .ok (.iconst 1, 1) := by decide +kernel
theorem J_HSegments_partBits_d21 : decode J_HSegments_partBits.2.1 21 = .ok (.iadd, 1) := by decide +kernel
theorem J_HSegments_partBits_d22 : decode J_HSegments_partBits.2.1 22 = .ok (.goto 5, 3) := by decide +kernel
theorem J_HSegments_partBits_d25 : decode J_HSegments_partBits.2.1 25 = .ok (.bipush 8, 2) := by decide +kernel
theorem J_HSegments_partBits_d27 : decode J_HSegments_partBits.2.1 27 = .ok (.ireturn, 1) := by decide +kernel
theorem f_HSegments_partBits_ok {L : Nat} {xs : Nat → Int32} {dep : Nat} {w : Bool} {p0 : Int32} {p1 : Int32} {M : im_M} {Q : Int32 → Prop} (hM : lw_S w M) (h : ed (f_HSegments_partBits p0 p1 M) Q) : ia (tb_G L xs) dep J_HSegments_partBits (rpI M Q) (0, lv_args 0 [.int p0, .int p1], [], M) := by
  have hS : im_St (tb_G L xs) dep J_HSegments_partBits (ia (tb_G L xs) dep J_HSegments_partBits (rpI M Q)) := ia_St
  unfold f_HSegments_partBits at h
  have l0 : im_lk (lv_args 0 [.int p0, .int p1]) 0 = some (.int p0) := rfl
  have l1 : im_lk (lv_args 0 [.int p0, .int p1]) 1 = some (.int p1) := rfl
  refine iq_iload_n hS 1 J_HSegments_partBits_d0 l0 rfl ?_
  refine iq_if_ne hS 4 J_HSegments_partBits_d1 (t := 12) rfl (fun q1 => ?_) rfl (fun q1 => ?_)
  · replace h := ed_pos q1 h
    refine iq_iload_n hS 13 J_HSegments_partBits_d12 l0 rfl ?_
    refine iq_iconst hS 14 J_HSegments_partBits_d13 (v := 1) (by decide +kernel) rfl ?_
    refine iq_icmp_ne hS 17 J_HSegments_partBits_d14 (t := 25) rfl (fun q14 => ?_) rfl (fun q14 => ?_)
    · replace h := ed_pos q14 h
      refine iq_bipush hS 27 J_HSegments_partBits_d25 (v := 8) (by decide +kernel) rfl ?_
      exact iq_iret J_HSegments_partBits_d27 rfl rfl ⟨_, rfl, rfl, ed_some h⟩
    · replace h := ed_neg q14 h
      refine iq_iconst hS 18 J_HSegments_partBits_d17 (v := 5) (by decide +kernel) rfl ?_
      refine iq_iload_n hS 19 J_HSegments_partBits_d18 l1 rfl ?_
      refine iq_imul hS 20 J_HSegments_partBits_d19 rfl ?_
      refine iq_iconst hS 21 J_HSegments_partBits_d20 (v := 1) (by decide +kernel) rfl ?_
      refine iq_iadd hS 22 J_HSegments_partBits_d21 rfl ?_
      refine iq_goto hS J_HSegments_partBits_d22 (t := 27) rfl ?_
      exact iq_iret J_HSegments_partBits_d27 rfl rfl ⟨_, rfl, rfl, ed_some h⟩
  · replace h := ed_neg q1 h
    refine iq_iconst hS 5 J_HSegments_partBits_d4 (v := 3) (by decide +kernel) rfl ?_
    refine iq_iload_n hS 6 J_HSegments_partBits_d5 l1 rfl ?_
    refine iq_imul hS 7 J_HSegments_partBits_d6 rfl ?_
    refine iq_iconst hS 8 J_HSegments_partBits_d7 (v := 1) (by decide +kernel) rfl ?_
    refine iq_iadd hS 9 J_HSegments_partBits_d8 rfl ?_
    refine iq_goto hS J_HSegments_partBits_d9 (t := 27) rfl ?_
    exact iq_iret J_HSegments_partBits_d27 rfl rfl ⟨_, rfl, rfl, ed_some h⟩
noncomputable def f_HSegments_writeBytes_L33 (v9 : Int32) (v10 : Int32) (v11 : Int32) (v12 : Int32) (v13 : Int32) (M16 : im_M) (x14 : Int32) (x15 : Int32) : Option ((Int32 × Int32) ⊕ (Int32)) := if (v12 + v13) ≤ x15 then some (.inr x14) else gd (inb x15 24000) <| bd1 (if ¬ v10 = 2 then bd1 (f_HSegments_base v10 M16) fun (x18 : Int32) => bd1 (f_String_indexOf_1 (((Int32.toUInt32 ((im_i M16 14 (Int32.toNatClampNeg x15)) &&& 255)) % 65536).toInt32) M16) fun (x19 : Int32) => some ((x14 * x18) + x19) else some ((im_i M16 14 (Int32.toNatClampNeg x15)) &&& 255)) fun (y20 : Int32) => some (.inl (y20, (x15 + 1)))
noncomputable def f_HSegments_writeBytes_L9 (v2 : Int32) (v3 : Int32) (v4 : Int32) (x5 : Int32) (M6 : im_M) : Option ((Int32 × im_M) ⊕ (im_M)) := if v2 ≤ x5 then some (.inr M6) else bd1 (f_Math_min v4 (v2 - x5) M6) fun (x7 : Int32) => bd1 (lp (uc2 (f_HSegments_writeBytes_L33 v2 v3 v4 x5 x7 M6)) (0, x5)) fun (y29 : Int32) => bd1 (f_HSegments_partBits v3 x7 M6) fun (x30 : Int32) => bd1 (f_HSegments_put y29 x30 M6) fun (M31 : im_M) => some (.inl ((x5 + v4), M31))
noncomputable def f_HSegments_writeBytes (p1 : Int32) (p2 : Int32) (p3 : Int32) (M : im_M) : Option (im_M) := bd1 (lp (uc2 (f_HSegments_writeBytes_L9 p2 p3 ((3 : Int32) - p3))) (p1, M)) fun (M32 : im_M) => some M32
theorem J_HSegments_writeBytes_d0 : decode J_HSegments_writeBytes.2.1 0 = .ok (.iconst 3, 1) := by decide +kernel
theorem J_HSegments_writeBytes_d1 : decode J_HSegments_writeBytes.2.1 1 = .ok (.iload 4, 2) := by decide +kernel
theorem J_HSegments_writeBytes_d3 : decode J_HSegments_writeBytes.2.1 3 = .ok (.isub, 1) := by decide +kernel
theorem J_HSegments_writeBytes_d4 : decode J_HSegments_writeBytes.2.1 4 = .ok (.istore 5, 2) := by decide +kernel
theorem J_HSegments_writeBytes_d6 : decode J_HSegments_writeBytes.2.1 6 = .ok (.iload_n 2, 1) := by decide +kernel
theorem J_HSegments_writeBytes_d7 : decode J_HSegments_writeBytes.2.1 7 = .ok (.istore 6, 2) := by decide +kernel
theorem J_HSegments_writeBytes_d9 : decode J_HSegments_writeBytes.2.1 9 = .ok (.iload 6, 2) := by decide +kernel
theorem J_HSegments_writeBytes_d11 : decode J_HSegments_writeBytes.2.1 11 = .ok (.iload_n 3, 1) := by decide +kernel
theorem J_HSegments_writeBytes_d12 : decode J_HSegments_writeBytes.2.1 12 = .ok (.if_icmp .ge 100, 3) := by decide +kernel
theorem J_HSegments_writeBytes_d15 : decode J_HSegments_writeBytes.2.1 15 = .ok (.iload 5, 2) := by decide +kernel
theorem J_HSegments_writeBytes_d17 : decode J_HSegments_writeBytes.2.1 17 = .ok (.iload_n 3, 1) := by decide +kernel
theorem J_HSegments_writeBytes_d18 : decode J_HSegments_writeBytes.2.1 18 = .ok (.iload 6, 2) := by decide +kernel
theorem J_HSegments_writeBytes_d20 : decode J_HSegments_writeBytes.2.1 20 = .ok (.isub, 1) := by decide +kernel
theorem J_HSegments_writeBytes_d21 : decode J_HSegments_writeBytes.2.1 21 = .ok (.invokestatic 93, 3) := by decide +kernel
theorem J_HSegments_writeBytes_d24 : decode J_HSegments_writeBytes.2.1 24 = .ok (.istore 7, 2) := by decide +kernel
theorem J_HSegments_writeBytes_d26 : decode J_HSegments_writeBytes.2.1 26 = .ok (.iconst 0, 1) := by decide +kernel
theorem J_HSegments_writeBytes_d27 : decode J_HSegments_writeBytes.2.1 27 = .ok (.istore 8, 2) := by decide +kernel
theorem J_HSegments_writeBytes_d29 : decode J_HSegments_writeBytes.2.1 29 = .ok (.iload 6, 2) := by decide +kernel
theorem J_HSegments_writeBytes_d31 : decode J_HSegments_writeBytes.2.1 31 = .ok (.istore 9, 2) := by decide +kernel
theorem J_HSegments_writeBytes_d33 : decode J_HSegments_writeBytes.2.1 33 = .ok (.iload 9, 2) := by decide +kernel
theorem J_HSegments_writeBytes_d35 : decode J_HSegments_writeBytes.2.1 35 = .ok (.iload 6, 2) := by decide +kernel
theorem J_HSegments_writeBytes_d37 : decode J_HSegments_writeBytes.2.1 37 = .ok (.iload 7, 2) := by decide +kernel
theorem J_HSegments_writeBytes_d39 : decode J_HSegments_writeBytes.2.1 39 = .ok (.iadd, 1) := by decide +kernel
theorem J_HSegments_writeBytes_d40 : decode J_HSegments_writeBytes.2.1 40 = .ok (.if_icmp .ge 49, 3) := by decide +kernel
theorem J_HSegments_writeBytes_d43 : decode J_HSegments_writeBytes.2.1 43 = .ok (.aload_n 1, 1) := by decide +kernel
theorem J_HSegments_writeBytes_d44 : decode J_HSegments_writeBytes.2.1 44 = .ok (.iload 9, 2) := by decide +kernel
theorem J_HSegments_writeBytes_d46 : decode J_HSegments_writeBytes.2.1 46 = .ok (.baload, 1) := by decide +kernel
theorem J_HSegments_writeBytes_d47 : decode J_HSegments_writeBytes.2.1 47 = .ok (.sipush 255, 3) := by decide +kernel
theorem J_HSegments_writeBytes_d50 : decode J_HSegments_writeBytes.2.1 50 = .ok (.iand, 1) := by decide +kernel
theorem J_HSegments_writeBytes_d51 : decode J_HSegments_writeBytes.2.1 51 = .ok (.istore 10, 2) := by decide +kernel
theorem J_HSegments_writeBytes_d53 : decode J_HSegments_writeBytes.2.1 53 = .ok (.iload 4, 2) := by decide +kernel
theorem J_HSegments_writeBytes_d55 : decode J_HSegments_writeBytes.2.1 55 = .ok (.iconst 2, 1) := by decide +kernel
theorem J_HSegments_writeBytes_d56 : decode J_HSegments_writeBytes.2.1 56 = .ok (.if_icmp .ne 8, 3) := by decide +kernel
theorem J_HSegments_writeBytes_d59 : decode J_HSegments_writeBytes.2.1 59 = .ok (.iload 10, 2) := by decide +kernel
theorem J_HSegments_writeBytes_d61 : decode J_HSegments_writeBytes.2.1 61 = .ok (.goto 20, 3) := by decide +kernel
theorem J_HSegments_writeBytes_d64 : decode J_HSegments_writeBytes.2.1 64 = .ok (.iload 8, 2) := by decide +kernel
theorem J_HSegments_writeBytes_d66 : decode J_HSegments_writeBytes.2.1 66 = .ok (.iload 4, 2) := by decide +kernel
theorem J_HSegments_writeBytes_d68 : decode J_HSegments_writeBytes.2.1 68 = .ok (.invokestatic 98, 3) := by decide +kernel
theorem J_HSegments_writeBytes_d71 : decode J_HSegments_writeBytes.2.1 71 = .ok (.imul, 1) := by decide +kernel
theorem J_HSegments_writeBytes_d72 : decode J_HSegments_writeBytes.2.1 72 = .ok (.ldc 42, 2) := by decide +kernel
theorem J_HSegments_writeBytes_d74 : decode J_HSegments_writeBytes.2.1 74 = .ok (.iload 10, 2) := by decide +kernel
theorem J_HSegments_writeBytes_d76 : decode J_HSegments_writeBytes.2.1 76 = .ok (.i2c, 1) := by decide +kernel
theorem J_HSegments_writeBytes_d77 : decode J_HSegments_writeBytes.2.1 77 = .ok (.invokevirtual 44, 3) := by decide +kernel
theorem J_HSegments_writeBytes_d80 : decode J_HSegments_writeBytes.2.1 80 = .ok (.iadd, 1) := by decide +kernel
theorem J_HSegments_writeBytes_d81 : decode J_HSegments_writeBytes.2.1 81 = .ok (.istore 8, 2) := by decide +kernel
theorem J_HSegments_writeBytes_d83 : decode J_HSegments_writeBytes.2.1 83 = .ok (.iinc 9 1, 3) := by decide +kernel
theorem J_HSegments_writeBytes_d86 : decode J_HSegments_writeBytes.2.1 86 = .ok (.goto (-53), 3) := by decide +kernel
theorem J_HSegments_writeBytes_d89 : decode J_HSegments_writeBytes.2.1 89 = .ok (.aload_n 0, 1) := by decide +kernel
theorem J_HSegments_writeBytes_d90 : decode J_HSegments_writeBytes.2.1 90 = .ok (.iload 8, 2) := by decide +kernel
theorem J_HSegments_writeBytes_d92 : decode J_HSegments_writeBytes.2.1 92 = .ok (.iload 4, 2) := by decide +kernel
theorem J_HSegments_writeBytes_d94 : decode J_HSegments_writeBytes.2.1 94 = .ok (.iload 7, 2) := by decide +kernel
theorem J_HSegments_writeBytes_d96 : decode J_HSegments_writeBytes.2.1 96 = .ok (.invokestatic 101, 3) := by decide +kernel
theorem J_HSegments_writeBytes_d99 : decode J_HSegments_writeBytes.2.1 99 = .ok (.invokevirtual 85, 3) := by decide +kernel
theorem J_HSegments_writeBytes_d102 : decode J_HSegments_writeBytes.2.1 102 = .ok (.iload 6, 2) := by decide +kernel
theorem J_HSegments_writeBytes_d104 : decode J_HSegments_writeBytes.2.1 104 = .ok (.iload 5, 2) := by decide +kernel
theorem J_HSegments_writeBytes_d106 : decode J_HSegments_writeBytes.2.1 106 = .ok (.iadd, 1) := by decide +kernel
theorem J_HSegments_writeBytes_d107 : decode J_HSegments_writeBytes.2.1 107 = .ok (.istore 6, 2) := by decide +kernel
theorem J_HSegments_writeBytes_d109 : decode J_HSegments_writeBytes.2.1 109 = .ok (.goto (-100), 3) := by decide +kernel
theorem J_HSegments_writeBytes_d112 : decode J_HSegments_writeBytes.2.1 112 = .ok (.return_, 1) := by decide +kernel
theorem f_HSegments_writeBytes_ok {L : Nat} {xs : Nat → Int32} {dep : Nat} {w : Bool} {p1 : Int32} {p2 : Int32} {p3 : Int32} {M : im_M} {Q : im_M → Prop} (hM : lw_S w M) (h : ed (f_HSegments_writeBytes p1 p2 p3 M) Q) : ia (tb_G L xs) (dep + 4) J_HSegments_writeBytes (rwV w Q) (0, lv_args 0 [.ref 39, .ref 14, .int p1, .int p2, .int p3], [], M) := by
  have hS : im_St (tb_G L xs) (dep + 4) J_HSegments_writeBytes (ia (tb_G L xs) (dep + 4) J_HSegments_writeBytes (rwV w Q)) := ia_St
  unfold f_HSegments_writeBytes at h
  have l0 : im_lk (lv_args 0 [.ref 39, .ref 14, .int p1, .int p2, .int p3]) 0 = some (.ref 39) := rfl
  have l1 : im_lk (lv_args 0 [.ref 39, .ref 14, .int p1, .int p2, .int p3]) 1 = some (.ref 14) := rfl
  have l2 : im_lk (lv_args 0 [.ref 39, .ref 14, .int p1, .int p2, .int p3]) 2 = some (.int p1) := rfl
  have l3 : im_lk (lv_args 0 [.ref 39, .ref 14, .int p1, .int p2, .int p3]) 3 = some (.int p2) := rfl
  have l4 : im_lk (lv_args 0 [.ref 39, .ref 14, .int p1, .int p2, .int p3]) 4 = some (.int p3) := rfl
  refine iq_iconst hS 1 J_HSegments_writeBytes_d0 (v := 3) (by decide +kernel) rfl ?_
  refine iq_iload hS 3 J_HSegments_writeBytes_d1 l4 rfl ?_
  refine iq_isub hS 4 J_HSegments_writeBytes_d3 rfl ?_
  refine iq_istore hS 6 J_HSegments_writeBytes_d4 (by decide) rfl ?_
  refine iq_iload_n hS 7 J_HSegments_writeBytes_d6 (lk_1i l2 (by decide)) rfl ?_
  refine iq_istore hS 9 J_HSegments_writeBytes_d7 (by decide) rfl ?_
  obtain ⟨Q1, hQ1, h⟩ := bd1_ed h
  have K1 : ∀ (M2 : im_M) (L' : List (Nat × Value)), lw_S w M2 → Q1 M2 → ia (tb_G L xs) (dep + 4) J_HSegments_writeBytes (rwV w Q) (112, L', [], M2) := by
    intro M2 L' hM2  h
    replace h := hQ1 _ h
    exact iq_ret J_HSegments_writeBytes_d112 rfl ⟨rfl, hM2, ed_some h⟩
  obtain ⟨r1, hr1, hq1⟩ := h
  obtain ⟨n1, hn1⟩ := lp_n hr1
  have I1 : ∀ (n : Nat) (x3 : Int32) (M4 : im_M) (L' : List (Nat × Value)), lw_S w M4 → im_lk L' 0 = some (.ref 39) → im_lk L' 1 = some (.ref 14) → im_lk L' 3 = some (.int p2) → im_lk L' 4 = some (.int p3) → im_lk L' 5 = some (.int ((3 : Int32) - p3)) → im_lk L' 6 = some (.int x3) → lpn (uc2 (f_HSegments_writeBytes_L9 p2 p3 ((3 : Int32) - p3))) n (x3, M4) = some r1 → ia (tb_G L xs) (dep + 4) J_HSegments_writeBytes (rwV w Q) (9, L', [], M4) := by
    intro n
    induction n with
    | zero => intro x3 M4 L' hM4 l5 l6 l7 l8 l9 l10 hn; exact (lpn_0 hn).elim
    | succ n ih =>
      intro x3 M4 L' hM4 l5 l6 l7 l8 l9 l10 hn
      have h := lpn_ed2 hn
      unfold f_HSegments_writeBytes_L9 at h
      refine iq_iload hS 11 J_HSegments_writeBytes_d9 l10 rfl ?_
      refine iq_iload_n hS 12 J_HSegments_writeBytes_d11 l7 rfl ?_
      refine iq_icmp_ge hS 15 J_HSegments_writeBytes_d12 (t := 112) rfl (fun q12 => ?_) rfl (fun q12 => ?_)
      · replace h := ed_pos q12 h
        exact K1 _ _ hM4  (lq_r h hq1)
      · replace h := ed_neg q12 h
        refine iq_iload hS 17 J_HSegments_writeBytes_d15 l9 rfl ?_
        refine iq_iload_n hS 18 J_HSegments_writeBytes_d17 l7 rfl ?_
        refine iq_iload hS 20 J_HSegments_writeBytes_d18 l10 rfl ?_
        refine iq_isub hS 21 J_HSegments_writeBytes_d20 rfl ?_
        obtain ⟨Q11, hQ11, h⟩ := bd1_ed h
        refine iq_cpI hS 24 J_HSegments_writeBytes_d21 rfl (pr_stat (vs := [_, _]) lc_7_93 lT_28 rfl rfl (by decide) rfl (Nat.le_of_ble_eq_true rfl) (Nat.le_of_ble_eq_true rfl)) (f_Math_min_ok (dep := dep + 3) hM4 h) rfl ?_
        intro x11 h
        replace h := hQ11 _ h
        refine iq_istore hS 26 J_HSegments_writeBytes_d24 (by decide) rfl ?_
        refine iq_iconst hS 27 J_HSegments_writeBytes_d26 (v := 0) (by decide +kernel) rfl ?_
        refine iq_istore hS 29 J_HSegments_writeBytes_d27 (by decide) rfl ?_
        refine iq_iload hS 31 J_HSegments_writeBytes_d29 (lk_1i (lk_1i l10 (by decide)) (by decide)) rfl ?_
        refine iq_istore hS 33 J_HSegments_writeBytes_d31 (by decide) rfl ?_
        obtain ⟨Q12, hQ12, h⟩ := bd1_ed h
        have K12 : ∀ (y13 : Int32) (L' : List (Nat × Value)), im_lk L' 0 = some (.ref 39) → im_lk L' 1 = some (.ref 14) → im_lk L' 3 = some (.int p2) → im_lk L' 4 = some (.int p3) → im_lk L' 5 = some (.int ((3 : Int32) - p3)) → im_lk L' 6 = some (.int x3) → im_lk L' 7 = some (.int x11) → im_lk L' 8 = some (.int y13) → Q12 y13 → ia (tb_G L xs) (dep + 4) J_HSegments_writeBytes (rwV w Q) (89, L', [], M4) := by
          intro y13 L' l14 l15 l16 l17 l18 l19 l20 l21 h
          replace h := hQ12 _ h
          refine iq_aload_n hS 90 J_HSegments_writeBytes_d89 l14 rfl ?_
          refine iq_iload hS 92 J_HSegments_writeBytes_d90 l21 rfl ?_
          refine iq_iload hS 94 J_HSegments_writeBytes_d92 l17 rfl ?_
          refine iq_iload hS 96 J_HSegments_writeBytes_d94 l20 rfl ?_
          obtain ⟨Q22, hQ22, h⟩ := bd1_ed h
          refine iq_cpI hS 99 J_HSegments_writeBytes_d96 rfl (pr_stat (vs := [_, _]) lc_7_101 lT_146 rfl rfl (by decide) rfl (Nat.le_of_ble_eq_true rfl) (Nat.le_of_ble_eq_true rfl)) (f_HSegments_partBits_ok (dep := dep + 3) hM4 h) rfl ?_
          intro x22 h
          replace h := hQ22 _ h
          obtain ⟨Q23, hQ23, h⟩ := bd1_ed h
          refine iq_cwV hS 102 J_HSegments_writeBytes_d99 rfl (pr_inst (vs := [_, _]) lc_7_85 lT_143 rfl rfl (by decide) (by decide) rfl (Nat.le_of_ble_eq_true rfl) (Nat.le_of_ble_eq_true rfl) (fun _ => Or.inl (pr_b (ka_39 hM4) (by decide) rfl))) (f_HSegments_put_ok (dep := dep + 3) hM4 h) rfl ?_
          intro M23 hM23 h
          replace h := hQ23 _ h
          refine iq_iload hS 104 J_HSegments_writeBytes_d102 l19 rfl ?_
          refine iq_iload hS 106 J_HSegments_writeBytes_d104 l18 rfl ?_
          refine iq_iadd hS 107 J_HSegments_writeBytes_d106 rfl ?_
          refine iq_istore hS 109 J_HSegments_writeBytes_d107 (by decide) rfl ?_
          refine iq_goto hS J_HSegments_writeBytes_d109 (t := 9) rfl ?_
          exact ih _ _ _ hM23 (lk_1r l14 (by decide)) (lk_1r l15 (by decide)) (lk_1i l16 (by decide)) (lk_1i l17 (by decide)) (lk_1i l18 (by decide)) lk_1s (lq_l h)
        obtain ⟨r12, hr12, hq12⟩ := h
        obtain ⟨n12, hn12⟩ := lp_n hr12
        have I12 : ∀ (n : Nat) (x24 : Int32) (x25 : Int32) (L' : List (Nat × Value)), im_lk L' 0 = some (.ref 39) → im_lk L' 1 = some (.ref 14) → im_lk L' 3 = some (.int p2) → im_lk L' 4 = some (.int p3) → im_lk L' 5 = some (.int ((3 : Int32) - p3)) → im_lk L' 6 = some (.int x3) → im_lk L' 7 = some (.int x11) → im_lk L' 8 = some (.int x24) → im_lk L' 9 = some (.int x25) → lpn (uc2 (f_HSegments_writeBytes_L33 p2 p3 ((3 : Int32) - p3) x3 x11 M4)) n (x24, x25) = some r12 → ia (tb_G L xs) (dep + 4) J_HSegments_writeBytes (rwV w Q) (33, L', [], M4) := by
          intro n
          induction n with
          | zero => intro x24 x25 L' l26 l27 l28 l29 l30 l31 l32 l33 l34 hn; exact (lpn_0 hn).elim
          | succ n ih =>
            intro x24 x25 L' l26 l27 l28 l29 l30 l31 l32 l33 l34 hn
            have h := lpn_ed2 hn
            unfold f_HSegments_writeBytes_L33 at h
            refine iq_iload hS 35 J_HSegments_writeBytes_d33 l34 rfl ?_
            refine iq_iload hS 37 J_HSegments_writeBytes_d35 l31 rfl ?_
            refine iq_iload hS 39 J_HSegments_writeBytes_d37 l32 rfl ?_
            refine iq_iadd hS 40 J_HSegments_writeBytes_d39 rfl ?_
            refine iq_icmp_ge hS 43 J_HSegments_writeBytes_d40 (t := 89) rfl (fun q40 => ?_) rfl (fun q40 => ?_)
            · replace h := ed_pos q40 h
              exact K12 _ _ l26 l27 l28 l29 l30 l31 l32 l33 (lq_r h hq12)
            · replace h := ed_neg q40 h
              refine iq_aload_n hS 44 J_HSegments_writeBytes_d43 l27 rfl ?_
              refine iq_iload hS 46 J_HSegments_writeBytes_d44 l34 rfl ?_
              obtain ⟨g46, h⟩ := ed_gd h
              refine iq_baload hS 47 J_HSegments_writeBytes_d46 ⟨(ka_14 hM4).1, (ka_14 hM4).2, g46.1, ix_lt (kl_14 hM4) g46.2⟩ rfl ?_
              refine iq_sipush hS 50 J_HSegments_writeBytes_d47 (v := 255) (by decide +kernel) rfl ?_
              refine iq_iand hS 51 J_HSegments_writeBytes_d50 rfl ?_
              refine iq_istore hS 53 J_HSegments_writeBytes_d51 (by decide) rfl ?_
              refine iq_iload hS 55 J_HSegments_writeBytes_d53 (lk_1i l29 (by decide)) rfl ?_
              refine iq_iconst hS 56 J_HSegments_writeBytes_d55 (v := 2) (by decide +kernel) rfl ?_
              obtain ⟨Q35, hQ35, h⟩ := bd1_ed h
              have J35 : ∀ (y38 : Int32) (L' : List (Nat × Value)), im_lk L' 0 = some (.ref 39) → im_lk L' 1 = some (.ref 14) → im_lk L' 3 = some (.int p2) → im_lk L' 4 = some (.int p3) → im_lk L' 5 = some (.int ((3 : Int32) - p3)) → im_lk L' 6 = some (.int x3) → im_lk L' 7 = some (.int x11) → im_lk L' 9 = some (.int x25) → Q35 y38 → ia (tb_G L xs) (dep + 4) J_HSegments_writeBytes (rwV w Q) (81, L', [.int y38], M4) := by
                intro y38 L' l39 l40 l41 l42 l43 l44 l45 l46 h
                replace h := hQ35 _ h
                refine iq_istore hS 83 J_HSegments_writeBytes_d81 (by decide) rfl ?_
                refine iq_iincv hS 86 J_HSegments_writeBytes_d83 (c := 1) (by decide +kernel) (lk_1i l46 (by decide)) (by decide) rfl ?_
                refine iq_goto hS J_HSegments_writeBytes_d86 (t := 33) rfl ?_
                exact ih _ _ _ (lk_1r (lk_1r l39 (by decide)) (by decide)) (lk_1r (lk_1r l40 (by decide)) (by decide)) (lk_1i (lk_1i l41 (by decide)) (by decide)) (lk_1i (lk_1i l42 (by decide)) (by decide)) (lk_1i (lk_1i l43 (by decide)) (by decide)) (lk_1i (lk_1i l44 (by decide)) (by decide)) (lk_1i (lk_1i l45 (by decide)) (by decide)) (lk_1i lk_1s (by decide)) lk_1s (lq_l h)
              refine iq_icmp_ne hS 59 J_HSegments_writeBytes_d56 (t := 64) rfl (fun q56 => ?_) rfl (fun q56 => ?_)
              · replace h := ed_pos q56 h
                refine iq_iload hS 66 J_HSegments_writeBytes_d64 (lk_1i l33 (by decide)) rfl ?_
                refine iq_iload hS 68 J_HSegments_writeBytes_d66 (lk_1i l29 (by decide)) rfl ?_
                obtain ⟨Q36, hQ36, h⟩ := bd1_ed h
                refine iq_cpI hS 71 J_HSegments_writeBytes_d68 rfl (pr_stat (vs := [_]) lc_7_98 lT_145 rfl rfl (by decide) rfl (Nat.le_of_ble_eq_true rfl) (Nat.le_of_ble_eq_true rfl)) (f_HSegments_base_ok (dep := dep + 3) hM4 h) rfl ?_
                intro x36 h
                replace h := hQ36 _ h
                refine iq_imul hS 72 J_HSegments_writeBytes_d71 rfl ?_
                refine iq_ldcs hS 74 J_HSegments_writeBytes_d72 (a := 2000001) (gk_of (by decide +kernel)) (gsT_of (by decide +kernel)) rfl ?_
                refine iq_iload hS 76 J_HSegments_writeBytes_d74 lk_1s rfl ?_
                refine iq_i2c hS 77 J_HSegments_writeBytes_d76 rfl ?_
                obtain ⟨Q37, hQ37, h⟩ := bd1_ed h
                refine iq_cpI hS 80 J_HSegments_writeBytes_d77 rfl (pr_inst (vs := [_]) lc_7_44 lT_20 rfl rfl (by decide) (by decide) rfl (Nat.le_of_ble_eq_true rfl) (Nat.le_of_ble_eq_true rfl) (fun _ => Or.inr ⟨xks_1, rfl⟩)) (f_String_indexOf_1_ok (dep := dep + 0) hM4 h) rfl ?_
                intro x37 h
                replace h := hQ37 _ h
                refine iq_iadd hS 81 J_HSegments_writeBytes_d80 rfl ?_
                exact J35 _ _ (lk_1r l26 (by decide)) (lk_1r l27 (by decide)) (lk_1i l28 (by decide)) (lk_1i l29 (by decide)) (lk_1i l30 (by decide)) (lk_1i l31 (by decide)) (lk_1i l32 (by decide)) (lk_1i l34 (by decide)) (ed_some h)
              · replace h := ed_neg q56 h
                refine iq_iload hS 61 J_HSegments_writeBytes_d59 lk_1s rfl ?_
                refine iq_goto hS J_HSegments_writeBytes_d61 (t := 81) rfl ?_
                exact J35 _ _ (lk_1r l26 (by decide)) (lk_1r l27 (by decide)) (lk_1i l28 (by decide)) (lk_1i l29 (by decide)) (lk_1i l30 (by decide)) (lk_1i l31 (by decide)) (lk_1i l32 (by decide)) (lk_1i l34 (by decide)) (ed_some h)
        exact I12 n12 _ _ _ (lk_1r (lk_1r (lk_1r l5 (by decide)) (by decide)) (by decide)) (lk_1r (lk_1r (lk_1r l6 (by decide)) (by decide)) (by decide)) (lk_1i (lk_1i (lk_1i l7 (by decide)) (by decide)) (by decide)) (lk_1i (lk_1i (lk_1i l8 (by decide)) (by decide)) (by decide)) (lk_1i (lk_1i (lk_1i l9 (by decide)) (by decide)) (by decide)) (lk_1i (lk_1i (lk_1i l10 (by decide)) (by decide)) (by decide)) (lk_1i (lk_1i lk_1s (by decide)) (by decide)) (lk_1i lk_1s (by decide)) lk_1s hn12
  exact I1 n1 _ _ _ hM (lk_1r (lk_1r l0 (by decide)) (by decide)) (lk_1r (lk_1r l1 (by decide)) (by decide)) (lk_1i (lk_1i l3 (by decide)) (by decide)) (lk_1i (lk_1i l4 (by decide)) (by decide)) (lk_1i lk_1s (by decide)) lk_1s hn1
theorem f_HSegments_writeBytes_fr {p1 : Int32} {p2 : Int32} {p3 : Int32} {M : im_M} {r : im_M} (h : f_HSegments_writeBytes p1 p2 p3 M = some r) : fr 1099511627776 [(39, 5)] M r := by
  replace h : ed (f_HSegments_writeBytes p1 p2 p3 M) (fun x => x = r) := ⟨r, h, rfl⟩
  unfold f_HSegments_writeBytes at h
  obtain ⟨Q1, hQ1, h⟩ := bd1_ed h
  have K1 : ∀ (M2 : im_M), fr 1099511627776 [(39, 5)] M M2 → Q1 M2 → fr 1099511627776 [(39, 5)] M r := by
    intro M2 hM2 h
    replace h := hQ1 _ h
    exact fr_retV h hM2
  obtain ⟨r1, hr1, hq1⟩ := h
  obtain ⟨n1, hn1⟩ := lp_n hr1
  have I1 : ∀ (n : Nat) (x3 : Int32) (M4 : im_M), fr 1099511627776 [(39, 5)] M M4 → lpn (uc2 (f_HSegments_writeBytes_L9 p2 p3 ((3 : Int32) - p3))) n (x3, M4) = some r1 → fr 1099511627776 [(39, 5)] M r := by
    intro n
    induction n with
    | zero => intro x3 M4 hM4 hn; exact (lpn_0 hn).elim
    | succ n ih =>
      intro x3 M4 hM4 hn
      have h := lpn_ed2 hn
      unfold f_HSegments_writeBytes_L9 at h
      by_cases q12 : p2 ≤ x3
      · replace h := ed_pos q12 h
        exact K1 _ hM4 (lq_r h hq1)
      · replace h := ed_neg q12 h
        obtain ⟨Q5, hQ5, h⟩ := bd1_ed h
        obtain ⟨x5, e5, h⟩ := h
        replace h := hQ5 _ h
        obtain ⟨Q6, hQ6, h⟩ := bd1_ed h
        have K6 : ∀ (y7 : Int32), Q6 y7 → fr 1099511627776 [(39, 5)] M r := by
          intro y7 h
          replace h := hQ6 _ h
          obtain ⟨Q8, hQ8, h⟩ := bd1_ed h
          obtain ⟨x8, e8, h⟩ := h
          replace h := hQ8 _ h
          obtain ⟨Q9, hQ9, h⟩ := bd1_ed h
          obtain ⟨M9, e9, h⟩ := h
          replace h := hQ9 _ h
          exact ih _ _ (fr_tr (fr_mono (by decide) (by decide +kernel) (f_HSegments_put_fr e9)) hM4) (lq_l h)
        obtain ⟨r6, hr6, hq6⟩ := h
        obtain ⟨n6, hn6⟩ := lp_n hr6
        have I6 : ∀ (n : Nat) (x10 : Int32) (x11 : Int32), lpn (uc2 (f_HSegments_writeBytes_L33 p2 p3 ((3 : Int32) - p3) x3 x5 M4)) n (x10, x11) = some r6 → fr 1099511627776 [(39, 5)] M r := by
          intro n
          induction n with
          | zero => intro x10 x11 hn; exact (lpn_0 hn).elim
          | succ n ih =>
            intro x10 x11 hn
            have h := lpn_ed2 hn
            unfold f_HSegments_writeBytes_L33 at h
            by_cases q40 : (x3 + x5) ≤ x11
            · replace h := ed_pos q40 h
              exact K6 _ (lq_r h hq6)
            · replace h := ed_neg q40 h
              obtain ⟨g46, h⟩ := ed_gd h
              obtain ⟨Q12, hQ12, h⟩ := bd1_ed h
              have J12 : ∀ (y15 : Int32), Q12 y15 → fr 1099511627776 [(39, 5)] M r := by
                intro y15 h
                replace h := hQ12 _ h
                exact ih _ _ (lq_l h)
              by_cases q56 : ¬ p3 = 2
              · replace h := ed_pos q56 h
                obtain ⟨Q13, hQ13, h⟩ := bd1_ed h
                obtain ⟨x13, e13, h⟩ := h
                replace h := hQ13 _ h
                obtain ⟨Q14, hQ14, h⟩ := bd1_ed h
                obtain ⟨x14, e14, h⟩ := h
                replace h := hQ14 _ h
                exact J12 _ (ed_some h)
              · replace h := ed_neg q56 h
                exact J12 _ (ed_some h)
        exact I6 n6 _ _ hn6
  exact I1 n1 _ _ fr_refl hn1
noncomputable def f_HSegments_write_L22 (v3 : Int32) (v4 : Int32) (v5 : Int32) (v6 : Int32) (x7 : Int32) (x8 : Int32) (M9 : im_M) : Option ((Int32 × Int32 × im_M) ⊕ (im_M)) := if v4 < x8 then some (.inr M9) else bd2 (jn0 (fun (_ : Unit) => gd (inb x7 200) <| bd1 (f_HSegments_put ((1 : Int32) <<< ((im_i M9 42 (Int32.toNatClampNeg x7)) &&& 31 : Int32) : Int32) 4 M9) fun (M20 : im_M) => bd1 (f_HSegments_groupOf v5 M20) fun (x21 : Int32) => gd (inb (((3 : Int32) * x21) + (im_i M9 42 (Int32.toNatClampNeg x7))) 9) <| bd1 (f_HSegments_put (x8 - x7) (xa_9 (((3 : Int32) * x21) + (im_i M9 42 (Int32.toNatClampNeg x7)))) M20) fun (M22 : im_M) => bd1 (f_HSegments_writeBytes (v3 + x7) (v3 + x8) (im_i M9 42 (Int32.toNatClampNeg x7)) M22) fun (M23 : im_M) => some (x8, M23)) fun k11 => if x8 = v4 then k11 () else gd (inb x8 200) <| gd (inb x7 200) <| if (im_i M9 42 (Int32.toNatClampNeg x8)) = (im_i M9 42 (Int32.toNatClampNeg x7)) then some (x7, M9) else k11 ()) fun (y24 : Int32) (M25 : im_M) => some (.inl (y24, (x8 + 1), M25))
noncomputable def f_HSegments_write_L144 (v37 : Int32) (x38 : Int32) (x39 : Int32) (M40 : im_M) : Option ((Int32 × Int32 × im_M) ⊕ (im_M)) := if v37 ≤ x39 then some (.inr M40) else gd (inb x39 2956) <| some (.inl ((x38 ^^^ 253), (x39 + 1), (im_setI M40 40 (Int32.toNatClampNeg x39) (vp_nar .byte ((Int32.toInt8 x38).toInt32)))))
noncomputable def f_HSegments_write (p1 : Int32) (p2 : Int32) (p3 : Int32) (p4 : Int32) (M : im_M) : Option (im_M) := bd1 (f_Arrays_fill3 0 p4 0 M) fun (M1 : im_M) => bd1 (lp (uc3 (f_HSegments_write_L22 p1 p2 p3 p4)) (0, 1, (im_setI M1 39 5 0))) fun (M34 : im_M) => bd1 (f_Math_min ((im_i M34 39 5) + 4) ((8 : Int32) * p4) M34) fun (x35 : Int32) => bd1 (lp (uc3 (f_HSegments_write_L144 p4)) (236, ((x35 + 7) / 8), M34)) fun (M41 : im_M) => some M41
theorem J_HSegments_write_d0 : decode J_HSegments_write.2.1 0 = .ok (.aload_n 0, 1) := by decide +kernel
theorem J_HSegments_write_d1 : decode J_HSegments_write.2.1 1 = .ok (.getfield 11, 3) := by decide +kernel
theorem J_HSegments_write_d4 : decode J_HSegments_write.2.1 4 = .ok (.iconst 0, 1) := by decide +kernel
theorem J_HSegments_write_d5 : decode J_HSegments_write.2.1 5 = .ok (.iload 5, 2) := by decide +kernel
theorem J_HSegments_write_d7 : decode J_HSegments_write.2.1 7 = .ok (.iconst 0, 1) := by decide +kernel
theorem J_HSegments_write_d8 : decode J_HSegments_write.2.1 8 = .ok (.invokestatic 78, 3) := by decide +kernel
theorem J_HSegments_write_d11 : decode J_HSegments_write.2.1 11 = .ok (.aload_n 0, 1) := by decide +kernel
theorem J_HSegments_write_d12 : decode J_HSegments_write.2.1 12 = .ok (.iconst 0, 1) := by decide +kernel
theorem J_HSegments_write_d13 : decode J_HSegments_write.2.1 13 = .ok (.putfield 81, 3) := by decide +kernel
theorem J_HSegments_write_d16 : decode J_HSegments_write.2.1 16 = .ok (.iconst 0, 1) := by decide +kernel
theorem J_HSegments_write_d17 : decode J_HSegments_write.2.1 17 = .ok (.istore 6, 2) := by decide +kernel
theorem J_HSegments_write_d19 : decode J_HSegments_write.2.1 19 = .ok (.iconst 1, 1) := by decide +kernel
theorem J_HSegments_write_d20 : decode J_HSegments_write.2.1 20 = .ok (.istore 7, 2) := by decide +kernel
theorem J_HSegments_write_d22 : decode J_HSegments_write.2.1 22 = .ok (.iload 7, 2) := by decide +kernel
theorem J_HSegments_write_d24 : decode J_HSegments_write.2.1 24 = .ok (.iload_n 3, 1) := by decide +kernel
theorem J_HSegments_write_d25 : decode J_HSegments_write.2.1 25 = .ok (.if_icmp .gt 92, 3) := by decide +kernel
theorem J_HSegments_write_d28 : decode J_HSegments_write.2.1 28 = .ok (.iload 7, 2) := by decide +kernel
theorem J_HSegments_write_d30 : decode J_HSegments_write.2.1 30 = .ok (.iload_n 3, 1) := by decide +kernel
theorem J_HSegments_write_d31 : decode J_HSegments_write.2.1 31 = .ok (.if_icmp .eq 20, 3) := by decide +kernel
theorem J_HSegments_write_d34 : decode J_HSegments_write.2.1 34 = .ok (.aload_n 0, 1) := by decide +kernel
theorem J_HSegments_write_d35 : decode J_HSegments_write.2.1 35 = .ok (.getfield 21, 3) := by decide +kernel
theorem J_HSegments_write_d38 : decode J_HSegments_write.2.1 38 = .ok (.iload 7, 2) := by decide +kernel
theorem J_HSegments_write_d40 : decode J_HSegments_write.2.1 40 = .ok (.baload, 1) := by decide +kernel
theorem J_HSegments_write_d41 : decode J_HSegments_write.2.1 41 = .ok (.aload_n 0, 1) := by decide +kernel
theorem J_HSegments_write_d42 : decode J_HSegments_write.2.1 42 = .ok (.getfield 21, 3) := by decide +kernel
theorem J_HSegments_write_d45 : decode J_HSegments_write.2.1 45 = .ok (.iload 6, 2) := by decide +kernel
theorem J_HSegments_write_d47 : decode J_HSegments_write.2.1 47 = .ok (.baload, 1) := by decide +kernel
theorem J_HSegments_write_d48 : decode J_HSegments_write.2.1 48 = .ok (.if_icmp .eq 63, 3) := by decide +kernel
theorem J_HSegments_write_d51 : decode J_HSegments_write.2.1 51 = .ok (.aload_n 0, 1) := by decide +kernel
theorem J_HSegments_write_d52 : decode J_HSegments_write.2.1 52 = .ok (.getfield 21, 3) := by decide +kernel
theorem J_HSegments_write_d55 : decode J_HSegments_write.2.1 55 = .ok (.iload 6, 2) := by decide +kernel
theorem J_HSegments_write_d57 : decode J_HSegments_write.2.1 57 = .ok (.baload, 1) := by decide +kernel
theorem J_HSegments_write_d58 : decode J_HSegments_write.2.1 58 = .ok (.istore 8, 2) := by decide +kernel
theorem J_HSegments_write_d60 : decode J_HSegments_write.2.1 60 = .ok (.aload_n 0, 1) := by decide +kernel
theorem J_HSegments_write_d61 : decode J_HSegments_write.2.1 61 = .ok (.iconst 1, 1) := by decide +kernel
theorem J_HSegments_write_d62 : decode J_HSegments_write.2.1 62 = .ok (.iload 8, 2) := by decide +kernel
theorem J_HSegments_write_d64 : decode J_HSegments_write.2.1 64 = .ok (.ishl, 1) := by decide +kernel
theorem J_HSegments_write_d65 : decode J_HSegments_write.2.1 65 = .ok (.iconst 4, 1) := by decide +kernel
theorem J_HSegments_write_d66 : decode J_HSegments_write.2.1 66 = .ok (.invokevirtual 85, 3) := by decide +kernel
theorem J_HSegments_write_d69 : decode J_HSegments_write.2.1 69 = .ok (.aload_n 0, 1) := by decide +kernel
theorem J_HSegments_write_d70 : decode J_HSegments_write.2.1 70 = .ok (.iload 7, 2) := by decide +kernel
theorem J_HSegments_write_d72 : decode J_HSegments_write.2.1 72 = .ok (.iload 6, 2) := by decide +kernel
theorem J_HSegments_write_d74 : decode J_HSegments_write.2.1 74 = .ok (.isub, 1) := by decide +kernel
theorem J_HSegments_write_d75 : decode J_HSegments_write.2.1 75 = .ok (.getstatic 72, 3) := by decide +kernel
theorem J_HSegments_write_d78 : decode J_HSegments_write.2.1 78 = .ok (.iconst 3, 1) := by decide +kernel
theorem J_HSegments_write_d79 : decode J_HSegments_write.2.1 79 = .ok (.iload 4, 2) := by decide +kernel
theorem J_HSegments_write_d81 : decode J_HSegments_write.2.1 81 = .ok (.invokestatic 24, 3) := by decide +kernel
theorem J_HSegments_write_d84 : decode J_HSegments_write.2.1 84 = .ok (.imul, 1) := by decide +kernel
theorem J_HSegments_write_d85 : decode J_HSegments_write.2.1 85 = .ok (.iload 8, 2) := by decide +kernel
theorem J_HSegments_write_d87 : decode J_HSegments_write.2.1 87 = .ok (.iadd, 1) := by decide +kernel
theorem J_HSegments_write_d88 : decode J_HSegments_write.2.1 88 = .ok (.iaload, 1) := by decide +kernel
theorem J_HSegments_write_d89 : decode J_HSegments_write.2.1 89 = .ok (.invokevirtual 85, 3) := by decide +kernel
theorem J_HSegments_write_d92 : decode J_HSegments_write.2.1 92 = .ok (.aload_n 0, 1) := by decide +kernel
theorem J_HSegments_write_d93 : decode J_HSegments_write.2.1 93 = .ok (.aload_n 1, 1) := by decide +kernel
theorem J_HSegments_write_d94 : decode J_HSegments_write.2.1 94 = .ok (.iload_n 2, 1) := by decide +kernel
theorem J_HSegments_write_d95 : decode J_HSegments_write.2.1 95 = .ok (.iload 6, 2) := by decide +kernel
theorem J_HSegments_write_d97 : decode J_HSegments_write.2.1 97 = .ok (.iadd, 1) := by decide +kernel
theorem J_HSegments_write_d98 : decode J_HSegments_write.2.1 98 = .ok (.iload_n 2, 1) := by decide +kernel
theorem J_HSegments_write_d99 : decode J_HSegments_write.2.1 99 = .ok (.iload 7, 2) := by decide +kernel
theorem J_HSegments_write_d101 : decode J_HSegments_write.2.1 101 = .ok (.iadd, 1) := by decide +kernel
theorem J_HSegments_write_d102 : decode J_HSegments_write.2.1 102 = .ok (.iload 8, 2) := by decide +kernel
theorem J_HSegments_write_d104 : decode J_HSegments_write.2.1 104 = .ok (.invokevirtual 89, 3) := by decide +kernel
theorem J_HSegments_write_d107 : decode J_HSegments_write.2.1 107 = .ok (.iload 7, 2) := by decide +kernel
theorem J_HSegments_write_d109 : decode J_HSegments_write.2.1 109 = .ok (.istore 6, 2) := by decide +kernel
theorem J_HSegments_write_d111 : decode J_HSegments_write.2.1 111 = .ok (.iinc 7 1, 3) := by decide +kernel
theorem J_HSegments_write_d114 : decode J_HSegments_write.2.1 114 = .ok (.goto (-92), 3) := by decide +kernel
theorem J_HSegments_write_d117 : decode J_HSegments_write.2.1 117 = .ok (.sipush 236, 3) := by decide +kernel
theorem J_HSegments_write_d120 : decode J_HSegments_write.2.1 120 = .ok (.istore 7, 2) := by decide +kernel
theorem J_HSegments_write_d122 : decode J_HSegments_write.2.1 122 = .ok (.aload_n 0, 1) := by decide +kernel
theorem J_HSegments_write_d123 : decode J_HSegments_write.2.1 123 = .ok (.getfield 81, 3) := by decide +kernel
theorem J_HSegments_write_d126 : decode J_HSegments_write.2.1 126 = .ok (.iconst 4, 1) := by decide +kernel
theorem J_HSegments_write_d127 : decode J_HSegments_write.2.1 127 = .ok (.iadd, 1) := by decide +kernel
theorem J_HSegments_write_d128 : decode J_HSegments_write.2.1 128 = .ok (.bipush 8, 2) := by decide +kernel
theorem J_HSegments_write_d130 : decode J_HSegments_write.2.1 130 = .ok (.iload 5, 2) := by decide +kernel
theorem J_HSegments_write_d132 : decode J_HSegments_write.2.1 132 = .ok (.imul, 1) := by decide +kernel
theorem J_HSegments_write_d133 : decode J_HSegments_write.2.1 133 = .ok (.invokestatic 93, 3) := by decide +kernel
theorem J_HSegments_write_d136 : decode J_HSegments_write.2.1 136 = .ok (.bipush 7, 2) := by decide +kernel
theorem J_HSegments_write_d138 : decode J_HSegments_write.2.1 138 = .ok (.iadd, 1) := by decide +kernel
theorem J_HSegments_write_d139 : decode J_HSegments_write.2.1 139 = .ok (.bipush 8, 2) := by decide +kernel
theorem J_HSegments_write_d141 : decode J_HSegments_write.2.1 141 = .ok (.idiv, 1) := by decide +kernel
theorem J_HSegments_write_d142 : decode J_HSegments_write.2.1 142 = .ok (.istore 8, 2) := by decide +kernel
theorem J_HSegments_write_d144 : decode J_HSegments_write.2.1 144 = .ok (.iload 8, 2) := by decide +kernel
theorem J_HSegments_write_d146 : decode J_HSegments_write.2.1 146 = .ok (.iload 5, 2) := by decide +kernel
theorem J_HSegments_write_d148 : decode J_HSegments_write.2.1 148 = .ok (.if_icmp .ge 27, 3) := by decide +kernel
theorem J_HSegments_write_d151 : decode J_HSegments_write.2.1 151 = .ok (.aload_n 0, 1) := by decide +kernel
theorem J_HSegments_write_d152 : decode J_HSegments_write.2.1 152 = .ok (.getfield 11, 3) := by decide +kernel
theorem J_HSegments_write_d155 : decode J_HSegments_write.2.1 155 = .ok (.iload 8, 2) := by decide +kernel
theorem J_HSegments_write_d157 : decode J_HSegments_write.2.1 157 = .ok (.iload 7, 2) := by decide +kernel
theorem J_HSegments_write_d159 : decode J_HSegments_write.2.1 159 = .ok (.i2b, 1) := by decide +kernel
theorem J_HSegments_write_d160 : decode J_HSegments_write.2.1 160 = .ok (.bastore, 1) := by decide +kernel
theorem J_HSegments_write_d161 : decode J_HSegments_write.2.1 161 = .ok (.iload 7, 2) := by decide +kernel
theorem J_HSegments_write_d163 : decode J_HSegments_write.2.1 163 = .ok (.sipush 253, 3) := by decide +kernel
theorem J_HSegments_write_d166 : decode J_HSegments_write.2.1 166 = .ok (.ixor, 1) := by decide +kernel
theorem J_HSegments_write_d167 : decode J_HSegments_write.2.1 167 = .ok (.istore 7, 2) := by decide +kernel
theorem J_HSegments_write_d169 : decode J_HSegments_write.2.1 169 = .ok (.iinc 8 1, 3) := by decide +kernel
theorem J_HSegments_write_d172 : decode J_HSegments_write.2.1 172 = .ok (.goto (-28), 3) := by decide +kernel
theorem J_HSegments_write_d175 : decode J_HSegments_write.2.1 175 = .ok (.return_, 1) := by decide +kernel
theorem f_HSegments_write_ok {L : Nat} {xs : Nat → Int32} {dep : Nat} {w : Bool} {p1 : Int32} {p2 : Int32} {p3 : Int32} {p4 : Int32} {M : im_M} {Q : im_M → Prop} (hM : lw_S w M) (h : ed (f_HSegments_write p1 p2 p3 p4 M) Q) : ia (tb_G L xs) (dep + 5) J_HSegments_write (rwV w Q) (0, lv_args 0 [.ref 39, .ref 14, .int p1, .int p2, .int p3, .int p4], [], M) := by
  have hS : im_St (tb_G L xs) (dep + 5) J_HSegments_write (ia (tb_G L xs) (dep + 5) J_HSegments_write (rwV w Q)) := ia_St
  unfold f_HSegments_write at h
  have l0 : im_lk (lv_args 0 [.ref 39, .ref 14, .int p1, .int p2, .int p3, .int p4]) 0 = some (.ref 39) := rfl
  have l1 : im_lk (lv_args 0 [.ref 39, .ref 14, .int p1, .int p2, .int p3, .int p4]) 1 = some (.ref 14) := rfl
  have l2 : im_lk (lv_args 0 [.ref 39, .ref 14, .int p1, .int p2, .int p3, .int p4]) 2 = some (.int p1) := rfl
  have l3 : im_lk (lv_args 0 [.ref 39, .ref 14, .int p1, .int p2, .int p3, .int p4]) 3 = some (.int p2) := rfl
  have l4 : im_lk (lv_args 0 [.ref 39, .ref 14, .int p1, .int p2, .int p3, .int p4]) 4 = some (.int p3) := rfl
  have l5 : im_lk (lv_args 0 [.ref 39, .ref 14, .int p1, .int p2, .int p3, .int p4]) 5 = some (.int p4) := rfl
  refine iq_aload_n hS 1 J_HSegments_write_d0 l0 rfl ?_
  refine iq_getR hS 4 J_HSegments_write_d1 lf_7_11 (Or.inr ⟨_, rfl⟩) (ka_39 hM) (ra_39_0 hM) rfl ?_
  refine iq_iconst hS 5 J_HSegments_write_d4 (v := 0) (by decide +kernel) rfl ?_
  refine iq_iload hS 7 J_HSegments_write_d5 l5 rfl ?_
  refine iq_iconst hS 8 J_HSegments_write_d7 (v := 0) (by decide +kernel) rfl ?_
  obtain ⟨Q1, hQ1, h⟩ := bd1_ed h
  refine iq_cwV hS 11 J_HSegments_write_d8 rfl (pr_stat (vs := [_, _, _, _]) lc_7_78 lT_142 rfl rfl (by decide) rfl (Nat.le_of_ble_eq_true rfl) (Nat.le_of_ble_eq_true rfl)) (f_Arrays_fill3_ok (dep := dep + 3) hM h) rfl ?_
  intro M1 hM1 h
  replace h := hQ1 _ h
  refine iq_aload_n hS 12 J_HSegments_write_d11 l0 rfl ?_
  refine iq_iconst hS 13 J_HSegments_write_d12 (v := 0) (by decide +kernel) rfl ?_
  refine iq_putI hS 16 J_HSegments_write_d13 lf_7_81 (Or.inl rfl) rfl (ka_39 hM1) rfl ?_
  refine iq_iconst hS 17 J_HSegments_write_d16 (v := 0) (by decide +kernel) rfl ?_
  refine iq_istore hS 19 J_HSegments_write_d17 (by decide) rfl ?_
  refine iq_iconst hS 20 J_HSegments_write_d19 (v := 1) (by decide +kernel) rfl ?_
  refine iq_istore hS 22 J_HSegments_write_d20 (by decide) rfl ?_
  obtain ⟨Q2, hQ2, h⟩ := bd1_ed h
  have K2 : ∀ (M3 : im_M) (L' : List (Nat × Value)), lw_S w M3 → im_lk L' 0 = some (.ref 39) → im_lk L' 5 = some (.int p4) → Q2 M3 → ia (tb_G L xs) (dep + 5) J_HSegments_write (rwV w Q) (117, L', [], M3) := by
    intro M3 L' hM3 l4 l5 h
    replace h := hQ2 _ h
    refine iq_sipush hS 120 J_HSegments_write_d117 (v := 236) (by decide +kernel) rfl ?_
    refine iq_istore hS 122 J_HSegments_write_d120 (by decide) rfl ?_
    refine iq_aload_n hS 123 J_HSegments_write_d122 (lk_1r l4 (by decide)) rfl ?_
    refine iq_getI hS 126 J_HSegments_write_d123 lf_7_81 (Or.inl rfl) (ka_39 hM3) rfl ?_
    refine iq_iconst hS 127 J_HSegments_write_d126 (v := 4) (by decide +kernel) rfl ?_
    refine iq_iadd hS 128 J_HSegments_write_d127 rfl ?_
    refine iq_bipush hS 130 J_HSegments_write_d128 (v := 8) (by decide +kernel) rfl ?_
    refine iq_iload hS 132 J_HSegments_write_d130 (lk_1i l5 (by decide)) rfl ?_
    refine iq_imul hS 133 J_HSegments_write_d132 rfl ?_
    obtain ⟨Q6, hQ6, h⟩ := bd1_ed h
    refine iq_cpI hS 136 J_HSegments_write_d133 rfl (pr_stat (vs := [_, _]) lc_7_93 lT_28 rfl rfl (by decide) rfl (Nat.le_of_ble_eq_true rfl) (Nat.le_of_ble_eq_true rfl)) (f_Math_min_ok (dep := dep + 4) hM3 h) rfl ?_
    intro x6 h
    replace h := hQ6 _ h
    refine iq_bipush hS 138 J_HSegments_write_d136 (v := 7) (by decide +kernel) rfl ?_
    refine iq_iadd hS 139 J_HSegments_write_d138 rfl ?_
    refine iq_bipush hS 141 J_HSegments_write_d139 (v := 8) (by decide +kernel) rfl ?_
    refine iq_idiv hS 142 J_HSegments_write_d141 (by decide) rfl ?_
    refine iq_istore hS 144 J_HSegments_write_d142 (by decide) rfl ?_
    obtain ⟨Q7, hQ7, h⟩ := bd1_ed h
    have K7 : ∀ (M8 : im_M) (L' : List (Nat × Value)), lw_S w M8 → Q7 M8 → ia (tb_G L xs) (dep + 5) J_HSegments_write (rwV w Q) (175, L', [], M8) := by
      intro M8 L' hM8  h
      replace h := hQ7 _ h
      exact iq_ret J_HSegments_write_d175 rfl ⟨rfl, hM8, ed_some h⟩
    obtain ⟨r7, hr7, hq7⟩ := h
    obtain ⟨n7, hn7⟩ := lp_n hr7
    have I7 : ∀ (n : Nat) (x9 : Int32) (x10 : Int32) (M11 : im_M) (L' : List (Nat × Value)), lw_S w M11 → im_lk L' 0 = some (.ref 39) → im_lk L' 5 = some (.int p4) → im_lk L' 7 = some (.int x9) → im_lk L' 8 = some (.int x10) → lpn (uc3 (f_HSegments_write_L144 p4)) n (x9, x10, M11) = some r7 → ia (tb_G L xs) (dep + 5) J_HSegments_write (rwV w Q) (144, L', [], M11) := by
      intro n
      induction n with
      | zero => intro x9 x10 M11 L' hM11 l12 l13 l14 l15 hn; exact (lpn_0 hn).elim
      | succ n ih =>
        intro x9 x10 M11 L' hM11 l12 l13 l14 l15 hn
        have h := lpn_ed3 hn
        unfold f_HSegments_write_L144 at h
        refine iq_iload hS 146 J_HSegments_write_d144 l15 rfl ?_
        refine iq_iload hS 148 J_HSegments_write_d146 l13 rfl ?_
        refine iq_icmp_ge hS 151 J_HSegments_write_d148 (t := 175) rfl (fun q148 => ?_) rfl (fun q148 => ?_)
        · replace h := ed_pos q148 h
          exact K7 _ _ hM11  (lq_r h hq7)
        · replace h := ed_neg q148 h
          refine iq_aload_n hS 152 J_HSegments_write_d151 l12 rfl ?_
          refine iq_getR hS 155 J_HSegments_write_d152 lf_7_11 (Or.inr ⟨_, rfl⟩) (ka_39 hM11) (ra_39_0 hM11) rfl ?_
          refine iq_iload hS 157 J_HSegments_write_d155 l15 rfl ?_
          refine iq_iload hS 159 J_HSegments_write_d157 l14 rfl ?_
          refine iq_i2b hS 160 J_HSegments_write_d159 rfl ?_
          obtain ⟨g160, h⟩ := ed_gd h
          refine iq_bastore hS 161 J_HSegments_write_d160 ⟨(ka_40 hM11).1, (ka_40 hM11).2, g160.1, ix_lt (kl_40 hM11) g160.2⟩ rfl ?_
          refine iq_iload hS 163 J_HSegments_write_d161 l14 rfl ?_
          refine iq_sipush hS 166 J_HSegments_write_d163 (v := 253) (by decide +kernel) rfl ?_
          refine iq_ixor hS 167 J_HSegments_write_d166 rfl ?_
          refine iq_istore hS 169 J_HSegments_write_d167 (by decide) rfl ?_
          refine iq_iincv hS 172 J_HSegments_write_d169 (c := 1) (by decide +kernel) (lk_1i l15 (by decide)) (by decide) rfl ?_
          refine iq_goto hS J_HSegments_write_d172 (t := 144) rfl ?_
          exact ih _ _ _ _ (lw_sI hM11) (lk_1r (lk_1r l12 (by decide)) (by decide)) (lk_1i (lk_1i l13 (by decide)) (by decide)) (lk_1i lk_1s (by decide)) lk_1s (lq_l h)
    exact I7 n7 _ _ _ _ hM3 (lk_1r (lk_1r l4 (by decide)) (by decide)) (lk_1i (lk_1i l5 (by decide)) (by decide)) (lk_1i lk_1s (by decide)) lk_1s hn7
  obtain ⟨r2, hr2, hq2⟩ := h
  obtain ⟨n2, hn2⟩ := lp_n hr2
  have I2 : ∀ (n : Nat) (x16 : Int32) (x17 : Int32) (M18 : im_M) (L' : List (Nat × Value)), lw_S w M18 → im_lk L' 0 = some (.ref 39) → im_lk L' 1 = some (.ref 14) → im_lk L' 2 = some (.int p1) → im_lk L' 3 = some (.int p2) → im_lk L' 4 = some (.int p3) → im_lk L' 5 = some (.int p4) → im_lk L' 6 = some (.int x16) → im_lk L' 7 = some (.int x17) → lpn (uc3 (f_HSegments_write_L22 p1 p2 p3 p4)) n (x16, x17, M18) = some r2 → ia (tb_G L xs) (dep + 5) J_HSegments_write (rwV w Q) (22, L', [], M18) := by
    intro n
    induction n with
    | zero => intro x16 x17 M18 L' hM18 l19 l20 l21 l22 l23 l24 l25 l26 hn; exact (lpn_0 hn).elim
    | succ n ih =>
      intro x16 x17 M18 L' hM18 l19 l20 l21 l22 l23 l24 l25 l26 hn
      have h := lpn_ed3 hn
      unfold f_HSegments_write_L22 at h
      refine iq_iload hS 24 J_HSegments_write_d22 l26 rfl ?_
      refine iq_iload_n hS 25 J_HSegments_write_d24 l22 rfl ?_
      refine iq_icmp_gt hS 28 J_HSegments_write_d25 (t := 117) rfl (fun q25 => ?_) rfl (fun q25 => ?_)
      · replace h := ed_pos q25 h
        exact K2 _ _ hM18 l19 l24 (lq_r h hq2)
      · replace h := ed_neg q25 h
        refine iq_iload hS 30 J_HSegments_write_d28 l26 rfl ?_
        refine iq_iload_n hS 31 J_HSegments_write_d30 l22 rfl ?_
        obtain ⟨Q27, hQ27, h⟩ := bd2_ed h
        have J27 : ∀ (y41 : Int32) (M42 : im_M) (L' : List (Nat × Value)), lw_S w M42 → im_lk L' 0 = some (.ref 39) → im_lk L' 1 = some (.ref 14) → im_lk L' 2 = some (.int p1) → im_lk L' 3 = some (.int p2) → im_lk L' 4 = some (.int p3) → im_lk L' 5 = some (.int p4) → im_lk L' 6 = some (.int y41) → im_lk L' 7 = some (.int x17) → Q27 (y41, M42) → ia (tb_G L xs) (dep + 5) J_HSegments_write (rwV w Q) (111, L', [], M42) := by
          intro y41 M42 L' hM42 l43 l44 l45 l46 l47 l48 l49 l50 h
          replace h := hQ27 _ _ h
          refine iq_iincv hS 114 J_HSegments_write_d111 (c := 1) (by decide +kernel) l50 (by decide) rfl ?_
          refine iq_goto hS J_HSegments_write_d114 (t := 22) rfl ?_
          exact ih _ _ _ _ hM42 (lk_1r l43 (by decide)) (lk_1r l44 (by decide)) (lk_1i l45 (by decide)) (lk_1i l46 (by decide)) (lk_1i l47 (by decide)) (lk_1i l48 (by decide)) (lk_1i l49 (by decide)) lk_1s (lq_l h)
        obtain ⟨k28, Q28, hQ28, hk28, h⟩ := jn0_ed h
        have J28 : ∀  (L' : List (Nat × Value)), im_lk L' 0 = some (.ref 39) → im_lk L' 1 = some (.ref 14) → im_lk L' 2 = some (.int p1) → im_lk L' 3 = some (.int p2) → im_lk L' 4 = some (.int p3) → im_lk L' 5 = some (.int p4) → im_lk L' 6 = some (.int x16) → im_lk L' 7 = some (.int x17) → Q28 () → ia (tb_G L xs) (dep + 5) J_HSegments_write (rwV w Q) (51, L', [], M18) := by
          intro  L' l29 l30 l31 l32 l33 l34 l35 l36 h
          replace h := hQ28  h
          refine iq_aload_n hS 52 J_HSegments_write_d51 l29 rfl ?_
          refine iq_getR hS 55 J_HSegments_write_d52 lf_7_21 (Or.inr ⟨_, rfl⟩) (ka_39 hM18) (ra_39_4 hM18) rfl ?_
          refine iq_iload hS 57 J_HSegments_write_d55 l35 rfl ?_
          obtain ⟨g57, h⟩ := ed_gd h
          refine iq_baload hS 58 J_HSegments_write_d57 ⟨(ka_42 hM18).1, (ka_42 hM18).2, g57.1, ix_lt (kl_42 hM18) g57.2⟩ rfl ?_
          refine iq_istore hS 60 J_HSegments_write_d58 (by decide) rfl ?_
          refine iq_aload_n hS 61 J_HSegments_write_d60 (lk_1r l29 (by decide)) rfl ?_
          refine iq_iconst hS 62 J_HSegments_write_d61 (v := 1) (by decide +kernel) rfl ?_
          refine iq_iload hS 64 J_HSegments_write_d62 lk_1s rfl ?_
          refine iq_ishl hS 65 J_HSegments_write_d64 rfl ?_
          refine iq_iconst hS 66 J_HSegments_write_d65 (v := 4) (by decide +kernel) rfl ?_
          obtain ⟨Q37, hQ37, h⟩ := bd1_ed h
          refine iq_cwV hS 69 J_HSegments_write_d66 rfl (pr_inst (vs := [_, _]) lc_7_85 lT_143 rfl rfl (by decide) (by decide) rfl (Nat.le_of_ble_eq_true rfl) (Nat.le_of_ble_eq_true rfl) (fun _ => Or.inl (pr_b (ka_39 hM18) (by decide) rfl))) (f_HSegments_put_ok (dep := dep + 4) hM18 h) rfl ?_
          intro M37 hM37 h
          replace h := hQ37 _ h
          refine iq_aload_n hS 70 J_HSegments_write_d69 (lk_1r l29 (by decide)) rfl ?_
          refine iq_iload hS 72 J_HSegments_write_d70 (lk_1i l36 (by decide)) rfl ?_
          refine iq_iload hS 74 J_HSegments_write_d72 (lk_1i l35 (by decide)) rfl ?_
          refine iq_isub hS 75 J_HSegments_write_d74 rfl ?_
          refine iq_getstatic hS 78 J_HSegments_write_d75 gs_7_72 rfl ?_
          refine iq_iconst hS 79 J_HSegments_write_d78 (v := 3) (by decide +kernel) rfl ?_
          refine iq_iload hS 81 J_HSegments_write_d79 (lk_1i l33 (by decide)) rfl ?_
          obtain ⟨Q38, hQ38, h⟩ := bd1_ed h
          refine iq_cpI hS 84 J_HSegments_write_d81 rfl (pr_stat (vs := [_]) lc_7_24 lT_134 rfl rfl (by decide) rfl (Nat.le_of_ble_eq_true rfl) (Nat.le_of_ble_eq_true rfl)) (f_HSegments_groupOf_ok (dep := dep + 4) hM37 h) rfl ?_
          intro x38 h
          replace h := hQ38 _ h
          refine iq_imul hS 85 J_HSegments_write_d84 rfl ?_
          refine iq_iload hS 87 J_HSegments_write_d85 lk_1s rfl ?_
          refine iq_iadd hS 88 J_HSegments_write_d87 rfl ?_
          obtain ⟨g88, h⟩ := ed_gd h
          refine iq_xl_9 hS 89 J_HSegments_write_d88 hM37 g88 rfl ?_
          obtain ⟨Q39, hQ39, h⟩ := bd1_ed h
          refine iq_cwV hS 92 J_HSegments_write_d89 rfl (pr_inst (vs := [_, _]) lc_7_85 lT_143 rfl rfl (by decide) (by decide) rfl (Nat.le_of_ble_eq_true rfl) (Nat.le_of_ble_eq_true rfl) (fun _ => Or.inl (pr_b (ka_39 hM37) (by decide) rfl))) (f_HSegments_put_ok (dep := dep + 4) hM37 h) rfl ?_
          intro M39 hM39 h
          replace h := hQ39 _ h
          refine iq_aload_n hS 93 J_HSegments_write_d92 (lk_1r l29 (by decide)) rfl ?_
          refine iq_aload_n hS 94 J_HSegments_write_d93 (lk_1r l30 (by decide)) rfl ?_
          refine iq_iload_n hS 95 J_HSegments_write_d94 (lk_1i l31 (by decide)) rfl ?_
          refine iq_iload hS 97 J_HSegments_write_d95 (lk_1i l35 (by decide)) rfl ?_
          refine iq_iadd hS 98 J_HSegments_write_d97 rfl ?_
          refine iq_iload_n hS 99 J_HSegments_write_d98 (lk_1i l31 (by decide)) rfl ?_
          refine iq_iload hS 101 J_HSegments_write_d99 (lk_1i l36 (by decide)) rfl ?_
          refine iq_iadd hS 102 J_HSegments_write_d101 rfl ?_
          refine iq_iload hS 104 J_HSegments_write_d102 lk_1s rfl ?_
          obtain ⟨Q40, hQ40, h⟩ := bd1_ed h
          refine iq_cwV hS 107 J_HSegments_write_d104 rfl (pr_inst (vs := [_, _, _, _]) lc_7_89 lT_144 rfl rfl (by decide) (by decide) rfl (Nat.le_of_ble_eq_true rfl) (Nat.le_of_ble_eq_true rfl) (fun _ => Or.inl (pr_b (ka_39 hM39) (by decide) rfl))) (f_HSegments_writeBytes_ok (dep := dep + 0) hM39 h) rfl ?_
          intro M40 hM40 h
          replace h := hQ40 _ h
          refine iq_iload hS 109 J_HSegments_write_d107 (lk_1i l36 (by decide)) rfl ?_
          refine iq_istore hS 111 J_HSegments_write_d109 (by decide) rfl ?_
          exact J27 _ _ _ hM40 (lk_1r (lk_1r l29 (by decide)) (by decide)) (lk_1r (lk_1r l30 (by decide)) (by decide)) (lk_1i (lk_1i l31 (by decide)) (by decide)) (lk_1i (lk_1i l32 (by decide)) (by decide)) (lk_1i (lk_1i l33 (by decide)) (by decide)) (lk_1i (lk_1i l34 (by decide)) (by decide)) lk_1s (lk_1i (lk_1i l36 (by decide)) (by decide)) (ed_some h)
        refine iq_icmp_eq hS 34 J_HSegments_write_d31 (t := 51) rfl (fun q31 => ?_) rfl (fun q31 => ?_)
        · replace h := ed_pos q31 h
          exact J28  _ l19 l20 l21 l22 l23 l24 l25 l26 (hk28  h)
        · replace h := ed_neg q31 h
          refine iq_aload_n hS 35 J_HSegments_write_d34 l19 rfl ?_
          refine iq_getR hS 38 J_HSegments_write_d35 lf_7_21 (Or.inr ⟨_, rfl⟩) (ka_39 hM18) (ra_39_4 hM18) rfl ?_
          refine iq_iload hS 40 J_HSegments_write_d38 l26 rfl ?_
          obtain ⟨g40, h⟩ := ed_gd h
          refine iq_baload hS 41 J_HSegments_write_d40 ⟨(ka_42 hM18).1, (ka_42 hM18).2, g40.1, ix_lt (kl_42 hM18) g40.2⟩ rfl ?_
          refine iq_aload_n hS 42 J_HSegments_write_d41 l19 rfl ?_
          refine iq_getR hS 45 J_HSegments_write_d42 lf_7_21 (Or.inr ⟨_, rfl⟩) (ka_39 hM18) (ra_39_4 hM18) rfl ?_
          refine iq_iload hS 47 J_HSegments_write_d45 l25 rfl ?_
          obtain ⟨g47, h⟩ := ed_gd h
          refine iq_baload hS 48 J_HSegments_write_d47 ⟨(ka_42 hM18).1, (ka_42 hM18).2, g47.1, ix_lt (kl_42 hM18) g47.2⟩ rfl ?_
          refine iq_icmp_eq hS 51 J_HSegments_write_d48 (t := 111) rfl (fun q48 => ?_) rfl (fun q48 => ?_)
          · replace h := ed_pos q48 h
            exact J27 _ _ _ hM18 l19 l20 l21 l22 l23 l24 l25 l26 (ed_some h)
          · replace h := ed_neg q48 h
            exact J28  _ l19 l20 l21 l22 l23 l24 l25 l26 (hk28  h)
  exact I2 n2 _ _ _ _ (lw_sI hM1) (lk_1r (lk_1r l0 (by decide)) (by decide)) (lk_1r (lk_1r l1 (by decide)) (by decide)) (lk_1i (lk_1i l2 (by decide)) (by decide)) (lk_1i (lk_1i l3 (by decide)) (by decide)) (lk_1i (lk_1i l4 (by decide)) (by decide)) (lk_1i (lk_1i l5 (by decide)) (by decide)) (lk_1i lk_1s (by decide)) lk_1s hn2
theorem f_HSegments_write_fr {p1 : Int32} {p2 : Int32} {p3 : Int32} {p4 : Int32} {M : im_M} {r : im_M} (h : f_HSegments_write p1 p2 p3 p4 M = some r) : fr 1099511627776 [(39, 5)] M r := by
  replace h : ed (f_HSegments_write p1 p2 p3 p4 M) (fun x => x = r) := ⟨r, h, rfl⟩
  unfold f_HSegments_write at h
  obtain ⟨Q1, hQ1, h⟩ := bd1_ed h
  obtain ⟨M1, e1, h⟩ := h
  replace h := hQ1 _ h
  obtain ⟨Q2, hQ2, h⟩ := bd1_ed h
  have K2 : ∀ (M3 : im_M), fr 1099511627776 [(39, 5)] M M3 → Q2 M3 → fr 1099511627776 [(39, 5)] M r := by
    intro M3 hM3 h
    replace h := hQ2 _ h
    obtain ⟨Q4, hQ4, h⟩ := bd1_ed h
    obtain ⟨x4, e4, h⟩ := h
    replace h := hQ4 _ h
    obtain ⟨Q5, hQ5, h⟩ := bd1_ed h
    have K5 : ∀ (M6 : im_M), fr 1099511627776 [(39, 5)] M M6 → Q5 M6 → fr 1099511627776 [(39, 5)] M r := by
      intro M6 hM6 h
      replace h := hQ5 _ h
      exact fr_retV h hM6
    obtain ⟨r5, hr5, hq5⟩ := h
    obtain ⟨n5, hn5⟩ := lp_n hr5
    have I5 : ∀ (n : Nat) (x7 : Int32) (x8 : Int32) (M9 : im_M), fr 1099511627776 [(39, 5)] M M9 → lpn (uc3 (f_HSegments_write_L144 p4)) n (x7, x8, M9) = some r5 → fr 1099511627776 [(39, 5)] M r := by
      intro n
      induction n with
      | zero => intro x7 x8 M9 hM9 hn; exact (lpn_0 hn).elim
      | succ n ih =>
        intro x7 x8 M9 hM9 hn
        have h := lpn_ed3 hn
        unfold f_HSegments_write_L144 at h
        by_cases q148 : p4 ≤ x8
        · replace h := ed_pos q148 h
          exact K5 _ hM9 (lq_r h hq5)
        · replace h := ed_neg q148 h
          obtain ⟨g160, h⟩ := ed_gd h
          exact ih _ _ _ (fr_I (by decide) hM9) (lq_l h)
    exact I5 n5 _ _ _ hM3 hn5
  obtain ⟨r2, hr2, hq2⟩ := h
  obtain ⟨n2, hn2⟩ := lp_n hr2
  have I2 : ∀ (n : Nat) (x10 : Int32) (x11 : Int32) (M12 : im_M), fr 1099511627776 [(39, 5)] M M12 → lpn (uc3 (f_HSegments_write_L22 p1 p2 p3 p4)) n (x10, x11, M12) = some r2 → fr 1099511627776 [(39, 5)] M r := by
    intro n
    induction n with
    | zero => intro x10 x11 M12 hM12 hn; exact (lpn_0 hn).elim
    | succ n ih =>
      intro x10 x11 M12 hM12 hn
      have h := lpn_ed3 hn
      unfold f_HSegments_write_L22 at h
      by_cases q25 : p2 < x11
      · replace h := ed_pos q25 h
        exact K2 _ hM12 (lq_r h hq2)
      · replace h := ed_neg q25 h
        obtain ⟨Q13, hQ13, h⟩ := bd2_ed h
        have J13 : ∀ (y27 : Int32) (M28 : im_M), fr 1099511627776 [(39, 5)] M M28 → Q13 (y27, M28) → fr 1099511627776 [(39, 5)] M r := by
          intro y27 M28 hM28 h
          replace h := hQ13 _ _ h
          exact ih _ _ _ hM28 (lq_l h)
        obtain ⟨k14, Q14, hQ14, hk14, h⟩ := jn0_ed h
        have J14 : Q14 () → fr 1099511627776 [(39, 5)] M r := by
          intro  h
          replace h := hQ14  h
          obtain ⟨g57, h⟩ := ed_gd h
          obtain ⟨Q23, hQ23, h⟩ := bd1_ed h
          obtain ⟨M23, e23, h⟩ := h
          replace h := hQ23 _ h
          obtain ⟨Q24, hQ24, h⟩ := bd1_ed h
          obtain ⟨x24, e24, h⟩ := h
          replace h := hQ24 _ h
          obtain ⟨g88, h⟩ := ed_gd h
          obtain ⟨Q25, hQ25, h⟩ := bd1_ed h
          obtain ⟨M25, e25, h⟩ := h
          replace h := hQ25 _ h
          obtain ⟨Q26, hQ26, h⟩ := bd1_ed h
          obtain ⟨M26, e26, h⟩ := h
          replace h := hQ26 _ h
          exact J13 _ _ (fr_tr (fr_mono (by decide) (by decide +kernel) (f_HSegments_writeBytes_fr e26)) (fr_tr (fr_mono (by decide) (by decide +kernel) (f_HSegments_put_fr e25)) (fr_tr (fr_mono (by decide) (by decide +kernel) (f_HSegments_put_fr e23)) hM12))) (ed_some h)
        by_cases q31 : x11 = p2
        · replace h := ed_pos q31 h
          exact J14  (hk14  h)
        · replace h := ed_neg q31 h
          obtain ⟨g40, h⟩ := ed_gd h
          obtain ⟨g47, h⟩ := ed_gd h
          by_cases q48 : (im_i M12 42 (Int32.toNatClampNeg x11)) = (im_i M12 42 (Int32.toNatClampNeg x10))
          · replace h := ed_pos q48 h
            exact J13 _ _ hM12 (ed_some h)
          · replace h := ed_neg q48 h
            exact J14  (hk14  h)
  exact I2 n2 _ _ _ (fr_F (by decide) (fr_tr (fr_mono (by decide) (by decide +kernel) (f_Arrays_fill3_fr e1)) fr_refl)) hn2
noncomputable def f_HSegments_pack_L6 (v2 : Int32) (v3 : Int32) (v4 : Int32) (x5 : Int32) (x6 : Int32) (M7 : im_M) : Option ((Int32 × Int32 × im_M) ⊕ ((im_M) ⊕ (Int32 × im_M))) := if 40 < x6 then some (.inr (.inl M7)) else bd2 (jn0 (fun (_ : Unit) => bd1 (f_HSegments_groupOf x6 M7) fun (x18 : Int32) => bd2 (f_HSegments_plan v2 v3 x18 M7) fun (x19 : Int32) (M19 : im_M) => some (x19, M19)) fun k9 => if x6 = 1 then k9 () else bd1 (f_HSegments_groupOf x6 M7) fun (x10 : Int32) => bd1 (f_HSegments_groupOf (x6 - 1) M7) fun (x11 : Int32) => if x10 = x11 then some (x5, M7) else k9 ()) fun (y20 : Int32) (M21 : im_M) => bd1 (f_HBlocks_holds x6 v4 M21) fun (x29 : Int32) => if ((8 : Int32) * x29) < y20 then some (.inl (y20, (x6 + 1), M21)) else bd1 (f_HBlocks_holds x6 v4 M21) fun (x30 : Int32) => bd1 (f_HSegments_write v2 v3 x6 x30 M21) fun (M31 : im_M) => some (.inr (.inr (x6, M31)))
noncomputable def f_HSegments_pack (p1 : Int32) (p2 : Int32) (p3 : Int32) (M : im_M) : Option (Int32 × im_M) := bs1 (lp (uc3 (f_HSegments_pack_L6 p1 p2 p3)) (0, 1, M)) (fun (M32 : im_M) => some (0, M32)) (fun t => some t)
theorem J_HSegments_pack_d0 : decode J_HSegments_pack.2.1 0 = .ok (.iconst 0, 1) := by decide +kernel
theorem J_HSegments_pack_d1 : decode J_HSegments_pack.2.1 1 = .ok (.istore 5, 2) := by decide +kernel
theorem J_HSegments_pack_d3 : decode J_HSegments_pack.2.1 3 = .ok (.iconst 1, 1) := by decide +kernel
theorem J_HSegments_pack_d4 : decode J_HSegments_pack.2.1 4 = .ok (.istore 6, 2) := by decide +kernel
theorem J_HSegments_pack_d6 : decode J_HSegments_pack.2.1 6 = .ok (.iload 6, 2) := by decide +kernel
theorem J_HSegments_pack_d8 : decode J_HSegments_pack.2.1 8 = .ok (.bipush 40, 2) := by decide +kernel
theorem J_HSegments_pack_d10 : decode J_HSegments_pack.2.1 10 = .ok (.if_icmp .gt 78, 3) := by decide +kernel
theorem J_HSegments_pack_d13 : decode J_HSegments_pack.2.1 13 = .ok (.iload 6, 2) := by decide +kernel
theorem J_HSegments_pack_d15 : decode J_HSegments_pack.2.1 15 = .ok (.iconst 1, 1) := by decide +kernel
theorem J_HSegments_pack_d16 : decode J_HSegments_pack.2.1 16 = .ok (.if_icmp .eq 18, 3) := by decide +kernel
theorem J_HSegments_pack_d19 : decode J_HSegments_pack.2.1 19 = .ok (.iload 6, 2) := by decide +kernel
theorem J_HSegments_pack_d21 : decode J_HSegments_pack.2.1 21 = .ok (.invokestatic 24, 3) := by decide +kernel
theorem J_HSegments_pack_d24 : decode J_HSegments_pack.2.1 24 = .ok (.iload 6, 2) := by decide +kernel
theorem J_HSegments_pack_d26 : decode J_HSegments_pack.2.1 26 = .ok (.iconst 1, 1) := by decide +kernel
theorem J_HSegments_pack_d27 : decode J_HSegments_pack.2.1 27 = .ok (.isub, 1) := by decide +kernel
theorem J_HSegments_pack_d28 : decode J_HSegments_pack.2.1 28 = .ok (.invokestatic 24, 3) := by decide +kernel
theorem J_HSegments_pack_d31 : decode J_HSegments_pack.2.1 31 = .ok (.if_icmp .eq 17, 3) := by decide +kernel
theorem J_HSegments_pack_d34 : decode J_HSegments_pack.2.1 34 = .ok (.aload_n 0, 1) := by decide +kernel
theorem J_HSegments_pack_d35 : decode J_HSegments_pack.2.1 35 = .ok (.aload_n 1, 1) := by decide +kernel
theorem J_HSegments_pack_d36 : decode J_HSegments_pack.2.1 36 = .ok (.iload_n 2, 1) := by decide +kernel
theorem J_HSegments_pack_d37 : decode J_HSegments_pack.2.1 37 = .ok (.iload_n 3, 1) := by decide +kernel
theorem J_HSegments_pack_d38 : decode J_HSegments_pack.2.1 38 = .ok (.iload 6, 2) := by decide +kernel
theorem J_HSegments_pack_d40 : decode J_HSegments_pack.2.1 40 = .ok (.invokestatic 24, 3) := by decide +kernel
theorem J_HSegments_pack_d43 : decode J_HSegments_pack.2.1 43 = .ok (.invokevirtual 28, 3) := by decide +kernel
theorem J_HSegments_pack_d46 : decode J_HSegments_pack.2.1 46 = .ok (.istore 5, 2) := by decide +kernel
theorem J_HSegments_pack_d48 : decode J_HSegments_pack.2.1 48 = .ok (.iload 5, 2) := by decide +kernel
theorem J_HSegments_pack_d50 : decode J_HSegments_pack.2.1 50 = .ok (.bipush 8, 2) := by decide +kernel
theorem J_HSegments_pack_d52 : decode J_HSegments_pack.2.1 52 = .ok (.iload 6, 2) := by decide +kernel
theorem J_HSegments_pack_d54 : decode J_HSegments_pack.2.1 54 = .ok (.iload 4, 2) := by decide +kernel
theorem J_HSegments_pack_d56 : decode J_HSegments_pack.2.1 56 = .ok (.invokestatic 32, 3) := by decide +kernel
theorem J_HSegments_pack_d59 : decode J_HSegments_pack.2.1 59 = .ok (.imul, 1) := by decide +kernel
theorem J_HSegments_pack_d60 : decode J_HSegments_pack.2.1 60 = .ok (.if_icmp .gt 22, 3) := by decide +kernel
theorem J_HSegments_pack_d63 : decode J_HSegments_pack.2.1 63 = .ok (.aload_n 0, 1) := by decide +kernel
theorem J_HSegments_pack_d64 : decode J_HSegments_pack.2.1 64 = .ok (.aload_n 1, 1) := by decide +kernel
theorem J_HSegments_pack_d65 : decode J_HSegments_pack.2.1 65 = .ok (.iload_n 2, 1) := by decide +kernel
theorem J_HSegments_pack_d66 : decode J_HSegments_pack.2.1 66 = .ok (.iload_n 3, 1) := by decide +kernel
theorem J_HSegments_pack_d67 : decode J_HSegments_pack.2.1 67 = .ok (.iload 6, 2) := by decide +kernel
theorem J_HSegments_pack_d69 : decode J_HSegments_pack.2.1 69 = .ok (.iload 6, 2) := by decide +kernel
theorem J_HSegments_pack_d71 : decode J_HSegments_pack.2.1 71 = .ok (.iload 4, 2) := by decide +kernel
theorem J_HSegments_pack_d73 : decode J_HSegments_pack.2.1 73 = .ok (.invokestatic 32, 3) := by decide +kernel
theorem J_HSegments_pack_d76 : decode J_HSegments_pack.2.1 76 = .ok (.invokevirtual 38, 3) := by decide +kernel
theorem J_HSegments_pack_d79 : decode J_HSegments_pack.2.1 79 = .ok (.iload 6, 2) := by decide +kernel
theorem J_HSegments_pack_d81 : decode J_HSegments_pack.2.1 81 = .ok (.ireturn, 1) := by decide +kernel
theorem J_HSegments_pack_d82 : decode J_HSegments_pack.2.1 82 = .ok (.iinc 6 1, 3) := by decide +kernel
theorem J_HSegments_pack_d85 : decode J_HSegments_pack.2.1 85 = .ok (.goto (-79), 3) := by decide +kernel
theorem J_HSegments_pack_d88 : decode J_HSegments_pack.2.1 88 = .ok (.iconst 0, 1) := by decide +kernel
theorem J_HSegments_pack_d89 : decode J_HSegments_pack.2.1 89 = .ok (.ireturn, 1) := by decide +kernel
theorem f_HSegments_pack_ok {L : Nat} {xs : Nat → Int32} {dep : Nat} {w : Bool} {p1 : Int32} {p2 : Int32} {p3 : Int32} {M : im_M} {Q : Int32 × im_M → Prop} (hM : lw_S w M) (h : ed (f_HSegments_pack p1 p2 p3 M) Q) : ia (tb_G L xs) (dep + 7) J_HSegments_pack (rwI w Q) (0, lv_args 0 [.ref 39, .ref 14, .int p1, .int p2, .int p3], [], M) := by
  have hS : im_St (tb_G L xs) (dep + 7) J_HSegments_pack (ia (tb_G L xs) (dep + 7) J_HSegments_pack (rwI w Q)) := ia_St
  unfold f_HSegments_pack at h
  have l0 : im_lk (lv_args 0 [.ref 39, .ref 14, .int p1, .int p2, .int p3]) 0 = some (.ref 39) := rfl
  have l1 : im_lk (lv_args 0 [.ref 39, .ref 14, .int p1, .int p2, .int p3]) 1 = some (.ref 14) := rfl
  have l2 : im_lk (lv_args 0 [.ref 39, .ref 14, .int p1, .int p2, .int p3]) 2 = some (.int p1) := rfl
  have l3 : im_lk (lv_args 0 [.ref 39, .ref 14, .int p1, .int p2, .int p3]) 3 = some (.int p2) := rfl
  have l4 : im_lk (lv_args 0 [.ref 39, .ref 14, .int p1, .int p2, .int p3]) 4 = some (.int p3) := rfl
  refine iq_iconst hS 1 J_HSegments_pack_d0 (v := 0) (by decide +kernel) rfl ?_
  refine iq_istore hS 3 J_HSegments_pack_d1 (by decide) rfl ?_
  refine iq_iconst hS 4 J_HSegments_pack_d3 (v := 1) (by decide +kernel) rfl ?_
  refine iq_istore hS 6 J_HSegments_pack_d4 (by decide) rfl ?_
  obtain ⟨Q1, hQ1, hR1, h⟩ := bs1_ed h
  have K1 : ∀ (M2 : im_M) (L' : List (Nat × Value)), lw_S w M2 → Q1 (.inl M2) → ia (tb_G L xs) (dep + 7) J_HSegments_pack (rwI w Q) (88, L', [], M2) := by
    intro M2 L' hM2  h
    replace h := hQ1 _ h
    refine iq_iconst hS 89 J_HSegments_pack_d88 (v := 0) (by decide +kernel) rfl ?_
    exact iq_iret J_HSegments_pack_d89 rfl rfl ⟨_, rfl, hM2, ed_some h⟩
  obtain ⟨r1, hr1, hq1⟩ := h
  obtain ⟨n1, hn1⟩ := lp_n hr1
  have I1 : ∀ (n : Nat) (x3 : Int32) (x4 : Int32) (M5 : im_M) (L' : List (Nat × Value)), lw_S w M5 → im_lk L' 0 = some (.ref 39) → im_lk L' 1 = some (.ref 14) → im_lk L' 2 = some (.int p1) → im_lk L' 3 = some (.int p2) → im_lk L' 4 = some (.int p3) → im_lk L' 5 = some (.int x3) → im_lk L' 6 = some (.int x4) → lpn (uc3 (f_HSegments_pack_L6 p1 p2 p3)) n (x3, x4, M5) = some r1 → ia (tb_G L xs) (dep + 7) J_HSegments_pack (rwI w Q) (6, L', [], M5) := by
    intro n
    induction n with
    | zero => intro x3 x4 M5 L' hM5 l6 l7 l8 l9 l10 l11 l12 hn; exact (lpn_0 hn).elim
    | succ n ih =>
      intro x3 x4 M5 L' hM5 l6 l7 l8 l9 l10 l11 l12 hn
      have h := lpn_ed3 hn
      unfold f_HSegments_pack_L6 at h
      refine iq_iload hS 8 J_HSegments_pack_d6 l12 rfl ?_
      refine iq_bipush hS 10 J_HSegments_pack_d8 (v := 40) (by decide +kernel) rfl ?_
      refine iq_icmp_gt hS 13 J_HSegments_pack_d10 (t := 88) rfl (fun q10 => ?_) rfl (fun q10 => ?_)
      · replace h := ed_pos q10 h
        exact K1 _ _ hM5  (lq_r h hq1)
      · replace h := ed_neg q10 h
        refine iq_iload hS 15 J_HSegments_pack_d13 l12 rfl ?_
        refine iq_iconst hS 16 J_HSegments_pack_d15 (v := 1) (by decide +kernel) rfl ?_
        obtain ⟨Q13, hQ13, h⟩ := bd2_ed h
        have J13 : ∀ (y25 : Int32) (M26 : im_M) (L' : List (Nat × Value)), lw_S w M26 → im_lk L' 0 = some (.ref 39) → im_lk L' 1 = some (.ref 14) → im_lk L' 2 = some (.int p1) → im_lk L' 3 = some (.int p2) → im_lk L' 4 = some (.int p3) → im_lk L' 5 = some (.int y25) → im_lk L' 6 = some (.int x4) → Q13 (y25, M26) → ia (tb_G L xs) (dep + 7) J_HSegments_pack (rwI w Q) (48, L', [], M26) := by
          intro y25 M26 L' hM26 l27 l28 l29 l30 l31 l32 l33 h
          replace h := hQ13 _ _ h
          refine iq_iload hS 50 J_HSegments_pack_d48 l32 rfl ?_
          refine iq_bipush hS 52 J_HSegments_pack_d50 (v := 8) (by decide +kernel) rfl ?_
          refine iq_iload hS 54 J_HSegments_pack_d52 l33 rfl ?_
          refine iq_iload hS 56 J_HSegments_pack_d54 l31 rfl ?_
          obtain ⟨Q34, hQ34, h⟩ := bd1_ed h
          refine iq_cpI hS 59 J_HSegments_pack_d56 rfl (pr_stat (vs := [_, _]) lc_7_32 lT_139 rfl rfl (by decide) rfl (Nat.le_of_ble_eq_true rfl) (Nat.le_of_ble_eq_true rfl)) (f_HBlocks_holds_ok (dep := dep + 5) hM26 h) rfl ?_
          intro x34 h
          replace h := hQ34 _ h
          refine iq_imul hS 60 J_HSegments_pack_d59 rfl ?_
          refine iq_icmp_gt hS 63 J_HSegments_pack_d60 (t := 82) rfl (fun q60 => ?_) rfl (fun q60 => ?_)
          · replace h := ed_pos q60 h
            refine iq_iincv hS 85 J_HSegments_pack_d82 (c := 1) (by decide +kernel) l33 (by decide) rfl ?_
            refine iq_goto hS J_HSegments_pack_d85 (t := 6) rfl ?_
            exact ih _ _ _ _ hM26 (lk_1r l27 (by decide)) (lk_1r l28 (by decide)) (lk_1i l29 (by decide)) (lk_1i l30 (by decide)) (lk_1i l31 (by decide)) (lk_1i l32 (by decide)) lk_1s (lq_l h)
          · replace h := ed_neg q60 h
            refine iq_aload_n hS 64 J_HSegments_pack_d63 l27 rfl ?_
            refine iq_aload_n hS 65 J_HSegments_pack_d64 l28 rfl ?_
            refine iq_iload_n hS 66 J_HSegments_pack_d65 l29 rfl ?_
            refine iq_iload_n hS 67 J_HSegments_pack_d66 l30 rfl ?_
            refine iq_iload hS 69 J_HSegments_pack_d67 l33 rfl ?_
            refine iq_iload hS 71 J_HSegments_pack_d69 l33 rfl ?_
            refine iq_iload hS 73 J_HSegments_pack_d71 l31 rfl ?_
            obtain ⟨Q35, hQ35, h⟩ := bd1_ed h
            refine iq_cpI hS 76 J_HSegments_pack_d73 rfl (pr_stat (vs := [_, _]) lc_7_32 lT_139 rfl rfl (by decide) rfl (Nat.le_of_ble_eq_true rfl) (Nat.le_of_ble_eq_true rfl)) (f_HBlocks_holds_ok (dep := dep + 5) hM26 h) rfl ?_
            intro x35 h
            replace h := hQ35 _ h
            obtain ⟨Q36, hQ36, h⟩ := bd1_ed h
            refine iq_cwV hS 79 J_HSegments_pack_d76 rfl (pr_inst (vs := [_, _, _, _, _]) lc_7_38 lT_141 rfl rfl (by decide) (by decide) rfl (Nat.le_of_ble_eq_true rfl) (Nat.le_of_ble_eq_true rfl) (fun _ => Or.inl (pr_b (ka_39 hM26) (by decide) rfl))) (f_HSegments_write_ok (dep := dep + 1) hM26 h) rfl ?_
            intro M36 hM36 h
            replace h := hQ36 _ h
            refine iq_iload hS 81 J_HSegments_pack_d79 l33 rfl ?_
            exact iq_iret J_HSegments_pack_d81 rfl rfl ⟨_, rfl, hM36, ed_some (hR1 _ (lq_r h hq1))⟩
        obtain ⟨k14, Q14, hQ14, hk14, h⟩ := jn0_ed h
        have J14 : ∀  (L' : List (Nat × Value)), im_lk L' 0 = some (.ref 39) → im_lk L' 1 = some (.ref 14) → im_lk L' 2 = some (.int p1) → im_lk L' 3 = some (.int p2) → im_lk L' 4 = some (.int p3) → im_lk L' 6 = some (.int x4) → Q14 () → ia (tb_G L xs) (dep + 7) J_HSegments_pack (rwI w Q) (34, L', [], M5) := by
          intro  L' l17 l18 l19 l20 l21 l22 h
          replace h := hQ14  h
          refine iq_aload_n hS 35 J_HSegments_pack_d34 l17 rfl ?_
          refine iq_aload_n hS 36 J_HSegments_pack_d35 l18 rfl ?_
          refine iq_iload_n hS 37 J_HSegments_pack_d36 l19 rfl ?_
          refine iq_iload_n hS 38 J_HSegments_pack_d37 l20 rfl ?_
          refine iq_iload hS 40 J_HSegments_pack_d38 l22 rfl ?_
          obtain ⟨Q23, hQ23, h⟩ := bd1_ed h
          refine iq_cpI hS 43 J_HSegments_pack_d40 rfl (pr_stat (vs := [_]) lc_7_24 lT_134 rfl rfl (by decide) rfl (Nat.le_of_ble_eq_true rfl) (Nat.le_of_ble_eq_true rfl)) (f_HSegments_groupOf_ok (dep := dep + 6) hM5 h) rfl ?_
          intro x23 h
          replace h := hQ23 _ h
          obtain ⟨Q24, hQ24, h⟩ := bd2_ed h
          refine iq_cwI hS 46 J_HSegments_pack_d43 rfl (pr_inst (vs := [_, _, _, _]) lc_7_28 lT_135 rfl rfl (by decide) (by decide) rfl (Nat.le_of_ble_eq_true rfl) (Nat.le_of_ble_eq_true rfl) (fun _ => Or.inl (pr_b (ka_39 hM5) (by decide) rfl))) (f_HSegments_plan_ok (dep := dep + 0) hM5 h) rfl ?_
          intro x24 M24 hM24 h
          replace h := hQ24 _ _ h
          refine iq_istore hS 48 J_HSegments_pack_d46 (by decide) rfl ?_
          exact J13 _ _ _ hM24 (lk_1r l17 (by decide)) (lk_1r l18 (by decide)) (lk_1i l19 (by decide)) (lk_1i l20 (by decide)) (lk_1i l21 (by decide)) lk_1s (lk_1i l22 (by decide)) (ed_some h)
        refine iq_icmp_eq hS 19 J_HSegments_pack_d16 (t := 34) rfl (fun q16 => ?_) rfl (fun q16 => ?_)
        · replace h := ed_pos q16 h
          exact J14  _ l6 l7 l8 l9 l10 l12 (hk14  h)
        · replace h := ed_neg q16 h
          refine iq_iload hS 21 J_HSegments_pack_d19 l12 rfl ?_
          obtain ⟨Q15, hQ15, h⟩ := bd1_ed h
          refine iq_cpI hS 24 J_HSegments_pack_d21 rfl (pr_stat (vs := [_]) lc_7_24 lT_134 rfl rfl (by decide) rfl (Nat.le_of_ble_eq_true rfl) (Nat.le_of_ble_eq_true rfl)) (f_HSegments_groupOf_ok (dep := dep + 6) hM5 h) rfl ?_
          intro x15 h
          replace h := hQ15 _ h
          refine iq_iload hS 26 J_HSegments_pack_d24 l12 rfl ?_
          refine iq_iconst hS 27 J_HSegments_pack_d26 (v := 1) (by decide +kernel) rfl ?_
          refine iq_isub hS 28 J_HSegments_pack_d27 rfl ?_
          obtain ⟨Q16, hQ16, h⟩ := bd1_ed h
          refine iq_cpI hS 31 J_HSegments_pack_d28 rfl (pr_stat (vs := [_]) lc_7_24 lT_134 rfl rfl (by decide) rfl (Nat.le_of_ble_eq_true rfl) (Nat.le_of_ble_eq_true rfl)) (f_HSegments_groupOf_ok (dep := dep + 6) hM5 h) rfl ?_
          intro x16 h
          replace h := hQ16 _ h
          refine iq_icmp_eq hS 34 J_HSegments_pack_d31 (t := 48) rfl (fun q31 => ?_) rfl (fun q31 => ?_)
          · replace h := ed_pos q31 h
            exact J13 _ _ _ hM5 l6 l7 l8 l9 l10 l11 l12 (ed_some h)
          · replace h := ed_neg q31 h
            exact J14  _ l6 l7 l8 l9 l10 l12 (hk14  h)
  exact I1 n1 _ _ _ _ hM (lk_1r (lk_1r l0 (by decide)) (by decide)) (lk_1r (lk_1r l1 (by decide)) (by decide)) (lk_1i (lk_1i l2 (by decide)) (by decide)) (lk_1i (lk_1i l3 (by decide)) (by decide)) (lk_1i (lk_1i l4 (by decide)) (by decide)) (lk_1i lk_1s (by decide)) lk_1s hn1
theorem f_HSegments_pack_fr {p1 : Int32} {p2 : Int32} {p3 : Int32} {M : im_M} {r : Int32 × im_M} (h : f_HSegments_pack p1 p2 p3 M = some r) : fr 7696581394432 [(39, 5)] M r.2 := by
  replace h : ed (f_HSegments_pack p1 p2 p3 M) (fun x => x = r) := ⟨r, h, rfl⟩
  unfold f_HSegments_pack at h
  obtain ⟨Q1, hQ1, hR1, h⟩ := bs1_ed h
  have K1 : ∀ (M2 : im_M), fr 7696581394432 [(39, 5)] M M2 → Q1 (.inl M2) → fr 7696581394432 [(39, 5)] M r.2 := by
    intro M2 hM2 h
    replace h := hQ1 _ h
    exact fr_ret h hM2
  obtain ⟨r1, hr1, hq1⟩ := h
  obtain ⟨n1, hn1⟩ := lp_n hr1
  have I1 : ∀ (n : Nat) (x3 : Int32) (x4 : Int32) (M5 : im_M), fr 7696581394432 [(39, 5)] M M5 → lpn (uc3 (f_HSegments_pack_L6 p1 p2 p3)) n (x3, x4, M5) = some r1 → fr 7696581394432 [(39, 5)] M r.2 := by
    intro n
    induction n with
    | zero => intro x3 x4 M5 hM5 hn; exact (lpn_0 hn).elim
    | succ n ih =>
      intro x3 x4 M5 hM5 hn
      have h := lpn_ed3 hn
      unfold f_HSegments_pack_L6 at h
      by_cases q10 : 40 < x4
      · replace h := ed_pos q10 h
        exact K1 _ hM5 (lq_r h hq1)
      · replace h := ed_neg q10 h
        obtain ⟨Q6, hQ6, h⟩ := bd2_ed h
        have J6 : ∀ (y18 : Int32) (M19 : im_M), fr 7696581394432 [(39, 5)] M M19 → Q6 (y18, M19) → fr 7696581394432 [(39, 5)] M r.2 := by
          intro y18 M19 hM19 h
          replace h := hQ6 _ _ h
          obtain ⟨Q27, hQ27, h⟩ := bd1_ed h
          obtain ⟨x27, e27, h⟩ := h
          replace h := hQ27 _ h
          by_cases q60 : ((8 : Int32) * x27) < y18
          · replace h := ed_pos q60 h
            exact ih _ _ _ hM19 (lq_l h)
          · replace h := ed_neg q60 h
            obtain ⟨Q28, hQ28, h⟩ := bd1_ed h
            obtain ⟨x28, e28, h⟩ := h
            replace h := hQ28 _ h
            obtain ⟨Q29, hQ29, h⟩ := bd1_ed h
            obtain ⟨M29, e29, h⟩ := h
            replace h := hQ29 _ h
            exact fr_ret (hR1 _ (lq_r h hq1)) (fr_tr (fr_mono (by decide) (by decide +kernel) (f_HSegments_write_fr e29)) hM19)
        obtain ⟨k7, Q7, hQ7, hk7, h⟩ := jn0_ed h
        have J7 : Q7 () → fr 7696581394432 [(39, 5)] M r.2 := by
          intro  h
          replace h := hQ7  h
          obtain ⟨Q16, hQ16, h⟩ := bd1_ed h
          obtain ⟨x16, e16, h⟩ := h
          replace h := hQ16 _ h
          obtain ⟨Q17, hQ17, h⟩ := bd2_ed h
          obtain ⟨⟨x17, M17⟩, e17, h⟩ := h
          replace h := hQ17 _ _ h
          exact J6 _ _ (fr_tr (fr_mono (by decide) (by decide +kernel) (f_HSegments_plan_fr e17)) hM5) (ed_some h)
        by_cases q16 : x4 = 1
        · replace h := ed_pos q16 h
          exact J7  (hk7  h)
        · replace h := ed_neg q16 h
          obtain ⟨Q8, hQ8, h⟩ := bd1_ed h
          obtain ⟨x8, e8, h⟩ := h
          replace h := hQ8 _ h
          obtain ⟨Q9, hQ9, h⟩ := bd1_ed h
          obtain ⟨x9, e9, h⟩ := h
          replace h := hQ9 _ h
          by_cases q31 : x8 = x9
          · replace h := ed_pos q31 h
            exact J6 _ _ hM5 (ed_some h)
          · replace h := ed_neg q31 h
            exact J7  (hk7  h)
  exact I1 n1 _ _ _ fr_refl hn1
noncomputable def f_HBlocks_begin (p0 : Int32) (p1 : Int32) (M : im_M) : Option (im_M) := gd (inb ((((40 : Int32) * p1) + p0) - 1) 160) <| gd (inb ((((40 : Int32) * p1) + p0) - 1) 160) <| bd1 (f_HBlocks_holds p0 p1 (im_setI (im_setI M 43 11 (xa_11 ((((40 : Int32) * p1) + p0) - 1))) 43 12 (xa_12 ((((40 : Int32) * p1) + p0) - 1)))) fun (x1 : Int32) => bd1 (f_HBlocks_codewordsOf p0 (im_setI (im_setI (im_setI M 43 11 (xa_11 ((((40 : Int32) * p1) + p0) - 1))) 43 12 (xa_12 ((((40 : Int32) * p1) + p0) - 1))) 43 10 x1)) fun (x2 : Int32) => some (im_setI (im_setI (im_setI (im_setI M 43 11 (xa_11 ((((40 : Int32) * p1) + p0) - 1))) 43 12 (xa_12 ((((40 : Int32) * p1) + p0) - 1))) 43 10 x1) 43 13 x2)
theorem J_HBlocks_begin_d0 : decode J_HBlocks_begin.2.1 0 = .ok (.bipush 40, 2) := by decide +kernel
theorem J_HBlocks_begin_d2 : decode J_HBlocks_begin.2.1 2 = .ok (.iload_n 2, 1) := by decide +kernel
theorem J_HBlocks_begin_d3 : decode J_HBlocks_begin.2.1 3 = .ok (.imul, 1) := by decide +kernel
theorem J_HBlocks_begin_d4 : decode J_HBlocks_begin.2.1 4 = .ok (.iload_n 1, 1) := by decide +kernel
theorem J_HBlocks_begin_d5 : decode J_HBlocks_begin.2.1 5 = .ok (.iadd, 1) := by decide +kernel
theorem J_HBlocks_begin_d6 : decode J_HBlocks_begin.2.1 6 = .ok (.iconst 1, 1) := by decide +kernel
theorem J_HBlocks_begin_d7 : decode J_HBlocks_begin.2.1 7 = .ok (.isub, 1) := by decide +kernel
theorem J_HBlocks_begin_d8 : decode J_HBlocks_begin.2.1 8 = .ok (.istore_n 3, 1) := by decide +kernel
theorem J_HBlocks_begin_d9 : decode J_HBlocks_begin.2.1 9 = .ok (.aload_n 0, 1) := by decide +kernel
theorem J_HBlocks_begin_d10 : decode J_HBlocks_begin.2.1 10 = .ok (.getstatic 47, 3) := by decide +kernel
theorem J_HBlocks_begin_d13 : decode J_HBlocks_begin.2.1 13 = .ok (.iload_n 3, 1) := by decide +kernel
theorem J_HBlocks_begin_d14 : decode J_HBlocks_begin.2.1 14 = .ok (.iaload, 1) := by decide +kernel
theorem J_HBlocks_begin_d15 : decode J_HBlocks_begin.2.1 15 = .ok (.putfield 53, 3) := by decide +kernel
theorem J_HBlocks_begin_d18 : decode J_HBlocks_begin.2.1 18 = .ok (.aload_n 0, 1) := by decide +kernel
theorem J_HBlocks_begin_d19 : decode J_HBlocks_begin.2.1 19 = .ok (.getstatic 50, 3) := by decide +kernel
theorem J_HBlocks_begin_d22 : decode J_HBlocks_begin.2.1 22 = .ok (.iload_n 3, 1) := by decide +kernel
theorem J_HBlocks_begin_d23 : decode J_HBlocks_begin.2.1 23 = .ok (.iaload, 1) := by decide +kernel
theorem J_HBlocks_begin_d24 : decode J_HBlocks_begin.2.1 24 = .ok (.putfield 57, 3) := by decide +kernel
theorem J_HBlocks_begin_d27 : decode J_HBlocks_begin.2.1 27 = .ok (.aload_n 0, 1) := by decide +kernel
theorem J_HBlocks_begin_d28 : decode J_HBlocks_begin.2.1 28 = .ok (.iload_n 1, 1) := by decide +kernel
theorem J_HBlocks_begin_d29 : decode J_HBlocks_begin.2.1 29 = .ok (.iload_n 2, 1) := by decide +kernel
theorem J_HBlocks_begin_d30 : decode J_HBlocks_begin.2.1 30 = .ok (.invokestatic 60, 3) := by decide +kernel
theorem J_HBlocks_begin_d33 : decode J_HBlocks_begin.2.1 33 = .ok (.putfield 64, 3) := by decide +kernel
theorem J_HBlocks_begin_d36 : decode J_HBlocks_begin.2.1 36 = .ok (.aload_n 0, 1) := by decide +kernel
theorem J_HBlocks_begin_d37 : decode J_HBlocks_begin.2.1 37 = .ok (.iload_n 1, 1) := by decide +kernel
theorem J_HBlocks_begin_d38 : decode J_HBlocks_begin.2.1 38 = .ok (.invokestatic 43, 3) := by decide +kernel
theorem J_HBlocks_begin_d41 : decode J_HBlocks_begin.2.1 41 = .ok (.putfield 67, 3) := by decide +kernel
theorem J_HBlocks_begin_d44 : decode J_HBlocks_begin.2.1 44 = .ok (.return_, 1) := by decide +kernel
theorem f_HBlocks_begin_ok {L : Nat} {xs : Nat → Int32} {dep : Nat} {w : Bool} {p0 : Int32} {p1 : Int32} {M : im_M} {Q : im_M → Prop} (hM : lw_S w M) (h : ed (f_HBlocks_begin p0 p1 M) Q) : ia (tb_G L xs) (dep + 2) J_HBlocks_begin (rwV w Q) (0, lv_args 0 [.ref 43, .int p0, .int p1], [], M) := by
  have hS : im_St (tb_G L xs) (dep + 2) J_HBlocks_begin (ia (tb_G L xs) (dep + 2) J_HBlocks_begin (rwV w Q)) := ia_St
  unfold f_HBlocks_begin at h
  have l0 : im_lk (lv_args 0 [.ref 43, .int p0, .int p1]) 0 = some (.ref 43) := rfl
  have l1 : im_lk (lv_args 0 [.ref 43, .int p0, .int p1]) 1 = some (.int p0) := rfl
  have l2 : im_lk (lv_args 0 [.ref 43, .int p0, .int p1]) 2 = some (.int p1) := rfl
  refine iq_bipush hS 2 J_HBlocks_begin_d0 (v := 40) (by decide +kernel) rfl ?_
  refine iq_iload_n hS 3 J_HBlocks_begin_d2 l2 rfl ?_
  refine iq_imul hS 4 J_HBlocks_begin_d3 rfl ?_
  refine iq_iload_n hS 5 J_HBlocks_begin_d4 l1 rfl ?_
  refine iq_iadd hS 6 J_HBlocks_begin_d5 rfl ?_
  refine iq_iconst hS 7 J_HBlocks_begin_d6 (v := 1) (by decide +kernel) rfl ?_
  refine iq_isub hS 8 J_HBlocks_begin_d7 rfl ?_
  refine iq_istore_n hS 9 J_HBlocks_begin_d8 (by decide) rfl ?_
  refine iq_aload_n hS 10 J_HBlocks_begin_d9 (lk_1r l0 (by decide)) rfl ?_
  refine iq_getstatic hS 13 J_HBlocks_begin_d10 gs_1_47 rfl ?_
  refine iq_iload_n hS 14 J_HBlocks_begin_d13 lk_1s rfl ?_
  obtain ⟨g14, h⟩ := ed_gd h
  refine iq_xl_11 hS 15 J_HBlocks_begin_d14 hM g14 rfl ?_
  refine iq_putI hS 18 J_HBlocks_begin_d15 lf_1_53 (Or.inl rfl) rfl (ka_43 hM) rfl ?_
  refine iq_aload_n hS 19 J_HBlocks_begin_d18 (lk_1r l0 (by decide)) rfl ?_
  refine iq_getstatic hS 22 J_HBlocks_begin_d19 gs_1_50 rfl ?_
  refine iq_iload_n hS 23 J_HBlocks_begin_d22 lk_1s rfl ?_
  obtain ⟨g23, h⟩ := ed_gd h
  refine iq_xl_12 hS 24 J_HBlocks_begin_d23 (lw_sI hM) g23 rfl ?_
  refine iq_putI hS 27 J_HBlocks_begin_d24 lf_1_57 (Or.inl rfl) rfl (ka_43 (lw_sI hM)) rfl ?_
  refine iq_aload_n hS 28 J_HBlocks_begin_d27 (lk_1r l0 (by decide)) rfl ?_
  refine iq_iload_n hS 29 J_HBlocks_begin_d28 (lk_1i l1 (by decide)) rfl ?_
  refine iq_iload_n hS 30 J_HBlocks_begin_d29 (lk_1i l2 (by decide)) rfl ?_
  obtain ⟨Q1, hQ1, h⟩ := bd1_ed h
  refine iq_cpI hS 33 J_HBlocks_begin_d30 rfl (pr_stat (vs := [_, _]) lc_1_60 lT_139 rfl rfl (by decide) rfl (Nat.le_of_ble_eq_true rfl) (Nat.le_of_ble_eq_true rfl)) (f_HBlocks_holds_ok (dep := dep + 0) (lw_sI (lw_sI hM)) h) rfl ?_
  intro x1 h
  replace h := hQ1 _ h
  refine iq_putI hS 36 J_HBlocks_begin_d33 lf_1_64 (Or.inl rfl) rfl (ka_43 (lw_sI (lw_sI hM))) rfl ?_
  refine iq_aload_n hS 37 J_HBlocks_begin_d36 (lk_1r l0 (by decide)) rfl ?_
  refine iq_iload_n hS 38 J_HBlocks_begin_d37 (lk_1i l1 (by decide)) rfl ?_
  obtain ⟨Q2, hQ2, h⟩ := bd1_ed h
  refine iq_cpI hS 41 J_HBlocks_begin_d38 rfl (pr_stat (vs := [_]) lc_1_43 lT_140 rfl rfl (by decide) rfl (Nat.le_of_ble_eq_true rfl) (Nat.le_of_ble_eq_true rfl)) (f_HBlocks_codewordsOf_ok (dep := dep + 1) (lw_sI (lw_sI (lw_sI hM))) h) rfl ?_
  intro x2 h
  replace h := hQ2 _ h
  refine iq_putI hS 44 J_HBlocks_begin_d41 lf_1_67 (Or.inl rfl) rfl (ka_43 (lw_sI (lw_sI (lw_sI hM)))) rfl ?_
  exact iq_ret J_HBlocks_begin_d44 rfl ⟨rfl, (lw_sI (lw_sI (lw_sI (lw_sI hM)))), ed_some h⟩
theorem f_HBlocks_begin_fr {p0 : Int32} {p1 : Int32} {M : im_M} {r : im_M} (h : f_HBlocks_begin p0 p1 M = some r) : fr 0 [(43, 10), (43, 11), (43, 12), (43, 13)] M r := by
  replace h : ed (f_HBlocks_begin p0 p1 M) (fun x => x = r) := ⟨r, h, rfl⟩
  unfold f_HBlocks_begin at h
  obtain ⟨g14, h⟩ := ed_gd h
  obtain ⟨g23, h⟩ := ed_gd h
  obtain ⟨Q1, hQ1, h⟩ := bd1_ed h
  obtain ⟨x1, e1, h⟩ := h
  replace h := hQ1 _ h
  obtain ⟨Q2, hQ2, h⟩ := bd1_ed h
  obtain ⟨x2, e2, h⟩ := h
  replace h := hQ2 _ h
  exact fr_retV h (fr_F (by decide) (fr_F (by decide) (fr_F (by decide) (fr_F (by decide) fr_refl))))
noncomputable def f_Arrays_fill4_L5 (v2 : Int32) (v3 : Int32) (x4 : Int32) (M5 : im_M) : Option ((Int32 × im_M) ⊕ (im_M)) := if v3 ≤ x4 then some (.inr M5) else gd (inb x4 31) <| some (.inl ((x4 + 1), (im_setI M5 47 (Int32.toNatClampNeg x4) v2)))
noncomputable def f_Arrays_fill4 (p1 : Int32) (M : im_M) : Option (im_M) := bd1 (lp (uc2 (f_Arrays_fill4_L5 p1 31)) (0, M)) fun (M6 : im_M) => some M6
theorem J_Arrays_fill4_d0 : decode J_Arrays_fill4.2.1 0 = .ok (.iconst 0, 1) := by decide +kernel
theorem J_Arrays_fill4_d1 : decode J_Arrays_fill4.2.1 1 = .ok (.istore_n 2, 1) := by decide +kernel
theorem J_Arrays_fill4_d2 : decode J_Arrays_fill4.2.1 2 = .ok (.aload_n 0, 1) := by decide +kernel
theorem J_Arrays_fill4_d3 : decode J_Arrays_fill4.2.1 3 = .ok (.arraylength, 1) := by decide +kernel
theorem J_Arrays_fill4_d4 : decode J_Arrays_fill4.2.1 4 = .ok (.istore_n 3, 1) := by decide +kernel
theorem J_Arrays_fill4_d5 : decode J_Arrays_fill4.2.1 5 = .ok (.iload_n 2, 1) := by decide +kernel
theorem J_Arrays_fill4_d6 : decode J_Arrays_fill4.2.1 6 = .ok (.iload_n 3, 1) := by decide +kernel
theorem J_Arrays_fill4_d7 : decode J_Arrays_fill4.2.1 7 = .ok (.if_icmp .ge 13, 3) := by decide +kernel
theorem J_Arrays_fill4_d10 : decode J_Arrays_fill4.2.1 10 = .ok (.aload_n 0, 1) := by decide +kernel
theorem J_Arrays_fill4_d11 : decode J_Arrays_fill4.2.1 11 = .ok (.iload_n 2, 1) := by decide +kernel
theorem J_Arrays_fill4_d12 : decode J_Arrays_fill4.2.1 12 = .ok (.iload_n 1, 1) := by decide +kernel
theorem J_Arrays_fill4_d13 : decode J_Arrays_fill4.2.1 13 = .ok (.iastore, 1) := by decide +kernel
theorem J_Arrays_fill4_d14 : decode J_Arrays_fill4.2.1 14 = .ok (.iinc 2 1, 3) := by decide +kernel
theorem J_Arrays_fill4_d17 : decode J_Arrays_fill4.2.1 17 = .ok (.goto (-12), 3) := by decide +kernel
theorem J_Arrays_fill4_d20 : decode J_Arrays_fill4.2.1 20 = .ok (.return_, 1) := by decide +kernel
theorem f_Arrays_fill4_ok {L : Nat} {xs : Nat → Int32} {dep : Nat} {w : Bool} {p1 : Int32} {M : im_M} {Q : im_M → Prop} (hM : lw_S w M) (h : ed (f_Arrays_fill4 p1 M) Q) : ia (tb_G L xs) dep J_Arrays_fill4 (rwV w Q) (0, lv_args 0 [.ref 47, .int p1], [], M) := by
  have hS : im_St (tb_G L xs) dep J_Arrays_fill4 (ia (tb_G L xs) dep J_Arrays_fill4 (rwV w Q)) := ia_St
  unfold f_Arrays_fill4 at h
  have l0 : im_lk (lv_args 0 [.ref 47, .int p1]) 0 = some (.ref 47) := rfl
  have l1 : im_lk (lv_args 0 [.ref 47, .int p1]) 1 = some (.int p1) := rfl
  refine iq_iconst hS 1 J_Arrays_fill4_d0 (v := 0) (by decide +kernel) rfl ?_
  refine iq_istore_n hS 2 J_Arrays_fill4_d1 (by decide) rfl ?_
  refine iq_aload_n hS 3 J_Arrays_fill4_d2 (lk_1r l0 (by decide)) rfl ?_
  refine iq_alenv hS 4 J_Arrays_fill4_d3 (v := 31) (ka_47 hM) (by decide) (by decide) (kl_47 hM) (by decide +kernel) rfl ?_
  refine iq_istore_n hS 5 J_Arrays_fill4_d4 (by decide) rfl ?_
  obtain ⟨Q1, hQ1, h⟩ := bd1_ed h
  have K1 : ∀ (M2 : im_M) (L' : List (Nat × Value)), lw_S w M2 → Q1 M2 → ia (tb_G L xs) dep J_Arrays_fill4 (rwV w Q) (20, L', [], M2) := by
    intro M2 L' hM2  h
    replace h := hQ1 _ h
    exact iq_ret J_Arrays_fill4_d20 rfl ⟨rfl, hM2, ed_some h⟩
  obtain ⟨r1, hr1, hq1⟩ := h
  obtain ⟨n1, hn1⟩ := lp_n hr1
  have I1 : ∀ (n : Nat) (x3 : Int32) (M4 : im_M) (L' : List (Nat × Value)), lw_S w M4 → im_lk L' 0 = some (.ref 47) → im_lk L' 1 = some (.int p1) → im_lk L' 2 = some (.int x3) → im_lk L' 3 = some (.int 31) → lpn (uc2 (f_Arrays_fill4_L5 p1 31)) n (x3, M4) = some r1 → ia (tb_G L xs) dep J_Arrays_fill4 (rwV w Q) (5, L', [], M4) := by
    intro n
    induction n with
    | zero => intro x3 M4 L' hM4 l5 l6 l7 l8 hn; exact (lpn_0 hn).elim
    | succ n ih =>
      intro x3 M4 L' hM4 l5 l6 l7 l8 hn
      have h := lpn_ed2 hn
      unfold f_Arrays_fill4_L5 at h
      refine iq_iload_n hS 6 J_Arrays_fill4_d5 l7 rfl ?_
      refine iq_iload_n hS 7 J_Arrays_fill4_d6 l8 rfl ?_
      refine iq_icmp_ge hS 10 J_Arrays_fill4_d7 (t := 20) rfl (fun q7 => ?_) rfl (fun q7 => ?_)
      · replace h := ed_pos q7 h
        exact K1 _ _ hM4  (lq_r h hq1)
      · replace h := ed_neg q7 h
        refine iq_aload_n hS 11 J_Arrays_fill4_d10 l5 rfl ?_
        refine iq_iload_n hS 12 J_Arrays_fill4_d11 l7 rfl ?_
        refine iq_iload_n hS 13 J_Arrays_fill4_d12 l6 rfl ?_
        obtain ⟨g13, h⟩ := ed_gd h
        refine iq_iastore hS 14 J_Arrays_fill4_d13 ⟨(ka_47 hM4).1, (ka_47 hM4).2, g13.1, ix_lt (kl_47 hM4) g13.2⟩ rfl ?_
        refine iq_iincv hS 17 J_Arrays_fill4_d14 (c := 1) (by decide +kernel) l7 (by decide) rfl ?_
        refine iq_goto hS J_Arrays_fill4_d17 (t := 5) rfl ?_
        exact ih _ _ _ (lw_sI hM4) (lk_1r l5 (by decide)) (lk_1i l6 (by decide)) lk_1s (lk_1i l8 (by decide)) (lq_l h)
  exact I1 n1 _ _ _ hM (lk_1r (lk_1r l0 (by decide)) (by decide)) (lk_1i (lk_1i l1 (by decide)) (by decide)) (lk_1i lk_1s (by decide)) lk_1s hn1
theorem f_Arrays_fill4_fr {p1 : Int32} {M : im_M} {r : im_M} (h : f_Arrays_fill4 p1 M = some r) : fr 140737488355328 [] M r := by
  replace h : ed (f_Arrays_fill4 p1 M) (fun x => x = r) := ⟨r, h, rfl⟩
  unfold f_Arrays_fill4 at h
  obtain ⟨Q1, hQ1, h⟩ := bd1_ed h
  have K1 : ∀ (M2 : im_M), fr 140737488355328 [] M M2 → Q1 M2 → fr 140737488355328 [] M r := by
    intro M2 hM2 h
    replace h := hQ1 _ h
    exact fr_retV h hM2
  obtain ⟨r1, hr1, hq1⟩ := h
  obtain ⟨n1, hn1⟩ := lp_n hr1
  have I1 : ∀ (n : Nat) (x3 : Int32) (M4 : im_M), fr 140737488355328 [] M M4 → lpn (uc2 (f_Arrays_fill4_L5 p1 31)) n (x3, M4) = some r1 → fr 140737488355328 [] M r := by
    intro n
    induction n with
    | zero => intro x3 M4 hM4 hn; exact (lpn_0 hn).elim
    | succ n ih =>
      intro x3 M4 hM4 hn
      have h := lpn_ed2 hn
      unfold f_Arrays_fill4_L5 at h
      by_cases q7 : 31 ≤ x3
      · replace h := ed_pos q7 h
        exact K1 _ hM4 (lq_r h hq1)
      · replace h := ed_neg q7 h
        obtain ⟨g13, h⟩ := ed_gd h
        exact ih _ _ (fr_I (by decide) hM4) (lq_l h)
  exact I1 n1 _ _ fr_refl hn1
noncomputable def f_HBlocks_times (p0 : Int32) (p1 : Int32) (M : im_M) : Option (Int32) := jn0 (fun (_ : Unit) => some 0) fun k1 => if p0 = 0 then k1 () else if ¬ p1 = 0 then gd (inb p0 256) <| gd (inb p1 256) <| gd (inb ((im_i M 46 (Int32.toNatClampNeg p0)) + (im_i M 46 (Int32.toNatClampNeg p1))) 510) <| some (im_i M 45 (Int32.toNatClampNeg ((im_i M 46 (Int32.toNatClampNeg p0)) + (im_i M 46 (Int32.toNatClampNeg p1))))) else k1 ()
theorem J_HBlocks_times_d0 : decode J_HBlocks_times.2.1 0 = .ok (.iload_n 1, 1) := by decide +kernel
theorem J_HBlocks_times_d1 : decode J_HBlocks_times.2.1 1 = .ok (.ifCond .eq 7, 3) := by decide +kernel
theorem J_HBlocks_times_d4 : decode J_HBlocks_times.2.1 4 = .ok (.iload_n 2, 1) := by decide +kernel
theorem J_HBlocks_times_d5 : decode J_HBlocks_times.2.1 5 = .ok (.ifCond .ne 7, 3) := by decide +kernel
theorem J_HBlocks_times_d8 : decode J_HBlocks_times.2.1 8 = .ok (.iconst 0, 1) := by decide +kernel
theorem J_HBlocks_times_d9 : decode J_HBlocks_times.2.1 9 = .ok (.goto 21, 3) := by decide +kernel
theorem J_HBlocks_times_d12 : decode J_HBlocks_times.2.1 12 = .ok (.aload_n 0, 1) := by decide +kernel
theorem J_HBlocks_times_d13 : decode J_HBlocks_times.2.1 13 = .ok (.getfield 15, 3) := by decide +kernel
theorem J_HBlocks_times_d16 : decode J_HBlocks_times.2.1 16 = .ok (.aload_n 0, 1) := by decide +kernel
theorem J_HBlocks_times_d17 : decode J_HBlocks_times.2.1 17 = .ok (.getfield 19, 3) := by decide +kernel
theorem J_HBlocks_times_d20 : decode J_HBlocks_times.2.1 20 = .ok (.iload_n 1, 1) := by decide +kernel
theorem J_HBlocks_times_d21 : decode J_HBlocks_times.2.1 21 = .ok (.iaload, 1) := by decide +kernel
theorem J_HBlocks_times_d22 : decode J_HBlocks_times.2.1 22 = .ok (.aload_n 0, 1) := by decide +kernel
theorem J_HBlocks_times_d23 : decode J_HBlocks_times.2.1 23 = .ok (.getfield 19, 3) := by decide +kernel
theorem J_HBlocks_times_d26 : decode J_HBlocks_times.2.1 26 = .ok (.iload_n 2, 1) := by decide +kernel
theorem J_HBlocks_times_d27 : decode J_HBlocks_times.2.1 27 = .ok (.iaload, 1) := by decide +kernel
theorem J_HBlocks_times_d28 : decode J_HBlocks_times.2.1 28 = .ok (.iadd, 1) := by decide +kernel
theorem J_HBlocks_times_d29 : decode J_HBlocks_times.2.1 29 = .ok (.iaload, 1) := by decide +kernel
theorem J_HBlocks_times_d30 : decode J_HBlocks_times.2.1 30 = .ok (.ireturn, 1) := by decide +kernel
theorem f_HBlocks_times_ok {L : Nat} {xs : Nat → Int32} {dep : Nat} {w : Bool} {p0 : Int32} {p1 : Int32} {M : im_M} {Q : Int32 → Prop} (hM : lw_S w M) (h : ed (f_HBlocks_times p0 p1 M) Q) : ia (tb_G L xs) dep J_HBlocks_times (rpI M Q) (0, lv_args 0 [.ref 43, .int p0, .int p1], [], M) := by
  have hS : im_St (tb_G L xs) dep J_HBlocks_times (ia (tb_G L xs) dep J_HBlocks_times (rpI M Q)) := ia_St
  unfold f_HBlocks_times at h
  have l0 : im_lk (lv_args 0 [.ref 43, .int p0, .int p1]) 0 = some (.ref 43) := rfl
  have l1 : im_lk (lv_args 0 [.ref 43, .int p0, .int p1]) 1 = some (.int p0) := rfl
  have l2 : im_lk (lv_args 0 [.ref 43, .int p0, .int p1]) 2 = some (.int p1) := rfl
  refine iq_iload_n hS 1 J_HBlocks_times_d0 l1 rfl ?_
  obtain ⟨k1, Q1, hQ1, hk1, h⟩ := jn0_ed h
  have J1 : ∀  (L' : List (Nat × Value)), Q1 () → ia (tb_G L xs) dep J_HBlocks_times (rpI M Q) (8, L', [], M) := by
    intro  L'  h
    replace h := hQ1  h
    refine iq_iconst hS 9 J_HBlocks_times_d8 (v := 0) (by decide +kernel) rfl ?_
    refine iq_goto hS J_HBlocks_times_d9 (t := 30) rfl ?_
    exact iq_iret J_HBlocks_times_d30 rfl rfl ⟨_, rfl, rfl, ed_some h⟩
  refine iq_if_eq hS 4 J_HBlocks_times_d1 (t := 8) rfl (fun q1 => ?_) rfl (fun q1 => ?_)
  · replace h := ed_pos q1 h
    exact J1  _  (hk1  h)
  · replace h := ed_neg q1 h
    refine iq_iload_n hS 5 J_HBlocks_times_d4 l2 rfl ?_
    refine iq_if_ne hS 8 J_HBlocks_times_d5 (t := 12) rfl (fun q5 => ?_) rfl (fun q5 => ?_)
    · replace h := ed_pos q5 h
      refine iq_aload_n hS 13 J_HBlocks_times_d12 l0 rfl ?_
      refine iq_getR hS 16 J_HBlocks_times_d13 lf_1_15 (Or.inr ⟨_, rfl⟩) (ka_43 hM) (ra_43_1 hM) rfl ?_
      refine iq_aload_n hS 17 J_HBlocks_times_d16 l0 rfl ?_
      refine iq_getR hS 20 J_HBlocks_times_d17 lf_1_19 (Or.inr ⟨_, rfl⟩) (ka_43 hM) (ra_43_2 hM) rfl ?_
      refine iq_iload_n hS 21 J_HBlocks_times_d20 l1 rfl ?_
      obtain ⟨g21, h⟩ := ed_gd h
      refine iq_iaload hS 22 J_HBlocks_times_d21 ⟨(ka_46 hM).1, (ka_46 hM).2, g21.1, ix_lt (kl_46 hM) g21.2⟩ rfl ?_
      refine iq_aload_n hS 23 J_HBlocks_times_d22 l0 rfl ?_
      refine iq_getR hS 26 J_HBlocks_times_d23 lf_1_19 (Or.inr ⟨_, rfl⟩) (ka_43 hM) (ra_43_2 hM) rfl ?_
      refine iq_iload_n hS 27 J_HBlocks_times_d26 l2 rfl ?_
      obtain ⟨g27, h⟩ := ed_gd h
      refine iq_iaload hS 28 J_HBlocks_times_d27 ⟨(ka_46 hM).1, (ka_46 hM).2, g27.1, ix_lt (kl_46 hM) g27.2⟩ rfl ?_
      refine iq_iadd hS 29 J_HBlocks_times_d28 rfl ?_
      obtain ⟨g29, h⟩ := ed_gd h
      refine iq_iaload hS 30 J_HBlocks_times_d29 ⟨(ka_45 hM).1, (ka_45 hM).2, g29.1, ix_lt (kl_45 hM) g29.2⟩ rfl ?_
      exact iq_iret J_HBlocks_times_d30 rfl rfl ⟨_, rfl, rfl, ed_some h⟩
    · replace h := ed_neg q5 h
      exact J1  _  (hk1  h)
noncomputable def f_HBlocks_makeGenerator_L29 (v6 : Int32) (x7 : Int32) (M8 : im_M) : Option ((Int32 × im_M) ⊕ (im_M)) := if x7 ≤ 0 then some (.inr M8) else gd (inb x7 31) <| gd (inb (x7 - 1) 31) <| gd (inb v6 510) <| bd1 (f_HBlocks_times (im_i M8 47 (Int32.toNatClampNeg (x7 - 1))) (im_i M8 45 (Int32.toNatClampNeg v6)) M8) fun (x9 : Int32) => gd (inb x7 31) <| some (.inl ((x7 + (-1)), (im_setI M8 47 (Int32.toNatClampNeg x7) ((im_i M8 47 (Int32.toNatClampNeg x7)) ^^^ x9))))
noncomputable def f_HBlocks_makeGenerator_L17 (x3 : Int32) (M4 : im_M) : Option ((Int32 × im_M) ⊕ (im_M)) := if (im_i M4 43 12) ≤ x3 then some (.inr M4) else bd1 (lp (uc2 (f_HBlocks_makeGenerator_L29 x3)) ((x3 + 1), M4)) fun (M10 : im_M) => some (.inl ((x3 + 1), M10))
noncomputable def f_HBlocks_makeGenerator (M : im_M) : Option (im_M) := bd1 (f_Arrays_fill4 0 M) fun (M1 : im_M) => gd (inb 0 31) <| bd1 (lp (uc2 (f_HBlocks_makeGenerator_L17)) (0, (im_setI M1 47 (Int32.toNatClampNeg 0) 1))) fun (M11 : im_M) => some M11
theorem J_HBlocks_makeGenerator_d0 : decode J_HBlocks_makeGenerator.2.1 0 = .ok (.aload_n 0, 1) := by decide +kernel
theorem J_HBlocks_makeGenerator_d1 : decode J_HBlocks_makeGenerator.2.1 1 = .ok (.getfield 22, 3) := by decide +kernel
theorem J_HBlocks_makeGenerator_d4 : decode J_HBlocks_makeGenerator.2.1 4 = .ok (.iconst 0, 1) := by decide +kernel
theorem J_HBlocks_makeGenerator_d5 : decode J_HBlocks_makeGenerator.2.1 5 = .ok (.invokestatic 87, 3) := by decide +kernel
theorem J_HBlocks_makeGenerator_d8 : decode J_HBlocks_makeGenerator.2.1 8 = .ok (.aload_n 0, 1) := by decide +kernel
theorem J_HBlocks_makeGenerator_d9 : decode J_HBlocks_makeGenerator.2.1 9 = .ok (.getfield 22, 3) := by decide +kernel
theorem J_HBlocks_makeGenerator_d12 : decode J_HBlocks_makeGenerator.2.1 12 = .ok (.iconst 0, 1) := by decide +kernel
theorem J_HBlocks_makeGenerator_d13 : decode J_HBlocks_makeGenerator.2.1 13 = .ok (.iconst 1, 1) := by decide +kernel
theorem J_HBlocks_makeGenerator_d14 : decode J_HBlocks_makeGenerator.2.1 14 = .ok (.iastore, 1) := by decide +kernel
theorem J_HBlocks_makeGenerator_d15 : decode J_HBlocks_makeGenerator.2.1 15 = .ok (.iconst 0, 1) := by decide +kernel
theorem J_HBlocks_makeGenerator_d16 : decode J_HBlocks_makeGenerator.2.1 16 = .ok (.istore_n 1, 1) := by decide +kernel
theorem J_HBlocks_makeGenerator_d17 : decode J_HBlocks_makeGenerator.2.1 17 = .ok (.iload_n 1, 1) := by decide +kernel
theorem J_HBlocks_makeGenerator_d18 : decode J_HBlocks_makeGenerator.2.1 18 = .ok (.aload_n 0, 1) := by decide +kernel
theorem J_HBlocks_makeGenerator_d19 : decode J_HBlocks_makeGenerator.2.1 19 = .ok (.getfield 57, 3) := by decide +kernel
theorem J_HBlocks_makeGenerator_d22 : decode J_HBlocks_makeGenerator.2.1 22 = .ok (.if_icmp .ge 50, 3) := by decide +kernel
theorem J_HBlocks_makeGenerator_d25 : decode J_HBlocks_makeGenerator.2.1 25 = .ok (.iload_n 1, 1) := by decide +kernel
theorem J_HBlocks_makeGenerator_d26 : decode J_HBlocks_makeGenerator.2.1 26 = .ok (.iconst 1, 1) := by decide +kernel
theorem J_HBlocks_makeGenerator_d27 : decode J_HBlocks_makeGenerator.2.1 27 = .ok (.iadd, 1) := by decide +kernel
theorem J_HBlocks_makeGenerator_d28 : decode J_HBlocks_makeGenerator.2.1 28 = .ok (.istore_n 2, 1) := by decide +kernel
theorem J_HBlocks_makeGenerator_d29 : decode J_HBlocks_makeGenerator.2.1 29 = .ok (.iload_n 2, 1) := by decide +kernel
theorem J_HBlocks_makeGenerator_d30 : decode J_HBlocks_makeGenerator.2.1 30 = .ok (.ifCond .le 36, 3) := by decide +kernel
theorem J_HBlocks_makeGenerator_d33 : decode J_HBlocks_makeGenerator.2.1 33 = .ok (.aload_n 0, 1) := by decide +kernel
theorem J_HBlocks_makeGenerator_d34 : decode J_HBlocks_makeGenerator.2.1 34 = .ok (.getfield 22, 3) := by decide +kernel
theorem J_HBlocks_makeGenerator_d37 : decode J_HBlocks_makeGenerator.2.1 37 = .ok (.iload_n 2, 1) := by decide +kernel
theorem J_HBlocks_makeGenerator_d38 : decode J_HBlocks_makeGenerator.2.1 38 = .ok (.dup2, 1) := by decide +kernel
theorem J_HBlocks_makeGenerator_d39 : decode J_HBlocks_makeGenerator.2.1 39 = .ok (.iaload, 1) := by decide +kernel
theorem J_HBlocks_makeGenerator_d40 : decode J_HBlocks_makeGenerator.2.1 40 = .ok (.aload_n 0, 1) := by decide +kernel
theorem J_HBlocks_makeGenerator_d41 : decode J_HBlocks_makeGenerator.2.1 41 = .ok (.aload_n 0, 1) := by decide +kernel
theorem J_HBlocks_makeGenerator_d42 : decode J_HBlocks_makeGenerator.2.1 42 = .ok (.getfield 22, 3) := by decide +kernel
theorem J_HBlocks_makeGenerator_d45 : decode J_HBlocks_makeGenerator.2.1 45 = .ok (.iload_n 2, 1) := by decide +kernel
theorem J_HBlocks_makeGenerator_d46 : decode J_HBlocks_makeGenerator.2.1 46 = .ok (.iconst 1, 1) := by decide +kernel
theorem J_HBlocks_makeGenerator_d47 : decode J_HBlocks_makeGenerator.2.1 47 = .ok (.isub, 1) := by decide +kernel
theorem J_HBlocks_makeGenerator_d48 : decode J_HBlocks_makeGenerator.2.1 48 = .ok (.iaload, 1) := by decide +kernel
theorem J_HBlocks_makeGenerator_d49 : decode J_HBlocks_makeGenerator.2.1 49 = .ok (.aload_n 0, 1) := by decide +kernel
theorem J_HBlocks_makeGenerator_d50 : decode J_HBlocks_makeGenerator.2.1 50 = .ok (.getfield 15, 3) := by decide +kernel
theorem J_HBlocks_makeGenerator_d53 : decode J_HBlocks_makeGenerator.2.1 53 = .ok (.iload_n 1, 1) := by decide +kernel
theorem J_HBlocks_makeGenerator_d54 : decode J_HBlocks_makeGenerator.2.1 54 = .ok (.iaload, 1) := by decide +kernel
theorem J_HBlocks_makeGenerator_d55 : decode J_HBlocks_makeGenerator.2.1 55 = .ok (.invokevirtual 93, 3) := by decide +kernel
theorem J_HBlocks_makeGenerator_d58 : decode J_HBlocks_makeGenerator.2.1 58 = .ok (.ixor, 1) := by decide +kernel
theorem J_HBlocks_makeGenerator_d59 : decode J_HBlocks_makeGenerator.2.1 59 = .ok (.iastore, 1) := by decide +kernel
theorem J_HBlocks_makeGenerator_d60 : decode J_HBlocks_makeGenerator.2.1 60 = .ok (.iinc 2 (-1), 3) := by decide +kernel
theorem J_HBlocks_makeGenerator_d63 : decode J_HBlocks_makeGenerator.2.1 63 = .ok (.goto (-34), 3) := by decide +kernel
theorem J_HBlocks_makeGenerator_d66 : decode J_HBlocks_makeGenerator.2.1 66 = .ok (.iinc 1 1, 3) := by decide +kernel
theorem J_HBlocks_makeGenerator_d69 : decode J_HBlocks_makeGenerator.2.1 69 = .ok (.goto (-52), 3) := by decide +kernel
theorem J_HBlocks_makeGenerator_d72 : decode J_HBlocks_makeGenerator.2.1 72 = .ok (.return_, 1) := by decide +kernel
theorem f_HBlocks_makeGenerator_ok {L : Nat} {xs : Nat → Int32} {dep : Nat} {w : Bool} {M : im_M} {Q : im_M → Prop} (hM : lw_S w M) (h : ed (f_HBlocks_makeGenerator M) Q) : ia (tb_G L xs) (dep + 1) J_HBlocks_makeGenerator (rwV w Q) (0, lv_args 0 [.ref 43], [], M) := by
  have hS : im_St (tb_G L xs) (dep + 1) J_HBlocks_makeGenerator (ia (tb_G L xs) (dep + 1) J_HBlocks_makeGenerator (rwV w Q)) := ia_St
  unfold f_HBlocks_makeGenerator at h
  have l0 : im_lk (lv_args 0 [.ref 43]) 0 = some (.ref 43) := rfl
  refine iq_aload_n hS 1 J_HBlocks_makeGenerator_d0 l0 rfl ?_
  refine iq_getR hS 4 J_HBlocks_makeGenerator_d1 lf_1_22 (Or.inr ⟨_, rfl⟩) (ka_43 hM) (ra_43_3 hM) rfl ?_
  refine iq_iconst hS 5 J_HBlocks_makeGenerator_d4 (v := 0) (by decide +kernel) rfl ?_
  obtain ⟨Q1, hQ1, h⟩ := bd1_ed h
  refine iq_cwV hS 8 J_HBlocks_makeGenerator_d5 rfl (pr_stat (vs := [_, _]) lc_1_87 lT_150 rfl rfl (by decide) rfl (Nat.le_of_ble_eq_true rfl) (Nat.le_of_ble_eq_true rfl)) (f_Arrays_fill4_ok (dep := dep + 0) hM h) rfl ?_
  intro M1 hM1 h
  replace h := hQ1 _ h
  refine iq_aload_n hS 9 J_HBlocks_makeGenerator_d8 l0 rfl ?_
  refine iq_getR hS 12 J_HBlocks_makeGenerator_d9 lf_1_22 (Or.inr ⟨_, rfl⟩) (ka_43 hM1) (ra_43_3 hM1) rfl ?_
  refine iq_iconst hS 13 J_HBlocks_makeGenerator_d12 (v := 0) (by decide +kernel) rfl ?_
  refine iq_iconst hS 14 J_HBlocks_makeGenerator_d13 (v := 1) (by decide +kernel) rfl ?_
  obtain ⟨g14, h⟩ := ed_gd h
  refine iq_iastore hS 15 J_HBlocks_makeGenerator_d14 ⟨(ka_47 hM1).1, (ka_47 hM1).2, g14.1, ix_lt (kl_47 hM1) g14.2⟩ rfl ?_
  refine iq_iconst hS 16 J_HBlocks_makeGenerator_d15 (v := 0) (by decide +kernel) rfl ?_
  refine iq_istore_n hS 17 J_HBlocks_makeGenerator_d16 (by decide) rfl ?_
  obtain ⟨Q2, hQ2, h⟩ := bd1_ed h
  have K2 : ∀ (M3 : im_M) (L' : List (Nat × Value)), lw_S w M3 → Q2 M3 → ia (tb_G L xs) (dep + 1) J_HBlocks_makeGenerator (rwV w Q) (72, L', [], M3) := by
    intro M3 L' hM3  h
    replace h := hQ2 _ h
    exact iq_ret J_HBlocks_makeGenerator_d72 rfl ⟨rfl, hM3, ed_some h⟩
  obtain ⟨r2, hr2, hq2⟩ := h
  obtain ⟨n2, hn2⟩ := lp_n hr2
  have I2 : ∀ (n : Nat) (x4 : Int32) (M5 : im_M) (L' : List (Nat × Value)), lw_S w M5 → im_lk L' 0 = some (.ref 43) → im_lk L' 1 = some (.int x4) → lpn (uc2 (f_HBlocks_makeGenerator_L17)) n (x4, M5) = some r2 → ia (tb_G L xs) (dep + 1) J_HBlocks_makeGenerator (rwV w Q) (17, L', [], M5) := by
    intro n
    induction n with
    | zero => intro x4 M5 L' hM5 l6 l7 hn; exact (lpn_0 hn).elim
    | succ n ih =>
      intro x4 M5 L' hM5 l6 l7 hn
      have h := lpn_ed2 hn
      unfold f_HBlocks_makeGenerator_L17 at h
      refine iq_iload_n hS 18 J_HBlocks_makeGenerator_d17 l7 rfl ?_
      refine iq_aload_n hS 19 J_HBlocks_makeGenerator_d18 l6 rfl ?_
      refine iq_getI hS 22 J_HBlocks_makeGenerator_d19 lf_1_57 (Or.inl rfl) (ka_43 hM5) rfl ?_
      refine iq_icmp_ge hS 25 J_HBlocks_makeGenerator_d22 (t := 72) rfl (fun q22 => ?_) rfl (fun q22 => ?_)
      · replace h := ed_pos q22 h
        exact K2 _ _ hM5  (lq_r h hq2)
      · replace h := ed_neg q22 h
        refine iq_iload_n hS 26 J_HBlocks_makeGenerator_d25 l7 rfl ?_
        refine iq_iconst hS 27 J_HBlocks_makeGenerator_d26 (v := 1) (by decide +kernel) rfl ?_
        refine iq_iadd hS 28 J_HBlocks_makeGenerator_d27 rfl ?_
        refine iq_istore_n hS 29 J_HBlocks_makeGenerator_d28 (by decide) rfl ?_
        obtain ⟨Q8, hQ8, h⟩ := bd1_ed h
        have K8 : ∀ (M9 : im_M) (L' : List (Nat × Value)), lw_S w M9 → im_lk L' 0 = some (.ref 43) → im_lk L' 1 = some (.int x4) → Q8 M9 → ia (tb_G L xs) (dep + 1) J_HBlocks_makeGenerator (rwV w Q) (66, L', [], M9) := by
          intro M9 L' hM9 l10 l11 h
          replace h := hQ8 _ h
          refine iq_iincv hS 69 J_HBlocks_makeGenerator_d66 (c := 1) (by decide +kernel) l11 (by decide) rfl ?_
          refine iq_goto hS J_HBlocks_makeGenerator_d69 (t := 17) rfl ?_
          exact ih _ _ _ hM9 (lk_1r l10 (by decide)) lk_1s (lq_l h)
        obtain ⟨r8, hr8, hq8⟩ := h
        obtain ⟨n8, hn8⟩ := lp_n hr8
        have I8 : ∀ (n : Nat) (x12 : Int32) (M13 : im_M) (L' : List (Nat × Value)), lw_S w M13 → im_lk L' 0 = some (.ref 43) → im_lk L' 1 = some (.int x4) → im_lk L' 2 = some (.int x12) → lpn (uc2 (f_HBlocks_makeGenerator_L29 x4)) n (x12, M13) = some r8 → ia (tb_G L xs) (dep + 1) J_HBlocks_makeGenerator (rwV w Q) (29, L', [], M13) := by
          intro n
          induction n with
          | zero => intro x12 M13 L' hM13 l14 l15 l16 hn; exact (lpn_0 hn).elim
          | succ n ih =>
            intro x12 M13 L' hM13 l14 l15 l16 hn
            have h := lpn_ed2 hn
            unfold f_HBlocks_makeGenerator_L29 at h
            refine iq_iload_n hS 30 J_HBlocks_makeGenerator_d29 l16 rfl ?_
            refine iq_if_le hS 33 J_HBlocks_makeGenerator_d30 (t := 66) rfl (fun q30 => ?_) rfl (fun q30 => ?_)
            · replace h := ed_pos q30 h
              exact K8 _ _ hM13 l14 l15 (lq_r h hq8)
            · replace h := ed_neg q30 h
              refine iq_aload_n hS 34 J_HBlocks_makeGenerator_d33 l14 rfl ?_
              refine iq_getR hS 37 J_HBlocks_makeGenerator_d34 lf_1_22 (Or.inr ⟨_, rfl⟩) (ka_43 hM13) (ra_43_3 hM13) rfl ?_
              refine iq_iload_n hS 38 J_HBlocks_makeGenerator_d37 l16 rfl ?_
              refine iq_dup2 hS 39 J_HBlocks_makeGenerator_d38 rfl rfl rfl ?_
              obtain ⟨g39, h⟩ := ed_gd h
              refine iq_iaload hS 40 J_HBlocks_makeGenerator_d39 ⟨(ka_47 hM13).1, (ka_47 hM13).2, g39.1, ix_lt (kl_47 hM13) g39.2⟩ rfl ?_
              refine iq_aload_n hS 41 J_HBlocks_makeGenerator_d40 l14 rfl ?_
              refine iq_aload_n hS 42 J_HBlocks_makeGenerator_d41 l14 rfl ?_
              refine iq_getR hS 45 J_HBlocks_makeGenerator_d42 lf_1_22 (Or.inr ⟨_, rfl⟩) (ka_43 hM13) (ra_43_3 hM13) rfl ?_
              refine iq_iload_n hS 46 J_HBlocks_makeGenerator_d45 l16 rfl ?_
              refine iq_iconst hS 47 J_HBlocks_makeGenerator_d46 (v := 1) (by decide +kernel) rfl ?_
              refine iq_isub hS 48 J_HBlocks_makeGenerator_d47 rfl ?_
              obtain ⟨g48, h⟩ := ed_gd h
              refine iq_iaload hS 49 J_HBlocks_makeGenerator_d48 ⟨(ka_47 hM13).1, (ka_47 hM13).2, g48.1, ix_lt (kl_47 hM13) g48.2⟩ rfl ?_
              refine iq_aload_n hS 50 J_HBlocks_makeGenerator_d49 l14 rfl ?_
              refine iq_getR hS 53 J_HBlocks_makeGenerator_d50 lf_1_15 (Or.inr ⟨_, rfl⟩) (ka_43 hM13) (ra_43_1 hM13) rfl ?_
              refine iq_iload_n hS 54 J_HBlocks_makeGenerator_d53 l15 rfl ?_
              obtain ⟨g54, h⟩ := ed_gd h
              refine iq_iaload hS 55 J_HBlocks_makeGenerator_d54 ⟨(ka_45 hM13).1, (ka_45 hM13).2, g54.1, ix_lt (kl_45 hM13) g54.2⟩ rfl ?_
              obtain ⟨Q17, hQ17, h⟩ := bd1_ed h
              refine iq_cpI hS 58 J_HBlocks_makeGenerator_d55 rfl (pr_inst (vs := [_, _]) lc_1_93 lT_151 rfl rfl (by decide) (by decide) rfl (Nat.le_of_ble_eq_true rfl) (Nat.le_of_ble_eq_true rfl) (fun _ => Or.inl (pr_b (ka_43 hM13) (by decide) rfl))) (f_HBlocks_times_ok (dep := dep + 0) hM13 h) rfl ?_
              intro x17 h
              replace h := hQ17 _ h
              refine iq_ixor hS 59 J_HBlocks_makeGenerator_d58 rfl ?_
              obtain ⟨g59, h⟩ := ed_gd h
              refine iq_iastore hS 60 J_HBlocks_makeGenerator_d59 ⟨(ka_47 hM13).1, (ka_47 hM13).2, g59.1, ix_lt (kl_47 hM13) g59.2⟩ rfl ?_
              refine iq_iincv hS 63 J_HBlocks_makeGenerator_d60 (c := (-1)) (by decide +kernel) l16 (by decide) rfl ?_
              refine iq_goto hS J_HBlocks_makeGenerator_d63 (t := 29) rfl ?_
              exact ih _ _ _ (lw_sI hM13) (lk_1r l14 (by decide)) (lk_1i l15 (by decide)) lk_1s (lq_l h)
        exact I8 n8 _ _ _ hM5 (lk_1r l6 (by decide)) (lk_1i l7 (by decide)) lk_1s hn8
  exact I2 n2 _ _ _ (lw_sI hM1) (lk_1r l0 (by decide)) lk_1s hn2
theorem f_HBlocks_makeGenerator_fr {M : im_M} {r : im_M} (h : f_HBlocks_makeGenerator M = some r) : fr 140737488355328 [] M r := by
  replace h : ed (f_HBlocks_makeGenerator M) (fun x => x = r) := ⟨r, h, rfl⟩
  unfold f_HBlocks_makeGenerator at h
  obtain ⟨Q1, hQ1, h⟩ := bd1_ed h
  obtain ⟨M1, e1, h⟩ := h
  replace h := hQ1 _ h
  obtain ⟨g14, h⟩ := ed_gd h
  obtain ⟨Q2, hQ2, h⟩ := bd1_ed h
  have K2 : ∀ (M3 : im_M), fr 140737488355328 [] M M3 → Q2 M3 → fr 140737488355328 [] M r := by
    intro M3 hM3 h
    replace h := hQ2 _ h
    exact fr_retV h hM3
  obtain ⟨r2, hr2, hq2⟩ := h
  obtain ⟨n2, hn2⟩ := lp_n hr2
  have I2 : ∀ (n : Nat) (x4 : Int32) (M5 : im_M), fr 140737488355328 [] M M5 → lpn (uc2 (f_HBlocks_makeGenerator_L17)) n (x4, M5) = some r2 → fr 140737488355328 [] M r := by
    intro n
    induction n with
    | zero => intro x4 M5 hM5 hn; exact (lpn_0 hn).elim
    | succ n ih =>
      intro x4 M5 hM5 hn
      have h := lpn_ed2 hn
      unfold f_HBlocks_makeGenerator_L17 at h
      by_cases q22 : (im_i M5 43 12) ≤ x4
      · replace h := ed_pos q22 h
        exact K2 _ hM5 (lq_r h hq2)
      · replace h := ed_neg q22 h
        obtain ⟨Q6, hQ6, h⟩ := bd1_ed h
        have K6 : ∀ (M7 : im_M), fr 140737488355328 [] M M7 → Q6 M7 → fr 140737488355328 [] M r := by
          intro M7 hM7 h
          replace h := hQ6 _ h
          exact ih _ _ hM7 (lq_l h)
        obtain ⟨r6, hr6, hq6⟩ := h
        obtain ⟨n6, hn6⟩ := lp_n hr6
        have I6 : ∀ (n : Nat) (x8 : Int32) (M9 : im_M), fr 140737488355328 [] M M9 → lpn (uc2 (f_HBlocks_makeGenerator_L29 x4)) n (x8, M9) = some r6 → fr 140737488355328 [] M r := by
          intro n
          induction n with
          | zero => intro x8 M9 hM9 hn; exact (lpn_0 hn).elim
          | succ n ih =>
            intro x8 M9 hM9 hn
            have h := lpn_ed2 hn
            unfold f_HBlocks_makeGenerator_L29 at h
            by_cases q30 : x8 ≤ 0
            · replace h := ed_pos q30 h
              exact K6 _ hM9 (lq_r h hq6)
            · replace h := ed_neg q30 h
              obtain ⟨g39, h⟩ := ed_gd h
              obtain ⟨g48, h⟩ := ed_gd h
              obtain ⟨g54, h⟩ := ed_gd h
              obtain ⟨Q10, hQ10, h⟩ := bd1_ed h
              obtain ⟨x10, e10, h⟩ := h
              replace h := hQ10 _ h
              obtain ⟨g59, h⟩ := ed_gd h
              exact ih _ _ (fr_I (by decide) hM9) (lq_l h)
        exact I6 n6 _ _ hM5 hn6
  exact I2 n2 _ _ (fr_I (by decide) (fr_tr (fr_mono (by decide) (by decide +kernel) (f_Arrays_fill4_fr e1)) fr_refl)) hn2
noncomputable def f_HBlocks_sizeOf (p0 : Int32) (M : im_M) : Option (Int32) := gd (¬ (im_i M 43 11) = (0 : Int32)) <| gd (¬ (im_i M 43 11) = (0 : Int32)) <| some (((im_i M 43 10) / (im_i M 43 11)) + ((if p0 < ((im_i M 43 11) - ((im_i M 43 10) - (im_i M 43 10) / (im_i M 43 11) * (im_i M 43 11))) then 0 else 1) : Int32))
theorem J_HBlocks_sizeOf_d0 : decode J_HBlocks_sizeOf.2.1 0 = .ok (.aload_n 0, 1) := by decide +kernel
theorem J_HBlocks_sizeOf_d1 : decode J_HBlocks_sizeOf.2.1 1 = .ok (.getfield 64, 3) := by decide +kernel
theorem J_HBlocks_sizeOf_d4 : decode J_HBlocks_sizeOf.2.1 4 = .ok (.aload_n 0, 1) := by decide +kernel
theorem J_HBlocks_sizeOf_d5 : decode J_HBlocks_sizeOf.2.1 5 = .ok (.getfield 53, 3) := by decide +kernel
theorem J_HBlocks_sizeOf_d8 : decode J_HBlocks_sizeOf.2.1 8 = .ok (.idiv, 1) := by decide +kernel
theorem J_HBlocks_sizeOf_d9 : decode J_HBlocks_sizeOf.2.1 9 = .ok (.iload_n 1, 1) := by decide +kernel
theorem J_HBlocks_sizeOf_d10 : decode J_HBlocks_sizeOf.2.1 10 = .ok (.aload_n 0, 1) := by decide +kernel
theorem J_HBlocks_sizeOf_d11 : decode J_HBlocks_sizeOf.2.1 11 = .ok (.getfield 53, 3) := by decide +kernel
theorem J_HBlocks_sizeOf_d14 : decode J_HBlocks_sizeOf.2.1 14 = .ok (.aload_n 0, 1) := by decide +kernel
theorem J_HBlocks_sizeOf_d15 : decode J_HBlocks_sizeOf.2.1 15 = .ok (.getfield 64, 3) := by decide +kernel
theorem J_HBlocks_sizeOf_d18 : decode J_HBlocks_sizeOf.2.1 18 = .ok (.aload_n 0, 1) := by decide +kernel
theorem J_HBlocks_sizeOf_d19 : decode J_HBlocks_sizeOf.2.1 19 = .ok (.getfield 53, 3) := by decide +kernel
theorem J_HBlocks_sizeOf_d22 : decode J_HBlocks_sizeOf.2.1 22 = .ok (.irem, 1) := by decide +kernel
theorem J_HBlocks_sizeOf_d23 : decode J_HBlocks_sizeOf.2.1 23 = .ok (.isub, 1) := by decide +kernel
theorem J_HBlocks_sizeOf_d24 : decode J_HBlocks_sizeOf.2.1 24 = .ok (.if_icmp .lt 7, 3) := by decide +kernel
theorem J_HBlocks_sizeOf_d27 : decode J_HBlocks_sizeOf.2.1 27 = .ok (.iconst 1, 1) := by decide +kernel
theorem J_HBlocks_sizeOf_d28 : decode J_HBlocks_sizeOf.2.1 28 = .ok (.goto 4, 3) := by decide +kernel
theorem J_HBlocks_sizeOf_d31 : decode J_HBlocks_sizeOf.2.1 31 = .ok (.iconst 0, 1) := by decide +kernel
theorem J_HBlocks_sizeOf_d32 : decode J_HBlocks_sizeOf.2.1 32 = .ok (.iadd, 1) := by decide +kernel
theorem J_HBlocks_sizeOf_d33 : decode J_HBlocks_sizeOf.2.1 33 = .ok (.ireturn, 1) := by decide +kernel
theorem f_HBlocks_sizeOf_ok {L : Nat} {xs : Nat → Int32} {dep : Nat} {w : Bool} {p0 : Int32} {M : im_M} {Q : Int32 → Prop} (hM : lw_S w M) (h : ed (f_HBlocks_sizeOf p0 M) Q) : ia (tb_G L xs) dep J_HBlocks_sizeOf (rpI M Q) (0, lv_args 0 [.ref 43, .int p0], [], M) := by
  have hS : im_St (tb_G L xs) dep J_HBlocks_sizeOf (ia (tb_G L xs) dep J_HBlocks_sizeOf (rpI M Q)) := ia_St
  unfold f_HBlocks_sizeOf at h
  have l0 : im_lk (lv_args 0 [.ref 43, .int p0]) 0 = some (.ref 43) := rfl
  have l1 : im_lk (lv_args 0 [.ref 43, .int p0]) 1 = some (.int p0) := rfl
  refine iq_aload_n hS 1 J_HBlocks_sizeOf_d0 l0 rfl ?_
  refine iq_getI hS 4 J_HBlocks_sizeOf_d1 lf_1_64 (Or.inl rfl) (ka_43 hM) rfl ?_
  refine iq_aload_n hS 5 J_HBlocks_sizeOf_d4 l0 rfl ?_
  refine iq_getI hS 8 J_HBlocks_sizeOf_d5 lf_1_53 (Or.inl rfl) (ka_43 hM) rfl ?_
  obtain ⟨g8, h⟩ := ed_gd h
  refine iq_idiv hS 9 J_HBlocks_sizeOf_d8 g8 rfl ?_
  refine iq_iload_n hS 10 J_HBlocks_sizeOf_d9 l1 rfl ?_
  refine iq_aload_n hS 11 J_HBlocks_sizeOf_d10 l0 rfl ?_
  refine iq_getI hS 14 J_HBlocks_sizeOf_d11 lf_1_53 (Or.inl rfl) (ka_43 hM) rfl ?_
  refine iq_aload_n hS 15 J_HBlocks_sizeOf_d14 l0 rfl ?_
  refine iq_getI hS 18 J_HBlocks_sizeOf_d15 lf_1_64 (Or.inl rfl) (ka_43 hM) rfl ?_
  refine iq_aload_n hS 19 J_HBlocks_sizeOf_d18 l0 rfl ?_
  refine iq_getI hS 22 J_HBlocks_sizeOf_d19 lf_1_53 (Or.inl rfl) (ka_43 hM) rfl ?_
  obtain ⟨g22, h⟩ := ed_gd h
  refine iq_irem hS 23 J_HBlocks_sizeOf_d22 g22 rfl ?_
  refine iq_isub hS 24 J_HBlocks_sizeOf_d23 rfl ?_
  have J1 : ∀ (z2 : Int32) (L' : List (Nat × Value)), z2 = ((if p0 < ((im_i M 43 11) - ((im_i M 43 10) - (im_i M 43 10) / (im_i M 43 11) * (im_i M 43 11))) then 0 else 1) : Int32) → ia (tb_G L xs) dep J_HBlocks_sizeOf (rpI M Q) (32, L', [.int z2, .int ((im_i M 43 10) / (im_i M 43 11))], M) := by
    intro z2 L' e3 
    subst e3
    refine iq_iadd hS 33 J_HBlocks_sizeOf_d32 rfl ?_
    exact iq_iret J_HBlocks_sizeOf_d33 rfl rfl ⟨_, rfl, rfl, ed_some h⟩
  refine iq_icmp_lt hS 27 J_HBlocks_sizeOf_d24 (t := 31) rfl (fun q24 => ?_) rfl (fun q24 => ?_)
  · refine iq_iconst hS 32 J_HBlocks_sizeOf_d31 (v := 0) (by decide +kernel) rfl ?_
    exact J1 _ _ (by simp only [if_pos q24]) 
  · refine iq_iconst hS 28 J_HBlocks_sizeOf_d27 (v := 1) (by decide +kernel) rfl ?_
    refine iq_goto hS J_HBlocks_sizeOf_d28 (t := 32) rfl ?_
    exact J1 _ _ (by simp only [if_neg q24]) 
noncomputable def f_HBlocks_placeOf (p0 : Int32) (p1 : Int32) (M : im_M) : Option (Int32) := bd1 (f_HBlocks_sizeOf p0 M) fun (x1 : Int32) => gd (¬ (im_i M 43 11) = (0 : Int32)) <| if p1 < x1 then if ((im_i M 43 10) / (im_i M 43 11)) ≤ p1 then gd (¬ (im_i M 43 11) = (0 : Int32)) <| some (((((im_i M 43 10) / (im_i M 43 11)) * (im_i M 43 11)) + p0) - ((im_i M 43 11) - ((im_i M 43 10) - (im_i M 43 10) / (im_i M 43 11) * (im_i M 43 11)))) else some ((p1 * (im_i M 43 11)) + p0) else some (((im_i M 43 10) + ((p1 - x1) * (im_i M 43 11))) + p0)
theorem J_HBlocks_placeOf_d0 : decode J_HBlocks_placeOf.2.1 0 = .ok (.aload_n 0, 1) := by decide +kernel
theorem J_HBlocks_placeOf_d1 : decode J_HBlocks_placeOf.2.1 1 = .ok (.iload_n 1, 1) := by decide +kernel
theorem J_HBlocks_placeOf_d2 : decode J_HBlocks_placeOf.2.1 2 = .ok (.invokevirtual 70, 3) := by decide +kernel
theorem J_HBlocks_placeOf_d5 : decode J_HBlocks_placeOf.2.1 5 = .ok (.istore_n 3, 1) := by decide +kernel
theorem J_HBlocks_placeOf_d6 : decode J_HBlocks_placeOf.2.1 6 = .ok (.aload_n 0, 1) := by decide +kernel
theorem J_HBlocks_placeOf_d7 : decode J_HBlocks_placeOf.2.1 7 = .ok (.getfield 64, 3) := by decide +kernel
theorem J_HBlocks_placeOf_d10 : decode J_HBlocks_placeOf.2.1 10 = .ok (.aload_n 0, 1) := by decide +kernel
theorem J_HBlocks_placeOf_d11 : decode J_HBlocks_placeOf.2.1 11 = .ok (.getfield 53, 3) := by decide +kernel
theorem J_HBlocks_placeOf_d14 : decode J_HBlocks_placeOf.2.1 14 = .ok (.idiv, 1) := by decide +kernel
theorem J_HBlocks_placeOf_d15 : decode J_HBlocks_placeOf.2.1 15 = .ok (.istore 4, 2) := by decide +kernel
theorem J_HBlocks_placeOf_d17 : decode J_HBlocks_placeOf.2.1 17 = .ok (.iload_n 2, 1) := by decide +kernel
theorem J_HBlocks_placeOf_d18 : decode J_HBlocks_placeOf.2.1 18 = .ok (.iload_n 3, 1) := by decide +kernel
theorem J_HBlocks_placeOf_d19 : decode J_HBlocks_placeOf.2.1 19 = .ok (.if_icmp .lt 19, 3) := by decide +kernel
theorem J_HBlocks_placeOf_d22 : decode J_HBlocks_placeOf.2.1 22 = .ok (.aload_n 0, 1) := by decide +kernel
theorem J_HBlocks_placeOf_d23 : decode J_HBlocks_placeOf.2.1 23 = .ok (.getfield 64, 3) := by decide +kernel
theorem J_HBlocks_placeOf_d26 : decode J_HBlocks_placeOf.2.1 26 = .ok (.iload_n 2, 1) := by decide +kernel
theorem J_HBlocks_placeOf_d27 : decode J_HBlocks_placeOf.2.1 27 = .ok (.iload_n 3, 1) := by decide +kernel
theorem J_HBlocks_placeOf_d28 : decode J_HBlocks_placeOf.2.1 28 = .ok (.isub, 1) := by decide +kernel
theorem J_HBlocks_placeOf_d29 : decode J_HBlocks_placeOf.2.1 29 = .ok (.aload_n 0, 1) := by decide +kernel
theorem J_HBlocks_placeOf_d30 : decode J_HBlocks_placeOf.2.1 30 = .ok (.getfield 53, 3) := by decide +kernel
theorem J_HBlocks_placeOf_d33 : decode J_HBlocks_placeOf.2.1 33 = .ok (.imul, 1) := by decide +kernel
theorem J_HBlocks_placeOf_d34 : decode J_HBlocks_placeOf.2.1 34 = .ok (.iadd, 1) := by decide +kernel
theorem J_HBlocks_placeOf_d35 : decode J_HBlocks_placeOf.2.1 35 = .ok (.iload_n 1, 1) := by decide +kernel
theorem J_HBlocks_placeOf_d36 : decode J_HBlocks_placeOf.2.1 36 = .ok (.iadd, 1) := by decide +kernel
theorem J_HBlocks_placeOf_d37 : decode J_HBlocks_placeOf.2.1 37 = .ok (.ireturn, 1) := by decide +kernel
theorem J_HBlocks_placeOf_d38 : decode J_HBlocks_placeOf.2.1 38 = .ok (.iload_n 2, 1) := by decide +kernel
theorem J_HBlocks_placeOf_d39 : decode J_HBlocks_placeOf.2.1 39 = .ok (.iload 4, 2) := by decide +kernel
theorem J_HBlocks_placeOf_d41 : decode J_HBlocks_placeOf.2.1 41 = .ok (.if_icmp .ge 14, 3) := by decide +kernel
theorem J_HBlocks_placeOf_d44 : decode J_HBlocks_placeOf.2.1 44 = .ok (.iload_n 2, 1) := by decide +kernel
theorem J_HBlocks_placeOf_d45 : decode J_HBlocks_placeOf.2.1 45 = .ok (.aload_n 0, 1) := by decide +kernel
theorem J_HBlocks_placeOf_d46 : decode J_HBlocks_placeOf.2.1 46 = .ok (.getfield 53, 3) := by decide +kernel
theorem J_HBlocks_placeOf_d49 : decode J_HBlocks_placeOf.2.1 49 = .ok (.imul, 1) := by decide +kernel
theorem J_HBlocks_placeOf_d50 : decode J_HBlocks_placeOf.2.1 50 = .ok (.iload_n 1, 1) := by decide +kernel
theorem J_HBlocks_placeOf_d51 : decode J_HBlocks_placeOf.2.1 51 = .ok (.iadd, 1) := by decide +kernel
theorem J_HBlocks_placeOf_d52 : decode J_HBlocks_placeOf.2.1 52 = .ok (.goto 27, 3) := by decide +kernel
theorem J_HBlocks_placeOf_d55 : decode J_HBlocks_placeOf.2.1 55 = .ok (.iload 4, 2) := by decide +kernel
theorem J_HBlocks_placeOf_d57 : decode J_HBlocks_placeOf.2.1 57 = .ok (.aload_n 0, 1) := by decide +kernel
theorem J_HBlocks_placeOf_d58 : decode J_HBlocks_placeOf.2.1 58 = .ok (.getfield 53, 3) := by decide +kernel
theorem J_HBlocks_placeOf_d61 : decode J_HBlocks_placeOf.2.1 61 = .ok (.imul, 1) := by decide +kernel
theorem J_HBlocks_placeOf_d62 : decode J_HBlocks_placeOf.2.1 62 = .ok (.iload_n 1, 1) := by decide +kernel
theorem J_HBlocks_placeOf_d63 : decode J_HBlocks_placeOf.2.1 63 = .ok (.iadd, 1) := by decide +kernel
theorem J_HBlocks_placeOf_d64 : decode J_HBlocks_placeOf.2.1 64 = .ok (.aload_n 0, 1) := by decide +kernel
theorem J_HBlocks_placeOf_d65 : decode J_HBlocks_placeOf.2.1 65 = .ok (.getfield 53, 3) := by decide +kernel
theorem J_HBlocks_placeOf_d68 : decode J_HBlocks_placeOf.2.1 68 = .ok (.aload_n 0, 1) := by decide +kernel
theorem J_HBlocks_placeOf_d69 : decode J_HBlocks_placeOf.2.1 69 = .ok (.getfield 64, 3) := by decide +kernel
theorem J_HBlocks_placeOf_d72 : decode J_HBlocks_placeOf.2.1 72 = .ok (.aload_n 0, 1) := by decide +kernel
theorem J_HBlocks_placeOf_d73 : decode J_HBlocks_placeOf.2.1 73 = .ok (.getfield 53, 3) := by decide +kernel
theorem J_HBlocks_placeOf_d76 : decode J_HBlocks_placeOf.2.1 76 = .ok (.irem, 1) := by decide +kernel
theorem J_HBlocks_placeOf_d77 : decode J_HBlocks_placeOf.2.1 77 = .ok (.isub, 1) := by decide +kernel
theorem J_HBlocks_placeOf_d78 : decode J_HBlocks_placeOf.2.1 78 = .ok (.isub, 1) := by decide +kernel
theorem J_HBlocks_placeOf_d79 : decode J_HBlocks_placeOf.2.1 79 = .ok (.ireturn, 1) := by decide +kernel
theorem f_HBlocks_placeOf_ok {L : Nat} {xs : Nat → Int32} {dep : Nat} {w : Bool} {p0 : Int32} {p1 : Int32} {M : im_M} {Q : Int32 → Prop} (hM : lw_S w M) (h : ed (f_HBlocks_placeOf p0 p1 M) Q) : ia (tb_G L xs) (dep + 1) J_HBlocks_placeOf (rpI M Q) (0, lv_args 0 [.ref 43, .int p0, .int p1], [], M) := by
  have hS : im_St (tb_G L xs) (dep + 1) J_HBlocks_placeOf (ia (tb_G L xs) (dep + 1) J_HBlocks_placeOf (rpI M Q)) := ia_St
  unfold f_HBlocks_placeOf at h
  have l0 : im_lk (lv_args 0 [.ref 43, .int p0, .int p1]) 0 = some (.ref 43) := rfl
  have l1 : im_lk (lv_args 0 [.ref 43, .int p0, .int p1]) 1 = some (.int p0) := rfl
  have l2 : im_lk (lv_args 0 [.ref 43, .int p0, .int p1]) 2 = some (.int p1) := rfl
  refine iq_aload_n hS 1 J_HBlocks_placeOf_d0 l0 rfl ?_
  refine iq_iload_n hS 2 J_HBlocks_placeOf_d1 l1 rfl ?_
  obtain ⟨Q1, hQ1, h⟩ := bd1_ed h
  refine iq_cpI hS 5 J_HBlocks_placeOf_d2 rfl (pr_inst (vs := [_]) lc_1_70 lT_152 rfl rfl (by decide) (by decide) rfl (Nat.le_of_ble_eq_true rfl) (Nat.le_of_ble_eq_true rfl) (fun _ => Or.inl (pr_b (ka_43 hM) (by decide) rfl))) (f_HBlocks_sizeOf_ok (dep := dep + 0) hM h) rfl ?_
  intro x1 h
  replace h := hQ1 _ h
  refine iq_istore_n hS 6 J_HBlocks_placeOf_d5 (by decide) rfl ?_
  refine iq_aload_n hS 7 J_HBlocks_placeOf_d6 (lk_1r l0 (by decide)) rfl ?_
  refine iq_getI hS 10 J_HBlocks_placeOf_d7 lf_1_64 (Or.inl rfl) (ka_43 hM) rfl ?_
  refine iq_aload_n hS 11 J_HBlocks_placeOf_d10 (lk_1r l0 (by decide)) rfl ?_
  refine iq_getI hS 14 J_HBlocks_placeOf_d11 lf_1_53 (Or.inl rfl) (ka_43 hM) rfl ?_
  obtain ⟨g14, h⟩ := ed_gd h
  refine iq_idiv hS 15 J_HBlocks_placeOf_d14 g14 rfl ?_
  refine iq_istore hS 17 J_HBlocks_placeOf_d15 (by decide) rfl ?_
  refine iq_iload_n hS 18 J_HBlocks_placeOf_d17 (lk_1i (lk_1i l2 (by decide)) (by decide)) rfl ?_
  refine iq_iload_n hS 19 J_HBlocks_placeOf_d18 (lk_1i lk_1s (by decide)) rfl ?_
  refine iq_icmp_lt hS 22 J_HBlocks_placeOf_d19 (t := 38) rfl (fun q19 => ?_) rfl (fun q19 => ?_)
  · replace h := ed_pos q19 h
    refine iq_iload_n hS 39 J_HBlocks_placeOf_d38 (lk_1i (lk_1i l2 (by decide)) (by decide)) rfl ?_
    refine iq_iload hS 41 J_HBlocks_placeOf_d39 lk_1s rfl ?_
    refine iq_icmp_ge hS 44 J_HBlocks_placeOf_d41 (t := 55) rfl (fun q41 => ?_) rfl (fun q41 => ?_)
    · replace h := ed_pos q41 h
      refine iq_iload hS 57 J_HBlocks_placeOf_d55 lk_1s rfl ?_
      refine iq_aload_n hS 58 J_HBlocks_placeOf_d57 (lk_1r (lk_1r l0 (by decide)) (by decide)) rfl ?_
      refine iq_getI hS 61 J_HBlocks_placeOf_d58 lf_1_53 (Or.inl rfl) (ka_43 hM) rfl ?_
      refine iq_imul hS 62 J_HBlocks_placeOf_d61 rfl ?_
      refine iq_iload_n hS 63 J_HBlocks_placeOf_d62 (lk_1i (lk_1i l1 (by decide)) (by decide)) rfl ?_
      refine iq_iadd hS 64 J_HBlocks_placeOf_d63 rfl ?_
      refine iq_aload_n hS 65 J_HBlocks_placeOf_d64 (lk_1r (lk_1r l0 (by decide)) (by decide)) rfl ?_
      refine iq_getI hS 68 J_HBlocks_placeOf_d65 lf_1_53 (Or.inl rfl) (ka_43 hM) rfl ?_
      refine iq_aload_n hS 69 J_HBlocks_placeOf_d68 (lk_1r (lk_1r l0 (by decide)) (by decide)) rfl ?_
      refine iq_getI hS 72 J_HBlocks_placeOf_d69 lf_1_64 (Or.inl rfl) (ka_43 hM) rfl ?_
      refine iq_aload_n hS 73 J_HBlocks_placeOf_d72 (lk_1r (lk_1r l0 (by decide)) (by decide)) rfl ?_
      refine iq_getI hS 76 J_HBlocks_placeOf_d73 lf_1_53 (Or.inl rfl) (ka_43 hM) rfl ?_
      obtain ⟨g76, h⟩ := ed_gd h
      refine iq_irem hS 77 J_HBlocks_placeOf_d76 g76 rfl ?_
      refine iq_isub hS 78 J_HBlocks_placeOf_d77 rfl ?_
      refine iq_isub hS 79 J_HBlocks_placeOf_d78 rfl ?_
      exact iq_iret J_HBlocks_placeOf_d79 rfl rfl ⟨_, rfl, rfl, ed_some h⟩
    · replace h := ed_neg q41 h
      refine iq_iload_n hS 45 J_HBlocks_placeOf_d44 (lk_1i (lk_1i l2 (by decide)) (by decide)) rfl ?_
      refine iq_aload_n hS 46 J_HBlocks_placeOf_d45 (lk_1r (lk_1r l0 (by decide)) (by decide)) rfl ?_
      refine iq_getI hS 49 J_HBlocks_placeOf_d46 lf_1_53 (Or.inl rfl) (ka_43 hM) rfl ?_
      refine iq_imul hS 50 J_HBlocks_placeOf_d49 rfl ?_
      refine iq_iload_n hS 51 J_HBlocks_placeOf_d50 (lk_1i (lk_1i l1 (by decide)) (by decide)) rfl ?_
      refine iq_iadd hS 52 J_HBlocks_placeOf_d51 rfl ?_
      refine iq_goto hS J_HBlocks_placeOf_d52 (t := 79) rfl ?_
      exact iq_iret J_HBlocks_placeOf_d79 rfl rfl ⟨_, rfl, rfl, ed_some h⟩
  · replace h := ed_neg q19 h
    refine iq_aload_n hS 23 J_HBlocks_placeOf_d22 (lk_1r (lk_1r l0 (by decide)) (by decide)) rfl ?_
    refine iq_getI hS 26 J_HBlocks_placeOf_d23 lf_1_64 (Or.inl rfl) (ka_43 hM) rfl ?_
    refine iq_iload_n hS 27 J_HBlocks_placeOf_d26 (lk_1i (lk_1i l2 (by decide)) (by decide)) rfl ?_
    refine iq_iload_n hS 28 J_HBlocks_placeOf_d27 (lk_1i lk_1s (by decide)) rfl ?_
    refine iq_isub hS 29 J_HBlocks_placeOf_d28 rfl ?_
    refine iq_aload_n hS 30 J_HBlocks_placeOf_d29 (lk_1r (lk_1r l0 (by decide)) (by decide)) rfl ?_
    refine iq_getI hS 33 J_HBlocks_placeOf_d30 lf_1_53 (Or.inl rfl) (ka_43 hM) rfl ?_
    refine iq_imul hS 34 J_HBlocks_placeOf_d33 rfl ?_
    refine iq_iadd hS 35 J_HBlocks_placeOf_d34 rfl ?_
    refine iq_iload_n hS 36 J_HBlocks_placeOf_d35 (lk_1i (lk_1i l1 (by decide)) (by decide)) rfl ?_
    refine iq_iadd hS 37 J_HBlocks_placeOf_d36 rfl ?_
    exact iq_iret J_HBlocks_placeOf_d37 rfl rfl ⟨_, rfl, rfl, ed_some h⟩
noncomputable def f_Arrays_fill_4_L10 (v3 : Int32) (v4 : Int32) (x5 : Int32) (M6 : im_M) : Option ((Int32 × im_M) ⊕ (im_M)) := if v3 ≤ x5 then some (.inr M6) else gd (inb x5 255) <| some (.inl ((x5 + 1), (im_setI M6 48 (Int32.toNatClampNeg x5) v4)))
noncomputable def f_Arrays_fill_4 (p1 : Int32) (p2 : Int32) (p3 : Int32) (M : im_M) : Option (im_M) := bd0 (f_Arrays_rangeCheck 255 p1 p2 M) fun (_ : Unit) => bd1 (lp (uc2 (f_Arrays_fill_4_L10 p2 p3)) (p1, M)) fun (M7 : im_M) => some M7
theorem f_Arrays_fill_4_ok {L : Nat} {xs : Nat → Int32} {dep : Nat} {w : Bool} {p1 : Int32} {p2 : Int32} {p3 : Int32} {M : im_M} {Q : im_M → Prop} (hM : lw_S w M) (h : ed (f_Arrays_fill_4 p1 p2 p3 M) Q) : ia (tb_G L xs) (dep + 1) J_Arrays_fill (rwV w Q) (0, lv_args 0 [.ref 48, .int p1, .int p2, .int p3], [], M) := by
  have hS : im_St (tb_G L xs) (dep + 1) J_Arrays_fill (ia (tb_G L xs) (dep + 1) J_Arrays_fill (rwV w Q)) := ia_St
  unfold f_Arrays_fill_4 at h
  have l0 : im_lk (lv_args 0 [.ref 48, .int p1, .int p2, .int p3]) 0 = some (.ref 48) := rfl
  have l1 : im_lk (lv_args 0 [.ref 48, .int p1, .int p2, .int p3]) 1 = some (.int p1) := rfl
  have l2 : im_lk (lv_args 0 [.ref 48, .int p1, .int p2, .int p3]) 2 = some (.int p2) := rfl
  have l3 : im_lk (lv_args 0 [.ref 48, .int p1, .int p2, .int p3]) 3 = some (.int p3) := rfl
  refine iq_aload_n hS 1 J_Arrays_fill_d0 l0 rfl ?_
  refine iq_alenv hS 2 J_Arrays_fill_d1 (v := 255) (ka_48 hM) (by decide) (by decide) (kl_48 hM) (by decide +kernel) rfl ?_
  refine iq_iload_n hS 3 J_Arrays_fill_d2 l1 rfl ?_
  refine iq_iload_n hS 4 J_Arrays_fill_d3 l2 rfl ?_
  obtain ⟨Q1, hQ1, h⟩ := bd0_ed h
  refine iq_cpV hS 7 J_Arrays_fill_d4 rfl (pr_stat (vs := [_, _, _]) lc_22_13 lT_54 rfl rfl (by decide) rfl (Nat.le_of_ble_eq_true rfl) (Nat.le_of_ble_eq_true rfl)) (f_Arrays_rangeCheck_ok (dep := dep + 0) hM h) rfl ?_
  intro h
  replace h := hQ1  h
  refine iq_iload_n hS 8 J_Arrays_fill_d7 l1 rfl ?_
  refine iq_istore hS 10 J_Arrays_fill_d8 (by decide) rfl ?_
  obtain ⟨Q2, hQ2, h⟩ := bd1_ed h
  have K2 : ∀ (M3 : im_M) (L' : List (Nat × Value)), lw_S w M3 → Q2 M3 → ia (tb_G L xs) (dep + 1) J_Arrays_fill (rwV w Q) (27, L', [], M3) := by
    intro M3 L' hM3  h
    replace h := hQ2 _ h
    exact iq_ret J_Arrays_fill_d27 rfl ⟨rfl, hM3, ed_some h⟩
  obtain ⟨r2, hr2, hq2⟩ := h
  obtain ⟨n2, hn2⟩ := lp_n hr2
  have I2 : ∀ (n : Nat) (x4 : Int32) (M5 : im_M) (L' : List (Nat × Value)), lw_S w M5 → im_lk L' 0 = some (.ref 48) → im_lk L' 2 = some (.int p2) → im_lk L' 3 = some (.int p3) → im_lk L' 4 = some (.int x4) → lpn (uc2 (f_Arrays_fill_4_L10 p2 p3)) n (x4, M5) = some r2 → ia (tb_G L xs) (dep + 1) J_Arrays_fill (rwV w Q) (10, L', [], M5) := by
    intro n
    induction n with
    | zero => intro x4 M5 L' hM5 l6 l7 l8 l9 hn; exact (lpn_0 hn).elim
    | succ n ih =>
      intro x4 M5 L' hM5 l6 l7 l8 l9 hn
      have h := lpn_ed2 hn
      unfold f_Arrays_fill_4_L10 at h
      refine iq_iload hS 12 J_Arrays_fill_d10 l9 rfl ?_
      refine iq_iload_n hS 13 J_Arrays_fill_d12 l7 rfl ?_
      refine iq_icmp_ge hS 16 J_Arrays_fill_d13 (t := 27) rfl (fun q13 => ?_) rfl (fun q13 => ?_)
      · replace h := ed_pos q13 h
        exact K2 _ _ hM5  (lq_r h hq2)
      · replace h := ed_neg q13 h
        refine iq_aload_n hS 17 J_Arrays_fill_d16 l6 rfl ?_
        refine iq_iload hS 19 J_Arrays_fill_d17 l9 rfl ?_
        refine iq_iload_n hS 20 J_Arrays_fill_d19 l8 rfl ?_
        obtain ⟨g20, h⟩ := ed_gd h
        refine iq_iastore hS 21 J_Arrays_fill_d20 ⟨(ka_48 hM5).1, (ka_48 hM5).2, g20.1, ix_lt (kl_48 hM5) g20.2⟩ rfl ?_
        refine iq_iincv hS 24 J_Arrays_fill_d21 (c := 1) (by decide +kernel) l9 (by decide) rfl ?_
        refine iq_goto hS J_Arrays_fill_d24 (t := 10) rfl ?_
        exact ih _ _ _ (lw_sI hM5) (lk_1r l6 (by decide)) (lk_1i l7 (by decide)) (lk_1i l8 (by decide)) lk_1s (lq_l h)
  exact I2 n2 _ _ _ hM (lk_1r l0 (by decide)) (lk_1i l2 (by decide)) (lk_1i l3 (by decide)) lk_1s hn2
theorem f_Arrays_fill_4_fr {p1 : Int32} {p2 : Int32} {p3 : Int32} {M : im_M} {r : im_M} (h : f_Arrays_fill_4 p1 p2 p3 M = some r) : fr 281474976710656 [] M r := by
  replace h : ed (f_Arrays_fill_4 p1 p2 p3 M) (fun x => x = r) := ⟨r, h, rfl⟩
  unfold f_Arrays_fill_4 at h
  obtain ⟨Q1, hQ1, h⟩ := bd0_ed h
  obtain ⟨_, e1, h⟩ := h
  replace h := hQ1  h
  obtain ⟨Q2, hQ2, h⟩ := bd1_ed h
  have K2 : ∀ (M3 : im_M), fr 281474976710656 [] M M3 → Q2 M3 → fr 281474976710656 [] M r := by
    intro M3 hM3 h
    replace h := hQ2 _ h
    exact fr_retV h hM3
  obtain ⟨r2, hr2, hq2⟩ := h
  obtain ⟨n2, hn2⟩ := lp_n hr2
  have I2 : ∀ (n : Nat) (x4 : Int32) (M5 : im_M), fr 281474976710656 [] M M5 → lpn (uc2 (f_Arrays_fill_4_L10 p2 p3)) n (x4, M5) = some r2 → fr 281474976710656 [] M r := by
    intro n
    induction n with
    | zero => intro x4 M5 hM5 hn; exact (lpn_0 hn).elim
    | succ n ih =>
      intro x4 M5 hM5 hn
      have h := lpn_ed2 hn
      unfold f_Arrays_fill_4_L10 at h
      by_cases q13 : p2 ≤ x4
      · replace h := ed_pos q13 h
        exact K2 _ hM5 (lq_r h hq2)
      · replace h := ed_neg q13 h
        obtain ⟨g20, h⟩ := ed_gd h
        exact ih _ _ (fr_I (by decide) hM5) (lq_l h)
  exact I2 n2 _ _ fr_refl hn2
noncomputable def f_HBlocks_divide_L39 (v7 : Int32) (v8 : Int32) (v9 : Int32) (x10 : Int32) (M11 : im_M) : Option ((Int32 × im_M) ⊕ (im_M)) := if (im_i M11 43 12) ≤ x10 then some (.inr M11) else bd1 (if (im_i M11 43 12) ≤ (x10 + 1) then some 0 else gd (inb ((v7 + x10) + 1) 255) <| some (im_i M11 48 (Int32.toNatClampNeg ((v7 + x10) + 1)))) fun (y13 : Int32) => gd (inb (x10 + 1) 31) <| bd1 (f_HBlocks_times v9 (im_i M11 47 (Int32.toNatClampNeg (x10 + 1))) M11) fun (x19 : Int32) => gd (inb (v7 + x10) 255) <| some (.inl ((x10 + 1), (im_setI M11 48 (Int32.toNatClampNeg (v7 + x10)) (y13 ^^^ x19))))
noncomputable def f_HBlocks_divide_L17 (v3 : Int32) (x4 : Int32) (M5 : im_M) : Option ((Int32 × im_M) ⊕ (im_M)) := if v3 ≤ x4 then some (.inr M5) else gd (inb x4 255) <| gd (inb v3 255) <| bd1 (lp (uc2 (f_HBlocks_divide_L39 v3 x4 ((im_i M5 48 (Int32.toNatClampNeg x4)) ^^^ (im_i M5 48 (Int32.toNatClampNeg v3))))) (0, M5)) fun (M20 : im_M) => some (.inl ((x4 + 1), M20))
noncomputable def f_HBlocks_divide (p0 : Int32) (M : im_M) : Option (im_M) := bd1 (f_Arrays_fill_4 p0 (p0 + (im_i M 43 12)) 0 M) fun (M1 : im_M) => bd1 (lp (uc2 (f_HBlocks_divide_L17 p0)) (0, M1)) fun (M21 : im_M) => some M21
theorem J_HBlocks_divide_d0 : decode J_HBlocks_divide.2.1 0 = .ok (.aload_n 0, 1) := by decide +kernel
theorem J_HBlocks_divide_d1 : decode J_HBlocks_divide.2.1 1 = .ok (.getfield 25, 3) := by decide +kernel
theorem J_HBlocks_divide_d4 : decode J_HBlocks_divide.2.1 4 = .ok (.iload_n 1, 1) := by decide +kernel
theorem J_HBlocks_divide_d5 : decode J_HBlocks_divide.2.1 5 = .ok (.iload_n 1, 1) := by decide +kernel
theorem J_HBlocks_divide_d6 : decode J_HBlocks_divide.2.1 6 = .ok (.aload_n 0, 1) := by decide +kernel
theorem J_HBlocks_divide_d7 : decode J_HBlocks_divide.2.1 7 = .ok (.getfield 57, 3) := by decide +kernel
theorem J_HBlocks_divide_d10 : decode J_HBlocks_divide.2.1 10 = .ok (.iadd, 1) := by decide +kernel
theorem J_HBlocks_divide_d11 : decode J_HBlocks_divide.2.1 11 = .ok (.iconst 0, 1) := by decide +kernel
theorem J_HBlocks_divide_d12 : decode J_HBlocks_divide.2.1 12 = .ok (.invokestatic 96, 3) := by decide +kernel
theorem J_HBlocks_divide_d15 : decode J_HBlocks_divide.2.1 15 = .ok (.iconst 0, 1) := by decide +kernel
theorem J_HBlocks_divide_d16 : decode J_HBlocks_divide.2.1 16 = .ok (.istore_n 2, 1) := by decide +kernel
theorem J_HBlocks_divide_d17 : decode J_HBlocks_divide.2.1 17 = .ok (.iload_n 2, 1) := by decide +kernel
theorem J_HBlocks_divide_d18 : decode J_HBlocks_divide.2.1 18 = .ok (.iload_n 1, 1) := by decide +kernel
theorem J_HBlocks_divide_d19 : decode J_HBlocks_divide.2.1 19 = .ok (.if_icmp .ge 95, 3) := by decide +kernel
theorem J_HBlocks_divide_d22 : decode J_HBlocks_divide.2.1 22 = .ok (.aload_n 0, 1) := by decide +kernel
theorem J_HBlocks_divide_d23 : decode J_HBlocks_divide.2.1 23 = .ok (.getfield 25, 3) := by decide +kernel
theorem J_HBlocks_divide_d26 : decode J_HBlocks_divide.2.1 26 = .ok (.iload_n 2, 1) := by decide +kernel
theorem J_HBlocks_divide_d27 : decode J_HBlocks_divide.2.1 27 = .ok (.iaload, 1) := by decide +kernel
theorem J_HBlocks_divide_d28 : decode J_HBlocks_divide.2.1 28 = .ok (.aload_n 0, 1) := by decide +kernel
theorem J_HBlocks_divide_d29 : decode J_HBlocks_divide.2.1 29 = .ok (.getfield 25, 3) := by decide +kernel
theorem J_HBlocks_divide_d32 : decode J_HBlocks_divide.2.1 32 = .ok (.iload_n 1, 1) := by decide +kernel
theorem J_HBlocks_divide_d33 : decode J_HBlocks_divide.2.1 33 = .ok (.iaload, 1) := by decide +kernel
theorem J_HBlocks_divide_d34 : decode J_HBlocks_divide.2.1 34 = .ok (.ixor, 1) := by decide +kernel
theorem J_HBlocks_divide_d35 : decode J_HBlocks_divide.2.1 35 = .ok (.istore_n 3, 1) := by decide +kernel
theorem J_HBlocks_divide_d36 : decode J_HBlocks_divide.2.1 36 = .ok (.iconst 0, 1) := by decide +kernel
theorem J_HBlocks_divide_d37 : decode J_HBlocks_divide.2.1 37 = .ok (.istore 4, 2) := by decide +kernel
theorem J_HBlocks_divide_d39 : decode J_HBlocks_divide.2.1 39 = .ok (.iload 4, 2) := by decide +kernel
theorem J_HBlocks_divide_d41 : decode J_HBlocks_divide.2.1 41 = .ok (.aload_n 0, 1) := by decide +kernel
theorem J_HBlocks_divide_d42 : decode J_HBlocks_divide.2.1 42 = .ok (.getfield 57, 3) := by decide +kernel
theorem J_HBlocks_divide_d45 : decode J_HBlocks_divide.2.1 45 = .ok (.if_icmp .ge 63, 3) := by decide +kernel
theorem J_HBlocks_divide_d48 : decode J_HBlocks_divide.2.1 48 = .ok (.iload 4, 2) := by decide +kernel
theorem J_HBlocks_divide_d50 : decode J_HBlocks_divide.2.1 50 = .ok (.iconst 1, 1) := by decide +kernel
theorem J_HBlocks_divide_d51 : decode J_HBlocks_divide.2.1 51 = .ok (.iadd, 1) := by decide +kernel
theorem J_HBlocks_divide_d52 : decode J_HBlocks_divide.2.1 52 = .ok (.aload_n 0, 1) := by decide +kernel
theorem J_HBlocks_divide_d53 : decode J_HBlocks_divide.2.1 53 = .ok (.getfield 57, 3) := by decide +kernel
theorem J_HBlocks_divide_d56 : decode J_HBlocks_divide.2.1 56 = .ok (.if_icmp .ge 17, 3) := by decide +kernel
theorem J_HBlocks_divide_d59 : decode J_HBlocks_divide.2.1 59 = .ok (.aload_n 0, 1) := by decide +kernel
theorem J_HBlocks_divide_d60 : decode J_HBlocks_divide.2.1 60 = .ok (.getfield 25, 3) := by decide +kernel
theorem J_HBlocks_divide_d63 : decode J_HBlocks_divide.2.1 63 = .ok (.iload_n 1, 1) := by decide +kernel
theorem J_HBlocks_divide_d64 : decode J_HBlocks_divide.2.1 64 = .ok (.iload 4, 2) := by decide +kernel
theorem J_HBlocks_divide_d66 : decode J_HBlocks_divide.2.1 66 = .ok (.iadd, 1) := by decide +kernel
theorem J_HBlocks_divide_d67 : decode J_HBlocks_divide.2.1 67 = .ok (.iconst 1, 1) := by decide +kernel
theorem J_HBlocks_divide_d68 : decode J_HBlocks_divide.2.1 68 = .ok (.iadd, 1) := by decide +kernel
theorem J_HBlocks_divide_d69 : decode J_HBlocks_divide.2.1 69 = .ok (.iaload, 1) := by decide +kernel
theorem J_HBlocks_divide_d70 : decode J_HBlocks_divide.2.1 70 = .ok (.goto 4, 3) := by decide +kernel
theorem J_HBlocks_divide_d73 : decode J_HBlocks_divide.2.1 73 = .ok (.iconst 0, 1) := by decide +kernel
theorem J_HBlocks_divide_d74 : decode J_HBlocks_divide.2.1 74 = .ok (.istore 5, 2) := by decide +kernel
theorem J_HBlocks_divide_d76 : decode J_HBlocks_divide.2.1 76 = .ok (.aload_n 0, 1) := by decide +kernel
theorem J_HBlocks_divide_d77 : decode J_HBlocks_divide.2.1 77 = .ok (.getfield 25, 3) := by decide +kernel
theorem J_HBlocks_divide_d80 : decode J_HBlocks_divide.2.1 80 = .ok (.iload_n 1, 1) := by decide +kernel
theorem J_HBlocks_divide_d81 : decode J_HBlocks_divide.2.1 81 = .ok (.iload 4, 2) := by decide +kernel
theorem J_HBlocks_divide_d83 : decode J_HBlocks_divide.2.1 83 = .ok (.iadd, 1) := by decide +kernel
theorem J_HBlocks_divide_d84 : decode J_HBlocks_divide.2.1 84 = .ok (.iload 5, 2) := by decide +kernel
theorem J_HBlocks_divide_d86 : decode J_HBlocks_divide.2.1 86 = .ok (.aload_n 0, 1) := by decide +kernel
theorem J_HBlocks_divide_d87 : decode J_HBlocks_divide.2.1 87 = .ok (.iload_n 3, 1) := by decide +kernel
theorem J_HBlocks_divide_d88 : decode J_HBlocks_divide.2.1 88 = .ok (.aload_n 0, 1) := by decide +kernel
theorem J_HBlocks_divide_d89 : decode J_HBlocks_divide.2.1 89 = .ok (.getfield 22, 3) := by decide +kernel
theorem J_HBlocks_divide_d92 : decode J_HBlocks_divide.2.1 92 = .ok (.iload 4, 2) := by decide +kernel
theorem J_HBlocks_divide_d94 : decode J_HBlocks_divide.2.1 94 = .ok (.iconst 1, 1) := by decide +kernel
theorem J_HBlocks_divide_d95 : decode J_HBlocks_divide.2.1 95 = .ok (.iadd, 1) := by decide +kernel
theorem J_HBlocks_divide_d96 : decode J_HBlocks_divide.2.1 96 = .ok (.iaload, 1) := by decide +kernel
theorem J_HBlocks_divide_d97 : decode J_HBlocks_divide.2.1 97 = .ok (.invokevirtual 93, 3) := by decide +kernel
theorem J_HBlocks_divide_d100 : decode J_HBlocks_divide.2.1 100 = .ok (.ixor, 1) := by decide +kernel
theorem J_HBlocks_divide_d101 : decode J_HBlocks_divide.2.1 101 = .ok (.iastore, 1) := by decide +kernel
theorem J_HBlocks_divide_d102 : decode J_HBlocks_divide.2.1 102 = .ok (.iinc 4 1, 3) := by decide +kernel
theorem J_HBlocks_divide_d105 : decode J_HBlocks_divide.2.1 105 = .ok (.goto (-66), 3) := by decide +kernel
theorem J_HBlocks_divide_d108 : decode J_HBlocks_divide.2.1 108 = .ok (.iinc 2 1, 3) := by decide +kernel
theorem J_HBlocks_divide_d111 : decode J_HBlocks_divide.2.1 111 = .ok (.goto (-94), 3) := by decide +kernel
theorem J_HBlocks_divide_d114 : decode J_HBlocks_divide.2.1 114 = .ok (.return_, 1) := by decide +kernel
theorem f_HBlocks_divide_ok {L : Nat} {xs : Nat → Int32} {dep : Nat} {w : Bool} {p0 : Int32} {M : im_M} {Q : im_M → Prop} (hM : lw_S w M) (h : ed (f_HBlocks_divide p0 M) Q) : ia (tb_G L xs) (dep + 2) J_HBlocks_divide (rwV w Q) (0, lv_args 0 [.ref 43, .int p0], [], M) := by
  have hS : im_St (tb_G L xs) (dep + 2) J_HBlocks_divide (ia (tb_G L xs) (dep + 2) J_HBlocks_divide (rwV w Q)) := ia_St
  unfold f_HBlocks_divide at h
  have l0 : im_lk (lv_args 0 [.ref 43, .int p0]) 0 = some (.ref 43) := rfl
  have l1 : im_lk (lv_args 0 [.ref 43, .int p0]) 1 = some (.int p0) := rfl
  refine iq_aload_n hS 1 J_HBlocks_divide_d0 l0 rfl ?_
  refine iq_getR hS 4 J_HBlocks_divide_d1 lf_1_25 (Or.inr ⟨_, rfl⟩) (ka_43 hM) (ra_43_4 hM) rfl ?_
  refine iq_iload_n hS 5 J_HBlocks_divide_d4 l1 rfl ?_
  refine iq_iload_n hS 6 J_HBlocks_divide_d5 l1 rfl ?_
  refine iq_aload_n hS 7 J_HBlocks_divide_d6 l0 rfl ?_
  refine iq_getI hS 10 J_HBlocks_divide_d7 lf_1_57 (Or.inl rfl) (ka_43 hM) rfl ?_
  refine iq_iadd hS 11 J_HBlocks_divide_d10 rfl ?_
  refine iq_iconst hS 12 J_HBlocks_divide_d11 (v := 0) (by decide +kernel) rfl ?_
  obtain ⟨Q1, hQ1, h⟩ := bd1_ed h
  refine iq_cwV hS 15 J_HBlocks_divide_d12 rfl (pr_stat (vs := [_, _, _, _]) lc_1_96 lT_53 rfl rfl (by decide) rfl (Nat.le_of_ble_eq_true rfl) (Nat.le_of_ble_eq_true rfl)) (f_Arrays_fill_4_ok (dep := dep + 0) hM h) rfl ?_
  intro M1 hM1 h
  replace h := hQ1 _ h
  refine iq_iconst hS 16 J_HBlocks_divide_d15 (v := 0) (by decide +kernel) rfl ?_
  refine iq_istore_n hS 17 J_HBlocks_divide_d16 (by decide) rfl ?_
  obtain ⟨Q2, hQ2, h⟩ := bd1_ed h
  have K2 : ∀ (M3 : im_M) (L' : List (Nat × Value)), lw_S w M3 → Q2 M3 → ia (tb_G L xs) (dep + 2) J_HBlocks_divide (rwV w Q) (114, L', [], M3) := by
    intro M3 L' hM3  h
    replace h := hQ2 _ h
    exact iq_ret J_HBlocks_divide_d114 rfl ⟨rfl, hM3, ed_some h⟩
  obtain ⟨r2, hr2, hq2⟩ := h
  obtain ⟨n2, hn2⟩ := lp_n hr2
  have I2 : ∀ (n : Nat) (x4 : Int32) (M5 : im_M) (L' : List (Nat × Value)), lw_S w M5 → im_lk L' 0 = some (.ref 43) → im_lk L' 1 = some (.int p0) → im_lk L' 2 = some (.int x4) → lpn (uc2 (f_HBlocks_divide_L17 p0)) n (x4, M5) = some r2 → ia (tb_G L xs) (dep + 2) J_HBlocks_divide (rwV w Q) (17, L', [], M5) := by
    intro n
    induction n with
    | zero => intro x4 M5 L' hM5 l6 l7 l8 hn; exact (lpn_0 hn).elim
    | succ n ih =>
      intro x4 M5 L' hM5 l6 l7 l8 hn
      have h := lpn_ed2 hn
      unfold f_HBlocks_divide_L17 at h
      refine iq_iload_n hS 18 J_HBlocks_divide_d17 l8 rfl ?_
      refine iq_iload_n hS 19 J_HBlocks_divide_d18 l7 rfl ?_
      refine iq_icmp_ge hS 22 J_HBlocks_divide_d19 (t := 114) rfl (fun q19 => ?_) rfl (fun q19 => ?_)
      · replace h := ed_pos q19 h
        exact K2 _ _ hM5  (lq_r h hq2)
      · replace h := ed_neg q19 h
        refine iq_aload_n hS 23 J_HBlocks_divide_d22 l6 rfl ?_
        refine iq_getR hS 26 J_HBlocks_divide_d23 lf_1_25 (Or.inr ⟨_, rfl⟩) (ka_43 hM5) (ra_43_4 hM5) rfl ?_
        refine iq_iload_n hS 27 J_HBlocks_divide_d26 l8 rfl ?_
        obtain ⟨g27, h⟩ := ed_gd h
        refine iq_iaload hS 28 J_HBlocks_divide_d27 ⟨(ka_48 hM5).1, (ka_48 hM5).2, g27.1, ix_lt (kl_48 hM5) g27.2⟩ rfl ?_
        refine iq_aload_n hS 29 J_HBlocks_divide_d28 l6 rfl ?_
        refine iq_getR hS 32 J_HBlocks_divide_d29 lf_1_25 (Or.inr ⟨_, rfl⟩) (ka_43 hM5) (ra_43_4 hM5) rfl ?_
        refine iq_iload_n hS 33 J_HBlocks_divide_d32 l7 rfl ?_
        obtain ⟨g33, h⟩ := ed_gd h
        refine iq_iaload hS 34 J_HBlocks_divide_d33 ⟨(ka_48 hM5).1, (ka_48 hM5).2, g33.1, ix_lt (kl_48 hM5) g33.2⟩ rfl ?_
        refine iq_ixor hS 35 J_HBlocks_divide_d34 rfl ?_
        refine iq_istore_n hS 36 J_HBlocks_divide_d35 (by decide) rfl ?_
        refine iq_iconst hS 37 J_HBlocks_divide_d36 (v := 0) (by decide +kernel) rfl ?_
        refine iq_istore hS 39 J_HBlocks_divide_d37 (by decide) rfl ?_
        obtain ⟨Q9, hQ9, h⟩ := bd1_ed h
        have K9 : ∀ (M10 : im_M) (L' : List (Nat × Value)), lw_S w M10 → im_lk L' 0 = some (.ref 43) → im_lk L' 1 = some (.int p0) → im_lk L' 2 = some (.int x4) → Q9 M10 → ia (tb_G L xs) (dep + 2) J_HBlocks_divide (rwV w Q) (108, L', [], M10) := by
          intro M10 L' hM10 l11 l12 l13 h
          replace h := hQ9 _ h
          refine iq_iincv hS 111 J_HBlocks_divide_d108 (c := 1) (by decide +kernel) l13 (by decide) rfl ?_
          refine iq_goto hS J_HBlocks_divide_d111 (t := 17) rfl ?_
          exact ih _ _ _ hM10 (lk_1r l11 (by decide)) (lk_1i l12 (by decide)) lk_1s (lq_l h)
        obtain ⟨r9, hr9, hq9⟩ := h
        obtain ⟨n9, hn9⟩ := lp_n hr9
        have I9 : ∀ (n : Nat) (x14 : Int32) (M15 : im_M) (L' : List (Nat × Value)), lw_S w M15 → im_lk L' 0 = some (.ref 43) → im_lk L' 1 = some (.int p0) → im_lk L' 2 = some (.int x4) → im_lk L' 3 = some (.int ((im_i M5 48 (Int32.toNatClampNeg x4)) ^^^ (im_i M5 48 (Int32.toNatClampNeg p0)))) → im_lk L' 4 = some (.int x14) → lpn (uc2 (f_HBlocks_divide_L39 p0 x4 ((im_i M5 48 (Int32.toNatClampNeg x4)) ^^^ (im_i M5 48 (Int32.toNatClampNeg p0))))) n (x14, M15) = some r9 → ia (tb_G L xs) (dep + 2) J_HBlocks_divide (rwV w Q) (39, L', [], M15) := by
          intro n
          induction n with
          | zero => intro x14 M15 L' hM15 l16 l17 l18 l19 l20 hn; exact (lpn_0 hn).elim
          | succ n ih =>
            intro x14 M15 L' hM15 l16 l17 l18 l19 l20 hn
            have h := lpn_ed2 hn
            unfold f_HBlocks_divide_L39 at h
            refine iq_iload hS 41 J_HBlocks_divide_d39 l20 rfl ?_
            refine iq_aload_n hS 42 J_HBlocks_divide_d41 l16 rfl ?_
            refine iq_getI hS 45 J_HBlocks_divide_d42 lf_1_57 (Or.inl rfl) (ka_43 hM15) rfl ?_
            refine iq_icmp_ge hS 48 J_HBlocks_divide_d45 (t := 108) rfl (fun q45 => ?_) rfl (fun q45 => ?_)
            · replace h := ed_pos q45 h
              exact K9 _ _ hM15 l16 l17 l18 (lq_r h hq9)
            · replace h := ed_neg q45 h
              refine iq_iload hS 50 J_HBlocks_divide_d48 l20 rfl ?_
              refine iq_iconst hS 51 J_HBlocks_divide_d50 (v := 1) (by decide +kernel) rfl ?_
              refine iq_iadd hS 52 J_HBlocks_divide_d51 rfl ?_
              refine iq_aload_n hS 53 J_HBlocks_divide_d52 l16 rfl ?_
              refine iq_getI hS 56 J_HBlocks_divide_d53 lf_1_57 (Or.inl rfl) (ka_43 hM15) rfl ?_
              obtain ⟨Q21, hQ21, h⟩ := bd1_ed h
              have J21 : ∀ (y22 : Int32) (L' : List (Nat × Value)), im_lk L' 0 = some (.ref 43) → im_lk L' 1 = some (.int p0) → im_lk L' 2 = some (.int x4) → im_lk L' 3 = some (.int ((im_i M5 48 (Int32.toNatClampNeg x4)) ^^^ (im_i M5 48 (Int32.toNatClampNeg p0)))) → im_lk L' 4 = some (.int x14) → Q21 y22 → ia (tb_G L xs) (dep + 2) J_HBlocks_divide (rwV w Q) (74, L', [.int y22], M15) := by
                intro y22 L' l23 l24 l25 l26 l27 h
                replace h := hQ21 _ h
                refine iq_istore hS 76 J_HBlocks_divide_d74 (by decide) rfl ?_
                refine iq_aload_n hS 77 J_HBlocks_divide_d76 (lk_1r l23 (by decide)) rfl ?_
                refine iq_getR hS 80 J_HBlocks_divide_d77 lf_1_25 (Or.inr ⟨_, rfl⟩) (ka_43 hM15) (ra_43_4 hM15) rfl ?_
                refine iq_iload_n hS 81 J_HBlocks_divide_d80 (lk_1i l24 (by decide)) rfl ?_
                refine iq_iload hS 83 J_HBlocks_divide_d81 (lk_1i l27 (by decide)) rfl ?_
                refine iq_iadd hS 84 J_HBlocks_divide_d83 rfl ?_
                refine iq_iload hS 86 J_HBlocks_divide_d84 lk_1s rfl ?_
                refine iq_aload_n hS 87 J_HBlocks_divide_d86 (lk_1r l23 (by decide)) rfl ?_
                refine iq_iload_n hS 88 J_HBlocks_divide_d87 (lk_1i l26 (by decide)) rfl ?_
                refine iq_aload_n hS 89 J_HBlocks_divide_d88 (lk_1r l23 (by decide)) rfl ?_
                refine iq_getR hS 92 J_HBlocks_divide_d89 lf_1_22 (Or.inr ⟨_, rfl⟩) (ka_43 hM15) (ra_43_3 hM15) rfl ?_
                refine iq_iload hS 94 J_HBlocks_divide_d92 (lk_1i l27 (by decide)) rfl ?_
                refine iq_iconst hS 95 J_HBlocks_divide_d94 (v := 1) (by decide +kernel) rfl ?_
                refine iq_iadd hS 96 J_HBlocks_divide_d95 rfl ?_
                obtain ⟨g96, h⟩ := ed_gd h
                refine iq_iaload hS 97 J_HBlocks_divide_d96 ⟨(ka_47 hM15).1, (ka_47 hM15).2, g96.1, ix_lt (kl_47 hM15) g96.2⟩ rfl ?_
                obtain ⟨Q28, hQ28, h⟩ := bd1_ed h
                refine iq_cpI hS 100 J_HBlocks_divide_d97 rfl (pr_inst (vs := [_, _]) lc_1_93 lT_151 rfl rfl (by decide) (by decide) rfl (Nat.le_of_ble_eq_true rfl) (Nat.le_of_ble_eq_true rfl) (fun _ => Or.inl (pr_b (ka_43 hM15) (by decide) rfl))) (f_HBlocks_times_ok (dep := dep + 1) hM15 h) rfl ?_
                intro x28 h
                replace h := hQ28 _ h
                refine iq_ixor hS 101 J_HBlocks_divide_d100 rfl ?_
                obtain ⟨g101, h⟩ := ed_gd h
                refine iq_iastore hS 102 J_HBlocks_divide_d101 ⟨(ka_48 hM15).1, (ka_48 hM15).2, g101.1, ix_lt (kl_48 hM15) g101.2⟩ rfl ?_
                refine iq_iincv hS 105 J_HBlocks_divide_d102 (c := 1) (by decide +kernel) (lk_1i l27 (by decide)) (by decide) rfl ?_
                refine iq_goto hS J_HBlocks_divide_d105 (t := 39) rfl ?_
                exact ih _ _ _ (lw_sI hM15) (lk_1r (lk_1r l23 (by decide)) (by decide)) (lk_1i (lk_1i l24 (by decide)) (by decide)) (lk_1i (lk_1i l25 (by decide)) (by decide)) (lk_1i (lk_1i l26 (by decide)) (by decide)) lk_1s (lq_l h)
              refine iq_icmp_ge hS 59 J_HBlocks_divide_d56 (t := 73) rfl (fun q56 => ?_) rfl (fun q56 => ?_)
              · replace h := ed_pos q56 h
                refine iq_iconst hS 74 J_HBlocks_divide_d73 (v := 0) (by decide +kernel) rfl ?_
                exact J21 _ _ l16 l17 l18 l19 l20 (ed_some h)
              · replace h := ed_neg q56 h
                refine iq_aload_n hS 60 J_HBlocks_divide_d59 l16 rfl ?_
                refine iq_getR hS 63 J_HBlocks_divide_d60 lf_1_25 (Or.inr ⟨_, rfl⟩) (ka_43 hM15) (ra_43_4 hM15) rfl ?_
                refine iq_iload_n hS 64 J_HBlocks_divide_d63 l17 rfl ?_
                refine iq_iload hS 66 J_HBlocks_divide_d64 l20 rfl ?_
                refine iq_iadd hS 67 J_HBlocks_divide_d66 rfl ?_
                refine iq_iconst hS 68 J_HBlocks_divide_d67 (v := 1) (by decide +kernel) rfl ?_
                refine iq_iadd hS 69 J_HBlocks_divide_d68 rfl ?_
                obtain ⟨g69, h⟩ := ed_gd h
                refine iq_iaload hS 70 J_HBlocks_divide_d69 ⟨(ka_48 hM15).1, (ka_48 hM15).2, g69.1, ix_lt (kl_48 hM15) g69.2⟩ rfl ?_
                refine iq_goto hS J_HBlocks_divide_d70 (t := 74) rfl ?_
                exact J21 _ _ l16 l17 l18 l19 l20 (ed_some h)
        exact I9 n9 _ _ _ hM5 (lk_1r (lk_1r l6 (by decide)) (by decide)) (lk_1i (lk_1i l7 (by decide)) (by decide)) (lk_1i (lk_1i l8 (by decide)) (by decide)) (lk_1i lk_1s (by decide)) lk_1s hn9
  exact I2 n2 _ _ _ hM1 (lk_1r l0 (by decide)) (lk_1i l1 (by decide)) lk_1s hn2
theorem f_HBlocks_divide_fr {p0 : Int32} {M : im_M} {r : im_M} (h : f_HBlocks_divide p0 M = some r) : fr 281474976710656 [] M r := by
  replace h : ed (f_HBlocks_divide p0 M) (fun x => x = r) := ⟨r, h, rfl⟩
  unfold f_HBlocks_divide at h
  obtain ⟨Q1, hQ1, h⟩ := bd1_ed h
  obtain ⟨M1, e1, h⟩ := h
  replace h := hQ1 _ h
  obtain ⟨Q2, hQ2, h⟩ := bd1_ed h
  have K2 : ∀ (M3 : im_M), fr 281474976710656 [] M M3 → Q2 M3 → fr 281474976710656 [] M r := by
    intro M3 hM3 h
    replace h := hQ2 _ h
    exact fr_retV h hM3
  obtain ⟨r2, hr2, hq2⟩ := h
  obtain ⟨n2, hn2⟩ := lp_n hr2
  have I2 : ∀ (n : Nat) (x4 : Int32) (M5 : im_M), fr 281474976710656 [] M M5 → lpn (uc2 (f_HBlocks_divide_L17 p0)) n (x4, M5) = some r2 → fr 281474976710656 [] M r := by
    intro n
    induction n with
    | zero => intro x4 M5 hM5 hn; exact (lpn_0 hn).elim
    | succ n ih =>
      intro x4 M5 hM5 hn
      have h := lpn_ed2 hn
      unfold f_HBlocks_divide_L17 at h
      by_cases q19 : p0 ≤ x4
      · replace h := ed_pos q19 h
        exact K2 _ hM5 (lq_r h hq2)
      · replace h := ed_neg q19 h
        obtain ⟨g27, h⟩ := ed_gd h
        obtain ⟨g33, h⟩ := ed_gd h
        obtain ⟨Q6, hQ6, h⟩ := bd1_ed h
        have K6 : ∀ (M7 : im_M), fr 281474976710656 [] M M7 → Q6 M7 → fr 281474976710656 [] M r := by
          intro M7 hM7 h
          replace h := hQ6 _ h
          exact ih _ _ hM7 (lq_l h)
        obtain ⟨r6, hr6, hq6⟩ := h
        obtain ⟨n6, hn6⟩ := lp_n hr6
        have I6 : ∀ (n : Nat) (x8 : Int32) (M9 : im_M), fr 281474976710656 [] M M9 → lpn (uc2 (f_HBlocks_divide_L39 p0 x4 ((im_i M5 48 (Int32.toNatClampNeg x4)) ^^^ (im_i M5 48 (Int32.toNatClampNeg p0))))) n (x8, M9) = some r6 → fr 281474976710656 [] M r := by
          intro n
          induction n with
          | zero => intro x8 M9 hM9 hn; exact (lpn_0 hn).elim
          | succ n ih =>
            intro x8 M9 hM9 hn
            have h := lpn_ed2 hn
            unfold f_HBlocks_divide_L39 at h
            by_cases q45 : (im_i M9 43 12) ≤ x8
            · replace h := ed_pos q45 h
              exact K6 _ hM9 (lq_r h hq6)
            · replace h := ed_neg q45 h
              obtain ⟨Q10, hQ10, h⟩ := bd1_ed h
              have J10 : ∀ (y11 : Int32), Q10 y11 → fr 281474976710656 [] M r := by
                intro y11 h
                replace h := hQ10 _ h
                obtain ⟨g96, h⟩ := ed_gd h
                obtain ⟨Q17, hQ17, h⟩ := bd1_ed h
                obtain ⟨x17, e17, h⟩ := h
                replace h := hQ17 _ h
                obtain ⟨g101, h⟩ := ed_gd h
                exact ih _ _ (fr_I (by decide) hM9) (lq_l h)
              by_cases q56 : (im_i M9 43 12) ≤ (x8 + 1)
              · replace h := ed_pos q56 h
                exact J10 _ (ed_some h)
              · replace h := ed_neg q56 h
                obtain ⟨g69, h⟩ := ed_gd h
                exact J10 _ (ed_some h)
        exact I6 n6 _ _ hM5 hn6
  exact I2 n2 _ _ (fr_tr (fr_mono (by decide) (by decide +kernel) (f_Arrays_fill_4_fr e1)) fr_refl) hn2
noncomputable def f_HBlocks_spread_L36 (v9 : Int32) (v10 : Int32) (v11 : Int32) (x12 : Int32) (M13 : im_M) : Option ((Int32 × im_M) ⊕ (im_M)) := if v11 ≤ x12 then some (.inr M13) else gd (inb (v9 + x12) 2956) <| gd (inb x12 255) <| bd1 (f_HBlocks_placeOf v10 x12 (im_setI M13 48 (Int32.toNatClampNeg x12) ((im_i M13 40 (Int32.toNatClampNeg (v9 + x12))) &&& 255))) fun (x14 : Int32) => gd (inb (v9 + x12) 2956) <| gd (inb x14 3706) <| some (.inl ((x12 + 1), (im_setI (im_setI M13 48 (Int32.toNatClampNeg x12) ((im_i M13 40 (Int32.toNatClampNeg (v9 + x12))) &&& 255)) 44 (Int32.toNatClampNeg x14) (vp_nar .byte (im_i (im_setI M13 48 (Int32.toNatClampNeg x12) ((im_i M13 40 (Int32.toNatClampNeg (v9 + x12))) &&& 255)) 40 (Int32.toNatClampNeg (v9 + x12)))))))
noncomputable def f_HBlocks_spread_L97 (v18 : Int32) (v19 : Int32) (v20 : Int32) (x21 : Int32) (M22 : im_M) : Option ((Int32 × im_M) ⊕ (im_M)) := if (v20 + (im_i M22 43 12)) ≤ x21 then some (.inr M22) else bd1 (f_HBlocks_placeOf v19 x21 M22) fun (x23 : Int32) => gd (inb x21 255) <| gd (inb x23 3706) <| some (.inl ((x21 + 1), (im_setI M22 44 (Int32.toNatClampNeg x23) (vp_nar .byte ((Int32.toInt8 (im_i M22 48 (Int32.toNatClampNeg x21))).toInt32)))))
noncomputable def f_HBlocks_spread_L16 (x4 : Int32) (x5 : Int32) (M6 : im_M) : Option ((Int32 × Int32 × im_M) ⊕ (im_M)) := if (im_i M6 43 11) ≤ x5 then some (.inr M6) else bd1 (f_HBlocks_sizeOf x5 M6) fun (x7 : Int32) => bd1 (lp (uc2 (f_HBlocks_spread_L36 x4 x5 x7)) (0, M6)) fun (M15 : im_M) => bd1 (f_HBlocks_divide x7 M15) fun (M16 : im_M) => bd1 (lp (uc2 (f_HBlocks_spread_L97 x4 x5 x7)) (x7, M16)) fun (M24 : im_M) => some (.inl ((x4 + x7), (x5 + 1), M24))
noncomputable def f_HBlocks_spread (p0 : Int32) (p1 : Int32) (M : im_M) : Option (im_M) := bd1 (f_HBlocks_begin p0 p1 M) fun (M1 : im_M) => bd1 (f_HBlocks_makeGenerator M1) fun (M2 : im_M) => bd1 (lp (uc3 (f_HBlocks_spread_L16)) (0, 0, M2)) fun (M25 : im_M) => some M25
theorem J_HBlocks_spread_d0 : decode J_HBlocks_spread.2.1 0 = .ok (.aload_n 0, 1) := by decide +kernel
theorem J_HBlocks_spread_d1 : decode J_HBlocks_spread.2.1 1 = .ok (.iload_n 1, 1) := by decide +kernel
theorem J_HBlocks_spread_d2 : decode J_HBlocks_spread.2.1 2 = .ok (.iload_n 2, 1) := by decide +kernel
theorem J_HBlocks_spread_d3 : decode J_HBlocks_spread.2.1 3 = .ok (.invokevirtual 73, 3) := by decide +kernel
theorem J_HBlocks_spread_d6 : decode J_HBlocks_spread.2.1 6 = .ok (.aload_n 0, 1) := by decide +kernel
theorem J_HBlocks_spread_d7 : decode J_HBlocks_spread.2.1 7 = .ok (.invokevirtual 77, 3) := by decide +kernel
theorem J_HBlocks_spread_d10 : decode J_HBlocks_spread.2.1 10 = .ok (.iconst 0, 1) := by decide +kernel
theorem J_HBlocks_spread_d11 : decode J_HBlocks_spread.2.1 11 = .ok (.istore 4, 2) := by decide +kernel
theorem J_HBlocks_spread_d13 : decode J_HBlocks_spread.2.1 13 = .ok (.iconst 0, 1) := by decide +kernel
theorem J_HBlocks_spread_d14 : decode J_HBlocks_spread.2.1 14 = .ok (.istore 5, 2) := by decide +kernel
theorem J_HBlocks_spread_d16 : decode J_HBlocks_spread.2.1 16 = .ok (.iload 5, 2) := by decide +kernel
theorem J_HBlocks_spread_d18 : decode J_HBlocks_spread.2.1 18 = .ok (.aload_n 0, 1) := by decide +kernel
theorem J_HBlocks_spread_d19 : decode J_HBlocks_spread.2.1 19 = .ok (.getfield 53, 3) := by decide +kernel
theorem J_HBlocks_spread_d22 : decode J_HBlocks_spread.2.1 22 = .ok (.if_icmp .ge 127, 3) := by decide +kernel
theorem J_HBlocks_spread_d25 : decode J_HBlocks_spread.2.1 25 = .ok (.aload_n 0, 1) := by decide +kernel
theorem J_HBlocks_spread_d26 : decode J_HBlocks_spread.2.1 26 = .ok (.iload 5, 2) := by decide +kernel
theorem J_HBlocks_spread_d28 : decode J_HBlocks_spread.2.1 28 = .ok (.invokevirtual 70, 3) := by decide +kernel
theorem J_HBlocks_spread_d31 : decode J_HBlocks_spread.2.1 31 = .ok (.istore 6, 2) := by decide +kernel
theorem J_HBlocks_spread_d33 : decode J_HBlocks_spread.2.1 33 = .ok (.iconst 0, 1) := by decide +kernel
theorem J_HBlocks_spread_d34 : decode J_HBlocks_spread.2.1 34 = .ok (.istore 7, 2) := by decide +kernel
theorem J_HBlocks_spread_d36 : decode J_HBlocks_spread.2.1 36 = .ok (.iload 7, 2) := by decide +kernel
theorem J_HBlocks_spread_d38 : decode J_HBlocks_spread.2.1 38 = .ok (.iload 6, 2) := by decide +kernel
theorem J_HBlocks_spread_d40 : decode J_HBlocks_spread.2.1 40 = .ok (.if_icmp .ge 47, 3) := by decide +kernel
theorem J_HBlocks_spread_d43 : decode J_HBlocks_spread.2.1 43 = .ok (.aload_n 0, 1) := by decide +kernel
theorem J_HBlocks_spread_d44 : decode J_HBlocks_spread.2.1 44 = .ok (.getfield 25, 3) := by decide +kernel
theorem J_HBlocks_spread_d47 : decode J_HBlocks_spread.2.1 47 = .ok (.iload 7, 2) := by decide +kernel
theorem J_HBlocks_spread_d49 : decode J_HBlocks_spread.2.1 49 = .ok (.aload_n 3, 1) := by decide +kernel
theorem J_HBlocks_spread_d50 : decode J_HBlocks_spread.2.1 50 = .ok (.iload 4, 2) := by decide +kernel
theorem J_HBlocks_spread_d52 : decode J_HBlocks_spread.2.1 52 = .ok (.iload 7, 2) := by decide +kernel
theorem J_HBlocks_spread_d54 : decode J_HBlocks_spread.2.1 54 = .ok (.iadd, 1) := by decide +kernel
theorem J_HBlocks_spread_d55 : decode J_HBlocks_spread.2.1 55 = .ok (.baload, 1) := by decide +kernel
theorem J_HBlocks_spread_d56 : decode J_HBlocks_spread.2.1 56 = .ok (.sipush 255, 3) := by decide +kernel
theorem J_HBlocks_spread_d59 : decode J_HBlocks_spread.2.1 59 = .ok (.iand, 1) := by decide +kernel
theorem J_HBlocks_spread_d60 : decode J_HBlocks_spread.2.1 60 = .ok (.iastore, 1) := by decide +kernel
theorem J_HBlocks_spread_d61 : decode J_HBlocks_spread.2.1 61 = .ok (.aload_n 0, 1) := by decide +kernel
theorem J_HBlocks_spread_d62 : decode J_HBlocks_spread.2.1 62 = .ok (.getfield 11, 3) := by decide +kernel
theorem J_HBlocks_spread_d65 : decode J_HBlocks_spread.2.1 65 = .ok (.aload_n 0, 1) := by decide +kernel
theorem J_HBlocks_spread_d66 : decode J_HBlocks_spread.2.1 66 = .ok (.iload 5, 2) := by decide +kernel
theorem J_HBlocks_spread_d68 : decode J_HBlocks_spread.2.1 68 = .ok (.iload 7, 2) := by decide +kernel
theorem J_HBlocks_spread_d70 : decode J_HBlocks_spread.2.1 70 = .ok (.invokevirtual 80, 3) := by decide +kernel
theorem J_HBlocks_spread_d73 : decode J_HBlocks_spread.2.1 73 = .ok (.aload_n 3, 1) := by decide +kernel
theorem J_HBlocks_spread_d74 : decode J_HBlocks_spread.2.1 74 = .ok (.iload 4, 2) := by decide +kernel
theorem J_HBlocks_spread_d76 : decode J_HBlocks_spread.2.1 76 = .ok (.iload 7, 2) := by decide +kernel
theorem J_HBlocks_spread_d78 : decode J_HBlocks_spread.2.1 78 = .ok (.iadd, 1) := by decide +kernel
theorem J_HBlocks_spread_d79 : decode J_HBlocks_spread.2.1 79 = .ok (.baload, 1) := by decide +kernel
theorem J_HBlocks_spread_d80 : decode J_HBlocks_spread.2.1 80 = .ok (.bastore, 1) := by decide +kernel
theorem J_HBlocks_spread_d81 : decode J_HBlocks_spread.2.1 81 = .ok (.iinc 7 1, 3) := by decide +kernel
theorem J_HBlocks_spread_d84 : decode J_HBlocks_spread.2.1 84 = .ok (.goto (-48), 3) := by decide +kernel
theorem J_HBlocks_spread_d87 : decode J_HBlocks_spread.2.1 87 = .ok (.aload_n 0, 1) := by decide +kernel
theorem J_HBlocks_spread_d88 : decode J_HBlocks_spread.2.1 88 = .ok (.iload 6, 2) := by decide +kernel
theorem J_HBlocks_spread_d90 : decode J_HBlocks_spread.2.1 90 = .ok (.invokevirtual 83, 3) := by decide +kernel
theorem J_HBlocks_spread_d93 : decode J_HBlocks_spread.2.1 93 = .ok (.iload 6, 2) := by decide +kernel
theorem J_HBlocks_spread_d95 : decode J_HBlocks_spread.2.1 95 = .ok (.istore 7, 2) := by decide +kernel
theorem J_HBlocks_spread_d97 : decode J_HBlocks_spread.2.1 97 = .ok (.iload 7, 2) := by decide +kernel
theorem J_HBlocks_spread_d99 : decode J_HBlocks_spread.2.1 99 = .ok (.iload 6, 2) := by decide +kernel
theorem J_HBlocks_spread_d101 : decode J_HBlocks_spread.2.1 101 = .ok (.aload_n 0, 1) := by decide +kernel
theorem J_HBlocks_spread_d102 : decode J_HBlocks_spread.2.1 102 = .ok (.getfield 57, 3) := by decide +kernel
theorem J_HBlocks_spread_d105 : decode J_HBlocks_spread.2.1 105 = .ok (.iadd, 1) := by decide +kernel
theorem J_HBlocks_spread_d106 : decode J_HBlocks_spread.2.1 106 = .ok (.if_icmp .ge 30, 3) := by decide +kernel
theorem J_HBlocks_spread_d109 : decode J_HBlocks_spread.2.1 109 = .ok (.aload_n 0, 1) := by decide +kernel
theorem J_HBlocks_spread_d110 : decode J_HBlocks_spread.2.1 110 = .ok (.getfield 11, 3) := by decide +kernel
theorem J_HBlocks_spread_d113 : decode J_HBlocks_spread.2.1 113 = .ok (.aload_n 0, 1) := by decide +kernel
theorem J_HBlocks_spread_d114 : decode J_HBlocks_spread.2.1 114 = .ok (.iload 5, 2) := by decide +kernel
theorem J_HBlocks_spread_d116 : decode J_HBlocks_spread.2.1 116 = .ok (.iload 7, 2) := by decide +kernel
theorem J_HBlocks_spread_d118 : decode J_HBlocks_spread.2.1 118 = .ok (.invokevirtual 80, 3) := by decide +kernel
theorem J_HBlocks_spread_d121 : decode J_HBlocks_spread.2.1 121 = .ok (.aload_n 0, 1) := by decide +kernel
theorem J_HBlocks_spread_d122 : decode J_HBlocks_spread.2.1 122 = .ok (.getfield 25, 3) := by decide +kernel
theorem J_HBlocks_spread_d125 : decode J_HBlocks_spread.2.1 125 = .ok (.iload 7, 2) := by decide +kernel
theorem J_HBlocks_spread_d127 : decode J_HBlocks_spread.2.1 127 = .ok (.iaload, 1) := by decide +kernel
theorem J_HBlocks_spread_d128 : decode J_HBlocks_spread.2.1 128 = .ok (.i2b, 1) := by decide +kernel
theorem J_HBlocks_spread_d129 : decode J_HBlocks_spread.2.1 129 = .ok (.bastore, 1) := by decide +kernel
theorem J_HBlocks_spread_d130 : decode J_HBlocks_spread.2.1 130 = .ok (.iinc 7 1, 3) := by decide +kernel
theorem J_HBlocks_spread_d133 : decode J_HBlocks_spread.2.1 133 = .ok (.goto (-36), 3) := by decide +kernel
theorem J_HBlocks_spread_d136 : decode J_HBlocks_spread.2.1 136 = .ok (.iload 4, 2) := by decide +kernel
theorem J_HBlocks_spread_d138 : decode J_HBlocks_spread.2.1 138 = .ok (.iload 6, 2) := by decide +kernel
theorem J_HBlocks_spread_d140 : decode J_HBlocks_spread.2.1 140 = .ok (.iadd, 1) := by decide +kernel
theorem J_HBlocks_spread_d141 : decode J_HBlocks_spread.2.1 141 = .ok (.istore 4, 2) := by decide +kernel
theorem J_HBlocks_spread_d143 : decode J_HBlocks_spread.2.1 143 = .ok (.iinc 5 1, 3) := by decide +kernel
theorem J_HBlocks_spread_d146 : decode J_HBlocks_spread.2.1 146 = .ok (.goto (-130), 3) := by decide +kernel
theorem J_HBlocks_spread_d149 : decode J_HBlocks_spread.2.1 149 = .ok (.return_, 1) := by decide +kernel
theorem f_HBlocks_spread_ok {L : Nat} {xs : Nat → Int32} {dep : Nat} {w : Bool} {p0 : Int32} {p1 : Int32} {M : im_M} {Q : im_M → Prop} (hM : lw_S w M) (h : ed (f_HBlocks_spread p0 p1 M) Q) : ia (tb_G L xs) (dep + 3) J_HBlocks_spread (rwV w Q) (0, lv_args 0 [.ref 43, .int p0, .int p1, .ref 40], [], M) := by
  have hS : im_St (tb_G L xs) (dep + 3) J_HBlocks_spread (ia (tb_G L xs) (dep + 3) J_HBlocks_spread (rwV w Q)) := ia_St
  unfold f_HBlocks_spread at h
  have l0 : im_lk (lv_args 0 [.ref 43, .int p0, .int p1, .ref 40]) 0 = some (.ref 43) := rfl
  have l1 : im_lk (lv_args 0 [.ref 43, .int p0, .int p1, .ref 40]) 1 = some (.int p0) := rfl
  have l2 : im_lk (lv_args 0 [.ref 43, .int p0, .int p1, .ref 40]) 2 = some (.int p1) := rfl
  have l3 : im_lk (lv_args 0 [.ref 43, .int p0, .int p1, .ref 40]) 3 = some (.ref 40) := rfl
  refine iq_aload_n hS 1 J_HBlocks_spread_d0 l0 rfl ?_
  refine iq_iload_n hS 2 J_HBlocks_spread_d1 l1 rfl ?_
  refine iq_iload_n hS 3 J_HBlocks_spread_d2 l2 rfl ?_
  obtain ⟨Q1, hQ1, h⟩ := bd1_ed h
  refine iq_cwV hS 6 J_HBlocks_spread_d3 rfl (pr_inst (vs := [_, _]) lc_1_73 lT_148 rfl rfl (by decide) (by decide) rfl (Nat.le_of_ble_eq_true rfl) (Nat.le_of_ble_eq_true rfl) (fun _ => Or.inl (pr_b (ka_43 hM) (by decide) rfl))) (f_HBlocks_begin_ok (dep := dep + 0) hM h) rfl ?_
  intro M1 hM1 h
  replace h := hQ1 _ h
  refine iq_aload_n hS 7 J_HBlocks_spread_d6 l0 rfl ?_
  obtain ⟨Q2, hQ2, h⟩ := bd1_ed h
  refine iq_cwV hS 10 J_HBlocks_spread_d7 rfl (pr_inst (vs := []) lc_1_77 lT_149 rfl rfl (by decide) (by decide) rfl (Nat.le_of_ble_eq_true rfl) (Nat.le_of_ble_eq_true rfl) (fun _ => Or.inl (pr_b (ka_43 hM1) (by decide) rfl))) (f_HBlocks_makeGenerator_ok (dep := dep + 1) hM1 h) rfl ?_
  intro M2 hM2 h
  replace h := hQ2 _ h
  refine iq_iconst hS 11 J_HBlocks_spread_d10 (v := 0) (by decide +kernel) rfl ?_
  refine iq_istore hS 13 J_HBlocks_spread_d11 (by decide) rfl ?_
  refine iq_iconst hS 14 J_HBlocks_spread_d13 (v := 0) (by decide +kernel) rfl ?_
  refine iq_istore hS 16 J_HBlocks_spread_d14 (by decide) rfl ?_
  obtain ⟨Q3, hQ3, h⟩ := bd1_ed h
  have K3 : ∀ (M4 : im_M) (L' : List (Nat × Value)), lw_S w M4 → Q3 M4 → ia (tb_G L xs) (dep + 3) J_HBlocks_spread (rwV w Q) (149, L', [], M4) := by
    intro M4 L' hM4  h
    replace h := hQ3 _ h
    exact iq_ret J_HBlocks_spread_d149 rfl ⟨rfl, hM4, ed_some h⟩
  obtain ⟨r3, hr3, hq3⟩ := h
  obtain ⟨n3, hn3⟩ := lp_n hr3
  have I3 : ∀ (n : Nat) (x5 : Int32) (x6 : Int32) (M7 : im_M) (L' : List (Nat × Value)), lw_S w M7 → im_lk L' 0 = some (.ref 43) → im_lk L' 3 = some (.ref 40) → im_lk L' 4 = some (.int x5) → im_lk L' 5 = some (.int x6) → lpn (uc3 (f_HBlocks_spread_L16)) n (x5, x6, M7) = some r3 → ia (tb_G L xs) (dep + 3) J_HBlocks_spread (rwV w Q) (16, L', [], M7) := by
    intro n
    induction n with
    | zero => intro x5 x6 M7 L' hM7 l8 l9 l10 l11 hn; exact (lpn_0 hn).elim
    | succ n ih =>
      intro x5 x6 M7 L' hM7 l8 l9 l10 l11 hn
      have h := lpn_ed3 hn
      unfold f_HBlocks_spread_L16 at h
      refine iq_iload hS 18 J_HBlocks_spread_d16 l11 rfl ?_
      refine iq_aload_n hS 19 J_HBlocks_spread_d18 l8 rfl ?_
      refine iq_getI hS 22 J_HBlocks_spread_d19 lf_1_53 (Or.inl rfl) (ka_43 hM7) rfl ?_
      refine iq_icmp_ge hS 25 J_HBlocks_spread_d22 (t := 149) rfl (fun q22 => ?_) rfl (fun q22 => ?_)
      · replace h := ed_pos q22 h
        exact K3 _ _ hM7  (lq_r h hq3)
      · replace h := ed_neg q22 h
        refine iq_aload_n hS 26 J_HBlocks_spread_d25 l8 rfl ?_
        refine iq_iload hS 28 J_HBlocks_spread_d26 l11 rfl ?_
        obtain ⟨Q12, hQ12, h⟩ := bd1_ed h
        refine iq_cpI hS 31 J_HBlocks_spread_d28 rfl (pr_inst (vs := [_]) lc_1_70 lT_152 rfl rfl (by decide) (by decide) rfl (Nat.le_of_ble_eq_true rfl) (Nat.le_of_ble_eq_true rfl) (fun _ => Or.inl (pr_b (ka_43 hM7) (by decide) rfl))) (f_HBlocks_sizeOf_ok (dep := dep + 2) hM7 h) rfl ?_
        intro x12 h
        replace h := hQ12 _ h
        refine iq_istore hS 33 J_HBlocks_spread_d31 (by decide) rfl ?_
        refine iq_iconst hS 34 J_HBlocks_spread_d33 (v := 0) (by decide +kernel) rfl ?_
        refine iq_istore hS 36 J_HBlocks_spread_d34 (by decide) rfl ?_
        obtain ⟨Q13, hQ13, h⟩ := bd1_ed h
        have K13 : ∀ (M14 : im_M) (L' : List (Nat × Value)), lw_S w M14 → im_lk L' 0 = some (.ref 43) → im_lk L' 3 = some (.ref 40) → im_lk L' 4 = some (.int x5) → im_lk L' 5 = some (.int x6) → im_lk L' 6 = some (.int x12) → Q13 M14 → ia (tb_G L xs) (dep + 3) J_HBlocks_spread (rwV w Q) (87, L', [], M14) := by
          intro M14 L' hM14 l15 l16 l17 l18 l19 h
          replace h := hQ13 _ h
          refine iq_aload_n hS 88 J_HBlocks_spread_d87 l15 rfl ?_
          refine iq_iload hS 90 J_HBlocks_spread_d88 l19 rfl ?_
          obtain ⟨Q20, hQ20, h⟩ := bd1_ed h
          refine iq_cwV hS 93 J_HBlocks_spread_d90 rfl (pr_inst (vs := [_]) lc_1_83 lT_154 rfl rfl (by decide) (by decide) rfl (Nat.le_of_ble_eq_true rfl) (Nat.le_of_ble_eq_true rfl) (fun _ => Or.inl (pr_b (ka_43 hM14) (by decide) rfl))) (f_HBlocks_divide_ok (dep := dep + 0) hM14 h) rfl ?_
          intro M20 hM20 h
          replace h := hQ20 _ h
          refine iq_iload hS 95 J_HBlocks_spread_d93 l19 rfl ?_
          refine iq_istore hS 97 J_HBlocks_spread_d95 (by decide) rfl ?_
          obtain ⟨Q21, hQ21, h⟩ := bd1_ed h
          have K21 : ∀ (M22 : im_M) (L' : List (Nat × Value)), lw_S w M22 → im_lk L' 0 = some (.ref 43) → im_lk L' 3 = some (.ref 40) → im_lk L' 4 = some (.int x5) → im_lk L' 5 = some (.int x6) → im_lk L' 6 = some (.int x12) → Q21 M22 → ia (tb_G L xs) (dep + 3) J_HBlocks_spread (rwV w Q) (136, L', [], M22) := by
            intro M22 L' hM22 l23 l24 l25 l26 l27 h
            replace h := hQ21 _ h
            refine iq_iload hS 138 J_HBlocks_spread_d136 l25 rfl ?_
            refine iq_iload hS 140 J_HBlocks_spread_d138 l27 rfl ?_
            refine iq_iadd hS 141 J_HBlocks_spread_d140 rfl ?_
            refine iq_istore hS 143 J_HBlocks_spread_d141 (by decide) rfl ?_
            refine iq_iincv hS 146 J_HBlocks_spread_d143 (c := 1) (by decide +kernel) (lk_1i l26 (by decide)) (by decide) rfl ?_
            refine iq_goto hS J_HBlocks_spread_d146 (t := 16) rfl ?_
            exact ih _ _ _ _ hM22 (lk_1r (lk_1r l23 (by decide)) (by decide)) (lk_1r (lk_1r l24 (by decide)) (by decide)) (lk_1i lk_1s (by decide)) lk_1s (lq_l h)
          obtain ⟨r21, hr21, hq21⟩ := h
          obtain ⟨n21, hn21⟩ := lp_n hr21
          have I21 : ∀ (n : Nat) (x28 : Int32) (M29 : im_M) (L' : List (Nat × Value)), lw_S w M29 → im_lk L' 0 = some (.ref 43) → im_lk L' 3 = some (.ref 40) → im_lk L' 4 = some (.int x5) → im_lk L' 5 = some (.int x6) → im_lk L' 6 = some (.int x12) → im_lk L' 7 = some (.int x28) → lpn (uc2 (f_HBlocks_spread_L97 x5 x6 x12)) n (x28, M29) = some r21 → ia (tb_G L xs) (dep + 3) J_HBlocks_spread (rwV w Q) (97, L', [], M29) := by
            intro n
            induction n with
            | zero => intro x28 M29 L' hM29 l30 l31 l32 l33 l34 l35 hn; exact (lpn_0 hn).elim
            | succ n ih =>
              intro x28 M29 L' hM29 l30 l31 l32 l33 l34 l35 hn
              have h := lpn_ed2 hn
              unfold f_HBlocks_spread_L97 at h
              refine iq_iload hS 99 J_HBlocks_spread_d97 l35 rfl ?_
              refine iq_iload hS 101 J_HBlocks_spread_d99 l34 rfl ?_
              refine iq_aload_n hS 102 J_HBlocks_spread_d101 l30 rfl ?_
              refine iq_getI hS 105 J_HBlocks_spread_d102 lf_1_57 (Or.inl rfl) (ka_43 hM29) rfl ?_
              refine iq_iadd hS 106 J_HBlocks_spread_d105 rfl ?_
              refine iq_icmp_ge hS 109 J_HBlocks_spread_d106 (t := 136) rfl (fun q106 => ?_) rfl (fun q106 => ?_)
              · replace h := ed_pos q106 h
                exact K21 _ _ hM29 l30 l31 l32 l33 l34 (lq_r h hq21)
              · replace h := ed_neg q106 h
                refine iq_aload_n hS 110 J_HBlocks_spread_d109 l30 rfl ?_
                refine iq_getR hS 113 J_HBlocks_spread_d110 lf_1_11 (Or.inr ⟨_, rfl⟩) (ka_43 hM29) (ra_43_0 hM29) rfl ?_
                refine iq_aload_n hS 114 J_HBlocks_spread_d113 l30 rfl ?_
                refine iq_iload hS 116 J_HBlocks_spread_d114 l33 rfl ?_
                refine iq_iload hS 118 J_HBlocks_spread_d116 l35 rfl ?_
                obtain ⟨Q36, hQ36, h⟩ := bd1_ed h
                refine iq_cpI hS 121 J_HBlocks_spread_d118 rfl (pr_inst (vs := [_, _]) lc_1_80 lT_153 rfl rfl (by decide) (by decide) rfl (Nat.le_of_ble_eq_true rfl) (Nat.le_of_ble_eq_true rfl) (fun _ => Or.inl (pr_b (ka_43 hM29) (by decide) rfl))) (f_HBlocks_placeOf_ok (dep := dep + 1) hM29 h) rfl ?_
                intro x36 h
                replace h := hQ36 _ h
                refine iq_aload_n hS 122 J_HBlocks_spread_d121 l30 rfl ?_
                refine iq_getR hS 125 J_HBlocks_spread_d122 lf_1_25 (Or.inr ⟨_, rfl⟩) (ka_43 hM29) (ra_43_4 hM29) rfl ?_
                refine iq_iload hS 127 J_HBlocks_spread_d125 l35 rfl ?_
                obtain ⟨g127, h⟩ := ed_gd h
                refine iq_iaload hS 128 J_HBlocks_spread_d127 ⟨(ka_48 hM29).1, (ka_48 hM29).2, g127.1, ix_lt (kl_48 hM29) g127.2⟩ rfl ?_
                refine iq_i2b hS 129 J_HBlocks_spread_d128 rfl ?_
                obtain ⟨g129, h⟩ := ed_gd h
                refine iq_bastore hS 130 J_HBlocks_spread_d129 ⟨(ka_44 hM29).1, (ka_44 hM29).2, g129.1, ix_lt (kl_44 hM29) g129.2⟩ rfl ?_
                refine iq_iincv hS 133 J_HBlocks_spread_d130 (c := 1) (by decide +kernel) l35 (by decide) rfl ?_
                refine iq_goto hS J_HBlocks_spread_d133 (t := 97) rfl ?_
                exact ih _ _ _ (lw_sI hM29) (lk_1r l30 (by decide)) (lk_1r l31 (by decide)) (lk_1i l32 (by decide)) (lk_1i l33 (by decide)) (lk_1i l34 (by decide)) lk_1s (lq_l h)
          exact I21 n21 _ _ _ hM20 (lk_1r l15 (by decide)) (lk_1r l16 (by decide)) (lk_1i l17 (by decide)) (lk_1i l18 (by decide)) (lk_1i l19 (by decide)) lk_1s hn21
        obtain ⟨r13, hr13, hq13⟩ := h
        obtain ⟨n13, hn13⟩ := lp_n hr13
        have I13 : ∀ (n : Nat) (x37 : Int32) (M38 : im_M) (L' : List (Nat × Value)), lw_S w M38 → im_lk L' 0 = some (.ref 43) → im_lk L' 3 = some (.ref 40) → im_lk L' 4 = some (.int x5) → im_lk L' 5 = some (.int x6) → im_lk L' 6 = some (.int x12) → im_lk L' 7 = some (.int x37) → lpn (uc2 (f_HBlocks_spread_L36 x5 x6 x12)) n (x37, M38) = some r13 → ia (tb_G L xs) (dep + 3) J_HBlocks_spread (rwV w Q) (36, L', [], M38) := by
          intro n
          induction n with
          | zero => intro x37 M38 L' hM38 l39 l40 l41 l42 l43 l44 hn; exact (lpn_0 hn).elim
          | succ n ih =>
            intro x37 M38 L' hM38 l39 l40 l41 l42 l43 l44 hn
            have h := lpn_ed2 hn
            unfold f_HBlocks_spread_L36 at h
            refine iq_iload hS 38 J_HBlocks_spread_d36 l44 rfl ?_
            refine iq_iload hS 40 J_HBlocks_spread_d38 l43 rfl ?_
            refine iq_icmp_ge hS 43 J_HBlocks_spread_d40 (t := 87) rfl (fun q40 => ?_) rfl (fun q40 => ?_)
            · replace h := ed_pos q40 h
              exact K13 _ _ hM38 l39 l40 l41 l42 l43 (lq_r h hq13)
            · replace h := ed_neg q40 h
              refine iq_aload_n hS 44 J_HBlocks_spread_d43 l39 rfl ?_
              refine iq_getR hS 47 J_HBlocks_spread_d44 lf_1_25 (Or.inr ⟨_, rfl⟩) (ka_43 hM38) (ra_43_4 hM38) rfl ?_
              refine iq_iload hS 49 J_HBlocks_spread_d47 l44 rfl ?_
              refine iq_aload_n hS 50 J_HBlocks_spread_d49 l40 rfl ?_
              refine iq_iload hS 52 J_HBlocks_spread_d50 l41 rfl ?_
              refine iq_iload hS 54 J_HBlocks_spread_d52 l44 rfl ?_
              refine iq_iadd hS 55 J_HBlocks_spread_d54 rfl ?_
              obtain ⟨g55, h⟩ := ed_gd h
              refine iq_baload hS 56 J_HBlocks_spread_d55 ⟨(ka_40 hM38).1, (ka_40 hM38).2, g55.1, ix_lt (kl_40 hM38) g55.2⟩ rfl ?_
              refine iq_sipush hS 59 J_HBlocks_spread_d56 (v := 255) (by decide +kernel) rfl ?_
              refine iq_iand hS 60 J_HBlocks_spread_d59 rfl ?_
              obtain ⟨g60, h⟩ := ed_gd h
              refine iq_iastore hS 61 J_HBlocks_spread_d60 ⟨(ka_48 hM38).1, (ka_48 hM38).2, g60.1, ix_lt (kl_48 hM38) g60.2⟩ rfl ?_
              refine iq_aload_n hS 62 J_HBlocks_spread_d61 l39 rfl ?_
              refine iq_getR hS 65 J_HBlocks_spread_d62 lf_1_11 (Or.inr ⟨_, rfl⟩) (ka_43 (lw_sI hM38)) (ra_43_0 (lw_sI hM38)) rfl ?_
              refine iq_aload_n hS 66 J_HBlocks_spread_d65 l39 rfl ?_
              refine iq_iload hS 68 J_HBlocks_spread_d66 l42 rfl ?_
              refine iq_iload hS 70 J_HBlocks_spread_d68 l44 rfl ?_
              obtain ⟨Q45, hQ45, h⟩ := bd1_ed h
              refine iq_cpI hS 73 J_HBlocks_spread_d70 rfl (pr_inst (vs := [_, _]) lc_1_80 lT_153 rfl rfl (by decide) (by decide) rfl (Nat.le_of_ble_eq_true rfl) (Nat.le_of_ble_eq_true rfl) (fun _ => Or.inl (pr_b (ka_43 (lw_sI hM38)) (by decide) rfl))) (f_HBlocks_placeOf_ok (dep := dep + 1) (lw_sI hM38) h) rfl ?_
              intro x45 h
              replace h := hQ45 _ h
              refine iq_aload_n hS 74 J_HBlocks_spread_d73 l40 rfl ?_
              refine iq_iload hS 76 J_HBlocks_spread_d74 l41 rfl ?_
              refine iq_iload hS 78 J_HBlocks_spread_d76 l44 rfl ?_
              refine iq_iadd hS 79 J_HBlocks_spread_d78 rfl ?_
              obtain ⟨g79, h⟩ := ed_gd h
              refine iq_baload hS 80 J_HBlocks_spread_d79 ⟨(ka_40 (lw_sI hM38)).1, (ka_40 (lw_sI hM38)).2, g79.1, ix_lt (kl_40 (lw_sI hM38)) g79.2⟩ rfl ?_
              obtain ⟨g80, h⟩ := ed_gd h
              refine iq_bastore hS 81 J_HBlocks_spread_d80 ⟨(ka_44 (lw_sI hM38)).1, (ka_44 (lw_sI hM38)).2, g80.1, ix_lt (kl_44 (lw_sI hM38)) g80.2⟩ rfl ?_
              refine iq_iincv hS 84 J_HBlocks_spread_d81 (c := 1) (by decide +kernel) l44 (by decide) rfl ?_
              refine iq_goto hS J_HBlocks_spread_d84 (t := 36) rfl ?_
              exact ih _ _ _ (lw_sI (lw_sI hM38)) (lk_1r l39 (by decide)) (lk_1r l40 (by decide)) (lk_1i l41 (by decide)) (lk_1i l42 (by decide)) (lk_1i l43 (by decide)) lk_1s (lq_l h)
        exact I13 n13 _ _ _ hM7 (lk_1r (lk_1r l8 (by decide)) (by decide)) (lk_1r (lk_1r l9 (by decide)) (by decide)) (lk_1i (lk_1i l10 (by decide)) (by decide)) (lk_1i (lk_1i l11 (by decide)) (by decide)) (lk_1i lk_1s (by decide)) lk_1s hn13
  exact I3 n3 _ _ _ _ hM2 (lk_1r (lk_1r l0 (by decide)) (by decide)) (lk_1r (lk_1r l3 (by decide)) (by decide)) (lk_1i lk_1s (by decide)) lk_1s hn3
theorem f_HBlocks_spread_fr {p0 : Int32} {p1 : Int32} {M : im_M} {r : im_M} (h : f_HBlocks_spread p0 p1 M = some r) : fr 439804651110400 [(43, 10), (43, 11), (43, 12), (43, 13)] M r := by
  replace h : ed (f_HBlocks_spread p0 p1 M) (fun x => x = r) := ⟨r, h, rfl⟩
  unfold f_HBlocks_spread at h
  obtain ⟨Q1, hQ1, h⟩ := bd1_ed h
  obtain ⟨M1, e1, h⟩ := h
  replace h := hQ1 _ h
  obtain ⟨Q2, hQ2, h⟩ := bd1_ed h
  obtain ⟨M2, e2, h⟩ := h
  replace h := hQ2 _ h
  obtain ⟨Q3, hQ3, h⟩ := bd1_ed h
  have K3 : ∀ (M4 : im_M), fr 439804651110400 [(43, 10), (43, 11), (43, 12), (43, 13)] M M4 → Q3 M4 → fr 439804651110400 [(43, 10), (43, 11), (43, 12), (43, 13)] M r := by
    intro M4 hM4 h
    replace h := hQ3 _ h
    exact fr_retV h hM4
  obtain ⟨r3, hr3, hq3⟩ := h
  obtain ⟨n3, hn3⟩ := lp_n hr3
  have I3 : ∀ (n : Nat) (x5 : Int32) (x6 : Int32) (M7 : im_M), fr 439804651110400 [(43, 10), (43, 11), (43, 12), (43, 13)] M M7 → lpn (uc3 (f_HBlocks_spread_L16)) n (x5, x6, M7) = some r3 → fr 439804651110400 [(43, 10), (43, 11), (43, 12), (43, 13)] M r := by
    intro n
    induction n with
    | zero => intro x5 x6 M7 hM7 hn; exact (lpn_0 hn).elim
    | succ n ih =>
      intro x5 x6 M7 hM7 hn
      have h := lpn_ed3 hn
      unfold f_HBlocks_spread_L16 at h
      by_cases q22 : (im_i M7 43 11) ≤ x6
      · replace h := ed_pos q22 h
        exact K3 _ hM7 (lq_r h hq3)
      · replace h := ed_neg q22 h
        obtain ⟨Q8, hQ8, h⟩ := bd1_ed h
        obtain ⟨x8, e8, h⟩ := h
        replace h := hQ8 _ h
        obtain ⟨Q9, hQ9, h⟩ := bd1_ed h
        have K9 : ∀ (M10 : im_M), fr 439804651110400 [(43, 10), (43, 11), (43, 12), (43, 13)] M M10 → Q9 M10 → fr 439804651110400 [(43, 10), (43, 11), (43, 12), (43, 13)] M r := by
          intro M10 hM10 h
          replace h := hQ9 _ h
          obtain ⟨Q11, hQ11, h⟩ := bd1_ed h
          obtain ⟨M11, e11, h⟩ := h
          replace h := hQ11 _ h
          obtain ⟨Q12, hQ12, h⟩ := bd1_ed h
          have K12 : ∀ (M13 : im_M), fr 439804651110400 [(43, 10), (43, 11), (43, 12), (43, 13)] M M13 → Q12 M13 → fr 439804651110400 [(43, 10), (43, 11), (43, 12), (43, 13)] M r := by
            intro M13 hM13 h
            replace h := hQ12 _ h
            exact ih _ _ _ hM13 (lq_l h)
          obtain ⟨r12, hr12, hq12⟩ := h
          obtain ⟨n12, hn12⟩ := lp_n hr12
          have I12 : ∀ (n : Nat) (x14 : Int32) (M15 : im_M), fr 439804651110400 [(43, 10), (43, 11), (43, 12), (43, 13)] M M15 → lpn (uc2 (f_HBlocks_spread_L97 x5 x6 x8)) n (x14, M15) = some r12 → fr 439804651110400 [(43, 10), (43, 11), (43, 12), (43, 13)] M r := by
            intro n
            induction n with
            | zero => intro x14 M15 hM15 hn; exact (lpn_0 hn).elim
            | succ n ih =>
              intro x14 M15 hM15 hn
              have h := lpn_ed2 hn
              unfold f_HBlocks_spread_L97 at h
              by_cases q106 : (x8 + (im_i M15 43 12)) ≤ x14
              · replace h := ed_pos q106 h
                exact K12 _ hM15 (lq_r h hq12)
              · replace h := ed_neg q106 h
                obtain ⟨Q16, hQ16, h⟩ := bd1_ed h
                obtain ⟨x16, e16, h⟩ := h
                replace h := hQ16 _ h
                obtain ⟨g127, h⟩ := ed_gd h
                obtain ⟨g129, h⟩ := ed_gd h
                exact ih _ _ (fr_I (by decide) hM15) (lq_l h)
          exact I12 n12 _ _ (fr_tr (fr_mono (by decide) (by decide +kernel) (f_HBlocks_divide_fr e11)) hM10) hn12
        obtain ⟨r9, hr9, hq9⟩ := h
        obtain ⟨n9, hn9⟩ := lp_n hr9
        have I9 : ∀ (n : Nat) (x17 : Int32) (M18 : im_M), fr 439804651110400 [(43, 10), (43, 11), (43, 12), (43, 13)] M M18 → lpn (uc2 (f_HBlocks_spread_L36 x5 x6 x8)) n (x17, M18) = some r9 → fr 439804651110400 [(43, 10), (43, 11), (43, 12), (43, 13)] M r := by
          intro n
          induction n with
          | zero => intro x17 M18 hM18 hn; exact (lpn_0 hn).elim
          | succ n ih =>
            intro x17 M18 hM18 hn
            have h := lpn_ed2 hn
            unfold f_HBlocks_spread_L36 at h
            by_cases q40 : x8 ≤ x17
            · replace h := ed_pos q40 h
              exact K9 _ hM18 (lq_r h hq9)
            · replace h := ed_neg q40 h
              obtain ⟨g55, h⟩ := ed_gd h
              obtain ⟨g60, h⟩ := ed_gd h
              obtain ⟨Q19, hQ19, h⟩ := bd1_ed h
              obtain ⟨x19, e19, h⟩ := h
              replace h := hQ19 _ h
              obtain ⟨g79, h⟩ := ed_gd h
              obtain ⟨g80, h⟩ := ed_gd h
              exact ih _ _ (fr_I (by decide) (fr_I (by decide) hM18)) (lq_l h)
        exact I9 n9 _ _ hM7 hn9
  exact I3 n3 _ _ _ (fr_tr (fr_mono (by decide) (by decide +kernel) (f_HBlocks_makeGenerator_fr e2)) (fr_tr (fr_mono (by decide) (by decide +kernel) (f_HBlocks_begin_fr e1)) fr_refl)) hn3
noncomputable def f_Arrays_fill3_1_L10 (v3 : Int32) (v4 : Int32) (x5 : Int32) (M6 : im_M) : Option ((Int32 × im_M) ⊕ (im_M)) := if v3 ≤ x5 then some (.inr M6) else gd (inb x5 31329) <| some (.inl ((x5 + 1), (im_setI M6 55 (Int32.toNatClampNeg x5) (vp_nar .byte v4))))
noncomputable def f_Arrays_fill3_1 (p1 : Int32) (p2 : Int32) (p3 : Int32) (M : im_M) : Option (im_M) := bd0 (f_Arrays_rangeCheck 31329 p1 p2 M) fun (_ : Unit) => bd1 (lp (uc2 (f_Arrays_fill3_1_L10 p2 p3)) (p1, M)) fun (M7 : im_M) => some M7
theorem f_Arrays_fill3_1_ok {L : Nat} {xs : Nat → Int32} {dep : Nat} {w : Bool} {p1 : Int32} {p2 : Int32} {p3 : Int32} {M : im_M} {Q : im_M → Prop} (hM : lw_S w M) (h : ed (f_Arrays_fill3_1 p1 p2 p3 M) Q) : ia (tb_G L xs) (dep + 1) J_Arrays_fill3 (rwV w Q) (0, lv_args 0 [.ref 55, .int p1, .int p2, .int p3], [], M) := by
  have hS : im_St (tb_G L xs) (dep + 1) J_Arrays_fill3 (ia (tb_G L xs) (dep + 1) J_Arrays_fill3 (rwV w Q)) := ia_St
  unfold f_Arrays_fill3_1 at h
  have l0 : im_lk (lv_args 0 [.ref 55, .int p1, .int p2, .int p3]) 0 = some (.ref 55) := rfl
  have l1 : im_lk (lv_args 0 [.ref 55, .int p1, .int p2, .int p3]) 1 = some (.int p1) := rfl
  have l2 : im_lk (lv_args 0 [.ref 55, .int p1, .int p2, .int p3]) 2 = some (.int p2) := rfl
  have l3 : im_lk (lv_args 0 [.ref 55, .int p1, .int p2, .int p3]) 3 = some (.int p3) := rfl
  refine iq_aload_n hS 1 J_Arrays_fill3_d0 l0 rfl ?_
  refine iq_alenv hS 2 J_Arrays_fill3_d1 (v := 31329) (ka_55 hM) (by decide) (by decide) (kl_55 hM) (by decide +kernel) rfl ?_
  refine iq_iload_n hS 3 J_Arrays_fill3_d2 l1 rfl ?_
  refine iq_iload_n hS 4 J_Arrays_fill3_d3 l2 rfl ?_
  obtain ⟨Q1, hQ1, h⟩ := bd0_ed h
  refine iq_cpV hS 7 J_Arrays_fill3_d4 rfl (pr_stat (vs := [_, _, _]) lc_22_13 lT_54 rfl rfl (by decide) rfl (Nat.le_of_ble_eq_true rfl) (Nat.le_of_ble_eq_true rfl)) (f_Arrays_rangeCheck_ok (dep := dep + 0) hM h) rfl ?_
  intro h
  replace h := hQ1  h
  refine iq_iload_n hS 8 J_Arrays_fill3_d7 l1 rfl ?_
  refine iq_istore hS 10 J_Arrays_fill3_d8 (by decide) rfl ?_
  obtain ⟨Q2, hQ2, h⟩ := bd1_ed h
  have K2 : ∀ (M3 : im_M) (L' : List (Nat × Value)), lw_S w M3 → Q2 M3 → ia (tb_G L xs) (dep + 1) J_Arrays_fill3 (rwV w Q) (27, L', [], M3) := by
    intro M3 L' hM3  h
    replace h := hQ2 _ h
    exact iq_ret J_Arrays_fill3_d27 rfl ⟨rfl, hM3, ed_some h⟩
  obtain ⟨r2, hr2, hq2⟩ := h
  obtain ⟨n2, hn2⟩ := lp_n hr2
  have I2 : ∀ (n : Nat) (x4 : Int32) (M5 : im_M) (L' : List (Nat × Value)), lw_S w M5 → im_lk L' 0 = some (.ref 55) → im_lk L' 2 = some (.int p2) → im_lk L' 3 = some (.int p3) → im_lk L' 4 = some (.int x4) → lpn (uc2 (f_Arrays_fill3_1_L10 p2 p3)) n (x4, M5) = some r2 → ia (tb_G L xs) (dep + 1) J_Arrays_fill3 (rwV w Q) (10, L', [], M5) := by
    intro n
    induction n with
    | zero => intro x4 M5 L' hM5 l6 l7 l8 l9 hn; exact (lpn_0 hn).elim
    | succ n ih =>
      intro x4 M5 L' hM5 l6 l7 l8 l9 hn
      have h := lpn_ed2 hn
      unfold f_Arrays_fill3_1_L10 at h
      refine iq_iload hS 12 J_Arrays_fill3_d10 l9 rfl ?_
      refine iq_iload_n hS 13 J_Arrays_fill3_d12 l7 rfl ?_
      refine iq_icmp_ge hS 16 J_Arrays_fill3_d13 (t := 27) rfl (fun q13 => ?_) rfl (fun q13 => ?_)
      · replace h := ed_pos q13 h
        exact K2 _ _ hM5  (lq_r h hq2)
      · replace h := ed_neg q13 h
        refine iq_aload_n hS 17 J_Arrays_fill3_d16 l6 rfl ?_
        refine iq_iload hS 19 J_Arrays_fill3_d17 l9 rfl ?_
        refine iq_iload_n hS 20 J_Arrays_fill3_d19 l8 rfl ?_
        obtain ⟨g20, h⟩ := ed_gd h
        refine iq_bastore hS 21 J_Arrays_fill3_d20 ⟨(ka_55 hM5).1, (ka_55 hM5).2, g20.1, ix_lt (kl_55 hM5) g20.2⟩ rfl ?_
        refine iq_iincv hS 24 J_Arrays_fill3_d21 (c := 1) (by decide +kernel) l9 (by decide) rfl ?_
        refine iq_goto hS J_Arrays_fill3_d24 (t := 10) rfl ?_
        exact ih _ _ _ (lw_sI hM5) (lk_1r l6 (by decide)) (lk_1i l7 (by decide)) (lk_1i l8 (by decide)) lk_1s (lq_l h)
  exact I2 n2 _ _ _ hM (lk_1r l0 (by decide)) (lk_1i l2 (by decide)) (lk_1i l3 (by decide)) lk_1s hn2
theorem f_Arrays_fill3_1_fr {p1 : Int32} {p2 : Int32} {p3 : Int32} {M : im_M} {r : im_M} (h : f_Arrays_fill3_1 p1 p2 p3 M = some r) : fr 36028797018963968 [] M r := by
  replace h : ed (f_Arrays_fill3_1 p1 p2 p3 M) (fun x => x = r) := ⟨r, h, rfl⟩
  unfold f_Arrays_fill3_1 at h
  obtain ⟨Q1, hQ1, h⟩ := bd0_ed h
  obtain ⟨_, e1, h⟩ := h
  replace h := hQ1  h
  obtain ⟨Q2, hQ2, h⟩ := bd1_ed h
  have K2 : ∀ (M3 : im_M), fr 36028797018963968 [] M M3 → Q2 M3 → fr 36028797018963968 [] M r := by
    intro M3 hM3 h
    replace h := hQ2 _ h
    exact fr_retV h hM3
  obtain ⟨r2, hr2, hq2⟩ := h
  obtain ⟨n2, hn2⟩ := lp_n hr2
  have I2 : ∀ (n : Nat) (x4 : Int32) (M5 : im_M), fr 36028797018963968 [] M M5 → lpn (uc2 (f_Arrays_fill3_1_L10 p2 p3)) n (x4, M5) = some r2 → fr 36028797018963968 [] M r := by
    intro n
    induction n with
    | zero => intro x4 M5 hM5 hn; exact (lpn_0 hn).elim
    | succ n ih =>
      intro x4 M5 hM5 hn
      have h := lpn_ed2 hn
      unfold f_Arrays_fill3_1_L10 at h
      by_cases q13 : p2 ≤ x4
      · replace h := ed_pos q13 h
        exact K2 _ hM5 (lq_r h hq2)
      · replace h := ed_neg q13 h
        obtain ⟨g20, h⟩ := ed_gd h
        exact ih _ _ (fr_I (by decide) hM5) (lq_l h)
  exact I2 n2 _ _ fr_refl hn2
noncomputable def f_Arrays_fill3_2_L10 (v3 : Int32) (v4 : Int32) (x5 : Int32) (M6 : im_M) : Option ((Int32 × im_M) ⊕ (im_M)) := if v3 ≤ x5 then some (.inr M6) else gd (inb x5 31329) <| some (.inl ((x5 + 1), (im_setI M6 54 (Int32.toNatClampNeg x5) (vp_nar .byte v4))))
noncomputable def f_Arrays_fill3_2 (p1 : Int32) (p2 : Int32) (p3 : Int32) (M : im_M) : Option (im_M) := bd0 (f_Arrays_rangeCheck 31329 p1 p2 M) fun (_ : Unit) => bd1 (lp (uc2 (f_Arrays_fill3_2_L10 p2 p3)) (p1, M)) fun (M7 : im_M) => some M7
theorem f_Arrays_fill3_2_ok {L : Nat} {xs : Nat → Int32} {dep : Nat} {w : Bool} {p1 : Int32} {p2 : Int32} {p3 : Int32} {M : im_M} {Q : im_M → Prop} (hM : lw_S w M) (h : ed (f_Arrays_fill3_2 p1 p2 p3 M) Q) : ia (tb_G L xs) (dep + 1) J_Arrays_fill3 (rwV w Q) (0, lv_args 0 [.ref 54, .int p1, .int p2, .int p3], [], M) := by
  have hS : im_St (tb_G L xs) (dep + 1) J_Arrays_fill3 (ia (tb_G L xs) (dep + 1) J_Arrays_fill3 (rwV w Q)) := ia_St
  unfold f_Arrays_fill3_2 at h
  have l0 : im_lk (lv_args 0 [.ref 54, .int p1, .int p2, .int p3]) 0 = some (.ref 54) := rfl
  have l1 : im_lk (lv_args 0 [.ref 54, .int p1, .int p2, .int p3]) 1 = some (.int p1) := rfl
  have l2 : im_lk (lv_args 0 [.ref 54, .int p1, .int p2, .int p3]) 2 = some (.int p2) := rfl
  have l3 : im_lk (lv_args 0 [.ref 54, .int p1, .int p2, .int p3]) 3 = some (.int p3) := rfl
  refine iq_aload_n hS 1 J_Arrays_fill3_d0 l0 rfl ?_
  refine iq_alenv hS 2 J_Arrays_fill3_d1 (v := 31329) (ka_54 hM) (by decide) (by decide) (kl_54 hM) (by decide +kernel) rfl ?_
  refine iq_iload_n hS 3 J_Arrays_fill3_d2 l1 rfl ?_
  refine iq_iload_n hS 4 J_Arrays_fill3_d3 l2 rfl ?_
  obtain ⟨Q1, hQ1, h⟩ := bd0_ed h
  refine iq_cpV hS 7 J_Arrays_fill3_d4 rfl (pr_stat (vs := [_, _, _]) lc_22_13 lT_54 rfl rfl (by decide) rfl (Nat.le_of_ble_eq_true rfl) (Nat.le_of_ble_eq_true rfl)) (f_Arrays_rangeCheck_ok (dep := dep + 0) hM h) rfl ?_
  intro h
  replace h := hQ1  h
  refine iq_iload_n hS 8 J_Arrays_fill3_d7 l1 rfl ?_
  refine iq_istore hS 10 J_Arrays_fill3_d8 (by decide) rfl ?_
  obtain ⟨Q2, hQ2, h⟩ := bd1_ed h
  have K2 : ∀ (M3 : im_M) (L' : List (Nat × Value)), lw_S w M3 → Q2 M3 → ia (tb_G L xs) (dep + 1) J_Arrays_fill3 (rwV w Q) (27, L', [], M3) := by
    intro M3 L' hM3  h
    replace h := hQ2 _ h
    exact iq_ret J_Arrays_fill3_d27 rfl ⟨rfl, hM3, ed_some h⟩
  obtain ⟨r2, hr2, hq2⟩ := h
  obtain ⟨n2, hn2⟩ := lp_n hr2
  have I2 : ∀ (n : Nat) (x4 : Int32) (M5 : im_M) (L' : List (Nat × Value)), lw_S w M5 → im_lk L' 0 = some (.ref 54) → im_lk L' 2 = some (.int p2) → im_lk L' 3 = some (.int p3) → im_lk L' 4 = some (.int x4) → lpn (uc2 (f_Arrays_fill3_2_L10 p2 p3)) n (x4, M5) = some r2 → ia (tb_G L xs) (dep + 1) J_Arrays_fill3 (rwV w Q) (10, L', [], M5) := by
    intro n
    induction n with
    | zero => intro x4 M5 L' hM5 l6 l7 l8 l9 hn; exact (lpn_0 hn).elim
    | succ n ih =>
      intro x4 M5 L' hM5 l6 l7 l8 l9 hn
      have h := lpn_ed2 hn
      unfold f_Arrays_fill3_2_L10 at h
      refine iq_iload hS 12 J_Arrays_fill3_d10 l9 rfl ?_
      refine iq_iload_n hS 13 J_Arrays_fill3_d12 l7 rfl ?_
      refine iq_icmp_ge hS 16 J_Arrays_fill3_d13 (t := 27) rfl (fun q13 => ?_) rfl (fun q13 => ?_)
      · replace h := ed_pos q13 h
        exact K2 _ _ hM5  (lq_r h hq2)
      · replace h := ed_neg q13 h
        refine iq_aload_n hS 17 J_Arrays_fill3_d16 l6 rfl ?_
        refine iq_iload hS 19 J_Arrays_fill3_d17 l9 rfl ?_
        refine iq_iload_n hS 20 J_Arrays_fill3_d19 l8 rfl ?_
        obtain ⟨g20, h⟩ := ed_gd h
        refine iq_bastore hS 21 J_Arrays_fill3_d20 ⟨(ka_54 hM5).1, (ka_54 hM5).2, g20.1, ix_lt (kl_54 hM5) g20.2⟩ rfl ?_
        refine iq_iincv hS 24 J_Arrays_fill3_d21 (c := 1) (by decide +kernel) l9 (by decide) rfl ?_
        refine iq_goto hS J_Arrays_fill3_d24 (t := 10) rfl ?_
        exact ih _ _ _ (lw_sI hM5) (lk_1r l6 (by decide)) (lk_1i l7 (by decide)) (lk_1i l8 (by decide)) lk_1s (lq_l h)
  exact I2 n2 _ _ _ hM (lk_1r l0 (by decide)) (lk_1i l2 (by decide)) (lk_1i l3 (by decide)) lk_1s hn2
theorem f_Arrays_fill3_2_fr {p1 : Int32} {p2 : Int32} {p3 : Int32} {M : im_M} {r : im_M} (h : f_Arrays_fill3_2 p1 p2 p3 M = some r) : fr 18014398509481984 [] M r := by
  replace h : ed (f_Arrays_fill3_2 p1 p2 p3 M) (fun x => x = r) := ⟨r, h, rfl⟩
  unfold f_Arrays_fill3_2 at h
  obtain ⟨Q1, hQ1, h⟩ := bd0_ed h
  obtain ⟨_, e1, h⟩ := h
  replace h := hQ1  h
  obtain ⟨Q2, hQ2, h⟩ := bd1_ed h
  have K2 : ∀ (M3 : im_M), fr 18014398509481984 [] M M3 → Q2 M3 → fr 18014398509481984 [] M r := by
    intro M3 hM3 h
    replace h := hQ2 _ h
    exact fr_retV h hM3
  obtain ⟨r2, hr2, hq2⟩ := h
  obtain ⟨n2, hn2⟩ := lp_n hr2
  have I2 : ∀ (n : Nat) (x4 : Int32) (M5 : im_M), fr 18014398509481984 [] M M5 → lpn (uc2 (f_Arrays_fill3_2_L10 p2 p3)) n (x4, M5) = some r2 → fr 18014398509481984 [] M r := by
    intro n
    induction n with
    | zero => intro x4 M5 hM5 hn; exact (lpn_0 hn).elim
    | succ n ih =>
      intro x4 M5 hM5 hn
      have h := lpn_ed2 hn
      unfold f_Arrays_fill3_2_L10 at h
      by_cases q13 : p2 ≤ x4
      · replace h := ed_pos q13 h
        exact K2 _ hM5 (lq_r h hq2)
      · replace h := ed_neg q13 h
        obtain ⟨g20, h⟩ := ed_gd h
        exact ih _ _ (fr_I (by decide) hM5) (lq_l h)
  exact I2 n2 _ _ fr_refl hn2
noncomputable def f_HGrid_fix (p0 : Int32) (p1 : Int32) (p2 : Int32) (M : im_M) : Option (im_M) := gd (inb ((p1 * 177) + p0) 31329) <| gd (inb ((p1 * 177) + p0) 31329) <| some (im_setI (im_setI M 54 (Int32.toNatClampNeg ((p1 * 177) + p0)) (vp_nar .byte ((Int32.toInt8 ((if p2 = 0 then 0 else 1) : Int32)).toInt32))) 55 (Int32.toNatClampNeg ((p1 * 177) + p0)) (vp_nar .byte 1))
theorem J_HGrid_fix_d0 : decode J_HGrid_fix.2.1 0 = .ok (.aload_n 0, 1) := by decide +kernel
theorem J_HGrid_fix_d1 : decode J_HGrid_fix.2.1 1 = .ok (.getfield 25, 3) := by decide +kernel
theorem J_HGrid_fix_d4 : decode J_HGrid_fix.2.1 4 = .ok (.iload_n 2, 1) := by decide +kernel
theorem J_HGrid_fix_d5 : decode J_HGrid_fix.2.1 5 = .ok (.sipush 177, 3) := by decide +kernel
theorem J_HGrid_fix_d8 : decode J_HGrid_fix.2.1 8 = .ok (.imul, 1) := by decide +kernel
theorem J_HGrid_fix_d9 : decode J_HGrid_fix.2.1 9 = .ok (.iload_n 1, 1) := by decide +kernel
theorem J_HGrid_fix_d10 : decode J_HGrid_fix.2.1 10 = .ok (.iadd, 1) := by decide +kernel
theorem J_HGrid_fix_d11 : decode J_HGrid_fix.2.1 11 = .ok (.iload_n 3, 1) := by decide +kernel
theorem J_HGrid_fix_d12 : decode J_HGrid_fix.2.1 12 = .ok (.ifCond .eq 7, 3) := by decide +kernel
theorem J_HGrid_fix_d15 : decode J_HGrid_fix.2.1 15 = .ok (.iconst 1, 1) := by decide +kernel
theorem J_HGrid_fix_d16 : decode J_HGrid_fix.2.1 16 = .ok (.goto 4, 3) := by decide +kernel
theorem J_HGrid_fix_d19 : decode J_HGrid_fix.2.1 19 = .ok (.iconst 0, 1) := by decide +kernel
theorem J_HGrid_fix_d20 : decode J_HGrid_fix.2.1 20 = .ok (.i2b, 1) := by decide +kernel
theorem J_HGrid_fix_d21 : decode J_HGrid_fix.2.1 21 = .ok (.bastore, 1) := by decide +kernel
theorem J_HGrid_fix_d22 : decode J_HGrid_fix.2.1 22 = .ok (.aload_n 0, 1) := by decide +kernel
theorem J_HGrid_fix_d23 : decode J_HGrid_fix.2.1 23 = .ok (.getfield 29, 3) := by decide +kernel
theorem J_HGrid_fix_d26 : decode J_HGrid_fix.2.1 26 = .ok (.iload_n 2, 1) := by decide +kernel
theorem J_HGrid_fix_d27 : decode J_HGrid_fix.2.1 27 = .ok (.sipush 177, 3) := by decide +kernel
theorem J_HGrid_fix_d30 : decode J_HGrid_fix.2.1 30 = .ok (.imul, 1) := by decide +kernel
theorem J_HGrid_fix_d31 : decode J_HGrid_fix.2.1 31 = .ok (.iload_n 1, 1) := by decide +kernel
theorem J_HGrid_fix_d32 : decode J_HGrid_fix.2.1 32 = .ok (.iadd, 1) := by decide +kernel
theorem J_HGrid_fix_d33 : decode J_HGrid_fix.2.1 33 = .ok (.iconst 1, 1) := by decide +kernel
theorem J_HGrid_fix_d34 : decode J_HGrid_fix.2.1 34 = .ok (.bastore, 1) := by decide +kernel
theorem J_HGrid_fix_d35 : decode J_HGrid_fix.2.1 35 = .ok (.return_, 1) := by decide +kernel
theorem f_HGrid_fix_ok {L : Nat} {xs : Nat → Int32} {dep : Nat} {w : Bool} {p0 : Int32} {p1 : Int32} {p2 : Int32} {M : im_M} {Q : im_M → Prop} (hM : lw_S w M) (h : ed (f_HGrid_fix p0 p1 p2 M) Q) : ia (tb_G L xs) dep J_HGrid_fix (rwV w Q) (0, lv_args 0 [.ref 38, .int p0, .int p1, .int p2], [], M) := by
  have hS : im_St (tb_G L xs) dep J_HGrid_fix (ia (tb_G L xs) dep J_HGrid_fix (rwV w Q)) := ia_St
  unfold f_HGrid_fix at h
  have l0 : im_lk (lv_args 0 [.ref 38, .int p0, .int p1, .int p2]) 0 = some (.ref 38) := rfl
  have l1 : im_lk (lv_args 0 [.ref 38, .int p0, .int p1, .int p2]) 1 = some (.int p0) := rfl
  have l2 : im_lk (lv_args 0 [.ref 38, .int p0, .int p1, .int p2]) 2 = some (.int p1) := rfl
  have l3 : im_lk (lv_args 0 [.ref 38, .int p0, .int p1, .int p2]) 3 = some (.int p2) := rfl
  refine iq_aload_n hS 1 J_HGrid_fix_d0 l0 rfl ?_
  refine iq_getR hS 4 J_HGrid_fix_d1 lf_4_25 (Or.inr ⟨_, rfl⟩) (ka_38 hM) (ra_38_7 hM) rfl ?_
  refine iq_iload_n hS 5 J_HGrid_fix_d4 l2 rfl ?_
  refine iq_sipush hS 8 J_HGrid_fix_d5 (v := 177) (by decide +kernel) rfl ?_
  refine iq_imul hS 9 J_HGrid_fix_d8 rfl ?_
  refine iq_iload_n hS 10 J_HGrid_fix_d9 l1 rfl ?_
  refine iq_iadd hS 11 J_HGrid_fix_d10 rfl ?_
  refine iq_iload_n hS 12 J_HGrid_fix_d11 l3 rfl ?_
  have J1 : ∀ (z2 : Int32) (L' : List (Nat × Value)), z2 = ((if p2 = 0 then 0 else 1) : Int32) → im_lk L' 0 = some (.ref 38) → im_lk L' 1 = some (.int p0) → im_lk L' 2 = some (.int p1) → ia (tb_G L xs) dep J_HGrid_fix (rwV w Q) (20, L', [.int z2, .int ((p1 * 177) + p0), .ref 54], M) := by
    intro z2 L' e3 l4 l5 l6
    subst e3
    refine iq_i2b hS 21 J_HGrid_fix_d20 rfl ?_
    obtain ⟨g21, h⟩ := ed_gd h
    refine iq_bastore hS 22 J_HGrid_fix_d21 ⟨(ka_54 hM).1, (ka_54 hM).2, g21.1, ix_lt (kl_54 hM) g21.2⟩ rfl ?_
    refine iq_aload_n hS 23 J_HGrid_fix_d22 l4 rfl ?_
    refine iq_getR hS 26 J_HGrid_fix_d23 lf_4_29 (Or.inr ⟨_, rfl⟩) (ka_38 (lw_sI hM)) (ra_38_8 (lw_sI hM)) rfl ?_
    refine iq_iload_n hS 27 J_HGrid_fix_d26 l6 rfl ?_
    refine iq_sipush hS 30 J_HGrid_fix_d27 (v := 177) (by decide +kernel) rfl ?_
    refine iq_imul hS 31 J_HGrid_fix_d30 rfl ?_
    refine iq_iload_n hS 32 J_HGrid_fix_d31 l5 rfl ?_
    refine iq_iadd hS 33 J_HGrid_fix_d32 rfl ?_
    refine iq_iconst hS 34 J_HGrid_fix_d33 (v := 1) (by decide +kernel) rfl ?_
    obtain ⟨g34, h⟩ := ed_gd h
    refine iq_bastore hS 35 J_HGrid_fix_d34 ⟨(ka_55 (lw_sI hM)).1, (ka_55 (lw_sI hM)).2, g34.1, ix_lt (kl_55 (lw_sI hM)) g34.2⟩ rfl ?_
    exact iq_ret J_HGrid_fix_d35 rfl ⟨rfl, (lw_sI (lw_sI hM)), ed_some h⟩
  refine iq_if_eq hS 15 J_HGrid_fix_d12 (t := 19) rfl (fun q12 => ?_) rfl (fun q12 => ?_)
  · refine iq_iconst hS 20 J_HGrid_fix_d19 (v := 0) (by decide +kernel) rfl ?_
    exact J1 _ _ (by simp only [if_pos q12]) l0 l1 l2
  · refine iq_iconst hS 16 J_HGrid_fix_d15 (v := 1) (by decide +kernel) rfl ?_
    refine iq_goto hS J_HGrid_fix_d16 (t := 20) rfl ?_
    exact J1 _ _ (by simp only [if_neg q12]) l0 l1 l2
theorem f_HGrid_fix_fr {p0 : Int32} {p1 : Int32} {p2 : Int32} {M : im_M} {r : im_M} (h : f_HGrid_fix p0 p1 p2 M = some r) : fr 54043195528445952 [] M r := by
  replace h : ed (f_HGrid_fix p0 p1 p2 M) (fun x => x = r) := ⟨r, h, rfl⟩
  unfold f_HGrid_fix at h
  obtain ⟨g21, h⟩ := ed_gd h
  obtain ⟨g34, h⟩ := ed_gd h
  exact fr_retV h (fr_I (by decide) (fr_I (by decide) fr_refl))
noncomputable def f_Math_abs (p0 : Int32) (M : im_M) : Option (Int32) := if 0 ≤ p0 then some p0 else some (-p0)
theorem J_Math_abs_d0 : decode J_Math_abs.2.1 0 = .ok (.iload_n 0, 1) := by decide +kernel
theorem J_Math_abs_d1 : decode J_Math_abs.2.1 1 = .ok (.ifCond .ge 8, 3) := by decide +kernel
theorem J_Math_abs_d4 : decode J_Math_abs.2.1 4 = .ok (.iload_n 0, 1) := by decide +kernel
theorem J_Math_abs_d5 : decode J_Math_abs.2.1 5 = .ok (.ineg, 1) := by decide +kernel
theorem J_Math_abs_d6 : decode J_Math_abs.2.1 6 = .ok (.goto 4, 3) := by decide +kernel
theorem J_Math_abs_d9 : decode J_Math_abs.2.1 9 = .ok (.iload_n 0, 1) := by decide +kernel
theorem J_Math_abs_d10 : decode J_Math_abs.2.1 10 = .ok (.ireturn, 1) := by decide +kernel
theorem f_Math_abs_ok {L : Nat} {xs : Nat → Int32} {dep : Nat} {w : Bool} {p0 : Int32} {M : im_M} {Q : Int32 → Prop} (hM : lw_S w M) (h : ed (f_Math_abs p0 M) Q) : ia (tb_G L xs) dep J_Math_abs (rpI M Q) (0, lv_args 0 [.int p0], [], M) := by
  have hS : im_St (tb_G L xs) dep J_Math_abs (ia (tb_G L xs) dep J_Math_abs (rpI M Q)) := ia_St
  unfold f_Math_abs at h
  have l0 : im_lk (lv_args 0 [.int p0]) 0 = some (.int p0) := rfl
  refine iq_iload_n hS 1 J_Math_abs_d0 l0 rfl ?_
  refine iq_if_ge hS 4 J_Math_abs_d1 (t := 9) rfl (fun q1 => ?_) rfl (fun q1 => ?_)
  · replace h := ed_pos q1 h
    refine iq_iload_n hS 10 J_Math_abs_d9 l0 rfl ?_
    exact iq_iret J_Math_abs_d10 rfl rfl ⟨_, rfl, rfl, ed_some h⟩
  · replace h := ed_neg q1 h
    refine iq_iload_n hS 5 J_Math_abs_d4 l0 rfl ?_
    refine iq_ineg hS 6 J_Math_abs_d5 rfl ?_
    refine iq_goto hS J_Math_abs_d6 (t := 10) rfl ?_
    exact iq_iret J_Math_abs_d10 rfl rfl ⟨_, rfl, rfl, ed_some h⟩
noncomputable def f_HGrid_fixSquares_L14 (v9 : Int32) (v10 : Int32) (v11 : Int32) (v12 : Int32) (v13 : Int32) (x14 : Int32) (M15 : im_M) : Option ((Int32 × im_M) ⊕ (im_M)) := if v11 < x14 then some (.inr M15) else bd1 (f_Math_abs x14 M15) fun (x16 : Int32) => bd1 (f_Math_abs v13 M15) fun (x17 : Int32) => bd1 (f_Math_max x16 x17 M15) fun (x18 : Int32) => bd1 (if ((if (v9 + x14) < 0 then 0 else (if (im_i M15 38 1) ≤ (v9 + x14) then 0 else (if (v10 + v13) < 0 then 0 else (if (im_i M15 38 1) ≤ (v10 + v13) then 0 else 1)))) : Int32) = 0 then some M15 else bd1 (f_HGrid_fix (v9 + x14) (v10 + v13) ((if x18 = v12 then 0 else (if x18 = 4 then 0 else 1)) : Int32) M15) fun (M22 : im_M) => some M22) fun (M23 : im_M) => some (.inl ((x14 + 1), M23))
noncomputable def f_HGrid_fixSquares_L4 (v2 : Int32) (v3 : Int32) (v4 : Int32) (v5 : Int32) (x6 : Int32) (M7 : im_M) : Option ((Int32 × im_M) ⊕ (im_M)) := if v4 < x6 then some (.inr M7) else bd1 (lp (uc2 (f_HGrid_fixSquares_L14 v2 v3 v4 v5 x6)) ((-v4), M7)) fun (M31 : im_M) => some (.inl ((x6 + 1), M31))
noncomputable def f_HGrid_fixSquares (p0 : Int32) (p1 : Int32) (p2 : Int32) (p3 : Int32) (M : im_M) : Option (im_M) := bd1 (lp (uc2 (f_HGrid_fixSquares_L4 p0 p1 p2 p3)) ((-p2), M)) fun (M32 : im_M) => some M32
theorem J_HGrid_fixSquares_d0 : decode J_HGrid_fixSquares.2.1 0 = .ok (.iload_n 3, 1) := by decide +kernel
theorem J_HGrid_fixSquares_d1 : decode J_HGrid_fixSquares.2.1 1 = .ok (.ineg, 1) := by decide +kernel
theorem J_HGrid_fixSquares_d2 : decode J_HGrid_fixSquares.2.1 2 = .ok (.istore 5, 2) := by decide +kernel
theorem J_HGrid_fixSquares_d4 : decode J_HGrid_fixSquares.2.1 4 = .ok (.iload 5, 2) := by decide +kernel
theorem J_HGrid_fixSquares_d6 : decode J_HGrid_fixSquares.2.1 6 = .ok (.iload_n 3, 1) := by decide +kernel
theorem J_HGrid_fixSquares_d7 : decode J_HGrid_fixSquares.2.1 7 = .ok (.if_icmp .gt 118, 3) := by decide +kernel
theorem J_HGrid_fixSquares_d10 : decode J_HGrid_fixSquares.2.1 10 = .ok (.iload_n 3, 1) := by decide +kernel
theorem J_HGrid_fixSquares_d11 : decode J_HGrid_fixSquares.2.1 11 = .ok (.ineg, 1) := by decide +kernel
theorem J_HGrid_fixSquares_d12 : decode J_HGrid_fixSquares.2.1 12 = .ok (.istore 6, 2) := by decide +kernel
theorem J_HGrid_fixSquares_d14 : decode J_HGrid_fixSquares.2.1 14 = .ok (.iload 6, 2) := by decide +kernel
theorem J_HGrid_fixSquares_d16 : decode J_HGrid_fixSquares.2.1 16 = .ok (.iload_n 3, 1) := by decide +kernel
theorem J_HGrid_fixSquares_d17 : decode J_HGrid_fixSquares.2.1 17 = .ok (.if_icmp .gt 102, 3) := by decide +kernel
theorem J_HGrid_fixSquares_d20 : decode J_HGrid_fixSquares.2.1 20 = .ok (.iload 6, 2) := by decide +kernel
theorem J_HGrid_fixSquares_d22 : decode J_HGrid_fixSquares.2.1 22 = .ok (.invokestatic 97, 3) := by decide +kernel
theorem J_HGrid_fixSquares_d25 : decode J_HGrid_fixSquares.2.1 25 = .ok (.iload 5, 2) := by decide +kernel
theorem J_HGrid_fixSquares_d27 : decode J_HGrid_fixSquares.2.1 27 = .ok (.invokestatic 97, 3) := by decide +kernel
theorem J_HGrid_fixSquares_d30 : decode J_HGrid_fixSquares.2.1 30 = .ok (.invokestatic 102, 3) := by decide +kernel
theorem J_HGrid_fixSquares_d33 : decode J_HGrid_fixSquares.2.1 33 = .ok (.istore 7, 2) := by decide +kernel
theorem J_HGrid_fixSquares_d35 : decode J_HGrid_fixSquares.2.1 35 = .ok (.iload_n 1, 1) := by decide +kernel
theorem J_HGrid_fixSquares_d36 : decode J_HGrid_fixSquares.2.1 36 = .ok (.iload 6, 2) := by decide +kernel
theorem J_HGrid_fixSquares_d38 : decode J_HGrid_fixSquares.2.1 38 = .ok (.iadd, 1) := by decide +kernel
theorem J_HGrid_fixSquares_d39 : decode J_HGrid_fixSquares.2.1 39 = .ok (.ifCond .lt 36, 3) := by decide +kernel
theorem J_HGrid_fixSquares_d42 : decode J_HGrid_fixSquares.2.1 42 = .ok (.iload_n 1, 1) := by decide +kernel
theorem J_HGrid_fixSquares_d43 : decode J_HGrid_fixSquares.2.1 43 = .ok (.iload 6, 2) := by decide +kernel
theorem J_HGrid_fixSquares_d45 : decode J_HGrid_fixSquares.2.1 45 = .ok (.iadd, 1) := by decide +kernel
theorem J_HGrid_fixSquares_d46 : decode J_HGrid_fixSquares.2.1 46 = .ok (.aload_n 0, 1) := by decide +kernel
theorem J_HGrid_fixSquares_d47 : decode J_HGrid_fixSquares.2.1 47 = .ok (.getfield 74, 3) := by decide +kernel
theorem J_HGrid_fixSquares_d50 : decode J_HGrid_fixSquares.2.1 50 = .ok (.if_icmp .ge 25, 3) := by decide +kernel
theorem J_HGrid_fixSquares_d53 : decode J_HGrid_fixSquares.2.1 53 = .ok (.iload_n 2, 1) := by decide +kernel
theorem J_HGrid_fixSquares_d54 : decode J_HGrid_fixSquares.2.1 54 = .ok (.iload 5, 2) := by decide +kernel
theorem J_HGrid_fixSquares_d56 : decode J_HGrid_fixSquares.2.1 56 = .ok (.iadd, 1) := by decide +kernel
theorem J_HGrid_fixSquares_d57 : decode J_HGrid_fixSquares.2.1 57 = .ok (.ifCond .lt 18, 3) := by decide +kernel
theorem J_HGrid_fixSquares_d60 : decode J_HGrid_fixSquares.2.1 60 = .ok (.iload_n 2, 1) := by decide +kernel
theorem J_HGrid_fixSquares_d61 : decode J_HGrid_fixSquares.2.1 61 = .ok (.iload 5, 2) := by decide +kernel
theorem J_HGrid_fixSquares_d63 : decode J_HGrid_fixSquares.2.1 63 = .ok (.iadd, 1) := by decide +kernel
theorem J_HGrid_fixSquares_d64 : decode J_HGrid_fixSquares.2.1 64 = .ok (.aload_n 0, 1) := by decide +kernel
theorem J_HGrid_fixSquares_d65 : decode J_HGrid_fixSquares.2.1 65 = .ok (.getfield 74, 3) := by decide +kernel
theorem J_HGrid_fixSquares_d68 : decode J_HGrid_fixSquares.2.1 68 = .ok (.if_icmp .ge 7, 3) := by decide +kernel
theorem J_HGrid_fixSquares_d71 : decode J_HGrid_fixSquares.2.1 71 = .ok (.iconst 1, 1) := by decide +kernel
theorem J_HGrid_fixSquares_d72 : decode J_HGrid_fixSquares.2.1 72 = .ok (.goto 4, 3) := by decide +kernel
theorem J_HGrid_fixSquares_d75 : decode J_HGrid_fixSquares.2.1 75 = .ok (.iconst 0, 1) := by decide +kernel
theorem J_HGrid_fixSquares_d76 : decode J_HGrid_fixSquares.2.1 76 = .ok (.istore 8, 2) := by decide +kernel
theorem J_HGrid_fixSquares_d78 : decode J_HGrid_fixSquares.2.1 78 = .ok (.iload 8, 2) := by decide +kernel
theorem J_HGrid_fixSquares_d80 : decode J_HGrid_fixSquares.2.1 80 = .ok (.ifCond .eq 33, 3) := by decide +kernel
theorem J_HGrid_fixSquares_d83 : decode J_HGrid_fixSquares.2.1 83 = .ok (.aload_n 0, 1) := by decide +kernel
theorem J_HGrid_fixSquares_d84 : decode J_HGrid_fixSquares.2.1 84 = .ok (.iload_n 1, 1) := by decide +kernel
theorem J_HGrid_fixSquares_d85 : decode J_HGrid_fixSquares.2.1 85 = .ok (.iload 6, 2) := by decide +kernel
theorem J_HGrid_fixSquares_d87 : decode J_HGrid_fixSquares.2.1 87 = .ok (.iadd, 1) := by decide +kernel
theorem J_HGrid_fixSquares_d88 : decode J_HGrid_fixSquares.2.1 88 = .ok (.iload_n 2, 1) := by decide +kernel
theorem J_HGrid_fixSquares_d89 : decode J_HGrid_fixSquares.2.1 89 = .ok (.iload 5, 2) := by decide +kernel
theorem J_HGrid_fixSquares_d91 : decode J_HGrid_fixSquares.2.1 91 = .ok (.iadd, 1) := by decide +kernel
theorem J_HGrid_fixSquares_d92 : decode J_HGrid_fixSquares.2.1 92 = .ok (.iload 7, 2) := by decide +kernel
theorem J_HGrid_fixSquares_d94 : decode J_HGrid_fixSquares.2.1 94 = .ok (.iload 4, 2) := by decide +kernel
theorem J_HGrid_fixSquares_d96 : decode J_HGrid_fixSquares.2.1 96 = .ok (.if_icmp .eq 13, 3) := by decide +kernel
theorem J_HGrid_fixSquares_d99 : decode J_HGrid_fixSquares.2.1 99 = .ok (.iload 7, 2) := by decide +kernel
theorem J_HGrid_fixSquares_d101 : decode J_HGrid_fixSquares.2.1 101 = .ok (.iconst 4, 1) := by decide +kernel
theorem J_HGrid_fixSquares_d102 : decode J_HGrid_fixSquares.2.1 102 = .ok (.if_icmp .eq 7, 3) := by decide +kernel
theorem J_HGrid_fixSquares_d105 : decode J_HGrid_fixSquares.2.1 105 = .ok (.iconst 1, 1) := by decide +kernel
theorem J_HGrid_fixSquares_d106 : decode J_HGrid_fixSquares.2.1 106 = .ok (.goto 4, 3) := by decide +kernel
theorem J_HGrid_fixSquares_d109 : decode J_HGrid_fixSquares.2.1 109 = .ok (.iconst 0, 1) := by decide +kernel
theorem J_HGrid_fixSquares_d110 : decode J_HGrid_fixSquares.2.1 110 = .ok (.invokevirtual 83, 3) := by decide +kernel
theorem J_HGrid_fixSquares_d113 : decode J_HGrid_fixSquares.2.1 113 = .ok (.iinc 6 1, 3) := by decide +kernel
theorem J_HGrid_fixSquares_d116 : decode J_HGrid_fixSquares.2.1 116 = .ok (.goto (-102), 3) := by decide +kernel
theorem J_HGrid_fixSquares_d119 : decode J_HGrid_fixSquares.2.1 119 = .ok (.iinc 5 1, 3) := by decide +kernel
theorem J_HGrid_fixSquares_d122 : decode J_HGrid_fixSquares.2.1 122 = .ok (.goto (-118), 3) := by decide +kernel
theorem J_HGrid_fixSquares_d125 : decode J_HGrid_fixSquares.2.1 125 = .ok (.return_, 1) := by decide +kernel
theorem f_HGrid_fixSquares_ok {L : Nat} {xs : Nat → Int32} {dep : Nat} {w : Bool} {p0 : Int32} {p1 : Int32} {p2 : Int32} {p3 : Int32} {M : im_M} {Q : im_M → Prop} (hM : lw_S w M) (h : ed (f_HGrid_fixSquares p0 p1 p2 p3 M) Q) : ia (tb_G L xs) (dep + 1) J_HGrid_fixSquares (rwV w Q) (0, lv_args 0 [.ref 38, .int p0, .int p1, .int p2, .int p3], [], M) := by
  have hS : im_St (tb_G L xs) (dep + 1) J_HGrid_fixSquares (ia (tb_G L xs) (dep + 1) J_HGrid_fixSquares (rwV w Q)) := ia_St
  unfold f_HGrid_fixSquares at h
  have l0 : im_lk (lv_args 0 [.ref 38, .int p0, .int p1, .int p2, .int p3]) 0 = some (.ref 38) := rfl
  have l1 : im_lk (lv_args 0 [.ref 38, .int p0, .int p1, .int p2, .int p3]) 1 = some (.int p0) := rfl
  have l2 : im_lk (lv_args 0 [.ref 38, .int p0, .int p1, .int p2, .int p3]) 2 = some (.int p1) := rfl
  have l3 : im_lk (lv_args 0 [.ref 38, .int p0, .int p1, .int p2, .int p3]) 3 = some (.int p2) := rfl
  have l4 : im_lk (lv_args 0 [.ref 38, .int p0, .int p1, .int p2, .int p3]) 4 = some (.int p3) := rfl
  refine iq_iload_n hS 1 J_HGrid_fixSquares_d0 l3 rfl ?_
  refine iq_ineg hS 2 J_HGrid_fixSquares_d1 rfl ?_
  refine iq_istore hS 4 J_HGrid_fixSquares_d2 (by decide) rfl ?_
  obtain ⟨Q1, hQ1, h⟩ := bd1_ed h
  have K1 : ∀ (M2 : im_M) (L' : List (Nat × Value)), lw_S w M2 → Q1 M2 → ia (tb_G L xs) (dep + 1) J_HGrid_fixSquares (rwV w Q) (125, L', [], M2) := by
    intro M2 L' hM2  h
    replace h := hQ1 _ h
    exact iq_ret J_HGrid_fixSquares_d125 rfl ⟨rfl, hM2, ed_some h⟩
  obtain ⟨r1, hr1, hq1⟩ := h
  obtain ⟨n1, hn1⟩ := lp_n hr1
  have I1 : ∀ (n : Nat) (x3 : Int32) (M4 : im_M) (L' : List (Nat × Value)), lw_S w M4 → im_lk L' 0 = some (.ref 38) → im_lk L' 1 = some (.int p0) → im_lk L' 2 = some (.int p1) → im_lk L' 3 = some (.int p2) → im_lk L' 4 = some (.int p3) → im_lk L' 5 = some (.int x3) → lpn (uc2 (f_HGrid_fixSquares_L4 p0 p1 p2 p3)) n (x3, M4) = some r1 → ia (tb_G L xs) (dep + 1) J_HGrid_fixSquares (rwV w Q) (4, L', [], M4) := by
    intro n
    induction n with
    | zero => intro x3 M4 L' hM4 l5 l6 l7 l8 l9 l10 hn; exact (lpn_0 hn).elim
    | succ n ih =>
      intro x3 M4 L' hM4 l5 l6 l7 l8 l9 l10 hn
      have h := lpn_ed2 hn
      unfold f_HGrid_fixSquares_L4 at h
      refine iq_iload hS 6 J_HGrid_fixSquares_d4 l10 rfl ?_
      refine iq_iload_n hS 7 J_HGrid_fixSquares_d6 l8 rfl ?_
      refine iq_icmp_gt hS 10 J_HGrid_fixSquares_d7 (t := 125) rfl (fun q7 => ?_) rfl (fun q7 => ?_)
      · replace h := ed_pos q7 h
        exact K1 _ _ hM4  (lq_r h hq1)
      · replace h := ed_neg q7 h
        refine iq_iload_n hS 11 J_HGrid_fixSquares_d10 l8 rfl ?_
        refine iq_ineg hS 12 J_HGrid_fixSquares_d11 rfl ?_
        refine iq_istore hS 14 J_HGrid_fixSquares_d12 (by decide) rfl ?_
        obtain ⟨Q11, hQ11, h⟩ := bd1_ed h
        have K11 : ∀ (M12 : im_M) (L' : List (Nat × Value)), lw_S w M12 → im_lk L' 0 = some (.ref 38) → im_lk L' 1 = some (.int p0) → im_lk L' 2 = some (.int p1) → im_lk L' 3 = some (.int p2) → im_lk L' 4 = some (.int p3) → im_lk L' 5 = some (.int x3) → Q11 M12 → ia (tb_G L xs) (dep + 1) J_HGrid_fixSquares (rwV w Q) (119, L', [], M12) := by
          intro M12 L' hM12 l13 l14 l15 l16 l17 l18 h
          replace h := hQ11 _ h
          refine iq_iincv hS 122 J_HGrid_fixSquares_d119 (c := 1) (by decide +kernel) l18 (by decide) rfl ?_
          refine iq_goto hS J_HGrid_fixSquares_d122 (t := 4) rfl ?_
          exact ih _ _ _ hM12 (lk_1r l13 (by decide)) (lk_1i l14 (by decide)) (lk_1i l15 (by decide)) (lk_1i l16 (by decide)) (lk_1i l17 (by decide)) lk_1s (lq_l h)
        obtain ⟨r11, hr11, hq11⟩ := h
        obtain ⟨n11, hn11⟩ := lp_n hr11
        have I11 : ∀ (n : Nat) (x19 : Int32) (M20 : im_M) (L' : List (Nat × Value)), lw_S w M20 → im_lk L' 0 = some (.ref 38) → im_lk L' 1 = some (.int p0) → im_lk L' 2 = some (.int p1) → im_lk L' 3 = some (.int p2) → im_lk L' 4 = some (.int p3) → im_lk L' 5 = some (.int x3) → im_lk L' 6 = some (.int x19) → lpn (uc2 (f_HGrid_fixSquares_L14 p0 p1 p2 p3 x3)) n (x19, M20) = some r11 → ia (tb_G L xs) (dep + 1) J_HGrid_fixSquares (rwV w Q) (14, L', [], M20) := by
          intro n
          induction n with
          | zero => intro x19 M20 L' hM20 l21 l22 l23 l24 l25 l26 l27 hn; exact (lpn_0 hn).elim
          | succ n ih =>
            intro x19 M20 L' hM20 l21 l22 l23 l24 l25 l26 l27 hn
            have h := lpn_ed2 hn
            unfold f_HGrid_fixSquares_L14 at h
            refine iq_iload hS 16 J_HGrid_fixSquares_d14 l27 rfl ?_
            refine iq_iload_n hS 17 J_HGrid_fixSquares_d16 l24 rfl ?_
            refine iq_icmp_gt hS 20 J_HGrid_fixSquares_d17 (t := 119) rfl (fun q17 => ?_) rfl (fun q17 => ?_)
            · replace h := ed_pos q17 h
              exact K11 _ _ hM20 l21 l22 l23 l24 l25 l26 (lq_r h hq11)
            · replace h := ed_neg q17 h
              refine iq_iload hS 22 J_HGrid_fixSquares_d20 l27 rfl ?_
              obtain ⟨Q28, hQ28, h⟩ := bd1_ed h
              refine iq_cpI hS 25 J_HGrid_fixSquares_d22 rfl (pr_stat (vs := [_]) lc_4_97 lT_158 rfl rfl (by decide) rfl (Nat.le_of_ble_eq_true rfl) (Nat.le_of_ble_eq_true rfl)) (f_Math_abs_ok (dep := dep + 0) hM20 h) rfl ?_
              intro x28 h
              replace h := hQ28 _ h
              refine iq_iload hS 27 J_HGrid_fixSquares_d25 l26 rfl ?_
              obtain ⟨Q29, hQ29, h⟩ := bd1_ed h
              refine iq_cpI hS 30 J_HGrid_fixSquares_d27 rfl (pr_stat (vs := [_]) lc_4_97 lT_158 rfl rfl (by decide) rfl (Nat.le_of_ble_eq_true rfl) (Nat.le_of_ble_eq_true rfl)) (f_Math_abs_ok (dep := dep + 0) hM20 h) rfl ?_
              intro x29 h
              replace h := hQ29 _ h
              obtain ⟨Q30, hQ30, h⟩ := bd1_ed h
              refine iq_cpI hS 33 J_HGrid_fixSquares_d30 rfl (pr_stat (vs := [_, _]) lc_4_102 lT_27 rfl rfl (by decide) rfl (Nat.le_of_ble_eq_true rfl) (Nat.le_of_ble_eq_true rfl)) (f_Math_max_ok (dep := dep + 0) hM20 h) rfl ?_
              intro x30 h
              replace h := hQ30 _ h
              refine iq_istore hS 35 J_HGrid_fixSquares_d33 (by decide) rfl ?_
              refine iq_iload_n hS 36 J_HGrid_fixSquares_d35 (lk_1i l22 (by decide)) rfl ?_
              refine iq_iload hS 38 J_HGrid_fixSquares_d36 (lk_1i l27 (by decide)) rfl ?_
              refine iq_iadd hS 39 J_HGrid_fixSquares_d38 rfl ?_
              have J31 : ∀ (z32 : Int32) (L' : List (Nat × Value)), z32 = ((if (p0 + x19) < 0 then 0 else (if (im_i M20 38 1) ≤ (p0 + x19) then 0 else (if (p1 + x3) < 0 then 0 else (if (im_i M20 38 1) ≤ (p1 + x3) then 0 else 1)))) : Int32) → im_lk L' 0 = some (.ref 38) → im_lk L' 1 = some (.int p0) → im_lk L' 2 = some (.int p1) → im_lk L' 3 = some (.int p2) → im_lk L' 4 = some (.int p3) → im_lk L' 5 = some (.int x3) → im_lk L' 6 = some (.int x19) → im_lk L' 7 = some (.int x30) → ia (tb_G L xs) (dep + 1) J_HGrid_fixSquares (rwV w Q) (76, L', [.int z32], M20) := by
                intro z32 L' e33 l34 l35 l36 l37 l38 l39 l40 l41
                subst e33
                refine iq_istore hS 78 J_HGrid_fixSquares_d76 (by decide) rfl ?_
                refine iq_iload hS 80 J_HGrid_fixSquares_d78 lk_1s rfl ?_
                obtain ⟨Q42, hQ42, h⟩ := bd1_ed h
                have J42 : ∀ (M54 : im_M) (L' : List (Nat × Value)), lw_S w M54 → im_lk L' 0 = some (.ref 38) → im_lk L' 1 = some (.int p0) → im_lk L' 2 = some (.int p1) → im_lk L' 3 = some (.int p2) → im_lk L' 4 = some (.int p3) → im_lk L' 5 = some (.int x3) → im_lk L' 6 = some (.int x19) → Q42 M54 → ia (tb_G L xs) (dep + 1) J_HGrid_fixSquares (rwV w Q) (113, L', [], M54) := by
                  intro M54 L' hM54 l55 l56 l57 l58 l59 l60 l61 h
                  replace h := hQ42 _ h
                  refine iq_iincv hS 116 J_HGrid_fixSquares_d113 (c := 1) (by decide +kernel) l61 (by decide) rfl ?_
                  refine iq_goto hS J_HGrid_fixSquares_d116 (t := 14) rfl ?_
                  exact ih _ _ _ hM54 (lk_1r l55 (by decide)) (lk_1i l56 (by decide)) (lk_1i l57 (by decide)) (lk_1i l58 (by decide)) (lk_1i l59 (by decide)) (lk_1i l60 (by decide)) lk_1s (lq_l h)
                refine iq_if_eq hS 83 J_HGrid_fixSquares_d80 (t := 113) rfl (fun q80 => ?_) rfl (fun q80 => ?_)
                · replace h := ed_pos q80 h
                  exact J42 _ _ hM20 (lk_1r l34 (by decide)) (lk_1i l35 (by decide)) (lk_1i l36 (by decide)) (lk_1i l37 (by decide)) (lk_1i l38 (by decide)) (lk_1i l39 (by decide)) (lk_1i l40 (by decide)) (ed_some h)
                · replace h := ed_neg q80 h
                  refine iq_aload_n hS 84 J_HGrid_fixSquares_d83 (lk_1r l34 (by decide)) rfl ?_
                  refine iq_iload_n hS 85 J_HGrid_fixSquares_d84 (lk_1i l35 (by decide)) rfl ?_
                  refine iq_iload hS 87 J_HGrid_fixSquares_d85 (lk_1i l40 (by decide)) rfl ?_
                  refine iq_iadd hS 88 J_HGrid_fixSquares_d87 rfl ?_
                  refine iq_iload_n hS 89 J_HGrid_fixSquares_d88 (lk_1i l36 (by decide)) rfl ?_
                  refine iq_iload hS 91 J_HGrid_fixSquares_d89 (lk_1i l39 (by decide)) rfl ?_
                  refine iq_iadd hS 92 J_HGrid_fixSquares_d91 rfl ?_
                  refine iq_iload hS 94 J_HGrid_fixSquares_d92 (lk_1i l41 (by decide)) rfl ?_
                  refine iq_iload hS 96 J_HGrid_fixSquares_d94 (lk_1i l38 (by decide)) rfl ?_
                  have J43 : ∀ (z44 : Int32) (L' : List (Nat × Value)), z44 = ((if x30 = p3 then 0 else (if x30 = 4 then 0 else 1)) : Int32) → im_lk L' 0 = some (.ref 38) → im_lk L' 1 = some (.int p0) → im_lk L' 2 = some (.int p1) → im_lk L' 3 = some (.int p2) → im_lk L' 4 = some (.int p3) → im_lk L' 5 = some (.int x3) → im_lk L' 6 = some (.int x19) → ia (tb_G L xs) (dep + 1) J_HGrid_fixSquares (rwV w Q) (110, L', [.int z44, .int (p1 + x3), .int (p0 + x19), .ref 38], M20) := by
                    intro z44 L' e45 l46 l47 l48 l49 l50 l51 l52
                    subst e45
                    obtain ⟨Q53, hQ53, h⟩ := bd1_ed h
                    refine iq_cwV hS 113 J_HGrid_fixSquares_d110 rfl (pr_inst (vs := [_, _, _]) lc_4_83 lT_156 rfl rfl (by decide) (by decide) rfl (Nat.le_of_ble_eq_true rfl) (Nat.le_of_ble_eq_true rfl) (fun _ => Or.inl (pr_b (ka_38 hM20) (by decide) rfl))) (f_HGrid_fix_ok (dep := dep + 0) hM20 h) rfl ?_
                    intro M53 hM53 h
                    replace h := hQ53 _ h
                    exact J42 _ _ hM53 l46 l47 l48 l49 l50 l51 l52 (ed_some h)
                  refine iq_icmp_eq hS 99 J_HGrid_fixSquares_d96 (t := 109) rfl (fun q96 => ?_) rfl (fun q96 => ?_)
                  · refine iq_iconst hS 110 J_HGrid_fixSquares_d109 (v := 0) (by decide +kernel) rfl ?_
                    exact J43 _ _ (by simp only [if_pos q96]) (lk_1r l34 (by decide)) (lk_1i l35 (by decide)) (lk_1i l36 (by decide)) (lk_1i l37 (by decide)) (lk_1i l38 (by decide)) (lk_1i l39 (by decide)) (lk_1i l40 (by decide))
                  · refine iq_iload hS 101 J_HGrid_fixSquares_d99 (lk_1i l41 (by decide)) rfl ?_
                    refine iq_iconst hS 102 J_HGrid_fixSquares_d101 (v := 4) (by decide +kernel) rfl ?_
                    refine iq_icmp_eq hS 105 J_HGrid_fixSquares_d102 (t := 109) rfl (fun q102 => ?_) rfl (fun q102 => ?_)
                    · refine iq_iconst hS 110 J_HGrid_fixSquares_d109 (v := 0) (by decide +kernel) rfl ?_
                      exact J43 _ _ (by simp only [if_neg q96, if_pos q102]) (lk_1r l34 (by decide)) (lk_1i l35 (by decide)) (lk_1i l36 (by decide)) (lk_1i l37 (by decide)) (lk_1i l38 (by decide)) (lk_1i l39 (by decide)) (lk_1i l40 (by decide))
                    · refine iq_iconst hS 106 J_HGrid_fixSquares_d105 (v := 1) (by decide +kernel) rfl ?_
                      refine iq_goto hS J_HGrid_fixSquares_d106 (t := 110) rfl ?_
                      exact J43 _ _ (by simp only [if_neg q96, if_neg q102]) (lk_1r l34 (by decide)) (lk_1i l35 (by decide)) (lk_1i l36 (by decide)) (lk_1i l37 (by decide)) (lk_1i l38 (by decide)) (lk_1i l39 (by decide)) (lk_1i l40 (by decide))
              refine iq_if_lt hS 42 J_HGrid_fixSquares_d39 (t := 75) rfl (fun q39 => ?_) rfl (fun q39 => ?_)
              · refine iq_iconst hS 76 J_HGrid_fixSquares_d75 (v := 0) (by decide +kernel) rfl ?_
                exact J31 _ _ (by simp only [if_pos q39]) (lk_1r l21 (by decide)) (lk_1i l22 (by decide)) (lk_1i l23 (by decide)) (lk_1i l24 (by decide)) (lk_1i l25 (by decide)) (lk_1i l26 (by decide)) (lk_1i l27 (by decide)) lk_1s
              · refine iq_iload_n hS 43 J_HGrid_fixSquares_d42 (lk_1i l22 (by decide)) rfl ?_
                refine iq_iload hS 45 J_HGrid_fixSquares_d43 (lk_1i l27 (by decide)) rfl ?_
                refine iq_iadd hS 46 J_HGrid_fixSquares_d45 rfl ?_
                refine iq_aload_n hS 47 J_HGrid_fixSquares_d46 (lk_1r l21 (by decide)) rfl ?_
                refine iq_getI hS 50 J_HGrid_fixSquares_d47 lf_4_74 (Or.inl rfl) (ka_38 hM20) rfl ?_
                refine iq_icmp_ge hS 53 J_HGrid_fixSquares_d50 (t := 75) rfl (fun q50 => ?_) rfl (fun q50 => ?_)
                · refine iq_iconst hS 76 J_HGrid_fixSquares_d75 (v := 0) (by decide +kernel) rfl ?_
                  exact J31 _ _ (by simp only [if_neg q39, if_pos q50]) (lk_1r l21 (by decide)) (lk_1i l22 (by decide)) (lk_1i l23 (by decide)) (lk_1i l24 (by decide)) (lk_1i l25 (by decide)) (lk_1i l26 (by decide)) (lk_1i l27 (by decide)) lk_1s
                · refine iq_iload_n hS 54 J_HGrid_fixSquares_d53 (lk_1i l23 (by decide)) rfl ?_
                  refine iq_iload hS 56 J_HGrid_fixSquares_d54 (lk_1i l26 (by decide)) rfl ?_
                  refine iq_iadd hS 57 J_HGrid_fixSquares_d56 rfl ?_
                  refine iq_if_lt hS 60 J_HGrid_fixSquares_d57 (t := 75) rfl (fun q57 => ?_) rfl (fun q57 => ?_)
                  · refine iq_iconst hS 76 J_HGrid_fixSquares_d75 (v := 0) (by decide +kernel) rfl ?_
                    exact J31 _ _ (by simp only [if_neg q39, if_neg q50, if_pos q57]) (lk_1r l21 (by decide)) (lk_1i l22 (by decide)) (lk_1i l23 (by decide)) (lk_1i l24 (by decide)) (lk_1i l25 (by decide)) (lk_1i l26 (by decide)) (lk_1i l27 (by decide)) lk_1s
                  · refine iq_iload_n hS 61 J_HGrid_fixSquares_d60 (lk_1i l23 (by decide)) rfl ?_
                    refine iq_iload hS 63 J_HGrid_fixSquares_d61 (lk_1i l26 (by decide)) rfl ?_
                    refine iq_iadd hS 64 J_HGrid_fixSquares_d63 rfl ?_
                    refine iq_aload_n hS 65 J_HGrid_fixSquares_d64 (lk_1r l21 (by decide)) rfl ?_
                    refine iq_getI hS 68 J_HGrid_fixSquares_d65 lf_4_74 (Or.inl rfl) (ka_38 hM20) rfl ?_
                    refine iq_icmp_ge hS 71 J_HGrid_fixSquares_d68 (t := 75) rfl (fun q68 => ?_) rfl (fun q68 => ?_)
                    · refine iq_iconst hS 76 J_HGrid_fixSquares_d75 (v := 0) (by decide +kernel) rfl ?_
                      exact J31 _ _ (by simp only [if_neg q39, if_neg q50, if_neg q57, if_pos q68]) (lk_1r l21 (by decide)) (lk_1i l22 (by decide)) (lk_1i l23 (by decide)) (lk_1i l24 (by decide)) (lk_1i l25 (by decide)) (lk_1i l26 (by decide)) (lk_1i l27 (by decide)) lk_1s
                    · refine iq_iconst hS 72 J_HGrid_fixSquares_d71 (v := 1) (by decide +kernel) rfl ?_
                      refine iq_goto hS J_HGrid_fixSquares_d72 (t := 76) rfl ?_
                      exact J31 _ _ (by simp only [if_neg q39, if_neg q50, if_neg q57, if_neg q68]) (lk_1r l21 (by decide)) (lk_1i l22 (by decide)) (lk_1i l23 (by decide)) (lk_1i l24 (by decide)) (lk_1i l25 (by decide)) (lk_1i l26 (by decide)) (lk_1i l27 (by decide)) lk_1s
        exact I11 n11 _ _ _ hM4 (lk_1r l5 (by decide)) (lk_1i l6 (by decide)) (lk_1i l7 (by decide)) (lk_1i l8 (by decide)) (lk_1i l9 (by decide)) (lk_1i l10 (by decide)) lk_1s hn11
  exact I1 n1 _ _ _ hM (lk_1r l0 (by decide)) (lk_1i l1 (by decide)) (lk_1i l2 (by decide)) (lk_1i l3 (by decide)) (lk_1i l4 (by decide)) lk_1s hn1
theorem f_HGrid_fixSquares_fr {p0 : Int32} {p1 : Int32} {p2 : Int32} {p3 : Int32} {M : im_M} {r : im_M} (h : f_HGrid_fixSquares p0 p1 p2 p3 M = some r) : fr 54043195528445952 [] M r := by
  replace h : ed (f_HGrid_fixSquares p0 p1 p2 p3 M) (fun x => x = r) := ⟨r, h, rfl⟩
  unfold f_HGrid_fixSquares at h
  obtain ⟨Q1, hQ1, h⟩ := bd1_ed h
  have K1 : ∀ (M2 : im_M), fr 54043195528445952 [] M M2 → Q1 M2 → fr 54043195528445952 [] M r := by
    intro M2 hM2 h
    replace h := hQ1 _ h
    exact fr_retV h hM2
  obtain ⟨r1, hr1, hq1⟩ := h
  obtain ⟨n1, hn1⟩ := lp_n hr1
  have I1 : ∀ (n : Nat) (x3 : Int32) (M4 : im_M), fr 54043195528445952 [] M M4 → lpn (uc2 (f_HGrid_fixSquares_L4 p0 p1 p2 p3)) n (x3, M4) = some r1 → fr 54043195528445952 [] M r := by
    intro n
    induction n with
    | zero => intro x3 M4 hM4 hn; exact (lpn_0 hn).elim
    | succ n ih =>
      intro x3 M4 hM4 hn
      have h := lpn_ed2 hn
      unfold f_HGrid_fixSquares_L4 at h
      by_cases q7 : p2 < x3
      · replace h := ed_pos q7 h
        exact K1 _ hM4 (lq_r h hq1)
      · replace h := ed_neg q7 h
        obtain ⟨Q5, hQ5, h⟩ := bd1_ed h
        have K5 : ∀ (M6 : im_M), fr 54043195528445952 [] M M6 → Q5 M6 → fr 54043195528445952 [] M r := by
          intro M6 hM6 h
          replace h := hQ5 _ h
          exact ih _ _ hM6 (lq_l h)
        obtain ⟨r5, hr5, hq5⟩ := h
        obtain ⟨n5, hn5⟩ := lp_n hr5
        have I5 : ∀ (n : Nat) (x7 : Int32) (M8 : im_M), fr 54043195528445952 [] M M8 → lpn (uc2 (f_HGrid_fixSquares_L14 p0 p1 p2 p3 x3)) n (x7, M8) = some r5 → fr 54043195528445952 [] M r := by
          intro n
          induction n with
          | zero => intro x7 M8 hM8 hn; exact (lpn_0 hn).elim
          | succ n ih =>
            intro x7 M8 hM8 hn
            have h := lpn_ed2 hn
            unfold f_HGrid_fixSquares_L14 at h
            by_cases q17 : p2 < x7
            · replace h := ed_pos q17 h
              exact K5 _ hM8 (lq_r h hq5)
            · replace h := ed_neg q17 h
              obtain ⟨Q9, hQ9, h⟩ := bd1_ed h
              obtain ⟨x9, e9, h⟩ := h
              replace h := hQ9 _ h
              obtain ⟨Q10, hQ10, h⟩ := bd1_ed h
              obtain ⟨x10, e10, h⟩ := h
              replace h := hQ10 _ h
              obtain ⟨Q11, hQ11, h⟩ := bd1_ed h
              obtain ⟨x11, e11, h⟩ := h
              replace h := hQ11 _ h
              obtain ⟨Q13, hQ13, h⟩ := bd1_ed h
              have J13 : ∀ (M16 : im_M), fr 54043195528445952 [] M M16 → Q13 M16 → fr 54043195528445952 [] M r := by
                intro M16 hM16 h
                replace h := hQ13 _ h
                exact ih _ _ hM16 (lq_l h)
              by_cases q80 : ((if (p0 + x7) < 0 then 0 else (if (im_i M8 38 1) ≤ (p0 + x7) then 0 else (if (p1 + x3) < 0 then 0 else (if (im_i M8 38 1) ≤ (p1 + x3) then 0 else 1)))) : Int32) = 0
              · replace h := ed_pos q80 h
                exact J13 _ hM8 (ed_some h)
              · replace h := ed_neg q80 h
                obtain ⟨Q15, hQ15, h⟩ := bd1_ed h
                obtain ⟨M15, e15, h⟩ := h
                replace h := hQ15 _ h
                exact J13 _ (fr_tr (fr_mono (by decide) (by decide +kernel) (f_HGrid_fix_fr e15)) hM8) (ed_some h)
        exact I5 n5 _ _ hM4 hn5
  exact I1 n1 _ _ fr_refl hn1
noncomputable def f_HGrid_smallPlace (p0 : Int32) (p1 : Int32) (M : im_M) : Option (Int32) := bd1 (if ¬ (im_i M 38 6) = 32 then gd (¬ (((2 : Int32) * p1) - 2) = (0 : Int32)) <| some ((2 : Int32) * (((((4 : Int32) * (im_i M 38 6)) + ((2 : Int32) * p1)) + 1) / (((2 : Int32) * p1) - 2))) else some 26) fun (y2 : Int32) => if ¬ p0 = 0 then some (((im_i M 38 1) - 7) - (((p1 - 1) - p0) * y2)) else some 6
theorem J_HGrid_smallPlace_d0 : decode J_HGrid_smallPlace.2.1 0 = .ok (.aload_n 0, 1) := by decide +kernel
theorem J_HGrid_smallPlace_d1 : decode J_HGrid_smallPlace.2.1 1 = .ok (.getfield 71, 3) := by decide +kernel
theorem J_HGrid_smallPlace_d4 : decode J_HGrid_smallPlace.2.1 4 = .ok (.bipush 32, 2) := by decide +kernel
theorem J_HGrid_smallPlace_d6 : decode J_HGrid_smallPlace.2.1 6 = .ok (.if_icmp .ne 8, 3) := by decide +kernel
theorem J_HGrid_smallPlace_d9 : decode J_HGrid_smallPlace.2.1 9 = .ok (.bipush 26, 2) := by decide +kernel
theorem J_HGrid_smallPlace_d11 : decode J_HGrid_smallPlace.2.1 11 = .ok (.goto 23, 3) := by decide +kernel
theorem J_HGrid_smallPlace_d14 : decode J_HGrid_smallPlace.2.1 14 = .ok (.iconst 2, 1) := by decide +kernel
theorem J_HGrid_smallPlace_d15 : decode J_HGrid_smallPlace.2.1 15 = .ok (.iconst 4, 1) := by decide +kernel
theorem J_HGrid_smallPlace_d16 : decode J_HGrid_smallPlace.2.1 16 = .ok (.aload_n 0, 1) := by decide +kernel
theorem J_HGrid_smallPlace_d17 : decode J_HGrid_smallPlace.2.1 17 = .ok (.getfield 71, 3) := by decide +kernel
theorem J_HGrid_smallPlace_d20 : decode J_HGrid_smallPlace.2.1 20 = .ok (.imul, 1) := by decide +kernel
theorem J_HGrid_smallPlace_d21 : decode J_HGrid_smallPlace.2.1 21 = .ok (.iconst 2, 1) := by decide +kernel
theorem J_HGrid_smallPlace_d22 : decode J_HGrid_smallPlace.2.1 22 = .ok (.iload_n 2, 1) := by decide +kernel
theorem J_HGrid_smallPlace_d23 : decode J_HGrid_smallPlace.2.1 23 = .ok (.imul, 1) := by decide +kernel
theorem J_HGrid_smallPlace_d24 : decode J_HGrid_smallPlace.2.1 24 = .ok (.iadd, 1) := by decide +kernel
theorem J_HGrid_smallPlace_d25 : decode J_HGrid_smallPlace.2.1 25 = .ok (.iconst 1, 1) := by decide +kernel
theorem J_HGrid_smallPlace_d26 : decode J_HGrid_smallPlace.2.1 26 = .ok (.iadd, 1) := by decide +kernel
theorem J_HGrid_smallPlace_d27 : decode J_HGrid_smallPlace.2.1 27 = .ok (.iconst 2, 1) := by decide +kernel
theorem J_HGrid_smallPlace_d28 : decode J_HGrid_smallPlace.2.1 28 = .ok (.iload_n 2, 1) := by decide +kernel
theorem J_HGrid_smallPlace_d29 : decode J_HGrid_smallPlace.2.1 29 = .ok (.imul, 1) := by decide +kernel
theorem J_HGrid_smallPlace_d30 : decode J_HGrid_smallPlace.2.1 30 = .ok (.iconst 2, 1) := by decide +kernel
theorem J_HGrid_smallPlace_d31 : decode J_HGrid_smallPlace.2.1 31 = .ok (.isub, 1) := by decide +kernel
theorem J_HGrid_smallPlace_d32 : decode J_HGrid_smallPlace.2.1 32 = .ok (.idiv, 1) := by decide +kernel
theorem J_HGrid_smallPlace_d33 : decode J_HGrid_smallPlace.2.1 33 = .ok (.imul, 1) := by decide +kernel
theorem J_HGrid_smallPlace_d34 : decode J_HGrid_smallPlace.2.1 34 = .ok (.istore_n 3, 1) := by decide +kernel
theorem J_HGrid_smallPlace_d35 : decode J_HGrid_smallPlace.2.1 35 = .ok (.iload_n 1, 1) := by decide +kernel
theorem J_HGrid_smallPlace_d36 : decode J_HGrid_smallPlace.2.1 36 = .ok (.ifCond .ne 8, 3) := by decide +kernel
theorem J_HGrid_smallPlace_d39 : decode J_HGrid_smallPlace.2.1 39 = .ok (.bipush 6, 2) := by decide +kernel
theorem J_HGrid_smallPlace_d41 : decode J_HGrid_smallPlace.2.1 41 = .ok (.goto 18, 3) := by decide +kernel
theorem J_HGrid_smallPlace_d44 : decode J_HGrid_smallPlace.2.1 44 = .ok (.aload_n 0, 1) := by decide +kernel
theorem J_HGrid_smallPlace_d45 : decode J_HGrid_smallPlace.2.1 45 = .ok (.getfield 74, 3) := by decide +kernel
theorem J_HGrid_smallPlace_d48 : decode J_HGrid_smallPlace.2.1 48 = .ok (.bipush 7, 2) := by decide +kernel
theorem J_HGrid_smallPlace_d50 : decode J_HGrid_smallPlace.2.1 50 = .ok (.isub, 1) := by decide +kernel
theorem J_HGrid_smallPlace_d51 : decode J_HGrid_smallPlace.2.1 51 = .ok (.iload_n 2, 1) := by decide +kernel
theorem J_HGrid_smallPlace_d52 : decode J_HGrid_smallPlace.2.1 52 = .ok (.iconst 1, 1) := by decide +kernel
theorem J_HGrid_smallPlace_d53 : decode J_HGrid_smallPlace.2.1 53 = .ok (.isub, 1) := by decide +kernel
theorem J_HGrid_smallPlace_d54 : decode J_HGrid_smallPlace.2.1 54 = .ok (.iload_n 1, 1) := by decide +kernel
theorem J_HGrid_smallPlace_d55 : decode J_HGrid_smallPlace.2.1 55 = .ok (.isub, 1) := by decide +kernel
theorem J_HGrid_smallPlace_d56 : decode J_HGrid_smallPlace.2.1 56 = .ok (.iload_n 3, 1) := by decide +kernel
theorem J_HGrid_smallPlace_d57 : decode J_HGrid_smallPlace.2.1 57 = .ok (.imul, 1) := by decide +kernel
theorem J_HGrid_smallPlace_d58 : decode J_HGrid_smallPlace.2.1 58 = .ok (.isub, 1) := by decide +kernel
theorem J_HGrid_smallPlace_d59 : decode J_HGrid_smallPlace.2.1 59 = .ok (.ireturn, 1) := by decide +kernel
theorem f_HGrid_smallPlace_ok {L : Nat} {xs : Nat → Int32} {dep : Nat} {w : Bool} {p0 : Int32} {p1 : Int32} {M : im_M} {Q : Int32 → Prop} (hM : lw_S w M) (h : ed (f_HGrid_smallPlace p0 p1 M) Q) : ia (tb_G L xs) dep J_HGrid_smallPlace (rpI M Q) (0, lv_args 0 [.ref 38, .int p0, .int p1], [], M) := by
  have hS : im_St (tb_G L xs) dep J_HGrid_smallPlace (ia (tb_G L xs) dep J_HGrid_smallPlace (rpI M Q)) := ia_St
  unfold f_HGrid_smallPlace at h
  have l0 : im_lk (lv_args 0 [.ref 38, .int p0, .int p1]) 0 = some (.ref 38) := rfl
  have l1 : im_lk (lv_args 0 [.ref 38, .int p0, .int p1]) 1 = some (.int p0) := rfl
  have l2 : im_lk (lv_args 0 [.ref 38, .int p0, .int p1]) 2 = some (.int p1) := rfl
  refine iq_aload_n hS 1 J_HGrid_smallPlace_d0 l0 rfl ?_
  refine iq_getI hS 4 J_HGrid_smallPlace_d1 lf_4_71 (Or.inl rfl) (ka_38 hM) rfl ?_
  refine iq_bipush hS 6 J_HGrid_smallPlace_d4 (v := 32) (by decide +kernel) rfl ?_
  obtain ⟨Q1, hQ1, h⟩ := bd1_ed h
  have J1 : ∀ (y2 : Int32) (L' : List (Nat × Value)), im_lk L' 0 = some (.ref 38) → im_lk L' 1 = some (.int p0) → im_lk L' 2 = some (.int p1) → Q1 y2 → ia (tb_G L xs) dep J_HGrid_smallPlace (rpI M Q) (34, L', [.int y2], M) := by
    intro y2 L' l3 l4 l5 h
    replace h := hQ1 _ h
    refine iq_istore_n hS 35 J_HGrid_smallPlace_d34 (by decide) rfl ?_
    refine iq_iload_n hS 36 J_HGrid_smallPlace_d35 (lk_1i l4 (by decide)) rfl ?_
    refine iq_if_ne hS 39 J_HGrid_smallPlace_d36 (t := 44) rfl (fun q36 => ?_) rfl (fun q36 => ?_)
    · replace h := ed_pos q36 h
      refine iq_aload_n hS 45 J_HGrid_smallPlace_d44 (lk_1r l3 (by decide)) rfl ?_
      refine iq_getI hS 48 J_HGrid_smallPlace_d45 lf_4_74 (Or.inl rfl) (ka_38 hM) rfl ?_
      refine iq_bipush hS 50 J_HGrid_smallPlace_d48 (v := 7) (by decide +kernel) rfl ?_
      refine iq_isub hS 51 J_HGrid_smallPlace_d50 rfl ?_
      refine iq_iload_n hS 52 J_HGrid_smallPlace_d51 (lk_1i l5 (by decide)) rfl ?_
      refine iq_iconst hS 53 J_HGrid_smallPlace_d52 (v := 1) (by decide +kernel) rfl ?_
      refine iq_isub hS 54 J_HGrid_smallPlace_d53 rfl ?_
      refine iq_iload_n hS 55 J_HGrid_smallPlace_d54 (lk_1i l4 (by decide)) rfl ?_
      refine iq_isub hS 56 J_HGrid_smallPlace_d55 rfl ?_
      refine iq_iload_n hS 57 J_HGrid_smallPlace_d56 lk_1s rfl ?_
      refine iq_imul hS 58 J_HGrid_smallPlace_d57 rfl ?_
      refine iq_isub hS 59 J_HGrid_smallPlace_d58 rfl ?_
      exact iq_iret J_HGrid_smallPlace_d59 rfl rfl ⟨_, rfl, rfl, ed_some h⟩
    · replace h := ed_neg q36 h
      refine iq_bipush hS 41 J_HGrid_smallPlace_d39 (v := 6) (by decide +kernel) rfl ?_
      refine iq_goto hS J_HGrid_smallPlace_d41 (t := 59) rfl ?_
      exact iq_iret J_HGrid_smallPlace_d59 rfl rfl ⟨_, rfl, rfl, ed_some h⟩
  refine iq_icmp_ne hS 9 J_HGrid_smallPlace_d6 (t := 14) rfl (fun q6 => ?_) rfl (fun q6 => ?_)
  · replace h := ed_pos q6 h
    refine iq_iconst hS 15 J_HGrid_smallPlace_d14 (v := 2) (by decide +kernel) rfl ?_
    refine iq_iconst hS 16 J_HGrid_smallPlace_d15 (v := 4) (by decide +kernel) rfl ?_
    refine iq_aload_n hS 17 J_HGrid_smallPlace_d16 l0 rfl ?_
    refine iq_getI hS 20 J_HGrid_smallPlace_d17 lf_4_71 (Or.inl rfl) (ka_38 hM) rfl ?_
    refine iq_imul hS 21 J_HGrid_smallPlace_d20 rfl ?_
    refine iq_iconst hS 22 J_HGrid_smallPlace_d21 (v := 2) (by decide +kernel) rfl ?_
    refine iq_iload_n hS 23 J_HGrid_smallPlace_d22 l2 rfl ?_
    refine iq_imul hS 24 J_HGrid_smallPlace_d23 rfl ?_
    refine iq_iadd hS 25 J_HGrid_smallPlace_d24 rfl ?_
    refine iq_iconst hS 26 J_HGrid_smallPlace_d25 (v := 1) (by decide +kernel) rfl ?_
    refine iq_iadd hS 27 J_HGrid_smallPlace_d26 rfl ?_
    refine iq_iconst hS 28 J_HGrid_smallPlace_d27 (v := 2) (by decide +kernel) rfl ?_
    refine iq_iload_n hS 29 J_HGrid_smallPlace_d28 l2 rfl ?_
    refine iq_imul hS 30 J_HGrid_smallPlace_d29 rfl ?_
    refine iq_iconst hS 31 J_HGrid_smallPlace_d30 (v := 2) (by decide +kernel) rfl ?_
    refine iq_isub hS 32 J_HGrid_smallPlace_d31 rfl ?_
    obtain ⟨g32, h⟩ := ed_gd h
    refine iq_idiv hS 33 J_HGrid_smallPlace_d32 g32 rfl ?_
    refine iq_imul hS 34 J_HGrid_smallPlace_d33 rfl ?_
    exact J1 _ _ l0 l1 l2 (ed_some h)
  · replace h := ed_neg q6 h
    refine iq_bipush hS 11 J_HGrid_smallPlace_d9 (v := 26) (by decide +kernel) rfl ?_
    refine iq_goto hS J_HGrid_smallPlace_d11 (t := 34) rfl ?_
    exact J1 _ _ l0 l1 l2 (ed_some h)
