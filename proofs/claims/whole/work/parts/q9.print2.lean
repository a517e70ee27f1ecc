/-! CALLS: PRINT, the call -/
theorem c_print {w : Bool} {M : im_M} {p0 : Int32} (q : RL w M) (h : ¬ p0 < 0 ∧ p0 < im_i M 15 4) : ed (f_H_print w p0 M) (fun r => ed (f_M_print p0 (im_setL r.2 138 0 r.1.toInt64)) (ans w 0)) := by
  obtain ⟨nl, nl12, b1, b2, b3⟩ := q.2.2.2.1
  obtain ⟨⟨no, no120, o1, o2, o3⟩, ⟨n', m', c1, c2, c3, c4, c5, c6⟩⟩ := q.2.2.2.2.1
  have en : n' = no := by
    rw [o1] at c1
    have : (nI no = nI n') = (no = n') := nIe (by omega) (by omega)
    rw [this] at c1
    exact c1.symm
  have em : m' = nl := by
    rw [b1] at c3
    have : (nI nl = nI m') = (nl = m') := nIe (by omega) (by omega)
    rw [this] at c3
    exact c3.symm
  subst en em
  obtain ⟨z, rfl, z1, z2⟩ := iZ_of p0
  have g1 : ¬ z < 0 := fun y => h.1 ((iZ_lt (b := 0) ⟨z1, z2⟩ (by omega)).mpr y)
  have g2 : z < (m' : Int) := by
    have := h.2
    rw [b1, iZ_nI, iZ_lt ⟨z1, z2⟩ (by omega)] at this
    exact this
  obtain ⟨k, rfl⟩ : ∃ k : Nat, z = (k : Int) := ⟨z.toNat, by omega⟩
  rw [← iZ_nI] at h ⊢
  have hk : k < m' := by omega
  obtain ⟨W, H, f, c, l0, l1, l2, l3, W1, W2, H1, H2, fc⟩ := c6 k hk
  have hW : 1 ≤ W ∧ W ≤ 512 ∧ 1 ≤ H ∧ H ≤ 512 := ⟨W1, W2, H1, H2⟩
  have qc := q.2.2.2.2.2.2.2.2.2
  have e0 : (4 : Int32) * nI k = nI (4 * k) := nI_m 4
  have e1 : nI (4 * k) + 1 = nI (4 * k + 1) := nI_add _ 1
  have e2 : nI (4 * k) + 2 = nI (4 * k + 2) := nI_add _ 2
  have e3 : nI (4 * k) + 3 = nI (4 * k + 3) := nI_add _ 3
  -- the class's sheet
  obtain ⟨M1, hM1, d1, f1⟩ := s_renew (w := w) (M := M) hW
  obtain ⟨Mc, hMc⟩ : ∃ Mc, Mc = im_setI (im_setI M1 59 0 0) 0 9 (nI c) := ⟨_, rfl⟩
  have fMc : fr APc FPc M Mc := by
    rw [hMc]
    exact fr_F (by decide) (fr_F (by decide) (fr_mono (by decide) (by decide) f1))
  have dMc : DH w Mc W H (fun _ _ => false) := by
    rw [hMc]
    exact DH_fr (show fr 0 [(59, 0), (0, 9)] M1 _ from fr_F (by decide) (fr_F (by decide) fr_refl)) (by decide +kernel) d1
  have c9 : im_i Mc 0 9 = nI c := by rw [hMc]; exact hit
  have k59 : im_i Mc 59 0 = 0 := by rw [hMc, sk1 (by omega)]; exact hit
  have a16 : im_i (im_setI M1 59 0 0) 16 = im_i M 16 := (up_o (by decide)).trans (fr_c f1 16 (by decide) (by decide))
  have cls : ∀ y rc, lp (uc3 (f_H_print_L98 w (nI f))) (0, 0, Mc) = some (nI y, rc) → f_H_print w (nI k) M = some (nI y, rc) := fun y rc hl => by
    unfold f_H_print
    rw [if_neg h.1, if_pos h.2, e0, gd_pos (by rw [inb_nI (by omega)]; omega), e1, gd_pos (by rw [inb_nI (by omega)]; omega), nI_clamp (by omega), nI_clamp (by omega), l0, l1, hM1, bd1_s, e2, e3, gd_pos (by rw [inb_nI (by omega)]; omega), gd_pos (by rw [inb_nI (by omega)]; omega), nI_clamp (by omega), nI_clamp (by omega), a16, l2, l3, ← hMc, hl, bd2_s]
  -- orders: what both know
  have ord : ∀ i, i < c → ∀ Br : im_M, im_i Br 71 37 = im_i M 71 37 → im_i Br 87 = im_i M 87 → im_i Br 88 = im_i M 88 → ORD Mc Br (f + i) n' := fun i hi Br u1 u2 u3 => by
    have c13 : im_i Mc 13 = im_i M 13 := fr_c fMc 13 (by decide) (by decide)
    have c14 : im_i Mc 14 = im_i M 14 := fr_c fMc 14 (by decide) (by decide)
    obtain ⟨v1, s, s1, s2, s3⟩ := o3 (f + i) (by omega)
    unfold ORD
    rw [c13, c14, u1, u2, u3]
    exact ⟨by omega, no120, o2, fun j hj => v1 j hj, c5 (f + i) (by omega), s, s1, s2, s3⟩
  -- the reference's start, from any memory that agrees with M
  have start : ∀ N : im_M, fr (APc ||| 2 ^ 138) FPc M N → ∃ M5 : im_M, f_M_print (nI k) N = bd2 (lp (uc3 (f_M_print_L72 (nI k))) (0, 0, M5)) (fun (y15 : Int32) (M16 : im_M) => bd1 (f_M_follow M16) fun (M17 : im_M) => some (y15, M17)) ∧ DR M5 W H (fun _ _ => false) ∧ im_i M5 69 9 = nI c ∧ im_i M5 69 0 = 0 ∧ fr APr FPr N M5 ∧ im_i M5 120 = im_i N 120 := fun N fN => by
    have n35 : im_i N 71 35 = nI m' := (fN.1 71 35 (by decide) (by decide)).trans b2
    have n86 : ∀ j, j < 4 → im_i N 86 (4 * k + j) = im_i M 16 (4 * k + j) := fun j hj => by rw [fN.1 86 _ (by decide) (by simp)]; exact b3 _ (by omega)
    have lab : ∀ (R : im_M) (t : Nat), t ≤ 3 → fr APr FPr N R → f_MScriptRows_label (nI k) (nI t) R = some (im_i M 16 (4 * k + t), im_setI R 71 0 0) := fun R t ht fR => by
      rw [s_labelM ((fR.1 71 35 (by decide) (by decide)).trans n35) nl12 hk ht, fR.1 86 _ (by decide) (by simp), n86 t (by omega)]
    have fa : fr APr FPr N (im_setI (im_setI N 71 0 0) 69 0 0) := fr_F (by decide) (fr_F (by decide) fr_refl)
    have q0 : f_MScriptRows_label (nI k) 0 N = some (nI W, im_setI N 71 0 0) := by
      have : f_MScriptRows_label (nI k) 0 N = some (im_i M 16 (4 * k + 0), im_setI N 71 0 0) := lab N 0 (by omega) fr_refl
      rw [this, Nat.add_zero, l0]
    have q0b : f_MScriptRows_label (nI k) 0 (im_setI (im_setI N 71 0 0) 69 0 0) = some (nI W, im_setI (im_setI (im_setI N 71 0 0) 69 0 0) 71 0 0) := by
      have : f_MScriptRows_label (nI k) 0 (im_setI (im_setI N 71 0 0) 69 0 0) = some (im_i M 16 (4 * k + 0), im_setI (im_setI (im_setI N 71 0 0) 69 0 0) 71 0 0) := lab _ 0 (by omega) fa
      rw [this, Nat.add_zero, l0]
    have fb : fr APr FPr N (im_setI (im_setI (im_setI N 71 0 0) 69 0 0) 71 0 0) := fr_F (by decide) fa
    have q1 : f_MScriptRows_label (nI k) 1 (im_setI (im_setI (im_setI N 71 0 0) 69 0 0) 71 0 0) = some (nI H, im_setI (im_setI (im_setI (im_setI N 71 0 0) 69 0 0) 71 0 0) 71 0 0) := by
      have : f_MScriptRows_label (nI k) 1 (im_setI (im_setI (im_setI N 71 0 0) 69 0 0) 71 0 0) = some (im_i M 16 (4 * k + 1), im_setI (im_setI (im_setI (im_setI N 71 0 0) 69 0 0) 71 0 0) 71 0 0) := lab _ 1 (by omega) fb
      rw [this, l1]
    obtain ⟨R5, hR5, d5, f5⟩ := s_sheetM (M := im_setI (im_setI (im_setI (im_setI N 71 0 0) 69 0 0) 71 0 0) 71 0 0) hW
    have fc5 : fr APr FPr N R5 := fr_tr (fr_mono (by decide) (by decide) f5) (fr_F (by decide) fb)
    have q3 : f_MScriptRows_label (nI k) 3 R5 = some (nI c, im_setI R5 71 0 0) := by
      have : f_MScriptRows_label (nI k) 3 R5 = some (im_i M 16 (4 * k + 3), im_setI R5 71 0 0) := lab _ 3 (by omega) fc5
      rw [this, l3]
    refine ⟨im_setI (im_setI R5 71 0 0) 69 9 (nI c), ?_, DR_fr (show fr 0 [(71, 0), (69, 9)] R5 _ from fr_F (by decide) (fr_F (by decide) fr_refl)) (by decide +kernel) d5, hit, ?_, fr_F (by decide) (fr_F (by decide) fc5), ?_⟩
    · have w0 : (0 : Int32) ≤ nI W := by rw [show (0 : Int32) = nI 0 from rfl, nIl (by omega) (by omega)]; omega
      unfold f_M_print
      rw [q0, bd2_s, if_pos w0, if_pos (show im_i (im_setI (im_setI N 71 0 0) 69 0 0) 69 0 ≤ 0 by rw [hit]; decide), q0b, bd2_s, q1, bd2_s, hR5, bd1_s, q3, bd2_s]
    · rw [sk1 (by omega), sk1 (by omega), f5.1 69 0 (by decide) (by decide), sk1 (by omega), sk1 (by omega)]
      exact hit
    · rw [up_o (by decide), up_o (by decide), fr_c f5 120 (by decide) (by decide), up_o (by decide), up_o (by decide), up_o (by decide), up_o (by decide)]
  -- both, from a start of the reference
  have both : ∀ N : im_M, fr (APc ||| 2 ^ 138) FPc M N → ∀ M5 : im_M, DR M5 W H (fun _ _ => false) → im_i M5 69 9 = nI c → fr APr FPr N M5 → im_i M5 120 = im_i N 120 → ∃ (y : Nat) (D' : Nat → Nat → Bool), y ≤ c ∧ ∃ rc rr : im_M, lp (uc3 (f_H_print_L98 w (nI f))) (nI 0, nI 0, Mc) = some (nI y, rc) ∧ lp (uc3 (f_M_print_L72 (nI k))) (nI 0, nI 0, M5) = some (nI y, rr) ∧ DH w rc W H D' ∧ DR rr W H D' ∧ im_i rc 0 9 = nI c ∧ im_i rr 69 9 = nI c ∧ fr ALc FLc Mc rc ∧ fr ALr FLr M5 rr ∧ (∀ u, u < c → im_i rr 136 u = im_i rc 66 u) ∧ B8 (im_i rr 120) := fun N fN M5 d5 r9 f5 e120 => by
    have fa : ∀ b, (APc ||| 2 ^ 138).testBit b = false → (∀ p ∈ FPc, p.1 ≠ b) → APr.testBit b = false → (∀ p ∈ FPr, p.1 ≠ b) → im_i M5 b = im_i M b := fun b u1 u2 u3 u4 => (fr_c f5 b u3 u4).trans (fr_c fN b u1 u2)
    have ff : ∀ b j, (APc ||| 2 ^ 138).testBit b = false → ¬ (b, j) ∈ FPc → APr.testBit b = false → ¬ (b, j) ∈ FPr → im_i M5 b j = im_i M b j := fun b j u1 u2 u3 u4 => (f5.1 b j u3 u4).trans (fN.1 b j u1 u2)
    refine two_orders (n := n') (m := m') (fun i hi => ord i hi M5 (ff 71 37 (by decide) (by decide) (by decide) (by decide)) (fa 87 (by decide) (by decide) (by decide) (by decide)) (fa 88 (by decide) (by decide) (by decide) (by decide))) ?_ (PWL_fr fMc (by decide +kernel) ⟨qc.1, qc.2.1⟩) ⟨(fa 109 (by decide) (by decide) (by decide) (by decide)).trans qc.2.2.2.2.2.1, (fa 110 (by decide) (by decide) (by decide) (by decide)).trans qc.2.2.2.2.2.2.1⟩ ((fa 97 (by decide) (by decide) (by decide) (by decide)).trans qc.2.2.1) ((fa 98 (by decide) (by decide) (by decide) (by decide)).trans qc.2.2.2.1) ((fa 99 (by decide) (by decide) (by decide) (by decide)).trans qc.2.2.2.2.1) (by omega) ((ff 71 35 (by decide) (by decide) (by decide) (by decide)).trans b2) nl12 hk ?_ (by omega) c 0 (fun _ _ => false) Mc M5 0 (by omega) (by omega) dMc d5 c9 r9 fr_refl fr_refl (fun u hu => absurd hu (Nat.not_lt_zero _)) (by rw [e120, fr_c fN 120 (by decide) (by decide)]; exact q.2.2.2.2.2.2.2.1.2)
    · rw [fr_c fMc 57 (by decide) (by decide), fr_c fMc 58 (by decide) (by decide), fa 93 (by decide) (by decide) (by decide) (by decide), fa 94 (by decide) (by decide) (by decide) (by decide)]
      exact q.2.1
    · rw [fa 86 (by decide) (by decide) (by decide) (by decide), b3 _ (by omega)]
      exact l2
  -- once to know where the class ends
  obtain ⟨M5a, _, d5a, r9a, _, f5a, g5a⟩ := start M fr_refl
  obtain ⟨y, D0, hy, rc, rr0, lc, _, dc0, _, rc9, _, frc, _, _, _⟩ := both M fr_refl M5a d5a r9a f5a g5a
  have hc := cls y rc lc
  refine ⟨(nI y, rc), hc, ?_⟩
  show ed (f_M_print (nI k) (im_setL rc 138 0 (nI y).toInt64)) (ans w 0)
  have fN : fr (APc ||| 2 ^ 138) FPc M (im_setL rc 138 0 (nI y).toInt64) := fr_L (by decide) (fr_mono (by decide) (by decide) (fr_tr (fr_mono (by decide) (by decide) frc) fMc))
  obtain ⟨M5, hM5, d5, r9, t5, f5, g5⟩ := start _ fN
  obtain ⟨y', D', hy', rc', rr, lc', lr, dc, dr, rc9', rr9, frc', frr, eq66, by8⟩ := both _ fN M5 d5 r9 f5 g5
  rw [lc] at lc'
  injection lc' with lc'
  injection lc' with ey er
  subst er
  obtain ⟨N2, eN2, i1, i2, i3, i4⟩ := s_follow dr
  replace lr : lp (uc3 (f_M_print_L72 (nI k))) (0, 0, M5) = some (nI y', rr) := lr
  rw [hM5, lr, bd2_s, eN2, bd1_s]
  have fAll : fr (APc ||| 2 ^ 138 ||| APr ||| 2 ^ 131) (FPc ++ FPr ++ [(130, 0), (130, 1), (130, 2), (130, 8), (130, 10)]) M N2 := fr_tr (fr_mono (by decide) (by decide) i4) (fr_tr (fr_mono (by decide) (by decide) frr) (fr_tr (fr_mono (by decide) (by decide) f5) (fr_mono (by decide) (by decide) fN)))
  -- what the reference leaves of the class
  have fRef : fr (APr ||| 2 ^ 131) (FPr ++ [(130, 0), (130, 1), (130, 2), (130, 8), (130, 10)]) (im_setL rc 138 0 (nI y).toInt64) N2 := fr_tr (fr_mono (by decide) (by decide) i4) (fr_tr (fr_mono (by decide) (by decide) frr) (fr_mono (by decide) (by decide) f5))
  have t0 : im_i N2 69 0 = 0 := by
    rw [(f_M_follow_fr eN2).1 69 0 (by decide) (by decide), frr.1 69 0 (by decide) (by decide)]
    exact t5
  refine ed_mk ⟨t0, fun _ => ?_, RL_DW fAll ⟨W, H, D', ?_, 0, by omega, ?_, i3, fun u hu => absurd hu (Nat.not_lt_zero _)⟩ ⟨⟨c, by omega, ?_, ?_, fun u hu => ?_⟩, ?_⟩ q⟩
  · show im_l N2 138 0 = (nI y').toInt64
    rw [fRef.2 138 (by decide), ml_L, if_pos rfl, if_pos rfl, ey]
  · obtain ⟨p1, ⟨p2, p3⟩, p4, p5⟩ := dc
    obtain ⟨_, ⟨r2, r3⟩, _, r5⟩ := i1
    obtain ⟨_, ⟨s2, s3⟩, s4⟩ := i2
    have hsw : im_l N2 (sw w) = im_l rc (sw w) := by
      cases w
      · exact fRef.2 29 (by decide)
      · exact fRef.2 30 (by decide)
    refine ⟨hW, ⟨?_, ?_, r2, r3, s2, s3⟩, p4, ?_, r5, s4⟩
    · exact (fRef.1 28 0 (by decide) (by decide)).trans p2
    · exact (fRef.1 28 1 (by decide) (by decide)).trans p3
    · rw [hsw]
      exact p5
  · show im_i N2 59 0 = nI 0
    rw [fRef.1 59 0 (by decide) (by decide)]
    show im_i rc 59 0 = 0
    rw [frc.1 59 0 (by decide) (by decide)]
    exact k59
  · exact (fRef.1 0 9 (by decide) (by decide)).trans rc9
  · rw [i4.1 69 9 (by decide) (by decide)]
    exact rr9
  · show im_i N2 136 u = im_i N2 66 u
    rw [i4.1 136 u (by decide) (by simp), eq66 u hu, fRef.1 66 u (by decide) (by simp)]
    rfl
  · rw [fr_c i4 120 (by decide) (by decide)]
    exact by8
theorem n_print {w : Bool} {M : im_M} {p0 : Int32} (q : RL w M) (h : ¬ (¬ p0 < 0 ∧ p0 < im_i M 15 4)) : ed (f_M_print p0 (im_noX M)) (ans w 1) := by
  obtain ⟨nl, nl12, b1, b2, b3⟩ := q.2.2.2.1
  have lab : f_MScriptRows_label p0 0 (im_noX M) = some (-1, im_setI (im_noX M) 71 0 0) := by
    unfold f_MScriptRows_label
    simp only [jn0]
    rw [if_neg (show ¬ (0 : Int32) < 0 by decide), if_pos (show (0 : Int32) ≤ 3 by decide), if_pos (show im_i (im_setI (im_noX M) 71 0 0) 71 0 ≤ 0 by rw [hit]; decide), sk1 (by omega)]
    by_cases c : p0 < 0
    · rw [if_pos c]
    · rw [if_neg c, if_neg (fun z => h ⟨c, ?_⟩)]
      rw [b1, ← b2]
      exact z
  unfold f_M_print
  rw [lab, bd2_s, if_neg (show ¬ (0 : Int32) ≤ -1 by decide), if_neg (show ¬ im_i (im_setI (im_setI (im_noX M) 71 0 0) 69 0 1) 69 0 ≤ 0 by rw [hit]; decide)]
  exact ed_mk ⟨hit, fun k => absurd k (by decide), RL_0 (fr0_69 (show fr0 M (im_setI (im_noX M) 71 0 0) from fr_F (by decide) fr0_X)) q⟩
theorem x_10 : owed 10 := by
  intro L xs dep i w M P hL hi hM q hk hn hn0
  refine law_10 hL hi hM hk ?_ hn
  by_cases h : ¬ xs (i + 1) < 0 ∧ xs (i + 1) < im_i M 15 4
  · exact wr_print hM (c_print q h)
  · exact wt_print_1 hM (H_print_1 (dep := dep + 23) h hM) (n_print q h)
