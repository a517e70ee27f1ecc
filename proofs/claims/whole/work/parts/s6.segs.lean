/-! SEGMENTS READ, BY BOTH -/
def SGW (C R : im_M) (h : Nat) (D : Nat → Nat) (p n : Nat) : Prop := CDc C h D p ∧ CDr R h D p ∧ im_i C 39 2 = nI n ∧ im_i R 108 28 = nI n ∧ im_i R 108 31 = 0 ∧ (∀ j, j < n → im_i R 128 j = im_i C 68 j &&& 255) ∧ p ≤ 8 * h ∧ n ≤ 3000
theorem SGW_a {C R C' R' : im_M} {h p p' n : Nat} {D : Nat → Nat} (q : SGW C R h D p n) (a : CDc C' h D p') (b : CDr R' h D p') (fc : fr 0 [(39, 5)] C C') (fr' : fr 0 [(108, 29)] R R') (hp : p' ≤ 8 * h) : SGW C' R' h D p' n := by
  obtain ⟨_, _, q3, q4, q5, q6, _, q8⟩ := q
  refine ⟨a, b, ?_, ?_, ?_, fun j hj => ?_, hp, q8⟩
  · rw [fc.1 39 2 (by decide) (by decide)]; exact q3
  · rw [fr'.1 108 28 (by decide) (by decide)]; exact q4
  · rw [fr'.1 108 31 (by decide) (by decide)]; exact q5
  · rw [fr'.1 128 j (by decide) (by simp), fc.1 68 j (by decide) (by simp)]; exact q6 j hj
theorem sg_out {M : im_M} {x v19 v20 m g : Int32} (h : ¬ im_i M 108 31 = 0) : lp (uc2 (f_MSquareRows_segments_L139 v19 v20 m g)) (x, M) = some M := lp_r (by
  show f_MSquareRows_segments_L139 v19 v20 m g x M = _
  unfold f_MSquareRows_segments_L139
  rw [if_pos h])
theorem two_groups {Mc Mr : im_M} {h p n m N : Nat} {D : Nat → Nat} {v19 v20 : Int32} (q : SGW Mc Mr h D p n) (hh : h ≤ 2956) (hm : m < 3) (hn : n + N ≤ 3000) : ed (lp (uc2 (f_MSquareRows_segments_L139 v19 v20 (nI m) (nI (3 - m)))) (nI N, Mr)) (fun R => ed (lp (uc2 (f_HSegments_unpackOne_L59 (nI m) (nI N) (nI (3 - m)))) (0, Mc)) (fun u => (∃ C p', u = .inl C ∧ p ≤ p' ∧ SGW C R h D p' (n + N) ∧ im_i C 39 1 = im_i Mc 39 1) ∨ (∃ f C, (f = 4 ∨ f = 5) ∧ u = .inr (nI f, C) ∧ im_i R 108 31 = nI f ∧ im_i C 39 1 = im_i Mc 39 1))) := by
  refine lp_two (fun k (s1 : Int32 × im_M) (s2 : Int32 × im_M) => (∃ d p', k = N + 3 - d ∧ d ≤ N + 2 ∧ s2.1 = nI d ∧ s1.1 = iZ ((N : Int) - (d : Int)) ∧ p ≤ p' ∧ SGW s2.2 s1.2 h D p' (n + min d N) ∧ im_i s2.2 39 1 = im_i Mc 39 1) ∨ (k = 0 ∧ ∃ f C, (f = 4 ∨ f = 5) ∧ im_i s1.2 108 31 = nI f ∧ uc2 (f_HSegments_unpackOne_L59 (nI m) (nI N) (nI (3 - m))) s2 = some (.inr (.inr (nI f, C))) ∧ im_i C 39 1 = im_i Mc 39 1)) ?_ (k := N + 3) (Or.inl ⟨0, p, by omega, by omega, rfl, ?_, Nat.le_refl p, ?_, rfl⟩)
  · rintro k ⟨x23, M24⟩ ⟨x6, M7⟩ (⟨d, p', hk, hd, e2, e1, hp', sw, c1⟩ | ⟨hk, f, C, hf, e1, e2, c1⟩)
    · replace e2 : x6 = nI d := e2
      replace e1 : x23 = iZ ((N : Int) - (d : Int)) := e1
      replace sw : SGW M7 M24 h D p' (n + min d N) := sw
      replace c1 : im_i M7 39 1 = im_i Mc 39 1 := c1
      subst e1 e2
      have sw0 := sw
      obtain ⟨sc, sr, s39, s108, s31, sb, sp, sn⟩ := sw
      show ed (f_MSquareRows_segments_L139 v19 v20 (nI m) (nI (3 - m)) (iZ ((N : Int) - (d : Int))) M24) (tw _ _ k (nI d, M7) (f_HSegments_unpackOne_L59 (nI m) (nI N) (nI (3 - m)) (nI d) M7))
      unfold f_MSquareRows_segments_L139
      have k0 : (iZ ((N : Int) - (d : Int)) ≤ 0) = ((N : Int) - (d : Int) ≤ 0) := iZ_le (b := 0) (by omega) (by omega)
      rw [if_neg (fun z => z s31)]
      simp only [k0]
      by_cases z : N ≤ d
      · rw [if_pos (by omega)]
        rw [Nat.min_eq_right z] at sw0
        refine two_r (r2 := .inl M7) ?_ (Or.inl ⟨M7, p', rfl, hp', sw0, c1⟩)
        unfold f_HSegments_unpackOne_L59
        rw [if_nIl (by omega) (by omega), if_pos z]
      · rw [if_neg (by omega)]
        obtain ⟨c, hc⟩ : ∃ c, c = min (3 - m) (N - d) := ⟨_, rfl⟩
        have hcc : 1 ≤ c ∧ c ≤ 3 - m := by omega
        have hcN : c ≤ N - d := by omega
        have hdc : min (d + (3 - m)) N = d + c := by omega
        rw [Nat.min_eq_left (show d ≤ N by omega)] at s39 s108 sb sn sw0
        obtain ⟨p1, p2, p3, p4⟩ := pb_b hm hcc
        have ez : iZ ((N : Int) - (d : Int)) = nI (N - d) := by rw [iZ_nI]; congr 1; omega
        have ex : ((if nI (3 - m) ≤ nI (N - d) then nI (3 - m) else nI (N - d)) : Int32) = nI c := by
          rw [if_nIl (by omega) (by omega), hc]
          by_cases y : 3 - m ≤ N - d
          · rw [if_pos y, Nat.min_eq_left y]
          · rw [if_neg y, Nat.min_eq_right (by omega)]
        have cb : f_HSegments_unpackOne_L59 (nI m) (nI N) (nI (3 - m)) (nI d) M7 = if pbW m c ≤ 8 * h - p' then bd2 (f_HSegments_take (nI (pbW m c)) M7) fun (x11 : Int32) (M11 : im_M) => bd2 (f_HSegments_unpackPart x11 (nI m) (nI c) M11) fun (x12 : Int32) (M12 : im_M) => if ¬ x12 = 0 then some (.inl ((nI d + nI (3 - m)), M12)) else some (.inr (.inr (5, M12))) else some (.inr (.inr (4, M7))) := by
          unfold f_HSegments_unpackOne_L59
          rw [if_nIl (by omega) (by omega), if_neg z, nI_sb (by omega), m_minN (by omega) (by omega), bd1_s, ← hc, s_partBits hm, bd1_s, bd1_s, sc.1, sc.2.1, nI_sb sp, if_nIl (by omega) (by omega)]
        rw [cb, ez, ex]
        by_cases fit : p' + pbW m c ≤ 8 * h
        · obtain ⟨⟨x11, M11⟩, e11, t1, t2, t3⟩ := s_takeC sc hh fit
          replace t1 : x11 = nI (bv D p' (pbW m c)) := t1
          replace t2 : CDc M11 h D (p' + pbW m c) := t2
          replace t3 : fr 0 [(39, 5)] M7 M11 := t3
          subst t1
          obtain ⟨⟨x12, M12⟩, e12, u1, u2, u3, u4, u5⟩ := s_unpackPart (M := M11) (n := n + d) (x := bv D p' (pbW m c)) hm hcc (by omega) (bv_lt _) (by rw [t3.1 39 2 (by decide) (by decide)]; exact s39)
          replace u1 : x12 = (if bv D p' (pbW m c) < lmV m c then 1 else 0) := u1
          replace u2 : im_i M12 39 2 = nI (n + d + c) := u2
          replace u3 : ∀ i, i < c → im_i M12 68 (n + d + i) &&& 255 = nI (dgV m c (bv D p' (pbW m c)) i) := u3
          replace u4 : ∀ j, j < n + d → im_i M12 68 j = im_i M11 68 j := u4
          replace u5 : fr (2 ^ 68) [(39, 2)] M11 M12 := u5
          obtain ⟨R, eR, hR⟩ := s_groupR sr hh hm hcc (n := n + d) (by omega) s108 s31 fit
          have c12 : im_i M12 39 1 = im_i Mc 39 1 := by
            rw [u5.1 39 1 (by decide) (by decide), t3.1 39 1 (by decide) (by decide)]; exact c1
          rw [if_pos (by omega), e11, bd2_s, e12, bd2_s, eR, bd1_s]
          by_cases lt : bv D p' (pbW m c) < lmV m c
          · rw [if_pos lt] at u1 hR
            obtain ⟨v1, v2, v3, v4, v5⟩ := hR
            rw [if_pos (by rw [u1]; decide)]
            refine two_l (N + 3 - (d + (3 - m))) (by omega) rfl (Or.inl ⟨d + (3 - m), p' + pbW m c, rfl, by omega, nI_add _ _, ?_, by omega, ?_, c12⟩)
            · show nI (N - d) - nI (3 - m) = iZ ((N : Int) - ((d + (3 - m) : Nat) : Int))
              rw [iZ_nI, iZ_nI, iZ_sub]
              congr 1
              omega
            · rw [hdc]
              refine ⟨CDc_k t2 (fr_mono (by decide) (by simp) u5), v1, ?_, ?_, v3, fun j hj => ?_, fit, by omega⟩
              · show im_i M12 39 2 = nI (n + (d + c))
                rw [u2, Nat.add_assoc]
              · show im_i R 108 28 = nI (n + (d + c))
                rw [v2, Nat.add_assoc]
              · show im_i R 128 j = im_i M12 68 j &&& 255
                by_cases y : j < n + d
                · rw [v5 j y, u4 j y, t3.1 68 j (by decide) (by simp)]
                  exact sb j y
                · obtain ⟨i, rfl⟩ : ∃ i, j = n + d + i := ⟨j - (n + d), by omega⟩
                  rw [v4 i (by omega), u3 i (by omega)]
          · rw [if_neg lt] at u1 hR
            refine two_o 0 (by omega) (Or.inr ⟨rfl, 5, M12, Or.inr rfl, hR, ?_, c12⟩)
            show f_HSegments_unpackOne_L59 (nI m) (nI N) (nI (3 - m)) (nI d) M7 = _
            rw [cb, if_pos (by omega), e11, bd2_s, e12, bd2_s, if_neg (fun y => y u1)]
            rfl
        · rw [s_groupN sr hh hm hcc sp (by omega), bd1_s]
          refine two_o 0 (by omega) (Or.inr ⟨rfl, 4, M7, Or.inl rfl, hit, ?_, c1⟩)
          show f_HSegments_unpackOne_L59 (nI m) (nI N) (nI (3 - m)) (nI d) M7 = _
          rw [cb, if_neg (by omega)]
          rfl
    · replace e1 : im_i M24 108 31 = nI f := e1
      show ed (f_MSquareRows_segments_L139 v19 v20 (nI m) (nI (3 - m)) x23 M24) _
      unfold f_MSquareRows_segments_L139
      rw [if_pos (show ¬ im_i M24 108 31 = 0 by rw [e1]; rcases hf with rfl | rfl <;> decide)]
      exact two_r e2 (Or.inr ⟨f, C, hf, rfl, e1, c1⟩)
  · show nI N = iZ ((N : Int) - ((0 : Nat) : Int))
    rw [iZ_nI]
    congr 1
  · rw [Nat.zero_min]
    exact q
theorem two_one {Mc Mr : im_M} {h p n m g : Nat} {D : Nat → Nat} {v19 v20 : Int32} (q : SGW Mc Mr h D p n) (hh : h ≤ 2956) (hm : m < 3) (hg : g < 3) : ∃ f C R, f_HSegments_unpackOne (nI m) (nI g) Mc = some (nI f, C) ∧ (∀ (Y : Type) (K : im_M → Option Y), (bd2 (f_MSquareRows_next (nI (cbS g m)) Mr) fun (x9 : Int32) (M9 : im_M) => bd1 (if ¬ (im_i M9 108 31) = 0 then some M9 else if ((im_i M9 108 28) + x9) ≤ 3000 then some M9 else some (im_setI M9 108 31 6)) fun (M11 : im_M) => bd1 (lp (uc2 (f_MSquareRows_segments_L139 v19 v20 (nI m) (nI (3 - m)))) (x9, M11)) K) = K R) ∧ im_i C 39 1 = im_i Mc 39 1 ∧ ((f = 0 ∧ ∃ p' n', p ≤ p' ∧ SGW C R h D p' n') ∨ ((f = 4 ∨ f = 5 ∨ f = 6) ∧ im_i R 108 31 = nI f)) := by
  have q0 := q
  obtain ⟨sc, sr, s39, s108, s31, sb, sp, sn⟩ := q
  obtain ⟨b1, b2, b3⟩ := tb_cb ⟨g, hg⟩ ⟨m, hm⟩
  replace b1 : xa_9 (nI (3 * g + m)) = nI (cbS g m) := b1
  replace b2 : cbS g m ≤ 16 := b2
  replace b3 : 8 ≤ cbS g m := b3
  have i3 : (3 : Int32) * nI g + nI m = nI (3 * g + m) := by rw [nI_m, nI_add]
  have j3 : (3 : Int32) - nI m = nI (3 - m) := nI_sb (a := 3) (by omega)
  have uO : f_HSegments_unpackOne (nI m) (nI g) Mc = if cbS g m ≤ 8 * h - p then bd2 (f_HSegments_take (nI (cbS g m)) Mc) fun (x1 : Int32) (M1 : im_M) => if ((im_i M1 39 2) + x1) ≤ 3000 then bs1 (lp (uc2 (f_HSegments_unpackOne_L59 (nI m) x1 (nI (3 - m)))) (0, M1)) (fun (M13 : im_M) => some (0, M13)) (fun t => some t) else some (6, M1) else some (4, Mc) := by
    unfold f_HSegments_unpackOne
    rw [i3, b1, j3, gd_pos (by rw [inb_nI (by omega)]; omega), sc.1, sc.2.1, nI_sb sp, if_nIl (by omega) (by omega)]
  by_cases fit : p + cbS g m ≤ 8 * h
  · obtain ⟨⟨x1, M1⟩, e1, t1, t2, t3⟩ := s_takeC sc hh fit
    replace t1 : x1 = nI (bv D p (cbS g m)) := t1
    replace t2 : CDc M1 h D (p + cbS g m) := t2
    replace t3 : fr 0 [(39, 5)] Mc M1 := t3
    subst t1
    obtain ⟨⟨x9, M9⟩, e9, r1, r2, r3⟩ := s_nextR sr hh fit
    replace r1 : x9 = nI (bv D p (cbS g m)) := r1
    replace r2 : CDr M9 h D (p + cbS g m) := r2
    replace r3 : fr 0 [(108, 29)] Mr M9 := r3
    subst r1
    have NL : bv D p (cbS g m) < 65536 := Nat.lt_of_lt_of_le (bv_lt _) (Nat.le_trans (Nat.pow_le_pow_right (by omega) b2) (by decide))
    have sw1 : SGW M1 M9 h D (p + cbS g m) n := SGW_a q0 t2 r2 t3 r3 fit
    have c11 : im_i M1 39 1 = im_i Mc 39 1 := t3.1 39 1 (by decide) (by decide)
    generalize bv D p (cbS g m) = N at *
    have z31 : im_i M9 108 31 = 0 := sw1.2.2.2.2.1
    have k3 : (nI n + nI N ≤ 3000) = (n + N ≤ 3000) := by rw [nI_add]; exact nIl (c := 3000) (by omega) (by omega)
    rw [if_pos (by omega), e1, bd2_s, sw1.2.2.1] at uO
    simp only [k3] at uO
    by_cases fn : n + N ≤ 3000
    · obtain ⟨R, eR, u, eu, hu⟩ := two_groups (v19 := v19) (v20 := v20) sw1 hh hm fn
      rw [if_pos fn, eu] at uO
      have ref : ∀ (Y : Type) (K : im_M → Option Y), (bd2 (f_MSquareRows_next (nI (cbS g m)) Mr) fun (x9 : Int32) (M9 : im_M) => bd1 (if ¬ (im_i M9 108 31) = 0 then some M9 else if ((im_i M9 108 28) + x9) ≤ 3000 then some M9 else some (im_setI M9 108 31 6)) fun (M11 : im_M) => bd1 (lp (uc2 (f_MSquareRows_segments_L139 v19 v20 (nI m) (nI (3 - m)))) (x9, M11)) K) = K R := fun Y K => by
        rw [e9, bd2_s, if_neg (fun z => z z31), sw1.2.2.2.1]
        simp only [k3]
        rw [if_pos fn, bd1_s, eR, bd1_s]
      rcases hu with ⟨C, p', rfl, hp', sw2, c2⟩ | ⟨f, C, hf, rfl, hR, c2⟩
      · exact ⟨0, C, R, uO, ref, c2.trans c11, Or.inl ⟨rfl, p', n + N, by omega, sw2⟩⟩
      · exact ⟨f, C, R, uO, ref, c2.trans c11, Or.inr ⟨by omega, hR⟩⟩
    · rw [if_neg fn] at uO
      refine ⟨6, M1, im_setI M9 108 31 6, uO, fun Y K => ?_, c11, Or.inr ⟨by omega, hit⟩⟩
      rw [e9, bd2_s, if_neg (fun z => z z31), sw1.2.2.2.1]
      simp only [k3]
      rw [if_neg fn, bd1_s, sg_out (by rw [hit]; decide), bd1_s]
  · rw [if_neg (by omega)] at uO
    refine ⟨4, Mc, im_setI Mr 108 31 4, uO, fun Y K => ?_, rfl, Or.inr ⟨by omega, hit⟩⟩
    rw [s_nextN sr hh (by omega) (by omega), bd2_s, if_pos (by rw [hit]; decide), bd1_s, sg_out (by rw [hit]; decide), bd1_s]
def mdX (x : Int32) : Int32 := if ¬ x = 1 then (if ¬ x = 2 then (if ¬ x = 4 then (-1) else 2) else 1) else 0
theorem md_x : ∀ x : Fin 16, (x.val = 0 ∧ True) ∨ (x.val ≠ 0 ∧ ∃ m : Fin 3, mdX (nI x.val) = nI m.val ∧ 2 ^ m.val = x.val) ∨ (x.val ≠ 0 ∧ mdX (nI x.val) = -1 ∧ x.val ≠ 1 ∧ x.val ≠ 2 ∧ x.val ≠ 4) := by decide +kernel
theorem md_c {M : im_M} : ∀ m : Fin 3, f_HSegments_modeOf (nI (2 ^ m.val)) M = some (nI m.val) := by
  unfold f_HSegments_modeOf
  decide +kernel
theorem md_n {M : im_M} {x : Nat} (hx : x < 16) (h : x ≠ 0 ∧ x ≠ 1 ∧ x ≠ 2 ∧ x ≠ 4) : f_HSegments_modeOf (nI x) M = some (-1) := by
  unfold f_HSegments_modeOf
  have a0 : (nI x = 0) = (x = 0) := nIe (c := 0) (by omega) (by omega)
  have a1 : (nI x = 1) = (x = 1) := nIe (c := 1) (by omega) (by omega)
  have a2 : (nI x = 2) = (x = 2) := nIe (c := 2) (by omega) (by omega)
  have a4 : (nI x = 4) = (x = 4) := nIe (c := 4) (by omega) (by omega)
  simp only [a0, a1, a2, a4]
  rw [if_neg h.1, if_neg h.2.1, if_neg h.2.2.1, if_neg h.2.2.2]
theorem gs_t : ∀ m : Fin 3, ((if ¬ nI m.val = 0 then (if ¬ nI m.val = 1 then 1 else 2) else 3) : Int32) = nI (3 - m.val) ∧ (0 : Int32) ≤ nI m.val ∧ ¬ nI m.val = 3 ∧ ¬ nI m.val = -1 := by decide +kernel
theorem two_segs {Mc Mr : im_M} {h v : Nat} {D : Nat → Nat} (hh : h ≤ 2956) (hv : v ≤ 40) (q : SGW Mc Mr h D 0 0) (q1 : im_i Mc 39 1 = 0) : ed (lp (uc3 (f_HSegments_unpack_L33 (nI v))) (0, 0, Mc)) (fun u => ed (lp (uc2 (f_MSquareRows_segments_L2 (nI v))) (0, Mr)) (fun r => ∃ f C R, (u = .inl (nI f, C) ∨ u = .inr (nI f, C)) ∧ im_i R 108 31 = nI f ∧ ((f = 0 ∧ (∃ x3, r = .inl (x3, R) ∧ im_i C 39 1 = x3) ∧ ∃ p n, SGW C R h D p n) ∨ ((f = 3 ∨ f = 4 ∨ f = 5 ∨ f = 6) ∧ ((∃ x3, r = .inl (x3, R)) ∨ r = .inr R))))) := by
  have g3 := gp_3 (v := v)
  refine lp_two (fun k (s1 : Int32 × Int32 × im_M) (s2 : Int32 × im_M) => (∃ t p n, k = 8 * h + 2 - p ∧ 4 * t ≤ p ∧ s1.1 = 0 ∧ s1.2.1 = nI t ∧ s2.1 = nI t ∧ im_i s1.2.2 39 1 = nI t ∧ SGW s1.2.2 s2.2 h D p n) ∨ (k = 0 ∧ ∃ f, (f = 4 ∨ f = 5 ∨ f = 6) ∧ s1.1 = nI f ∧ im_i s2.2 108 31 = nI f) ∨ (k = 0 ∧ s1.1 = nI 3 ∧ ∃ R, uc2 (f_MSquareRows_segments_L2 (nI v)) s2 = some (.inr (.inr R)) ∧ im_i R 108 31 = nI 3)) ?_ (k := 8 * h + 2) (Or.inl ⟨0, 0, 0, rfl, by omega, rfl, rfl, rfl, q1, q⟩)
  rintro k ⟨x4, x5, M6⟩ ⟨x3, M4⟩ (⟨t, p, n, hk, ht, e1, e2, e3, c1, sw⟩ | ⟨hk, f, hf, e1, e2⟩ | ⟨hk, e1, R, e2, e3⟩)
  · replace e1 : x4 = 0 := e1
    replace e2 : x5 = nI t := e2
    replace e3 : x3 = nI t := e3
    replace c1 : im_i M6 39 1 = nI t := c1
    replace sw : SGW M6 M4 h D p n := sw
    subst e1 e2 e3
    have sw0 := sw
    obtain ⟨sc, sr, s39, s108, s31, sb, sp, sn⟩ := sw
    show ed (f_HSegments_unpack_L33 (nI v) 0 (nI t) M6) (tw _ _ k (nI t, M4) (f_MSquareRows_segments_L2 (nI v) (nI t) M4))
    have e4c : (nI (8 * h - p) < 4) = (8 * h - p < 4) := nIlt (c := 4) (by omega) (by omega)
    by_cases en : 8 * h - p < 4
    · have ca : f_HSegments_unpack_L33 (nI v) 0 (nI t) M6 = some (.inr (.inl (0, M6))) := by
        unfold f_HSegments_unpack_L33
        rw [sc.1, sc.2.1, nI_sb sp]
        simp only [e4c]
        rw [if_pos en]
        split
        · rfl
        · rw [if_neg (fun z => z trivial)]
      have ra : f_MSquareRows_segments_L2 (nI v) (nI t) M4 = some (.inr (.inl (nI t, M4))) := by
        unfold f_MSquareRows_segments_L2
        rw [if_neg (fun z => z s31), sr.1, sr.2.1, nI_sb sp]
        simp only [e4c]
        rw [if_pos en]
      rw [ca]
      exact two_r ra ⟨0, M6, M4, Or.inl rfl, s31, Or.inl ⟨rfl, ⟨nI t, rfl, c1⟩, p, n, sw0⟩⟩
    · obtain ⟨⟨x7, M7⟩, e7, t1, t2, t3⟩ := s_takeC (w := 4) sc hh (by omega)
      replace e7 : f_HSegments_take 4 M6 = some (x7, M7) := e7
      replace t1 : x7 = nI (bv D p 4) := t1
      replace t2 : CDc M7 h D (p + 4) := t2
      replace t3 : fr 0 [(39, 5)] M6 M7 := t3
      obtain ⟨⟨x9, M5⟩, e9, r1, r2, r3⟩ := s_nextR (w := 4) sr hh (by omega)
      replace e9 : f_MSquareRows_next 4 M4 = some (x9, M5) := e9
      replace r1 : x9 = nI (bv D p 4) := r1
      replace r2 : CDr M5 h D (p + 4) := r2
      replace r3 : fr 0 [(108, 29)] M4 M5 := r3
      subst t1 r1
      have xl : bv D p 4 < 16 := bv_lt 4
      have sw1 : SGW M7 M5 h D (p + 4) n := SGW_a sw0 t2 r2 t3 r3 (by omega)
      have c7 : im_i M7 39 1 = nI t := by rw [t3.1 39 1 (by decide) (by decide)]; exact c1
      generalize bv D p 4 = x at *
      have ca : f_HSegments_unpack_L33 (nI v) 0 (nI t) M6 = bd1 (f_HSegments_modeOf (nI x) M7) fun (x8 : Int32) => if ¬ x8 = 3 then bd2 (if ¬ x8 = (-1) then bd1 (f_HSegments_groupOf (nI v) M7) fun (x10 : Int32) => bd2 (f_HSegments_unpackOne x8 x10 M7) fun (x11 : Int32) (M11 : im_M) => some (x11, M11) else some (3, M7)) fun (y12 : Int32) (M13 : im_M) => some (.inl (y12, (nI t + 1), (im_setI M13 39 1 ((im_i M13 39 1) + 1)))) else some (.inr (.inr (0, M7))) := by
        unfold f_HSegments_unpack_L33
        rw [sc.1, sc.2.1, nI_sb sp]
        simp only [e4c]
        rw [if_nIl (by omega) (by omega), if_neg (by omega), if_neg (fun z => z trivial), if_neg en, e7, bd2_s]
      have ra : f_MSquareRows_segments_L2 (nI v) (nI t) M4 = if ¬ nI x = 0 then if 0 ≤ mdX (nI x) then bd1 (f_MSquareRows_rank (nI v) M5) fun (x7 : Int32) => bd1 (f_MSquareRows_lengthBits (mdX (nI x)) x7 M5) fun (x8 : Int32) => bd2 (f_MSquareRows_next x8 M5) fun (x9 : Int32) (M9 : im_M) => bd1 (if ¬ (im_i M9 108 31) = 0 then some M9 else if ((im_i M9 108 28) + x9) ≤ 3000 then some M9 else some (im_setI M9 108 31 6)) fun (M11 : im_M) => bd1 (lp (uc2 (f_MSquareRows_segments_L139 (nI v) (nI t) (mdX (nI x)) ((if ¬ mdX (nI x) = 0 then (if ¬ mdX (nI x) = 1 then 1 else 2) else 3) : Int32))) (x9, M11)) fun (M27 : im_M) => some (.inl ((nI t + 1), M27)) else some (.inr (.inr (im_setI M5 108 31 3))) else some (.inr (.inl (nI t, M5))) := by
        unfold f_MSquareRows_segments_L2
        rw [if_neg (fun z => z s31), sr.1, sr.2.1, nI_sb sp]
        simp only [e4c]
        rw [if_neg en, e9, bd2_s]
        rfl
      have kx : (nI x = 0) = (x = 0) := nIe (c := 0) (by omega) (by omega)
      simp only [kx] at ra
      rw [ca]
      rcases md_x ⟨x, xl⟩ with ⟨x0, _⟩ | ⟨x0, m, hm1, hm2⟩ | ⟨x0, hm1, n1, n2, n4⟩
      · replace x0 : x = 0 := x0
        subst x0
        rw [if_neg (fun z => z rfl)] at ra
        have mo : f_HSegments_modeOf (nI 0) M7 = some 3 := rfl
        rw [mo, bd1_s, if_neg (fun z => z rfl)]
        exact two_r ra ⟨0, M7, M5, Or.inr rfl, sw1.2.2.2.2.1, Or.inl ⟨rfl, ⟨nI t, rfl, c7⟩, p + 4, n, sw1⟩⟩
      · replace x0 : x ≠ 0 := x0
        replace hm1 : mdX (nI x) = nI m.val := hm1
        replace hm2 : 2 ^ m.val = x := hm2
        obtain ⟨g1, g2, g4, g5⟩ := gs_t m
        obtain ⟨f, C, R, u1, u2, u3, u4⟩ := two_one (v19 := nI v) (v20 := nI t) sw1 hh m.isLt g3
        have lb : f_MSquareRows_lengthBits (nI m.val) (nI (gp v)) M5 = some (nI (cbS (gp v) m.val)) := rf_lb ⟨gp v, g3⟩ m
        rw [hm1, if_pos x0, if_pos g2, s_rank hv, bd1_s, lb, bd1_s, g1, u2] at ra
        rw [← hm2, md_c m, bd1_s, if_pos g4, if_pos g5, s_groupOf hv, bd1_s, u1, bd2_s, bd2_s]
        have u3' : im_i C 39 1 = nI t := u3.trans c7
        rcases u4 with ⟨rfl, p', n', hp', sw2⟩ | ⟨hf, hR⟩
        · have l2 := sw2.2.2.2.2.2.2.1
          refine two_l (8 * h + 2 - p') (by omega) ra (Or.inl ⟨t + 1, p', n', rfl, by omega, rfl, nI_add t 1, nI_add t 1, ?_, ?_⟩)
          · show im_i (im_setI C 39 1 _) 39 1 = _
            rw [hit, u3']
            exact nI_add t 1
          · obtain ⟨w1, w2, w3, w4, w5, w6, w7, w8⟩ := sw2
            refine ⟨CDc_k w1 (fr_F (by decide) fr_refl), w2, ?_, w4, w5, fun j hj => ?_, w7, w8⟩
            · show im_i (im_setI C 39 1 _) 39 2 = _
              rw [sk1 (by omega)]; exact w3
            · show _ = im_i (im_setI C 39 1 _) 68 j &&& 255
              rw [sk1 (by omega)]; exact w6 j hj
        · exact two_l 0 (by omega) ra (Or.inr (Or.inl ⟨rfl, f, hf, rfl, hR⟩))
      · replace x0 : x ≠ 0 := x0
        replace hm1 : mdX (nI x) = -1 := hm1
        rw [hm1, if_pos x0, if_neg (by decide)] at ra
        rw [md_n xl ⟨x0, n1, n2, n4⟩, bd1_s, if_pos (by decide), if_neg (fun z => z rfl), bd2_s]
        exact two_o 0 (by omega) (Or.inr (Or.inr ⟨rfl, rfl, im_setI M5 108 31 3, ra, hit⟩))
  · replace e1 : x4 = nI f := e1
    replace e2 : im_i M4 108 31 = nI f := e2
    have fz : ¬ nI f = 0 := by rcases hf with rfl | rfl | rfl <;> decide
    show ed (f_HSegments_unpack_L33 (nI v) x4 x5 M6) (tw _ _ k (x3, M4) (f_MSquareRows_segments_L2 (nI v) x3 M4))
    have ca : f_HSegments_unpack_L33 (nI v) x4 x5 M6 = some (.inr (.inl (x4, M6))) := by
      unfold f_HSegments_unpack_L33
      split
      · rfl
      · rw [if_pos (by rw [e1]; exact fz)]
    have ra : f_MSquareRows_segments_L2 (nI v) x3 M4 = some (.inr (.inl (x3, M4))) := by
      unfold f_MSquareRows_segments_L2
      rw [if_pos (by rw [e2]; exact fz)]
    rw [ca]
    exact two_r ra ⟨f, M6, M4, Or.inl (by rw [e1]), e2, Or.inr ⟨by omega, Or.inl ⟨x3, rfl⟩⟩⟩
  · replace e1 : x4 = nI 3 := e1
    have ca : f_HSegments_unpack_L33 (nI v) x4 x5 M6 = some (.inr (.inl (x4, M6))) := by
      unfold f_HSegments_unpack_L33
      split
      · rfl
      · rw [if_pos (by rw [e1]; decide)]
    show ed (f_HSegments_unpack_L33 (nI v) x4 x5 M6) _
    rw [ca]
    exact two_r e2 ⟨3, M6, R, Or.inl (by rw [e1]), e3, Or.inr ⟨by omega, Or.inr rfl⟩⟩
theorem two_unpack {Mc Mr : im_M} {v l : Nat} {D : Nat → Nat} (hv : 1 ≤ v ∧ v ≤ 40) (hl : l < 4) (hc : ∀ i, i < HO v l → im_i Mc 40 i &&& 255 = nI (D i)) (hr : ∀ i, i < HO v l → im_i Mr 119 i &&& 255 = nI (D i)) (h31 : im_i Mr 108 31 = 0) : ∃ f C R, f_HSegments_unpack (nI v) (nI l) Mc = some (nI f, C) ∧ f_MSquareRows_segments (nI v) (im_setI (im_setI (im_setI Mr 108 29 0) 108 30 ((8 : Int32) * nI (HO v l))) 108 28 0) = some R ∧ im_i R 108 31 = nI f ∧ ((f = 0 ∧ ∃ n, n ≤ 3000 ∧ im_i C 39 2 = nI n ∧ im_i R 108 28 = nI n ∧ (∀ j, j < n → im_i R 128 j = im_i C 68 j &&& 255) ∧ im_i R 129 3 = im_i C 39 1) ∨ (f = 3 ∨ f = 4 ∨ f = 5 ∨ f = 6)) := by
  have hh : HO v l ≤ 2956 := (tb_hold ⟨v, by omega⟩ ⟨l, hl⟩ hv.1).2.1
  have e8 : (8 : Int32) * nI (HO v l) = nI (8 * HO v l) := nI_m 8
  obtain ⟨Mc', hMc⟩ : ∃ X, X = im_setI (im_setI (im_setI (im_setI Mc 39 6 (nI (8 * HO v l))) 39 5 0) 39 1 0) 39 2 0 := ⟨_, rfl⟩
  obtain ⟨Mr', hMr⟩ : ∃ X, X = im_setI (im_setI (im_setI Mr 108 29 0) 108 30 (nI (8 * HO v l))) 108 28 0 := ⟨_, rfl⟩
  have sw : SGW Mc' Mr' (HO v l) D 0 0 := by
    refine ⟨⟨?_, ?_, fun i hi => ?_⟩, ⟨?_, ?_, fun i hi => ?_⟩, ?_, ?_, ?_, fun j hj => absurd hj (Nat.not_lt_zero _), by omega, by omega⟩
    · rw [hMc, sk1 (by omega), sk1 (by omega), hit]; rfl
    · rw [hMc, sk1 (by omega), sk1 (by omega), sk1 (by omega), hit]
    · rw [hMc, sk1 (by omega), sk1 (by omega), sk1 (by omega), sk1 (by omega)]; exact hc i hi
    · rw [hMr, sk1 (by omega), sk1 (by omega), hit]; rfl
    · rw [hMr, sk1 (by omega), hit]
    · rw [hMr, sk1 (by omega), sk1 (by omega), sk1 (by omega)]; exact hr i hi
    · rw [hMc, hit]; rfl
    · rw [hMr, hit]; rfl
    · rw [hMr, sk1 (by omega), sk1 (by omega), sk1 (by omega)]; exact h31
  obtain ⟨u, eu, r, er, f, C, R, hu, h31', hh'⟩ := two_segs hh hv.2 sw (by rw [hMc, sk1 (by omega), hit])
  have uc : f_HSegments_unpack (nI v) (nI l) Mc = some (nI f, C) := by
    unfold f_HSegments_unpack
    rw [s_holdsC hv hl, bd1_s, e8, ← hMc, eu]
    rcases hu with rfl | rfl <;> rfl
  rcases hh' with ⟨rfl, ⟨x3, rfl, hx⟩, p, n, sw2⟩ | ⟨hf, hr2⟩
  · refine ⟨0, C, im_setI R 129 3 x3, uc, ?_, ?_, Or.inl ⟨rfl, n, sw2.2.2.2.2.2.2.2, sw2.2.2.1, ?_, fun j hj => ?_, ?_⟩⟩
    · unfold f_MSquareRows_segments
      rw [e8, ← hMr, er]
      rfl
    · rw [sk1 (by omega)]; exact h31'
    · rw [sk1 (by omega)]; exact sw2.2.2.2.1
    · rw [sk1 (by omega)]; exact sw2.2.2.2.2.2.1 j hj
    · rw [hit]; exact hx.symm
  · rcases hr2 with ⟨x3, rfl⟩ | rfl
    · refine ⟨f, C, im_setI R 129 3 x3, uc, ?_, ?_, Or.inr hf⟩
      · unfold f_MSquareRows_segments
        rw [e8, ← hMr, er]
        rfl
      · rw [sk1 (by omega)]; exact h31'
    · refine ⟨f, C, R, uc, ?_, h31', Or.inr hf⟩
      unfold f_MSquareRows_segments
      rw [e8, ← hMr, er]
      rfl
