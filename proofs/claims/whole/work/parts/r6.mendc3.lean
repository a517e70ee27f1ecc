/-! THE CLASS PUTS A WORD RIGHT -/
def zI (n i : Nat) : Fin 256 := al (255 - (n - 1 - i))
def rtB (La : Nat → Fin 256) (n i : Nat) : Bool := decide (ev 31 La (zI n i) = 0)
def slV (La : Nat → Fin 256) (n i : Nat) : Fin 256 := ev 15 (fun k => La (2 * k + 1)) (gx (zI n i) (zI n i))
def coV (La Om : Nat → Fin 256) (n i : Nat) : Fin 256 := gx (al (n - 1 - i)) (gx (ev 30 Om (zI n i)) (gi (slV La n i)))
def mwW (W La Om : Nat → Fin 256) (n m i : Nat) : Fin 256 := if i < m ∧ rtB La n i = true then ga (W i) (coV La Om n i) else W i
def cnt (p : Nat → Bool) : Nat → Nat
  | 0 => 0
  | n + 1 => cnt p n + (if p n = true then 1 else 0)
theorem cnt_lt (p : Nat → Bool) : ∀ n, cnt p n ≤ n := by
  intro n
  induction n with
  | zero => exact Nat.le_refl _
  | succ n ih =>
    show cnt p n + (if p n = true then 1 else 0) ≤ n + 1
    split <;> omega
theorem s_roots {M : im_M} {n : Nat} {W La Om : Nat → Fin 256} {v6 : Int32} (qp : PWL M) (hn : n ≤ 255) (hW : AF (im_i M 48) W n) (hA : AF (im_i M 50) La 31) (hO : AF (im_i M 53) Om 30) : ed (lp (uc3 (f_HBlocks_mendWord_L32 (nI n) v6)) (0, 0, M)) (sQ (fun (t : Int32 × im_M) => t.1 = nI (cnt (rtB La n) n) ∧ AF (im_i t.2 48) (mwW W La Om n n) n ∧ (∀ j, j < n → rtB La n j = true → slV La n j ≠ 0) ∧ fr (2 ^ 48) [] M t.2) (fun (t : Int32 × im_M) => t.1 = -1 ∧ ∃ j, j < n ∧ rtB La n j = true ∧ slV La n j = 0)) := by
  refine lp_inv (fun m (s : Int32 × Int32 × im_M) => ∃ i, i + m = n ∧ s.1 = nI (cnt (rtB La n) i) ∧ s.2.1 = nI i ∧ AF (im_i s.2.2 48) (mwW W La Om n i) n ∧ (∀ j, j < i → rtB La n j = true → slV La n j ≠ 0) ∧ fr (2 ^ 48) [] M s.2.2) ?_ (k := n) ⟨0, by omega, rfl, rfl, fun j hj => ?_, fun j hj => by omega, fr_refl⟩
  · rintro m ⟨x7, x8, M9⟩ ⟨i, hi, e1, e2, hW9, hs, hf⟩
    replace e1 : x7 = nI (cnt (rtB La n) i) := e1
    replace e2 : x8 = nI i := e2
    replace hW9 : AF (im_i M9 48) (mwW W La Om n i) n := hW9
    replace hf : fr (2 ^ 48) [] M M9 := hf
    subst e1 e2
    have ci := cnt_lt (rtB La n) i
    have q9 : PWL M9 := PWL_f hf (by decide) qp
    have A9 : AF (im_i M9 50) La 31 := by rw [fr_ar hf (by decide)]; exact hA
    have O9 : AF (im_i M9 53) Om 30 := by rw [fr_ar hf (by decide)]; exact hO
    show ed (f_HBlocks_mendWord_L32 (nI n) v6 (nI (cnt (rtB La n) i)) (nI i) M9) _
    unfold f_HBlocks_mendWord_L32
    rw [if_nIl (by omega) (by omega)]
    by_cases y : n ≤ i
    · rw [if_pos y]
      obtain rfl : i = n := by omega
      exact lpo_r ⟨rfl, hW9, hs, hf⟩
    · have ep : nI n - 1 - nI i = nI (n - 1 - i) := nI_s1 (by omega) (by omega)
      have ep2 : (255 : Int32) - nI (n - 1 - i) = nI (255 - (n - 1 - i)) := nI_sb (a := 255) (by omega)
      have nr : ∀ {j : Nat}, ¬ j = i → mwW W La Om n (i + 1) j = mwW W La Om n i j := by
        intro j hj
        unfold mwW
        by_cases d : j < i ∧ rtB La n j = true
        · rw [if_pos d, if_pos ⟨by omega, d.2⟩]
        · rw [if_neg d, if_neg (fun z => d ⟨by omega, z.2⟩)]
      have cS : cnt (rtB La n) (i + 1) = cnt (rtB La n) i + (if rtB La n i = true then 1 else 0) := rfl
      rw [if_neg y, ep, ep2, gd_pos (by rw [inb_nI (by omega)]; omega), nI_clamp (by omega), pw_M q9 (by omega), show nI (pwN (255 - (n - 1 - i))) = nI (zI n i).val from rfl, s_valC q9 A9, bd1_s]
      simp only [jn2, nZ]
      by_cases r : ev 31 La (zI n i) = 0
      · have rt : rtB La n i = true := decide_eq_true r
        rw [if_neg (fun z => z r), s_slopeC q9 A9, bd1_s]
        simp only [nZ]
        rw [show ev 15 (fun k => La (2 * k + 1)) (gx (zI n i) (zI n i)) = slV La n i from rfl]
        by_cases sz : slV La n i = 0
        · rw [if_neg (fun z => z sz)]
          exact lpo_r ⟨rfl, i, by omega, rt, sz⟩
        · have hwi : im_i M9 48 i = nI (W i).val := by
            rw [hW9 i (by omega)]
            unfold mwW
            rw [if_neg (by omega)]
          rw [if_pos sz, gd_pos (by rw [inb_nI (by omega)]; omega), gd_pos (by rw [inb_nI (by omega)]; omega), s_valE q9 O9, bd1_s, oC q9 sz, bd1_s, nI_clamp (by omega), pw_M q9 (by omega), show nI (pwN (n - 1 - i)) = nI (al (n - 1 - i)).val from rfl, tC q9, bd1_s, gd_pos (by rw [inb_nI (by omega)]; omega), nI_clamp (by omega), hwi, nX]
          refine lpo_l (m - 1) (by omega) ⟨i + 1, by omega, ?_, nI_add i 1, fun j hj => ?_, fun j hj hr => ?_, fr_I (by decide) hf⟩
          · show nI (cnt (rtB La n) i) + 1 = _
            rw [cS, if_pos rt]
            exact nI_add _ 1
          · show im_i (im_setI M9 48 i _) 48 j = _
            by_cases d : j = i
            · subst d
              rw [hit]
              unfold mwW
              rw [if_pos ⟨by omega, rt⟩]
              rfl
            · rw [sk1 (by omega), hW9 j hj, nr d]
          · by_cases d : j = i
            · rw [d]; exact sz
            · exact hs j (by omega) hr
      · have rt : ¬ rtB La n i = true := fun z => r (of_decide_eq_true z)
        rw [if_pos r]
        refine lpo_l (m - 1) (by omega) ⟨i + 1, by omega, ?_, nI_add i 1, fun j hj => ?_, fun j hj hr => ?_, hf⟩
        · show nI (cnt (rtB La n) i) = _
          rw [cS, if_neg rt, Nat.add_zero]
        · show im_i M9 48 j = _
          rw [hW9 j hj]
          by_cases d : j = i
          · subst d
            unfold mwW
            rw [if_neg (by omega), if_neg (fun z => rt z.2)]
          · rw [nr d]
        · by_cases d : j = i
          · exact absurd (d ▸ hr) rt
          · exact hs j (by omega) hr
  · show im_i M 48 j = _
    rw [hW j hj]
    unfold mwW
    rw [if_neg (by omega)]
abbrev syW (W : Nat → Fin 256) (n : Nat) (k : Nat) : Fin 256 := hsy W k n
def bmW (W : Nat → Fin 256) (n c : Nat) : BMs := itN (bmS (syW W n)) bm0 c
def mwF (W : Nat → Fin 256) (n c : Nat) : Nat → Fin 256 := mwW W (bmW W n c).2.2.2.1 (omV (syW W n) (bmW W n c).2.2.2.1 c) n n
def mwOK (W : Nat → Fin 256) (n c t : Nat) : Prop := (bmW W n c).1 ≤ t ∧ (∀ j, j < n → rtB (bmW W n c).2.2.2.1 n j = true → slV (bmW W n c).2.2.2.1 n j ≠ 0) ∧ cnt (rtB (bmW W n c).2.2.2.1 n) n = (bmW W n c).1 ∧ flg (mwF W n c) n c = true
theorem s_mendW {M : im_M} {n c t : Nat} {W : Nat → Fin 256} (qp : PWL M) (hn : n ≤ 255) (hc : c ≤ 30) (ht : t ≤ 30) (h12 : im_i M 43 12 = nI c) (hW : AF (im_i M 48) W n) : ed (f_HBlocks_mendWord (nI n) (nI t) M) (fun r => (flg W n c = true → r.1 = 0 ∧ AF (im_i r.2 48) W n) ∧ (flg W n c = false → mwOK W n c t → r.1 = nI (bmW W n c).1 ∧ AF (im_i r.2 48) (mwF W n c) n) ∧ (flg W n c = false → ¬ mwOK W n c t → r.1 = -1)) := by
  unfold f_HBlocks_mendWord
  obtain ⟨⟨x1, M1⟩, h1, e1, S1, f1⟩ := s_isC qp hn hc h12 hW
  rw [h1, bd2_s]
  replace e1 : x1 = if flg W n c = true then 1 else 0 := e1
  replace S1 : AF (im_i M1 49) (syW W n) c := S1
  replace f1 : fr (2 ^ 49) [] M M1 := f1
  have q1 : PWL M1 := PWL_f f1 (by decide) qp
  have W1 : AF (im_i M1 48) W n := by rw [fr_ar f1 (by decide)]; exact hW
  have h121 : im_i M1 43 12 = nI c := (fr_at f1 (by decide)).trans h12
  by_cases cf : flg W n c = true
  · rw [if_pos cf] at e1
    rw [e1, if_neg (by decide)]
    refine ed_mk ⟨fun _ => ⟨rfl, W1⟩, fun z => ?_, fun z => ?_⟩
    · rw [cf] at z; cases z
    · rw [cf] at z; cases z
  · rw [if_neg cf] at e1
    rw [e1, if_pos rfl]
    have bi := bi_all (syW W n) c
    obtain ⟨⟨x2, M2⟩, h2, e2, A2, f2⟩ := s_findL q1 hc h121 S1
    rw [h2, bd2_s]
    replace e2 : x2 = nI (bmW W n c).1 := e2
    replace A2 : AF (im_i M2 50) (bmW W n c).2.2.2.1 31 := A2
    replace f2 : fr 7881299347898368 [] M1 M2 := f2
    replace bi : BI (syW W n) c (bmW W n c) := bi
    have bl := bi.2.2.1
    have q2 : PWL M2 := PWL_f f2 (by decide) q1
    have W2 : AF (im_i M2 48) W n := by rw [fr_ar f2 (by decide)]; exact W1
    have S2 : AF (im_i M2 49) (syW W n) c := by rw [fr_ar f2 (by decide)]; exact S1
    have h122 : im_i M2 43 12 = nI c := (fr_at f2 (by decide)).trans h121
    rw [e2, if_nIl (by omega) (by omega)]
    by_cases ct : (bmW W n c).1 ≤ t
    · rw [if_pos ct]
      obtain ⟨M3, h3, O3, f3⟩ := s_evalC q2 hc h122 S2 A2
      rw [h3, bd1_s]
      have q3 : PWL M3 := PWL_f f3 (by decide) q2
      have W3 : AF (im_i M3 48) W n := by rw [fr_ar f3 (by decide)]; exact W2
      have A3 : AF (im_i M3 50) (bmW W n c).2.2.2.1 31 := by rw [fr_ar f3 (by decide)]; exact A2
      have h123 : im_i M3 43 12 = nI c := (fr_at f3 (by decide)).trans h122
      refine bs2_q (s_roots (v6 := nI (bmW W n c).1) q3 hn W3 A3 O3) ?_ ?_
      · rintro ⟨y, M4⟩ ⟨r1, r2, r3, f4⟩
        replace r1 : y = nI (cnt (rtB (bmW W n c).2.2.2.1 n) n) := r1
        replace r2 : AF (im_i M4 48) (mwF W n c) n := r2
        replace f4 : fr (2 ^ 48) [] M3 M4 := f4
        have cl := cnt_lt (rtB (bmW W n c).2.2.2.1 n) n
        show ed (if ¬ y = nI (bmW W n c).1 then some ((-1), M4) else bd2 (f_HBlocks_isCodeword (nI n) M4) fun (x25 : Int32) (M25 : im_M) => if x25 = 0 then some ((-1), M25) else some (nI (bmW W n c).1, M25)) _
        rw [r1]
        simp only [nIe (show cnt (rtB (bmW W n c).2.2.2.1 n) n < 2147483648 by omega) (show (bmW W n c).1 < 2147483648 by omega)]
        by_cases cc : cnt (rtB (bmW W n c).2.2.2.1 n) n = (bmW W n c).1
        · rw [if_neg (fun z => z cc)]
          obtain ⟨⟨x5, M5⟩, h5, e5, -, f5⟩ := s_isC (W := mwF W n c) (PWL_f f4 (by decide) q3) hn hc ((fr_at f4 (by decide)).trans h123) r2
          rw [h5, bd2_s]
          replace e5 : x5 = if flg (mwF W n c) n c = true then 1 else 0 := e5
          replace f5 : fr (2 ^ 49) [] M4 M5 := f5
          by_cases cl5 : flg (mwF W n c) n c = true
          · rw [if_pos cl5] at e5
            rw [e5, if_neg (by decide)]
            refine ed_mk ⟨fun z => absurd z cf, fun _ _ => ⟨rfl, ?_⟩, fun _ z => absurd ⟨ct, r3, cc, cl5⟩ z⟩
            show AF (im_i M5 48) _ n
            rw [fr_ar f5 (by decide)]
            exact r2
          · rw [if_neg cl5] at e5
            rw [e5, if_pos rfl]
            exact ed_mk ⟨fun z => absurd z cf, fun _ z => absurd z.2.2.2 cl5, fun _ _ => rfl⟩
        · rw [if_pos cc]
          exact ed_mk ⟨fun z => absurd z cf, fun _ z => absurd z.2.2.1 cc, fun _ _ => rfl⟩
      · rintro ⟨y, M4⟩ ⟨r1, j, j1, j2, j3⟩
        exact ed_mk ⟨fun z => absurd z cf, fun _ z => absurd j3 (z.2.1 j j1 j2), fun _ _ => r1⟩
    · rw [if_neg ct]
      exact ed_mk ⟨fun z => absurd z cf, fun _ z => absurd z.1 ct, fun _ _ => rfl⟩
