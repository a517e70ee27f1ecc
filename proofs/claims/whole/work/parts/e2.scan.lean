/-! CALLS: SCAN -/
theorem RL_DC {w : Bool} {A : Nat} {F : List (Nat × Nat)} {M M' : im_M} (h : fr A F M M') (nD : QD w M') (nC : QC M') (q : RL w M) (cT : clr A F [2, 70] [(1, 1), (69, 2)] [] = true := by decide +kernel) (cF : clr A F [57, 93, 58, 94] [] [] = true := by decide +kernel) (cS : clr A F [] [(71, 13), (15, 6), (71, 14), (15, 7)] [] = true := by decide +kernel) (cB : clr A F [16, 86] [(15, 4), (71, 35)] [] = true := by decide +kernel) (cO : clr A F [13, 87, 14, 88, 16] [(11, 3), (71, 37), (15, 4)] [] = true := by decide +kernel) (cV : clr A F [4, 74, 3, 73, 6, 76, 5, 75] [] [] = true := by decide +kernel) (cW : clr A F [66, 136, 120] [(0, 9), (69, 9)] [] = true := by decide +kernel) (cG : clr A F [67, 68, 137, 129] [(0, 12), (69, 12), (69, 10), (108, 31), (96, 15), (108, 32)] [] = true := by decide +kernel) : RL w M' := ⟨QT_fr h cT q.1, QF_fr h cF q.2.1, QS_fr h cS q.2.2.1, QB_fr h cB q.2.2.2.1, QO_fr h cO q.2.2.2.2.1, QV_fr h cV q.2.2.2.2.2.1, nD, QW_fr h cW q.2.2.2.2.2.2.2.1, QG_fr h cG q.2.2.2.2.2.2.2.2.1, nC⟩
theorem z_nI {a : Int} (h : 0 ≤ a) : iZ a = nI a.toNat := by rw [iZ_nI, Int.toNat_of_nonneg h]
/-- both sides found the same places -/
theorem found_eq {M M3 : im_M} {W H lo hi lim : Nat} {D : Nat → Nat → Bool} (hlo : 1 ≤ lo) (hhi : hi ≤ 16) (hlim : lim ≤ 500) (h1 : FD M D (ld D (StP W H D lo hi lim))) (h2 : FDM M3 D (ld D (StP W H D lo hi lim))) : im_i M 59 0 = im_i M3 130 10 ∧ RP (im_i M 59 0) (im_i M3 130 10) (im_l M 62) (im_i M 63) (im_i M3 135) W H := by
  obtain ⟨n, f, hn, e0, hi1, hS1, hK⟩ := h1
  obtain ⟨n2, g, hn2, e10, hi2, hS2, hE⟩ := h2
  obtain ⟨rfl, hfg⟩ := inc_eq hi1 hi2 (fun k => (hS1 k).symm.trans (hS2 k))
  refine ⟨e0.trans e10.symm, n, hn, e0, e10, fun k hk => ?_⟩
  have hs := ((hS1 (f k)).mpr ⟨k, hk, rfl⟩).1
  obtain ⟨r0, r1, r2, r3, r4, r5⟩ := hE k hk
  rw [← hfg k hk] at r0 r1 r2 r3 r4 r5
  have en := eW_nn (D := D) hs.2.1.1
  have el := hs.2.2.2
  refine ⟨kx (f k), ky (f k), km (f k), kv (f k), kq (f k), (eW D (f k)).toNat, by have := hs.1; omega, by have := hs.1; omega, hs.2.1.2, hs.2.1.1, kq_lt, by omega, hs.2.2.1.1, hs.2.2.1.2, ?_, ?_, r0, r1, r2, r3, r4, ?_⟩
  · rw [(hK k hk).1]
    show _ = lZ ((key (kx (f k)) (ky (f k)) (km (f k)) (kv (f k)) (kq (f k)) : Nat) : Int)
    rw [key_of]
  · rw [(hK k hk).2, z_nI en]
  · rw [r5, z_nI en]
theorem ov_no {S : Nat → Prop} (h : OV S) (h2 : ∃ (n : Nat) (f : Nat → Nat), n ≤ 300 ∧ ∀ k, S k → ∃ i, i < n ∧ f i = k) : False := by
  obtain ⟨f, a, b⟩ := h
  obtain ⟨n, g, hn, c⟩ := h2
  have := fn_le (n := 301) a (fun i hi => c _ (b i hi))
  omega
theorem c_scan {w : Bool} {M : im_M} {p0 p1 p2 : Int32} (q : RL w M) (h : ¬ p0 < 1 ∧ ¬ 16 < p0 ∧ ¬ p1 < p0 ∧ ¬ 16 < p1 ∧ ¬ p2 < 0 ∧ p2 ≤ 500) : ed (f_H_scan w p0 p1 p2 M) (fun r => ed (f_M_scan p0 p1 p2 (im_setL r.2 138 0 r.1.toInt64)) (ans w 0)) := by
  obtain ⟨W, H, D, ⟨h1, ⟨h2, h3, h4, h5, h6, h7⟩, h8, h9, h10, h11⟩, rp⟩ := q.2.2.2.2.2.2.1
  have dh : DH w M W H D := ⟨h1, ⟨h2, h3⟩, h8, h9⟩
  have pr : PR M W H D := ⟨h1, ⟨h6, h7⟩, h11⟩
  have qc := q.2.2.2.2.2.2.2.2.2
  obtain ⟨a, rfl, a1, a2⟩ := iZ_of p0
  obtain ⟨b, rfl, b1, b2⟩ := iZ_of p1
  obtain ⟨c, rfl, c1, c2⟩ := iZ_of p2
  obtain ⟨g1, g2, g3, g4, g5, g6⟩ := id h
  have l1 : ¬ a < 1 := fun z => g1 ((iZ_lt (b := 1) ⟨a1, a2⟩ (by omega)).mpr z)
  have l2 : ¬ 16 < a := fun z => g2 ((iZ_lt (a := 16) (by omega) ⟨a1, a2⟩).mpr z)
  have l3 : ¬ b < a := fun z => g3 ((iZ_lt ⟨b1, b2⟩ ⟨a1, a2⟩).mpr z)
  have l4 : ¬ 16 < b := fun z => g4 ((iZ_lt (a := 16) (by omega) ⟨b1, b2⟩).mpr z)
  have l5 : ¬ c < 0 := fun z => g5 ((iZ_lt (b := 0) ⟨c1, c2⟩ (by omega)).mpr z)
  have l6 : c ≤ 500 := (iZ_le (b := 500) ⟨c1, c2⟩ (by omega)).mp g6
  obtain ⟨lo, rfl⟩ : ∃ n : Nat, a = (n : Int) := ⟨a.toNat, by omega⟩
  obtain ⟨hi, rfl⟩ : ∃ n : Nat, b = (n : Int) := ⟨b.toNat, by omega⟩
  obtain ⟨lim, rfl⟩ : ∃ n : Nat, c = (n : Int) := ⟨c.toNat, by omega⟩
  simp only [← iZ_nI] at g1 g2 g3 g4 g5 g6 ⊢
  have hb : 1 ≤ lo ∧ lo ≤ hi ∧ hi ≤ 16 := by omega
  have hl : lim ≤ 500 := by omega
  unfold f_H_scan
  rw [if_neg g1, if_neg g2, if_neg g3, if_neg g4, if_neg g5, if_pos g6]
  apply bd2_mk
  refine ed_mono (s_search (lo := lo) (hi := hi) (lim := lim) dh qc.2.2.2.2.2.2.2.1 hb hl) ?_
  rintro ⟨r, M1⟩ ⟨f1, z1, hr⟩
  replace f1 : fr (2 ^ 60 ||| 2 ^ 61 ||| 2 ^ 62 ||| 2 ^ 63 ||| 2 ^ 64 ||| 2 ^ 65) [(59, 0), (59, 8), (59, 9), (59, 10)] M M1 := f1
  replace z1 : Z0 (im_i M1 60) := z1
  refine ed_mk ?_
  show ed (f_M_scan (nI lo) (nI hi) (nI lim) (im_setL M1 138 0 r.toInt64)) (ans w 0)
  have f2 : fr (2 ^ 60 ||| 2 ^ 61 ||| 2 ^ 62 ||| 2 ^ 63 ||| 2 ^ 64 ||| 2 ^ 65 ||| 2 ^ 138) [(59, 0), (59, 8), (59, 9), (59, 10)] M (im_setL M1 138 0 r.toInt64) := fr_L (by decide) (fr_mono (by decide) (by decide) f1)
  have pr2 : PR (im_setL M1 138 0 r.toInt64) W H D := PR_fr f2 (by decide +kernel) pr
  have z2 : Z0 (im_i (im_setL M1 138 0 r.toInt64) 132) := by
    rw [show im_i (im_setL M1 138 0 r.toInt64) 132 = im_i M 132 from fr_c f2 132 (by decide) (by decide)]
    exact qc.2.2.2.2.2.2.2.2
  unfold f_M_scan f_MPlaceRows_thrown
  apply bd2_mk
  refine ed_mono (s_find (lo := lo) (hi := hi) (lim := lim) pr2 z2 hb hl) ?_
  rintro ⟨r2, M3⟩ ⟨f3, z3, t0, hr2⟩
  replace f3 : fr (2 ^ 132 ||| 2 ^ 133 ||| 2 ^ 134 ||| 2 ^ 135) [(130, 0), (130, 6), (130, 8), (130, 10)] (im_setL M1 138 0 r.toInt64) M3 := f3
  replace z3 : Z0 (im_i M3 132) := z3
  replace t0 : im_i M3 130 0 = 0 := t0
  rw [bd1_s, t0]
  have f4 : fr (2 ^ 60 ||| 2 ^ 61 ||| 2 ^ 62 ||| 2 ^ 63 ||| 2 ^ 64 ||| 2 ^ 65 ||| 2 ^ 138 ||| 2 ^ 132 ||| 2 ^ 133 ||| 2 ^ 134 ||| 2 ^ 135) [(59, 0), (59, 8), (59, 9), (59, 10), (130, 0), (130, 6), (130, 8), (130, 10), (69, 0)] M (im_setI M3 69 0 0) := fr_F (by decide) (fr_tr (fr_mono (by decide) (by decide) f3) (fr_mono (by decide) (by decide) f2))
  have k1 : ∀ a, a = 59 ∨ a = 63 ∨ a = 60 → im_i (im_setI M3 69 0 0) a = im_i M1 a := fun a ha => by
    rcases ha with rfl | rfl | rfl
    · exact fr_c f3 59 (by decide) (by decide)
    · exact fr_c f3 63 (by decide) (by decide)
    · exact fr_c f3 60 (by decide) (by decide)
  have k2 : im_l (im_setI M3 69 0 0) 62 = im_l M1 62 := f3.2 62 (by decide)
  have both : r = r2 ∧ RP (im_i M1 59 0) (im_i M3 130 10) (im_l M1 62) (im_i M1 63) (im_i M3 135) W H := by
    rcases hr with ⟨A, B, C⟩ | ⟨A, B, C⟩ <;> rcases hr2 with ⟨A2, B2, C2⟩ | ⟨A2, B2, C2⟩
    · have := found_eq hb.1 hb.2.2 hl A A2
      exact ⟨B.trans (this.1.trans B2.symm), this.2⟩
    · exact (ov_no C2 C).elim
    · exact (ov_no C C2).elim
    · exact ⟨A.trans A2.symm, 0, by omega, B, B2, fun k hk => absurd hk (by omega)⟩
  refine ed_mk ⟨rfl, fun _ => ?_, RL_DC f4 ⟨W, H, D, ?_, ?_⟩ ?_ q⟩
  · show im_l M3 138 0 = r2.toInt64
    rw [f3.2 138 (by decide), ← both.1]
    rfl
  · have hsw : im_l (im_setI M3 69 0 0) (sw w) = im_l M (sw w) := by cases w; exact f4.2 29 (by decide); exact f4.2 30 (by decide)
    rw [hsw, f4.1 28 0 (by decide) (by decide), f4.1 28 1 (by decide) (by decide), f4.1 89 1 (by decide) (by decide), f4.1 89 2 (by decide) (by decide), f4.1 130 1 (by decide) (by decide), f4.1 130 2 (by decide) (by decide), show im_i (im_setI M3 69 0 0) 90 = im_i M 90 from fr_c f4 90 (by decide) (by decide), show im_i (im_setI M3 69 0 0) 131 = im_i M 131 from fr_c f4 131 (by decide) (by decide)]
    exact ⟨h1, ⟨h2, h3, h4, h5, h6, h7⟩, h8, h9, h10, h11⟩
  · rw [k1 59 (Or.inl rfl), k1 63 (Or.inr (Or.inl rfl)), k2]
    exact both.2
  · obtain ⟨c1, c2, c3, c4, c5, c6, c7, _, _⟩ := qc
    refine ⟨(fr_c f4 45 (by decide) (by decide)).trans c1, (fr_c f4 46 (by decide) (by decide)).trans c2, (fr_c f4 97 (by decide) (by decide)).trans c3, (fr_c f4 98 (by decide) (by decide)).trans c4, (fr_c f4 99 (by decide) (by decide)).trans c5, (fr_c f4 109 (by decide) (by decide)).trans c6, (fr_c f4 110 (by decide) (by decide)).trans c7, ?_, z3⟩
    rw [k1 60 (Or.inr (Or.inr rfl))]
    exact z1
theorem n_scan {w : Bool} {M : im_M} {p0 p1 p2 : Int32} (q : RL w M) (h : ¬ (¬ p0 < 1 ∧ ¬ 16 < p0 ∧ ¬ p1 < p0 ∧ ¬ 16 < p1 ∧ ¬ p2 < 0 ∧ p2 ≤ 500)) : ed (f_M_scan p0 p1 p2 (im_noX M)) (ans w 1) := by
  have e : f_MPlaceRows_find p0 p1 p2 (im_noX M) = some (0, im_setI (im_noX M) 130 0 1) := by
    unfold f_MPlaceRows_find
    have y7 : (jn0 (fun (_ : Unit) => some (1 : Int32)) fun k2 => if p0 < 1 then k2 () else if 16 < p0 then k2 () else if p1 < p0 then k2 () else if 16 < p1 then k2 () else if p2 < 0 then k2 () else if p2 ≤ 500 then some 0 else k2 ()) = some 1 := by
      simp only [jn0]
      by_cases d1 : p0 < 1
      · rw [if_pos d1]
      · rw [if_neg d1]
        by_cases d2 : 16 < p0
        · rw [if_pos d2]
        · rw [if_neg d2]
          by_cases d3 : p1 < p0
          · rw [if_pos d3]
          · rw [if_neg d3]
            by_cases d4 : 16 < p1
            · rw [if_pos d4]
            · rw [if_neg d4]
              by_cases d5 : p2 < 0
              · rw [if_pos d5]
              · rw [if_neg d5]
                by_cases d6 : p2 ≤ 500
                · exact absurd ⟨d1, d2, d3, d4, d5, d6⟩ h
                · rw [if_neg d6]
    rw [y7, bd1_s, if_neg (by show ¬ (1 : Int32) ≤ 0; decide)]
  unfold f_M_scan f_MPlaceRows_thrown
  rw [e, bd2_s, bd1_s]
  exact ed_mk ⟨rfl, fun k => absurd k (by decide), RL_0 (fr0_69 (fr1_0 (fr1_130 fr1_refl))) q⟩
theorem x_17 : owed 17 := by
  intro L xs dep i w M P hL hi hM q hk hn hn0
  refine law_17 hL hi hM hk ?_ hn
  by_cases h : ¬ xs (i + 1) < 1 ∧ ¬ 16 < xs (i + 1) ∧ ¬ xs (i + 2) < xs (i + 1) ∧ ¬ 16 < xs (i + 2) ∧ ¬ xs (i + 3) < 0 ∧ xs (i + 3) ≤ 500
  · exact wr_scan hM (c_scan q h)
  · exact wt_scan_0 hM (H_scan_0 (dep := dep + 23) h hM) (n_scan q h)
