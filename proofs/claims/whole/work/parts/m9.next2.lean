/-! THE LEAST NEXT SYMBOL, BY BOTH -/
theorem ls_w {t : Nat → Nat} {n i s : Nat} (hn : n ≤ 64) (ht : ∀ i, i < n → t i ≤ 128) (hi : i < n) (hs : s < 3) : wV t n (FW t n) i s (lsT t n i s) = FW t n i s ∧ lsT t n i s < 103 ∧ ∀ c, c < lsT t n i s → wV t n (FW t n) i s c ≠ FW t n i s := by
  have b2 := FW_2 ht (n - i) i s rfl hs
  have e0 : 0 < ech s := by unfold ech; split <;> omega
  rcases ls_case hn ht hi hs with ⟨c, hc, hsy, hf⟩ | ⟨hc, s2, ho, hf, nA⟩ | ⟨hc, h128, hf, nG⟩ | ⟨r, hr, hrs, hc, hf, nA, nB, nG⟩
  · have l := syT_lt hsy
    rw [hc]
    refine ⟨?_, by omega, fun d hd => wV_ne (by omega) (by omega) (fun z => ?_) (fun z hb => ?_) (fun r g => ?_)⟩
    · have te : tel t n i s c = ech s := by
        unfold tel ech
        rw [if_neg (by omega), if_pos hsy]
      unfold wV
      rw [te, if_pos e0]
      exact hf.symm
    · rw [hsy] at z
      injection z with z
      omega
    · have := l.2.1 hb.1.1
      omega
    · have := goV_lt g
      omega
  · rw [hc]
    refine ⟨?_, by omega, fun d hd => wV_ne (by omega) (by omega) (fun z y => nA ⟨by rw [z]; rfl, y⟩) (fun z => by omega) (fun r g => by have := goV_lt g; omega)⟩
    have te : tel t n i s 98 = 0 := by
      unfold tel
      rw [if_neg (by omega), if_neg (fun z => by have := (syT_lt z).2.1 s2; omega)]
    have eg : goV s 98 = none := by unfold goV; rw [if_neg (by omega), if_neg (by omega), if_neg (by omega)]
    unfold wV
    rw [te, if_neg (by omega), eg]
    show (if 98 = 98 ∧ ¬ s = 2 ∧ (syT t n i (1 - s)).isSome = true then 2 + FW t n (i + 1) s else 9999) = _
    rw [if_pos ⟨rfl, s2, ho⟩, hf]
  · rw [hc]
    refine ⟨?_, by omega, fun d hd => wV_ne (by omega) (by omega) (fun z => by have := (syT_lt z).2.2.2; omega) (fun z hb => ?_) (fun r g => nG r (goV_lt g).1)⟩
    · have te : tel t n i s 102 = 1 := by unfold tel; rw [if_pos rfl, if_pos h128]
      unfold wV
      rw [te, if_pos (by omega)]
      exact hf.symm
    · obtain ⟨d, hd⟩ := Option.isSome_iff_exists.mp hb.1.2
      have := (syT_lt hd).2.2.2
      omega
  · rw [hc]
    refine ⟨?_, by omega, fun d hd => wV_ne (by omega) (by omega) (fun z y => nA ⟨by rw [z]; rfl, y⟩) (fun _ => nB) (fun q g => nG q (by have := goV_lt g; omega) (goV_lt g).1)⟩
    have te : tel t n i s (101 - r) = 0 := by
      unfold tel
      rw [if_neg (by omega), if_neg]
      intro z
      have l := syT_lt z
      by_cases s2 : s = 2
      · omega
      · have := l.2.1 s2
        omega
    unfold wV
    rw [te, if_neg (by omega), goV_of hr hrs]
    exact hf.symm
theorem s_leastSymbol {M : im_M} {t : Nat → Nat} {n i s : Nat} (h : SG M n t) (hc : CFW M n t 0) (hi : i < n) (hs : s < 3) : f_HBars_leastSymbol (nI i) (nI s) M = some (nI (lsT t n i s)) := by
  have hn := h.2.1
  have ht : ∀ i, i < n → t i ≤ 128 := fun i hi => (h.2.2 i hi).1
  have bF : ∀ j r, r < 3 → FW t n j r ≤ 129 := fun j r hr => by
    have := FW_2 ht (n - j) j r rfl hr
    omega
  have c1 : CFW M n t (i + 1) := fun j r h1 h2 h3 => hc j r (Nat.zero_le _) h2 h3
  have b0 := bF i s hs
  have ei : (3 : Int32) * nI i + nI s = nI (3 * i + s) := by rw [nI_m, nI_add]
  have e1 : (if s = 2 then FW t n (i + 2) s else FW t n (i + 1) s) = FW t n (i + ech s) s := by unfold ech; split <;> rfl
  have b1 := bF (i + ech s) s hs
  have b3 := bF (i + 1) s hs
  unfold f_HBars_leastSymbol lsT
  rw [ei, gd_pos (by rw [inb_nI (by omega)]; omega), nI_clamp (by omega), hc i s (Nat.zero_le _) (by omega) hs, s_straight h c1 hi hs, bd1_s, e1, s_shifted h c1 hi hs, bd1_s]
  have kA : (nI (if (syT t n i s).isSome = true then 1 + FW t n (i + ech s) s else 1000) = nI (FW t n i s)) = lsA t n i s := by
    by_cases o : (syT t n i s).isSome = true
    · rw [if_pos o, nIe (by omega) (by omega)]
      exact propext ⟨fun z => ⟨o, z⟩, fun z => z.2⟩
    · rw [if_neg o, nIe (by omega) (by omega)]
      exact propext ⟨fun z => by omega, fun z => absurd z.1 o⟩
  have kB : (nI (if ¬ s = 2 ∧ (syT t n i (1 - s)).isSome = true then 2 + FW t n (i + 1) s else 1000) = nI (FW t n i s)) = lsB t n i s := by
    by_cases o : ¬ s = 2 ∧ (syT t n i (1 - s)).isSome = true
    · rw [if_pos o, nIe (by omega) (by omega)]
      exact propext ⟨fun z => ⟨o, z⟩, fun z => z.2⟩
    · rw [if_neg o, nIe (by omega) (by omega)]
      exact propext ⟨fun z => by omega, fun z => absurd z.1 o⟩
  simp only [kA, kB]
  by_cases A : lsA t n i s
  · rw [if_neg (fun z => z A), if_pos A, s_symbolFor h hi hs, bd1_s]
    obtain ⟨c, hsy⟩ := Option.isSome_iff_exists.mp A.1
    rw [hsy]
    rfl
  · rw [if_pos A, if_neg A]
    by_cases B : lsB t n i s
    · rw [if_neg (fun z => z B), if_pos B]; rfl
    · rw [if_pos B, if_neg B]
      -- the sets that can be gone to
      have stp : ∀ r : Nat, r < 3 → f_HBars_leastSymbol_L45 (nI i) (nI s) (nI (FW t n i s)) M (nI (101 - r)) = some (if lsG t n i s r then Sum.inr (Sum.inr (nI (101 - r))) else Sum.inl (nI (101 - r + 1))) := fun r hr => by
        have br := bF i r hr
        have er : (101 : Int32) - nI (101 - r) = nI r := by rw [show (101 : Int32) = nI 101 from rfl, nI_sb (by omega)]; congr 1; omega
        have k1 : ¬ (101 : Int32) < nI (101 - r) := by rw [show (101 : Int32) = nI 101 from rfl, nIlt (by omega) (by omega)]; omega
        have k2 : (nI r = nI s) = (r = s) := nIe (by omega) (by omega)
        have k3 : ((1 : Int32) + nI (FW t n i r) = nI (FW t n i s)) = (1 + FW t n i r = FW t n i s) := by rw [show (1 : Int32) + nI (FW t n i r) = nI (1 + FW t n i r) from nI_add 1 _]; exact nIe (by omega) (by omega)
        have er3 : (3 : Int32) * nI i + nI r = nI (3 * i + r) := by rw [nI_m, nI_add]
        unfold f_HBars_leastSymbol_L45
        simp only [jn0, er, k2]
        rw [if_neg k1]
        by_cases c : r = s
        · rw [if_pos c, if_neg (fun z => z.1 c.symm)]
          exact congrArg (fun z => some (Sum.inl z)) (nI_add (101 - r) 1)
        · rw [if_neg c, er3, gd_pos (by rw [inb_nI (by omega)]; omega), nI_clamp (by omega), hc i r (Nat.zero_le _) (by omega) hr]
          simp only [k3]
          by_cases d : 1 + FW t n i r = FW t n i s
          · rw [if_neg (fun z => z d), if_pos ⟨fun e => c e.symm, d⟩]
          · rw [if_pos d, if_neg (fun z => d z.2)]
            exact congrArg (fun z => some (Sum.inl z)) (nI_add (101 - r) 1)
      have s2 := stp 2 (by omega)
      have s1 := stp 1 (by omega)
      have s0 := stp 0 (by omega)
      have se : f_HBars_leastSymbol_L45 (nI i) (nI s) (nI (FW t n i s)) M (nI 102) = some (Sum.inr (Sum.inl ())) := by
        unfold f_HBars_leastSymbol_L45
        rw [if_pos (by decide)]
      by_cases G2 : lsG t n i s 2
      · rw [if_pos G2] at s2
        rw [if_pos G2, lp_r (b := uc1 (f_HBars_leastSymbol_L45 (nI i) (nI s) (nI (FW t n i s)) M)) (s := (99 : Int32)) s2]; rfl
      · rw [if_neg G2] at s2
        rw [if_neg G2]
        by_cases G1 : lsG t n i s 1
        · rw [if_pos G1] at s1
          rw [if_pos G1, lp_l (b := uc1 (f_HBars_leastSymbol_L45 (nI i) (nI s) (nI (FW t n i s)) M)) (s := (99 : Int32)) s2 (lp_r s1)]; rfl
        · rw [if_neg G1] at s1
          rw [if_neg G1]
          by_cases G0 : lsG t n i s 0
          · rw [if_pos G0] at s0
            rw [if_pos G0, lp_l (b := uc1 (f_HBars_leastSymbol_L45 (nI i) (nI s) (nI (FW t n i s)) M)) (s := (99 : Int32)) s2 (lp_l s1 (lp_r s0))]; rfl
          · rw [if_neg G0] at s0
            rw [if_neg G0, lp_l (b := uc1 (f_HBars_leastSymbol_L45 (nI i) (nI s) (nI (FW t n i s)) M)) (s := (99 : Int32)) s2 (lp_l s1 (lp_l s0 (lp_r se)))]; rfl
/-- the reference looks for it from 0 on -/
theorem s_packL {M : im_M} {t : Nat → Nat} {n i s : Nat} (h : TX M n t) (hl : LA M n t) (ha : ∀ i s, i ≤ n → s < 3 → aM M i s = FW t n i s) (hi : i < n) (hs : s < 3) : lp (uc1 (f_MLineRows_pack_L71 (nI s) (nI i) M)) 0 = some (nI (lsT t n i s)) := by
  have hn := h.2.1
  have ht : ∀ i, i < n → t i ≤ 128 := fun i hi => (h.2.2 i hi).1
  obtain ⟨w1, w2, w3⟩ := ls_w hn ht hi hs
  have b0 := FW_2 ht (n - i) i s rfl hs
  have we : ∀ c, wV t n (aM M) i s c = wV t n (FW t n) i s c := fun c => by
    unfold wV
    rw [ha (i + tel t n i s c) s (tel_le hi) hs, ha (i + 1) s (by omega) hs]
    cases g : goV s c with
    | none => rfl
    | some r =>
      show (if 0 < tel t n i s c then 1 + FW t n (i + tel t n i s c) s else 1 + aM M i r) = (if 0 < tel t n i s c then 1 + FW t n (i + tel t n i s c) s else 1 + FW t n i r)
      rw [ha i r (by omega) (goV_lt g).1]
  have run : ed (lp (uc1 (f_MLineRows_pack_L71 (nI s) (nI i) M)) 0) (fun r => r = nI (lsT t n i s)) := by
    refine lp_inv (fun m (x : Int32) => ∃ c : Nat, c + m = lsT t n i s ∧ x = nI c) ?_ (k := lsT t n i s) ⟨0, by omega, rfl⟩
    rintro m x19 ⟨c, hc, e1⟩
    subst e1
    show ed (f_MLineRows_pack_L71 (nI s) (nI i) M (nI c)) _
    unfold f_MLineRows_pack_L71
    rw [s_withL h hl hi hs (by omega), bd1_s, s_leastAt hl hn (by omega) hs, bd1_s, we c, ha i s (by omega) hs]
    by_cases e : c = lsT t n i s
    · rw [e, w1, if_pos rfl]
      exact lpo_r rfl
    · have ne := w3 c (by omega)
      have bw : wV t n (FW t n) i s c < 2147483648 := by
        have b : ∀ j r, r < 3 → FW t n j r ≤ 1000 + 2 * (n - j) := fun j r hr => FW_b (n - j) j r rfl hr
        unfold wV
        split
        · have := b (i + tel t n i s c) s hs
          omega
        · split
          · rename_i r hr
            have := b i r (goV_lt hr).1
            omega
          · split
            · have := b (i + 1) s hs
              omega
            · omega
      have k : (nI (wV t n (FW t n) i s c) = nI (FW t n i s)) = (wV t n (FW t n) i s c = FW t n i s) := nIe bw (by omega)
      simp only [k]
      rw [if_neg ne]
      exact lpo_l (m - 1) (by omega) ⟨c + 1, by omega, nI_add c 1⟩
  obtain ⟨r, hr, e⟩ := run
  rw [hr, e]
