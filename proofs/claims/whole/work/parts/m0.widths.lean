/-! WIDTHS, LAID BY BOTH -/
def app (V : Nat → Nat) (n : Nat) (U : Nat → Nat) (i : Nat) : Nat := if i < n then V i else U (i - n)
def un10 (d k : Nat) : Nat := if k < d then 10 ^ (d - 1 - k) else 0
theorem un10_all : ∀ d k : Fin 8, k.val < d.val → un10 d.val k.val / 10 = un10 d.val (k.val + 1) ∧ 1 ≤ un10 d.val k.val ∧ un10 d.val k.val ≤ 1000000 := by decide +kernel
theorem un10_s {d k : Nat} (hd : d ≤ 7) (hk : k < d) : un10 d k / 10 = un10 d (k + 1) ∧ 1 ≤ un10 d k ∧ un10 d k ≤ 1000000 := un10_all ⟨d, by omega⟩ ⟨k, by omega⟩ hk
theorem un10_dig {P d k : Nat} (hk : k < d) : P / un10 d k % 10 = dig d P k := by
  unfold un10 dig
  rw [if_pos hk]
theorem dig_9 {d P k : Nat} : dig d P k ≤ 9 := by
  unfold dig
  omega
theorem s_addWidths {M : im_M} {n d P : Nat} {V : Nat → Nat} (h : BRW M n V) (hn : n + d ≤ 900) (hP : P < 10000000) (hd : 1 ≤ d ∧ d ≤ 7) : ed (f_HBars_addWidths (nI P) (nI (un10 d 0)) M) (fun R => BRW R (n + d) (app V n (dig d P)) ∧ fr (2 ^ 33) [(31, 2)] M R) := by
  obtain ⟨h0, h1, h2⟩ := h
  unfold f_HBars_addWidths
  apply bd1_mk
  refine ed_mono (lp_inv (fun m (s : Int32 × im_M) => ∃ k : Nat, k + m = d ∧ s.1 = nI (un10 d k) ∧ im_i s.2 31 2 = nI (n + k) ∧ (∀ i, i < n + k → im_i s.2 33 i = nI (app V n (dig d P) i)) ∧ fr (2 ^ 33) [(31, 2)] M s.2) (Q := fun R => BRW R (n + d) (app V n (dig d P)) ∧ fr (2 ^ 33) [(31, 2)] M R) ?_ (k := d) ⟨0, by omega, rfl, h0, fun i hi => ?_, fr_refl⟩) (fun R h => ed_mk h)
  · rintro m ⟨x3, M4⟩ ⟨k, hk, e1, e2, e3, hf⟩
    replace e1 : x3 = nI (un10 d k) := e1
    replace e2 : im_i M4 31 2 = nI (n + k) := e2
    replace e3 : ∀ i, i < n + k → im_i M4 33 i = nI (app V n (dig d P) i) := e3
    replace hf : fr (2 ^ 33) [(31, 2)] M M4 := hf
    subst e1
    show ed (f_HBars_addWidths_L2 (nI P) (nI (un10 d k)) M4) _
    unfold f_HBars_addWidths_L2
    by_cases c : k < d
    · obtain ⟨u1, u2, u3⟩ := un10_s hd.2 c
      have l0 : (nI (un10 d k) ≤ 0) = (un10 d k ≤ 0) := nIl (c := 0) (by omega) (by omega)
      have pu : P / un10 d k ≤ P := Nat.div_le_self _ _
      have dv : nI P / nI (un10 d k) = nI (P / un10 d k) := nI_div (by omega) (by omega) (by omega)
      have rm : nI (P / un10 d k) - nI (P / un10 d k) / 10 * 10 = nI (P / un10 d k % 10) := nI_rem (b := 10) (by omega) (by omega) (by omega)
      have d10 : nI (un10 d k) / 10 = nI (un10 d (k + 1)) := by rw [show (10 : Int32) = nI 10 from rfl, nI_div (by omega) (by omega) (by omega), u1]
      simp only [l0]
      rw [if_neg (by omega), gd_pos (nI_z (by omega) (by omega)), e2, gd_pos (by rw [inb_nI (by omega)]; omega), nI_clamp (by omega), dv, rm, un10_dig c, d10, sk1 (by omega), e2]
      refine lpo_l (m - 1) (by omega) ⟨k + 1, by omega, rfl, ?_, fun i hi => ?_, fr_F (by decide) (fr_I (by decide) hf)⟩
      · show im_i (im_setI _ 31 2 _) 31 2 = _
        rw [hit]
        exact nI_add (n + k) 1
      · show im_i (im_setI (im_setI M4 33 (n + k) _) 31 2 _) 33 i = _
        rw [sk1 (by omega)]
        by_cases e : i = n + k
        · subst e
          rw [hit]
          unfold app
          rw [if_neg (by omega), Nat.add_sub_cancel_left]
        · rw [sk1 (fun z => e z.2)]
          exact e3 i (by omega)
    · obtain rfl : k = d := by omega
      have l0 : nI (un10 k k) ≤ 0 := by
        unfold un10
        rw [if_neg (by omega)]
        decide
      rw [if_pos l0]
      exact lpo_r ⟨⟨e2, by omega, e3⟩, hf⟩
  · show im_i M 33 i = _
    unfold app
    rw [if_pos (by omega)]
    exact h2 i (by omega)
/-- the reference's widths -/
def LWQ (M : im_M) (n : Nat) (V : Nat → Nat) : Prop := im_i M 96 10 = nI n ∧ n ≤ 800 ∧ ∀ i, i < n → im_i M 103 i = nI (V i)
theorem LWQ_fr {A : Nat} {F : List (Nat × Nat)} {M M' : im_M} {n : Nat} {V : Nat → Nat} (h : fr A F M M') (c : clr A F [103] [(96, 10)] [] = true) (q : LWQ M n V) : LWQ M' n V := by
  unfold LWQ at q ⊢
  rw [clr_a c h (a := 103) (by decide), clr_f c h (a := 96) (k := 10) (by decide)]
  exact q
theorem s_layL {M : im_M} {n d P : Nat} {V : Nat → Nat} (h : LWQ M n V) (hn : n + d ≤ 800) (hP : P < 10000000) (hd : 1 ≤ d ∧ d ≤ 7) : ed (f_MLineRows_lay (nI P) (nI d) 1 M) (fun R => LWQ R (n + d) (app V n (dig d P)) ∧ fr (2 ^ 103) [(96, 10)] M R) := by
  obtain ⟨h0, h1, h2⟩ := h
  unfold f_MLineRows_lay
  have first : lp (uc2 (f_MLineRows_lay_L6 (nI P) (nI d) 1 M)) (1, 1) = some (nI (un10 d 0)) := by
    have go : ed (lp (uc2 (f_MLineRows_lay_L6 (nI P) (nI d) 1 M)) (1, 1)) (fun r => r = nI (un10 d 0)) := by
      refine lp_inv (fun m (s : Int32 × Int32) => ∃ k : Nat, k + m = d ∧ 1 ≤ k ∧ s.1 = nI (10 ^ (k - 1)) ∧ s.2 = nI k) ?_ (k := d - 1) ⟨1, by omega, by omega, rfl, rfl⟩
      rintro m ⟨x5, x6⟩ ⟨k, hk, k1, e1, e2⟩
      replace e1 : x5 = nI (10 ^ (k - 1)) := e1
      replace e2 : x6 = nI k := e2
      subst e1 e2
      show ed (f_MLineRows_lay_L6 (nI P) (nI d) 1 M (nI (10 ^ (k - 1))) (nI k)) _
      unfold f_MLineRows_lay_L6
      rw [if_nIl (by omega) (by omega)]
      by_cases c : d ≤ k
      · rw [if_pos c]
        obtain rfl : k = d := by omega
        refine lpo_r ?_
        unfold un10
        rw [if_pos (by omega), Nat.sub_zero]
      · rw [if_neg c]
        refine lpo_l (m - 1) (by omega) ⟨k + 1, by omega, by omega, ?_, nI_add k 1⟩
        show nI (10 ^ (k - 1)) * 10 = _
        rw [show (10 : Int32) = nI 10 from rfl, nI_mul, ← Nat.pow_succ]
        congr 2
        omega
    obtain ⟨r, hr, e⟩ := go
    rw [hr, e]
  rw [first, bd1_s]
  apply bd1_mk
  refine ed_mono (lp_inv (fun m (s : Int32 × im_M) => ∃ k : Nat, k + m = d ∧ s.1 = nI (un10 d k) ∧ im_i s.2 96 10 = nI (n + k) ∧ (∀ i, i < n + k → im_i s.2 103 i = nI (app V n (dig d P) i)) ∧ fr (2 ^ 103) [(96, 10)] M s.2) (Q := fun R => LWQ R (n + d) (app V n (dig d P)) ∧ fr (2 ^ 103) [(96, 10)] M R) ?_ (k := d) ⟨0, by omega, rfl, h0, fun i hi => ?_, fr_refl⟩) (fun R h => ed_mk h)
  · rintro m ⟨x3, M4⟩ ⟨k, hk, e1, e2, e3, hf⟩
    replace e1 : x3 = nI (un10 d k) := e1
    replace e2 : im_i M4 96 10 = nI (n + k) := e2
    replace e3 : ∀ i, i < n + k → im_i M4 103 i = nI (app V n (dig d P) i) := e3
    replace hf : fr (2 ^ 103) [(96, 10)] M M4 := hf
    subst e1
    show ed (f_MLineRows_lay_L29 (nI P) 1 (nI (un10 d k)) M4) _
    unfold f_MLineRows_lay_L29
    by_cases c : k < d
    · obtain ⟨u1, u2, u3⟩ := un10_s hd.2 c
      have l0 : (nI (un10 d k) ≤ 0) = (un10 d k ≤ 0) := nIl (c := 0) (by omega) (by omega)
      have pu : P / un10 d k ≤ P := Nat.div_le_self _ _
      have dv : nI P / nI (un10 d k) = nI (P / un10 d k) := nI_div (by omega) (by omega) (by omega)
      have rm : nI (P / un10 d k) - nI (P / un10 d k) / 10 * 10 = nI (P / un10 d k % 10) := nI_rem (b := 10) (by omega) (by omega) (by omega)
      have d10 : nI (un10 d k) / 10 = nI (un10 d (k + 1)) := by rw [show (10 : Int32) = nI 10 from rfl, nI_div (by omega) (by omega) (by omega), u1]
      have m1 : nI (dig d P k) * 1 = nI (dig d P k) := by rw [show (1 : Int32) = nI 1 from rfl, nI_mul, Nat.mul_one]
      simp only [l0]
      rw [if_neg (by omega), gd_pos (nI_z (by omega) (by omega)), e2, gd_pos (by rw [inb_nI (by omega)]; omega), nI_clamp (by omega), dv, rm, un10_dig c, d10, m1, sk1 (by omega), e2]
      refine lpo_l (m - 1) (by omega) ⟨k + 1, by omega, rfl, ?_, fun i hi => ?_, fr_F (by decide) (fr_I (by decide) hf)⟩
      · show im_i (im_setI _ 96 10 _) 96 10 = _
        rw [hit]
        exact nI_add (n + k) 1
      · show im_i (im_setI (im_setI M4 103 (n + k) _) 96 10 _) 103 i = _
        rw [sk1 (by omega)]
        by_cases e : i = n + k
        · subst e
          rw [hit]
          unfold app
          rw [if_neg (by omega), Nat.add_sub_cancel_left]
        · rw [sk1 (fun z => e z.2)]
          exact e3 i (by omega)
    · obtain rfl : k = d := by omega
      have l0 : nI (un10 k k) ≤ 0 := by
        unfold un10
        rw [if_neg (by omega)]
        decide
      rw [if_pos l0]
      exact lpo_r ⟨⟨e2, by omega, e3⟩, hf⟩
  · show im_i M 103 i = _
    unfold app
    rw [if_pos (by omega)]
    exact h2 i (by omega)
/-- the widths become the draft -/
theorem s_draftWidths {M : im_M} {n : Nat} {V : Nat → Nat} (h : LWQ M n V) (hV : ∀ i, i < n → 1 ≤ V i ∧ V i ≤ 9) (h7 : im_i M 89 7 = 0) : ed (f_M_draftWidths M) (fun R => DFT R n V ∧ fr (2 ^ 92) [(89, 0), (89, 7), (96, 3)] M R) := by
  have n8 := h.2.1
  unfold f_M_draftWidths
  apply bd1_mk
  refine ed_mono (lp_inv (fun m (s : Int32 × im_M) => ∃ k : Nat, k + m = n ∧ s.1 = nI k ∧ DFT s.2 k V ∧ fr (2 ^ 92) [(89, 0), (89, 7), (96, 3)] M s.2) (Q := fun R => DFT R n V ∧ fr (2 ^ 92) [(89, 0), (89, 7), (96, 3)] M R) ?_ (k := n) ⟨0, by omega, rfl, ⟨h7, by omega, fun i hi => absurd hi (Nat.not_lt_zero _)⟩, fr_refl⟩) (fun R h => ed_mk h)
  rintro m ⟨x2, M3⟩ ⟨k, hk, e1, hD, hf⟩
  replace e1 : x2 = nI k := e1
  replace hD : DFT M3 k V := hD
  replace hf : fr (2 ^ 92) [(89, 0), (89, 7), (96, 3)] M M3 := hf
  subst e1
  have wd : ∀ N : im_M, fr (2 ^ 92) [(89, 0), (89, 7), (96, 3)] M N → f_MLineRows_width (nI k) N = some (if k < n then nI (V k) else -1, im_setI N 96 3 0) := by
    intro N fN
    obtain ⟨q0, _, q2⟩ := LWQ_fr fN (by decide +kernel) h
    unfold f_MLineRows_width
    simp only [jn0]
    have g0 : ¬ nI k < 0 := nI_pos (by omega)
    rw [if_neg g0, sk1 (by omega), q0, if_nIlt (by omega) (by omega)]
    by_cases c : k < n
    · rw [if_pos c, if_pos c, gd_pos (by rw [inb_nI (by omega)]; omega), nI_clamp (by omega), sk1 (by omega), q2 k c]
    · rw [if_neg c, if_neg c]
  show ed (f_M_draftWidths_L2 (nI k) M3) _
  unfold f_M_draftWidths_L2
  have f1 : fr (2 ^ 92) [(89, 0), (89, 7), (96, 3)] M (im_setI M3 96 3 0) := fr_F (by decide) hf
  rw [wd M3 hf, bd2_s]
  by_cases c : k < n
  · have v := hV k c
    have l0 : (nI (V k) ≤ 0) = (V k ≤ 0) := nIl (c := 0) (by omega) (by omega)
    rw [if_pos c]
    simp only [l0]
    rw [if_neg (by omega), wd _ f1, bd2_s, if_pos c]
    apply bd1_mk
    have f2 : fr 0 [(96, 3)] M3 (im_setI (im_setI M3 96 3 0) 96 3 0) := fr_F (by decide) (fr_F (by decide) fr_refl)
    refine ed_mono (s_draft (u := V k) (DFT_fr f2 (by decide +kernel) hD) (by omega) (by omega) rfl) ?_
    rintro R ⟨fR, hR⟩
    exact lpo_l (m - 1) (by omega) ⟨k + 1, by omega, nI_add k 1, hR, fr_tr (fr_mono (by decide) (by decide) fR) (fr_tr (fr_mono (by decide) (by decide) f2) hf)⟩
  · obtain rfl : k = n := by omega
    rw [if_neg c, if_pos (by decide)]
    exact lpo_r ⟨DFT_fr (show fr 0 [(96, 3)] M3 (im_setI M3 96 3 0) from fr_F (by decide) fr_refl) (by decide +kernel) hD, f1⟩
