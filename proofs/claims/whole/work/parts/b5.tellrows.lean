theorem tsr_end {s : Nat → Nat} {e f t i : Nat} {L : List Nat} (h : e ≤ i) : tsr s e f t i L = some L := by
  cases f with
  | zero => rfl
  | succ f =>
    show (if e ≤ i then some L else _) = some L
    rw [if_pos h]
theorem tsr_step {s : Nat → Nat} {e f t i : Nat} {L : List Nat} (h : i < e) : tsr s e (f + 1) t i L = match stx s e t i with
    | none => none
    | some a => tsr s e f a.1 a.2.1 (L ++ a.2.2) := by
  show (if e ≤ i then some L else _) = _
  rw [if_neg (by omega)]
  cases stx s e t i <;> rfl
def ttI (B : im_M → List Nat → Prop) (A : Nat) (F : List (Nat × Nat)) (M : im_M) (s : Nat → Nat) (e : Nat) (R : Option (List Nat)) (n : Nat) (st : Int32 × Int32 × im_M) : Prop := ∃ t i f, ∃ L : List Nat, t ≤ 2 ∧ 1 ≤ i ∧ i + n = e ∧ st.1 = nI t ∧ st.2.1 = nI i ∧ B st.2.2 L ∧ L.length ≤ 2 * i ∧ e ≤ i + f ∧ tsr s e f t i L = R ∧ fr A F M st.2.2
theorem s_tell {M : im_M} {s : Nat → Nat} {e : Nat} (hs : ∀ k, s k < 106) (q : SY (im_i M 36) s e) (h0 : 103 ≤ s 0) (he : 1 ≤ e) (he2 : e ≤ 139) : ed (f_HBars_tell (nI e) M) (fun r => fr (2 ^ 68) [(31, 12)] M r.2 ∧ match tsr s e e (s 0 - 103) 1 [] with
    | some L => r.1 = 1 ∧ OUT r.2 L ∧ L.length ≤ 300
    | none => r.1 = 0) := by
  unfold f_HBars_tell
  have c0 : Int32.toNatClampNeg 0 = 0 := rfl
  rw [gd_pos (by decide), c0, q 0 (by omega)]
  have e103 : nI (s 0) - 103 = nI (s 0 - 103) := by
    have e : (103 : Int32) = iZ 103 := rfl
    rw [iZ_nI, e, iZ_sub, iZ_nI]
    congr 1
    omega
  rw [e103]
  have hs0 := hs 0
  obtain ⟨R, hR⟩ : ∃ R, R = tsr s e e (s 0 - 103) 1 [] := ⟨_, rfl⟩
  rw [← hR]
  apply bs1_mk
  have hinit : ttI OUT (2 ^ 68) [(31, 12)] M s e R (e - 1) (nI (s 0 - 103), 1, im_setI M 31 12 0) := by
    refine ⟨s 0 - 103, 1, e, [], by omega, by omega, by omega, rfl, rfl, ⟨rfl, fun k hk => absurd hk (by simp)⟩, by simp, by omega, hR.symm, fr_F (by decide) fr_refl⟩
  refine ed_mono (lp_inv (ttI OUT (2 ^ 68) [(31, 12)] M s e R) (Q := fun (r : im_M ⊕ (Int32 × im_M)) => match r with
    | .inl N => ∃ L, R = some L ∧ OUT N L ∧ L.length ≤ 300 ∧ fr (2 ^ 68) [(31, 12)] M N
    | .inr p => p.1 = 0 ∧ R = none ∧ fr (2 ^ 68) [(31, 12)] M p.2) ?_ hinit) ?_
  · rintro n ⟨t', i', N⟩ ⟨t, i, f, L, b1, b2, b3, b4, b5, b6, b7, b8, b9, b10⟩
    replace b4 : t' = nI t := b4
    replace b5 : i' = nI i := b5
    replace b6 : OUT N L := b6
    replace b10 : fr (2 ^ 68) [(31, 12)] M N := b10
    subst b4 b5
    show ed (f_HBars_tell_L18 (nI e) (nI t) (nI i) N) _
    by_cases c : i < e
    · obtain ⟨f', rfl⟩ : ∃ f', f = f' + 1 := ⟨f - 1, by omega⟩
      rw [tsr_step c] at b9
      have qN : SY (im_i N 36) s e := by
        rw [fr_c b10 36 (by decide) (by decide)]
        exact q
      refine ed_mono (s_tell1 hs qN he2 b1 c b6 (by omega)) ?_
      intro r hr
      cases es : stx s e t i with
      | none =>
        rw [es] at hr b9
        obtain ⟨N', rfl, k1⟩ := hr
        exact ⟨rfl, b9.symm, fr_tr k1 b10⟩
      | some a =>
        rw [es] at hr b9
        obtain ⟨N', rfl, k1, k2⟩ := hr
        obtain ⟨a1, a2, a3, a4, a5⟩ := stx_b b1 hs es c
        refine ⟨e - a.2.1, by omega, a.1, a.2.1, f', L ++ a.2.2, a1, by omega, by omega, rfl, rfl, k1, ?_, by omega, b9, fr_tr k2 b10⟩
        rw [List.length_append]
        omega
    · unfold f_HBars_tell_L18
      rw [if_pos (nI_le (by omega) (by omega))]
      rw [tsr_end (by omega)] at b9
      exact lpo_r ⟨L, b9.symm, b6, by omega, b10⟩
  · rintro (N | ⟨z, N⟩) hr
    · obtain ⟨L, k1, k2, k3, k4⟩ := hr
      rw [k1]
      exact ed_mk ⟨k4, rfl, k2, k3⟩
    · obtain ⟨k1, k2, k3⟩ := hr
      rw [k2]
      exact ed_mk ⟨k3, k1⟩
theorem s_tellR {M : im_M} {s : Nat → Nat} {n : Nat} (hs : ∀ k, s k < 106) (q : SY (im_i M 105) s n) (h0 : 103 ≤ s 0) (he : 2 ≤ n) (he2 : n ≤ 140) : ed (lp (uc3 (f_MLineRows_isRow_L137 (nI n))) (nI (s 0 - 103), 1, im_setI M 96 17 0)) (fun (r : im_M ⊕ (Int32 × im_M)) => match r with
    | .inl N => ∃ L, tsr s (n - 1) (n - 1) (s 0 - 103) 1 [] = some L ∧ OUM N L ∧ L.length ≤ 290 ∧ fr (2 ^ 107) [(96, 17)] M N
    | .inr p => p.1 = 0 ∧ tsr s (n - 1) (n - 1) (s 0 - 103) 1 [] = none ∧ fr (2 ^ 107) [(96, 17)] M p.2) := by
  have hs0 := hs 0
  obtain ⟨R, hR⟩ : ∃ R, R = tsr s (n - 1) (n - 1) (s 0 - 103) 1 [] := ⟨_, rfl⟩
  rw [← hR]
  have hinit : ttI OUM (2 ^ 107) [(96, 17)] M s (n - 1) R (n - 1 - 1) (nI (s 0 - 103), 1, im_setI M 96 17 0) := by
    refine ⟨s 0 - 103, 1, n - 1, [], by omega, by omega, by omega, rfl, rfl, ⟨rfl, fun k hk => absurd hk (by simp)⟩, by simp, by omega, hR.symm, fr_F (by decide) fr_refl⟩
  refine lp_inv (ttI OUM (2 ^ 107) [(96, 17)] M s (n - 1) R) ?_ hinit
  rintro m ⟨t', i', N⟩ ⟨t, i, f, L, b1, b2, b3, b4, b5, b6, b7, b8, b9, b10⟩
  replace b4 : t' = nI t := b4
  replace b5 : i' = nI i := b5
  replace b6 : OUM N L := b6
  replace b10 : fr (2 ^ 107) [(96, 17)] M N := b10
  subst b4 b5
  show ed (f_MLineRows_isRow_L137 (nI n) (nI t) (nI i) N) _
  by_cases c : i < n - 1
  · obtain ⟨f', rfl⟩ : ∃ f', f = f' + 1 := ⟨f - 1, by omega⟩
    rw [tsr_step c] at b9
    have qN : SY (im_i N 105) s n := by
      rw [fr_c b10 105 (by decide) (by decide)]
      exact q
    refine ed_mono (s_tell1M hs qN he2 b1 c b6 (by omega)) ?_
    intro r hr
    cases es : stx s (n - 1) t i with
    | none =>
      rw [es] at hr b9
      obtain ⟨N', rfl, k1⟩ := hr
      exact ⟨rfl, b9.symm, fr_tr k1 b10⟩
    | some a =>
      rw [es] at hr b9
      obtain ⟨N', rfl, k1, k2⟩ := hr
      obtain ⟨a1, a2, a3, a4, a5⟩ := stx_b b1 hs es c
      refine ⟨n - 1 - a.2.1, by omega, a.1, a.2.1, f', L ++ a.2.2, a1, by omega, by omega, rfl, rfl, k1, ?_, by omega, b9, fr_tr k2 b10⟩
      rw [List.length_append]
      omega
  · unfold f_MLineRows_isRow_L137
    rw [nI_m1 (by omega), if_pos (nI_le (by omega) (by omega))]
    rw [tsr_end (by omega)] at b9
    exact lpo_r ⟨L, b9.symm, b6, by omega, b10⟩
/-- the check -/
def chS (s : Nat → Nat) : Nat → Nat
  | 0 => 0
  | m + 1 => chS s m + (m + 1) * s (m + 1)
theorem chS_le {s : Nat → Nat} (hs : ∀ k, s k < 106) : ∀ m, m ≤ 140 → chS s m ≤ 15000 * m := by
  intro m
  induction m with
  | zero => intro _; exact Nat.le_refl 0
  | succ m ih =>
    intro h
    have := ih (by omega)
    have h2 : (m + 1) * s (m + 1) ≤ 140 * 105 := Nat.mul_le_mul h (by have := hs (m + 1); omega)
    show chS s m + (m + 1) * s (m + 1) ≤ _
    omega
theorem s_chkH {M : im_M} {s : Nat → Nat} {m : Nat} (hs : ∀ k, s k < 106) (q : SY (im_i M 36) s m) (h1 : 1 ≤ m) (h2 : m ≤ 139) : f_HBars_checkSymbol (nI m) M = some (nI ((s 0 + chS s (m - 1)) % 103)) := by
  have hb := chS_le hs (m - 1) (by omega)
  have hs0 := hs 0
  have c0 : Int32.toNatClampNeg 0 = 0 := rfl
  have : lp (uc2 (f_HBars_checkSymbol_L9 (nI m) M)) (nI (s 0), 1) = some (nI (s 0 + chS s (m - 1))) := by
    refine lp_row (b := uc2 (f_HBars_checkSymbol_L9 (nI m) M)) (fun k => (nI (s 0 + chS s k), nI (k + 1))) (m - 1) ?_ ?_
    · intro k hk
      show f_HBars_checkSymbol_L9 (nI m) M _ (nI (k + 1)) = _
      unfold f_HBars_checkSymbol_L9
      rw [if_neg (nI_ge (by omega) (by omega)), gd_pos (by rw [inb_nI (by omega)]; omega), nI_clamp (by omega), q (k + 1) (by omega), nI_mul, nI_add, nI_1]
      show _ = some (Sum.inl (nI (s 0 + (chS s k + (k + 1) * s (k + 1))), nI (k + 1 + 1)))
      rw [Nat.add_assoc]
    · show f_HBars_checkSymbol_L9 (nI m) M _ (nI (m - 1 + 1)) = _
      unfold f_HBars_checkSymbol_L9
      rw [if_pos (nI_le (by omega) (by omega))]
  unfold f_HBars_checkSymbol
  rw [gd_pos (by decide), c0, q 0 (by omega), this, bd1_s]
  have e := nI_rem (a := s 0 + chS s (m - 1)) (b := 103) (by omega) (by omega) (by omega)
  exact congrArg some e
theorem s_chkM {M : im_M} {s : Nat → Nat} {m : Nat} (hs : ∀ k, s k < 106) (q : SY (im_i M 105) s m) (h1 : 1 ≤ m) (h2 : m ≤ 139) : f_MLineRows_check_1 (nI m) M = some (nI ((s 0 + chS s (m - 1)) % 103)) := by
  have hb := chS_le hs (m - 1) (by omega)
  have hs0 := hs 0
  have c0 : Int32.toNatClampNeg 0 = 0 := rfl
  have : lp (uc2 (f_MLineRows_check_1_L6 (nI m) M)) (nI (s 0), 1) = some (nI (s 0 + chS s (m - 1))) := by
    refine lp_row (b := uc2 (f_MLineRows_check_1_L6 (nI m) M)) (fun k => (nI (s 0 + chS s k), nI (k + 1))) (m - 1) ?_ ?_
    · intro k hk
      show f_MLineRows_check_1_L6 (nI m) M _ (nI (k + 1)) = _
      unfold f_MLineRows_check_1_L6
      rw [if_neg (nI_ge (by omega) (by omega)), gd_pos (by rw [inb_nI (by omega)]; omega), nI_clamp (by omega), q (k + 1) (by omega), nI_mul, nI_add, nI_1]
      show _ = some (Sum.inl (nI (s 0 + (chS s k + (k + 1) * s (k + 1))), nI (k + 1 + 1)))
      rw [Nat.add_assoc]
    · show f_MLineRows_check_1_L6 (nI m) M _ (nI (m - 1 + 1)) = _
      unfold f_MLineRows_check_1_L6
      rw [if_pos (nI_le (by omega) (by omega))]
  unfold f_MLineRows_check_1
  rw [gd_pos (by decide), c0, q 0 (by omega), this, bd1_s]
  have e := nI_rem (a := s 0 + chS s (m - 1)) (b := 103) (by omega) (by omega) (by omega)
  exact congrArg some e
