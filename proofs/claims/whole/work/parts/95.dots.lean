/-! CALLS: DOTS -/
/-- only what was thrown -/
def fr1 (M M' : im_M) : Prop := fr 0 [(69, 0), (71, 0), (89, 0), (96, 3), (108, 0), (130, 0)] M M'
theorem fr1_0 {M M' : im_M} (h : fr1 M M') : fr0 M M' := fr_mono (by decide) (by decide) h
theorem fr1_refl {M : im_M} : fr1 M M := fr_refl
theorem fr1_tr {M M1 M2 : im_M} (h2 : fr1 M1 M2) (h1 : fr1 M M1) : fr1 M M2 := fr_tr h2 h1
theorem fr1_69 {M M1 : im_M} {v : Int32} (h : fr1 M M1) : fr1 M (im_setI M1 69 0 v) := fr_F (by decide) h
theorem fr1_89 {M M1 : im_M} {v : Int32} (h : fr1 M M1) : fr1 M (im_setI M1 89 0 v) := fr_F (by decide) h
theorem fr1_130 {M M1 : im_M} {v : Int32} (h : fr1 M M1) : fr1 M (im_setI M1 130 0 v) := fr_F (by decide) h
/-- the reference's sheet of dots -/
def DR (M : im_M) (W H : Nat) (D : Nat → Nat → Bool) : Prop := (1 ≤ W ∧ W ≤ 512 ∧ 1 ≤ H ∧ H ≤ 512) ∧ (im_i M 89 1 = nI W ∧ im_i M 89 2 = nI H) ∧ (∀ x y, D x y = true → x < W ∧ y < H) ∧ ∀ y j b, y < 1024 → j < 32 → b < 32 → ib (im_i M 90 (32 * y + j)) b = D (32 * j + b) y
theorem DR_fr {A : Nat} {F : List (Nat × Nat)} {M M' : im_M} {W H : Nat} {D : Nat → Nat → Bool} (h : fr A F M M') (c : clr A F [90] [(89, 1), (89, 2)] [] = true) (q : DR M W H D) : DR M' W H D := by
  unfold DR at q ⊢
  rw [clr_a c h (a := 90) (by decide), clr_f c h (a := 89) (k := 1) (by decide), clr_f c h (a := 89) (k := 2) (by decide)]
  exact q
theorem DR_0 {M M' : im_M} {W H : Nat} {D : Nat → Nat → Bool} (h : fr0 M M') (q : DR M W H D) : DR M' W H D := DR_fr h (by decide +kernel) q
theorem DR_1 {M M' : im_M} {W H : Nat} {D : Nat → Nat → Bool} (h : fr1 M M') (q : DR M W H D) : DR M' W H D := DR_0 (fr1_0 h) q
/-- a dot by integers -/
def Dz (D : Nat → Nat → Bool) (x y : Int) : Bool := decide (0 ≤ x) && decide (0 ≤ y) && D x.toNat y.toNat
theorem iZ_32 {a : Int} (h : 0 ≤ a ∧ a < 2147483648) : iZ a / 32 = iZ (a / 32) := iZ_divN (b := 32) h (by decide) (by decide)
theorem e_isOn {M : im_M} {W H : Nat} {D : Nat → Nat → Bool} (q : DR M W H D) {a b : Int} (ha : -2147483648 ≤ a ∧ a < 2147483648) (hb : -2147483648 ≤ b ∧ b < 2147483648) : f_MDotRows_isOn (iZ a) (iZ b) M = some (if 0 ≤ a ∧ a < (W : Int) ∧ 0 ≤ b ∧ b < (H : Int) then 1 else 0) := by
  obtain ⟨hW, ⟨e1, e2⟩, _⟩ := q
  unfold f_MDotRows_isOn
  rw [e1, e2, iZ_nI, iZ_nI]
  have c1 : (iZ a < 0) = (a < 0) := iZ_lt (b := 0) ha (by decide)
  have c2 : (iZ b < 0) = (b < 0) := iZ_lt (b := 0) hb (by decide)
  have c3 : (iZ (W : Int) ≤ iZ a) = ((W : Int) ≤ a) := iZ_le (by omega) ha
  have c4 : (iZ (H : Int) ≤ iZ b) = ((H : Int) ≤ b) := iZ_le (by omega) hb
  simp only [c1, c2, c3, c4]
  by_cases h1 : a < 0
  · rw [if_pos h1, if_neg (by omega)]
  · by_cases h2 : (W : Int) ≤ a
    · rw [if_neg h1, if_pos h2, if_neg (by omega)]
    · by_cases h3 : b < 0
      · rw [if_neg h1, if_neg h2, if_pos h3, if_neg (by omega)]
      · by_cases h4 : (H : Int) ≤ b
        · rw [if_neg h1, if_neg h2, if_neg h3, if_pos h4, if_neg (by omega)]
        · rw [if_neg h1, if_neg h2, if_neg h3, if_neg h4, if_pos (by omega)]
theorem dk_ix {x y : Nat} (hx : x < 512) (hy : y < 512) : (32 : Int32) * iZ (y : Int) + iZ (x : Int) / 32 = nI (32 * y + x / 32) := by
  rw [iZ_32 (by omega), iZ_n, iZ_mul, iZ_add, iZ_nI]
  congr 1
theorem dk_sh {x : Nat} (hx : x < 512) : iZ (x : Int) - iZ (x : Int) / 32 * 32 = iZ ((x % 32 : Nat) : Int) := by
  rw [iZ_32 (by omega), iZ_n, iZ_mul, iZ_sub]
  congr 1
  show (x : Int) - (x : Int) / 32 * 32 = _
  omega
theorem e_isDark {M : im_M} {W H : Nat} {D : Nat → Nat → Bool} (q : DR M W H D) {a b : Int} (ha : -2147483648 ≤ a ∧ a < 2147483648) (hb : -2147483648 ≤ b ∧ b < 2147483648) : f_MDotRows_isDark (iZ a) (iZ b) M = some (if Dz D a b = true then 1 else 0) := by
  unfold f_MDotRows_isDark
  rw [e_isOn q ha hb]
  obtain ⟨hW, ⟨e1, e2⟩, d1, d2⟩ := q
  by_cases h : 0 ≤ a ∧ a < (W : Int) ∧ 0 ≤ b ∧ b < (H : Int)
  · rw [if_pos h]
    obtain ⟨x, rfl⟩ : ∃ x : Nat, a = (x : Int) := ⟨a.toNat, by omega⟩
    obtain ⟨y, rfl⟩ : ∃ y : Nat, b = (y : Int) := ⟨b.toNat, by omega⟩
    show bd1 (some (1 : Int32)) _ = _
    simp only [bd1, Option.bind]
    rw [if_neg (by decide), dk_ix (by omega) (by omega), gd_pos (by rw [inb_nI (by omega)]; omega), nI_clamp (by omega), dk_sh (by omega), i_and1, ib_shr (by omega), d2 y (x / 32) (x % 32) (by omega) (by omega) (by omega)]
    have e3 : 32 * (x / 32) + x % 32 = x := Nat.div_add_mod x 32
    rw [e3]
    have e4 : Dz D (x : Int) (y : Int) = D x y := by
      unfold Dz
      simp
    rw [e4]
    by_cases hd : D x y = true
    · simp [hd]
    · simp [hd]
  · rw [if_neg h]
    simp only [bd1, Option.bind, if_true]
    have e4 : Dz D a b = false := by
      unfold Dz
      by_cases h1 : 0 ≤ a
      · by_cases h2 : 0 ≤ b
        · have : D a.toNat b.toNat = false := by
            cases hd : D a.toNat b.toNat with
            | false => rfl
            | true =>
              have := d1 _ _ hd
              omega
          simp [this]
        · simp [h2]
      · simp [h1]
    rw [e4]
    rfl
theorem e_told01 {M : im_M} {W H : Nat} {D : Nat → Nat → Bool} (q : DR M W H D) : f_MDotRows_told 0 M = some (nI W, im_setI M 89 0 0) ∧ f_MDotRows_told 1 M = some (nI H, im_setI M 89 0 0) := by
  obtain ⟨hW, ⟨e1, e2⟩, d1, d2⟩ := q
  have i0 : f_MDotRows_isNot 0 0 6 M = some 0 := isn0 (by decide) (by decide)
  have i1 : f_MDotRows_isNot 1 0 6 M = some 0 := isn0 (by decide) (by decide)
  constructor
  · unfold f_MDotRows_told
    rw [i0]
    simp [bd1, jn0, mi_I, e1]
  · unfold f_MDotRows_told
    rw [i1]
    simp [bd1, jn0, mi_I, e2]
theorem s_isOn {M : im_M} {W H : Nat} {D : Nat → Nat → Bool} (q : DR M W H D) {a b : Int} (ha : -9223372036854775808 ≤ a ∧ a < 9223372036854775808) (hb : -9223372036854775808 ≤ b ∧ b < 9223372036854775808) : ed (f_M_isOn (lZ a) (lZ b) M) (fun r => r.1 = (if 0 ≤ a ∧ a < (W : Int) ∧ 0 ≤ b ∧ b < (H : Int) then 1 else 0) ∧ fr1 M r.2) := by
  have q2 : DR (im_setI M 89 0 0) W H D := DR_1 (fr1_89 fr1_refl) q
  have hW := q.1
  unfold f_M_isOn
  rw [(e_told01 q).1]
  simp only [bd2, Option.bind]
  rw [(e_told01 q2).2]
  have c1 : (lZ a < 0) = (a < 0) := lZ_lt (b := 0) ha (by decide)
  have c2 : (lZ b < 0) = (b < 0) := lZ_lt (b := 0) hb (by decide)
  have c3 : (lZ a < (nI W).toInt64) = (a < (W : Int)) := by rw [iZ_nI, iZ_l (by omega), lZ_lt ha (by omega)]
  have c4 : (lZ b < (nI H).toInt64) = (b < (H : Int)) := by rw [iZ_nI, iZ_l (by omega), lZ_lt hb (by omega)]
  simp only [lc_lt, lc_ge, c1, c2, c3, c4]
  by_cases h1 : a < 0
  · rw [if_pos h1]
    exact ⟨_, rfl, by rw [if_neg (by omega)], fr1_refl⟩
  · by_cases h2 : b < 0
    · rw [if_neg h1, if_pos h2]
      exact ⟨_, rfl, by rw [if_neg (by omega)], fr1_refl⟩
    · by_cases h3 : a < (W : Int)
      · by_cases h4 : b < (H : Int)
        · rw [if_neg h1, if_neg h2, if_neg (by simp [h3]), if_neg (by simp [h4])]
          exact ⟨_, rfl, by rw [if_pos (by omega)], fr1_89 (fr1_89 fr1_refl)⟩
        · rw [if_neg h1, if_neg h2, if_neg (by simp [h3]), if_pos h4]
          exact ⟨_, rfl, by rw [if_neg (by omega)], fr1_89 (fr1_89 fr1_refl)⟩
      · rw [if_neg h1, if_neg h2, if_pos h3]
        exact ⟨_, rfl, by rw [if_neg (by omega)], fr1_89 fr1_refl⟩
theorem s_isDark {M : im_M} {W H : Nat} {D : Nat → Nat → Bool} (q : DR M W H D) {x y : Nat} (hx : x < 512) (hy : y < 512) : ed (f_M_isDark (iZ (x : Int)) (iZ (y : Int)) M) (fun r => r.1 = (if D x y = true then 1 else 0) ∧ fr1 M r.2) := by
  have q2 : DR (im_setI M 89 0 0) W H D := DR_1 (fr1_89 fr1_refl) q
  have e1 : f_MDotRows_noPlace (iZ (x : Int)) (iZ (y : Int)) M = some 0 := by
    unfold f_MDotRows_noPlace
    have c1 : (iZ (x : Int) < -4096) = ((x : Int) < -4096) := iZ_lt (b := -4096) (by omega) (by decide)
    have c2 : ((4096 : Int32) < iZ (x : Int)) = (4096 < (x : Int)) := iZ_lt (a := 4096) (by decide) (by omega)
    have c3 : (iZ (y : Int) < -4096) = ((y : Int) < -4096) := iZ_lt (b := -4096) (by omega) (by decide)
    have c4 : (iZ (y : Int) ≤ 4096) = ((y : Int) ≤ 4096) := iZ_le (b := 4096) (by omega) (by decide)
    simp only [jn0, c1, c2, c3, c4]
    rw [if_neg (by omega), if_neg (by omega), if_neg (by omega), if_pos (by omega)]
  have e2 : f_MDotRows_isNot 1 1 64 M = some 0 := isn0 (by decide) (by decide)
  have e3 : f_MDotRows_dots (iZ (x : Int)) (iZ (y : Int)) 1 M = some (if D x y = true then 1 else 0, im_setI M 89 0 0) := by
    unfold f_MDotRows_dots
    rw [e1, e2]
    simp only [bd1, jn0, Option.bind, not_true, if_false, if_true]
    have e4 : lp (uc2 (f_MDotRows_dots_L33 (iZ (x : Int)) (iZ (y : Int)) 1 (im_setI M 89 0 0))) (0, 0) = some (if D x y = true then 1 else 0) := by
      refine lp_row (fun k => if k = 0 then (0, 0) else (if D x y = true then 1 else 0, 1)) 1 (fun k hk => ?_) ?_
      · have k0 : k = 0 := by omega
        subst k0
        show f_MDotRows_dots_L33 (iZ (x : Int)) (iZ (y : Int)) 1 (im_setI M 89 0 0) 0 0 = _
        unfold f_MDotRows_dots_L33
        have e0 : iZ (x : Int) + 0 = iZ (x : Int) := by
          have k9 : (0 : Int32) = iZ 0 := rfl
          rw [k9, iZ_add, Int.add_zero]
        rw [if_neg (by decide), if_neg (by simp [mi_I]), e0, e_isDark q2 (by omega) (by omega)]
        have e4 : Dz D (x : Int) (y : Int) = D x y := by
          unfold Dz
          simp
        rw [e4]
        by_cases hd : D x y = true
        · simp [hd, bd1]
        · simp [hd, bd1]
      · show f_MDotRows_dots_L33 (iZ (x : Int)) (iZ (y : Int)) 1 (im_setI M 89 0 0) (if D x y = true then 1 else 0) 1 = _
        unfold f_MDotRows_dots_L33
        rw [if_pos (by decide)]
    rw [e4]
  unfold f_M_isDark
  rw [e3]
  simp only [bd2, Option.bind, lc_eq]
  by_cases hd : D x y = true
  · rw [if_pos hd, if_neg (by decide)]
    exact ⟨_, rfl, by rw [if_pos hd], fr1_89 fr1_refl⟩
  · rw [if_neg hd, if_pos (by decide)]
    exact ⟨_, rfl, by rw [if_neg hd], fr1_89 fr1_refl⟩
/-- what a turn of a loop must leave: what holds before a turn, with a smaller number; or what is wanted -/
def lpo {S R : Type} (I : Nat → S → Prop) (Q : R → Prop) (k : Nat) (x : S ⊕ R) : Prop := match x with
  | .inl s => ∃ k', k' < k ∧ I k' s
  | .inr r => Q r
theorem lp_inv {S R : Type} {b : S → Option (S ⊕ R)} (I : Nat → S → Prop) {Q : R → Prop} (hb : ∀ k s, I k s → ed (b s) (lpo I Q k)) {k : Nat} {s : S} (h : I k s) : ed (lp b s) Q := lp_rule I (fun k s q => by
  obtain ⟨x, e, hx⟩ := hb k s q
  refine ⟨x, e, ?_⟩
  cases x <;> exact hx) h
theorem lpo_l {S R : Type} {I : Nat → S → Prop} {Q : R → Prop} {k : Nat} {s : S} (k' : Nat) (hk : k' < k) (h : I k' s) : ed (some (.inl s : S ⊕ R)) (lpo I Q k) := ⟨_, rfl, k', hk, h⟩
theorem lpo_r {S R : Type} {I : Nat → S → Prop} {Q : R → Prop} {k : Nat} {r : R} (h : Q r) : ed (some (.inr r : S ⊕ R)) (lpo I Q k) := ⟨_, rfl, h⟩
theorem e64_a {z : Int} (h : -2147483648 ≤ z ∧ z < 2147483648) {k : Nat} (hk : k ≤ 64) : (iZ z).toInt64 + (nI k).toInt64 = lZ (z + (k : Int)) := by
  rw [iZ_nI, iZ_l h, iZ_l (by omega), lZ_add]
theorem e64_s {k : Nat} (hk : k ≤ 64) : (nI k).toInt64 = lZ (k : Int) := by rw [iZ_nI, iZ_l (by omega)]
theorem e64_k {k : Nat} (hk : k < 64) : ¬ (64 : Int32) ≤ nI k := nI_ge (b := 64) hk (by decide)
theorem e64_64 {k : Nat} (hk : 64 ≤ k) (h2 : k < 1000) : (64 : Int32) ≤ nI k := nI_le (a := 64) hk (by omega)
theorem Dz_in {D : Nat → Nat → Bool} {W H : Nat} (d : ∀ x y, D x y = true → x < W ∧ y < H) {x y : Int} (h : ¬ (0 ≤ x ∧ x < (W : Int) ∧ 0 ≤ y ∧ y < (H : Int))) : Dz D x y = false := by
  unfold Dz
  by_cases h1 : 0 ≤ x
  · by_cases h2 : 0 ≤ y
    · have : D x.toNat y.toNat = false := by
        cases hd : D x.toNat y.toNat with
        | false => rfl
        | true =>
          have := d _ _ hd
          omega
      simp [this]
    · simp [h2]
  · simp [h1]
theorem Dz_nn {D : Nat → Nat → Bool} {x y : Nat} : Dz D (x : Int) (y : Int) = D x y := by
  unfold Dz
  simp
/-- before each turn of row -/
def rwI_ (M : im_M) (D : Nat → Nat → Bool) (x y : Int) (n : Nat) (s : Int64 × Int32 × im_M) : Prop := ∃ k : Nat, k + n = 64 ∧ s.2.1 = nI k ∧ (∀ j, j < 64 → lb s.1 j = (decide (j < k) && Dz D (x + (j : Int)) y)) ∧ fr1 M s.2.2
theorem s_row {M : im_M} {W H : Nat} {D : Nat → Nat → Bool} (q : DR M W H D) {x y : Int} (hx : -2147483648 ≤ x ∧ x < 2147483648) (hy : -2147483648 ≤ y ∧ y < 2147483648) : ed (f_M_row (iZ x) (iZ y) M) (fun r => (∀ k, k < 64 → lb r.1 k = Dz D (x + (k : Int)) y) ∧ fr1 M r.2) := by
  unfold f_M_row
  apply bd2_mk
  refine ed_mono (lp_inv (rwI_ M D x y) (Q := fun (r : Int64 × im_M) => (∀ k, k < 64 → lb r.1 k = Dz D (x + (k : Int)) y) ∧ fr1 M r.2) ?_ (k := 64) ⟨0, rfl, rfl, fun j _ => by simp [lb_0], fr1_refl⟩) (fun r hr => ⟨_, rfl, hr⟩)
  rintro n ⟨v, i, M'⟩ ⟨k, hk, e1, e2, e3⟩
  replace e1 : i = nI k := e1
  subst e1
  show ed (f_M_row_L5 (iZ x) (iZ y) v (nI k) M') _
  unfold f_M_row_L5
  by_cases h : 64 ≤ k
  · rw [if_pos (e64_64 h (by omega))]
    refine lpo_r ⟨fun j hj => ?_, e3⟩
    have := e2 j hj
    rw [this]
    simp [show j < k by omega]
  · have hk2 : k < 64 := by omega
    rw [if_neg (e64_k hk2), e64_a hx (by omega), iZ_l hy]
    apply bd2_mk
    refine ed_mono (s_isOn (DR_1 e3 q) (a := x + (k : Int)) (b := y) (by omega) (by omega)) ?_
    rintro ⟨t, M1⟩ ⟨ht, f1⟩
    replace ht : t = if 0 ≤ x + (k : Int) ∧ x + (k : Int) < (W : Int) ∧ 0 ≤ y ∧ y < (H : Int) then 1 else 0 := ht
    replace f1 : fr1 M' M1 := f1
    have nx : ∀ (u : Int64) (N : im_M), fr1 M N → (∀ j, j < 64 → lb u j = (decide (j < k + 1) && Dz D (x + (j : Int)) y)) → ed (some (Sum.inl (u, nI k + 1, N))) (lpo (rwI_ M D x y) (fun (r : Int64 × im_M) => (∀ k, k < 64 → lb r.1 k = Dz D (x + (k : Int)) y) ∧ fr1 M r.2) n) := by
      intro u N fN hu
      exact lpo_l (64 - (k + 1)) (by omega) ⟨k + 1, by omega, nI_1 k, hu, fN⟩
    have keep : Dz D (x + (k : Int)) y = false → ∀ j, j < 64 → lb v j = (decide (j < k + 1) && Dz D (x + (j : Int)) y) := by
      intro hd j hj
      rw [e2 j hj]
      by_cases c : j = k
      · subst c
        simp [hd]
      · have : decide (j < k) = decide (j < k + 1) := by
          by_cases c2 : j < k
          · simp [c2, show j < k + 1 by omega]
          · simp [c2, show ¬ j < k + 1 by omega]
        rw [this]
    have hW := q.1
    by_cases on : 0 ≤ x + (k : Int) ∧ x + (k : Int) < (W : Int) ∧ 0 ≤ y ∧ y < (H : Int)
    · rw [if_pos on] at ht
      subst ht
      obtain ⟨X, hX⟩ : ∃ X : Nat, x + (k : Int) = (X : Int) := ⟨(x + (k : Int)).toNat, by omega⟩
      obtain ⟨Y, rfl⟩ : ∃ Y : Nat, y = (Y : Int) := ⟨y.toNat, by omega⟩
      simp only [jn1]
      rw [if_neg (by decide), hX, lZ_i (by omega)]
      apply bd2_mk
      apply bd2_mk
      refine ed_mono (s_isDark (DR_1 f1 (DR_1 e3 q)) (x := X) (y := Y) (by omega) (by omega)) ?_
      rintro ⟨t, M2⟩ ⟨ht, f2⟩
      replace ht : t = if D X Y = true then 1 else 0 := ht
      replace f2 : fr1 M1 M2 := f2
      have f3 : fr1 M M2 := fr1_tr f2 (fr1_tr f1 e3)
      by_cases hd : D X Y = true
      · rw [if_pos hd] at ht
        subst ht
        show ed (if (1 : Int32) = 0 then _ else _) _
        rw [if_neg (by decide)]
        refine ed_mk ?_
        show ed (some (Sum.inl (_, nI k + 1, M2))) _
        refine nx _ M2 f3 ?_
        intro j hj
        show lb (v ||| _) j = _
        rw [lb_or, e64_s (by omega), lb_one hk2 hj, e2 j hj]
        by_cases c : j = k
        · subst c
          rw [hX, Dz_nn, hd]
          simp
        · by_cases c2 : j < k
          · simp [c, c2, show j < k + 1 by omega]
          · simp [c, c2, show ¬ j < k + 1 by omega]
      · rw [if_neg hd] at ht
        subst ht
        show ed (if (0 : Int32) = 0 then _ else _) _
        rw [if_pos rfl]
        refine ed_mk ?_
        show ed (some (Sum.inl (_, nI k + 1, M2))) _
        refine nx _ M2 f3 ?_
        apply keep
        rw [hX, Dz_nn]
        simpa using hd
    · rw [if_neg on] at ht
      subst ht
      simp only [jn1]
      rw [if_pos trivial]
      apply bd2_mk
      refine ed_mk ?_
      show ed (some (Sum.inl (_, nI k + 1, M1))) _
      refine nx _ M1 (fr1_tr f1 e3) ?_
      exact keep (Dz_in q.2.2.1 on)
/-- the class's sheet of words -/
def DH (w : Bool) (M : im_M) (W H : Nat) (D : Nat → Nat → Bool) : Prop := (1 ≤ W ∧ W ≤ 512 ∧ 1 ≤ H ∧ H ≤ 512) ∧ (im_i M 28 0 = nI W ∧ im_i M 28 1 = nI H) ∧ (∀ x y, D x y = true → x < W ∧ y < H) ∧ ∀ y j b, y < 512 → j < 8 → b < 64 → lb (im_l M (sw w) (8 * y + j)) b = D (64 * j + b) y
theorem Dz_far {D : Nat → Nat → Bool} {W H : Nat} (d : ∀ x y, D x y = true → x < W ∧ y < H) (hW : W ≤ 512) {x y : Int} (h : x < 0 ∨ 512 ≤ x) : Dz D x y = false := Dz_in d (by omega)
theorem s_word {w : Bool} {M : im_M} {W H : Nat} {D : Nat → Nat → Bool} (q : DH w M W H D) {j : Int} (hj : -2147483648 ≤ j ∧ j < 2147483648) {y : Nat} (hy : y < 512) : ed (f_HSheet_word w (iZ j) (iZ (y : Int)) M) (fun v => ∀ b, b < 64 → lb v b = Dz D (64 * j + (b : Int)) (y : Int)) := by
  obtain ⟨hW, _, d1, d2⟩ := q
  unfold f_HSheet_word
  have c1 : (iZ j < 0) = (j < 0) := iZ_lt (b := 0) hj (by decide)
  have c2 : (iZ j < 8) = (j < 8) := iZ_lt (b := 8) hj (by decide)
  simp only [jn0, c1, c2]
  by_cases h1 : j < 0
  · rw [if_pos h1]
    refine ed_mk (fun b hb => ?_)
    rw [lb_0, Dz_far d1 hW.2.1 (by omega)]
  · by_cases h2 : j < 8
    · obtain ⟨J, rfl⟩ : ∃ J : Nat, j = (J : Int) := ⟨j.toNat, by omega⟩
      have ei : iZ (y : Int) * 8 + iZ (J : Int) = nI (8 * y + J) := by
        rw [iZ_n, iZ_mul, iZ_add, iZ_nI]
        congr 1
        show (y : Int) * 8 + (J : Int) = _
        omega
      rw [if_neg h1, if_pos h2, ei, gd_pos (by rw [inb_nI (by omega)]; omega), nI_clamp (by omega)]
      refine ed_mk (fun b hb => ?_)
      rw [d2 y J b hy (by omega) hb]
      have e : (64 : Int) * (J : Int) + (b : Int) = ((64 * J + b : Nat) : Int) := by omega
      rw [e, Dz_nn]
    · rw [if_neg h1, if_neg h2]
      refine ed_mk (fun b hb => ?_)
      rw [lb_0, Dz_far d1 hW.2.1 (by omega)]
theorem s_wordFrom {w : Bool} {M : im_M} {W H : Nat} {D : Nat → Nat → Bool} (q : DH w M W H D) {x y : Int} (hx : -2147483648 ≤ x ∧ x < 2147483648) (hy : -2147483648 ≤ y ∧ y < 2147483648) : ed (f_HSheet_wordFrom w (iZ x) (iZ y) M) (fun v => ∀ k, k < 64 → lb v k = Dz D (x + (k : Int)) y) := by
  have q' := q
  obtain ⟨hW, ⟨e1, e2⟩, d1, d2⟩ := q
  unfold f_HSheet_wordFrom
  have c1 : (iZ y < 0) = (y < 0) := iZ_lt (b := 0) hy (by decide)
  have c2 : (iZ y < im_i M 28 1) = (y < (H : Int)) := by rw [e2, iZ_nI, iZ_lt hy (by omega)]
  simp only [c1, c2]
  by_cases h1 : y < 0
  · rw [if_pos h1]
    refine ed_mk (fun b hb => ?_)
    rw [lb_0, Dz_in d1 (by omega)]
  · by_cases h2 : y < (H : Int)
    · obtain ⟨Y, rfl⟩ : ∃ Y : Nat, y = (Y : Int) := ⟨y.toNat, by omega⟩
      have es : iZ x >>> (6 &&& 31 : Int32) = iZ (x / 64) := iZ_shr (k := 6) (by decide +kernel) hx
      have ea : iZ x &&& 63 = iZ (x % 64) := iZ_and 6 (by decide)
      obtain ⟨S, hS⟩ : ∃ S : Nat, x % 64 = (S : Int) := ⟨(x % 64).toNat, by omega⟩
      have hS2 : S < 64 := by omega
      have hq : x = 64 * (x / 64) + (S : Int) := by omega
      have e1' : iZ (x / 64) + 1 = iZ (x / 64 + 1) := by rw [iZ_n, iZ_add]
      rw [if_neg h1, if_pos h2, es, ea, hS, e1']
      apply bd1_mk
      refine ed_mono (s_word q' (j := x / 64) (by omega) (y := Y) (by omega)) (fun v hv => ?_)
      have hlow : ∀ k, k < 64 → lb (Int64.toUInt64 v >>> ((Int32.toInt64 (iZ (S : Int))).toUInt64 &&& Int64.toUInt64 63)).toInt64 k = if S + k < 64 then Dz D (x + (k : Int)) (Y : Int) else false := by
        intro k hk
        rw [iZ_l (by omega), lb_ushr hS2]
        by_cases c : S + k < 64
        · rw [if_pos c, hv _ c]
          congr 1
          omega
        · rw [if_neg c, lb_big (by omega)]
      by_cases h0 : S = 0
      · subst h0
        rw [if_neg (by decide)]
        refine ed_mk (fun k hk => ?_)
        rw [hlow k hk, if_pos (by omega)]
      · have n0 : ¬ iZ (S : Int) = 0 := by
          have k9 : (0 : Int32) = iZ 0 := rfl
          rw [k9, iZ_eq (by omega) (by decide)]
          omega
        rw [if_pos n0]
        apply bd1_mk
        refine ed_mono (s_word q' (j := x / 64 + 1) (by omega) (y := Y) (by omega)) (fun u hu => ?_)
        refine ed_mk (fun k hk => ?_)
        have e64 : Int32.toInt64 ((64 : Int32) - iZ (S : Int)) = lZ ((64 - S : Nat) : Int) := by
          rw [iZ_n, iZ_sub, iZ_l (by show -2147483648 ≤ (64 : Int) - _ ∧ (64 : Int) - _ < _; omega)]
          congr 1
          show (64 : Int) - _ = _
          omega
        rw [lb_or, hlow k hk, e64, lb_shl (by omega) hk]
        by_cases c : S + k < 64
        · rw [if_pos c]
          have : decide (64 - S ≤ k) = false := by simp; omega
          rw [this]
          simp
        · rw [if_neg c]
          have : decide (64 - S ≤ k) = true := by simp; omega
          rw [this, hu _ (by omega)]
          simp only [Bool.false_or, Bool.true_and]
          congr 1
          omega
    · rw [if_neg h1, if_neg h2]
      refine ed_mk (fun b hb => ?_)
      rw [lb_0, Dz_in d1 (by omega)]
theorem QD_H {w : Bool} {M : im_M} (q : RL w M) : ∃ W H D, DH w M W H D ∧ DR M W H D := by
  obtain ⟨W, H, D, ⟨h1, ⟨h2, h3, h4, h5, h6, h7⟩, h8, h9, h10, h11⟩, _⟩ := q.2.2.2.2.2.2.1
  exact ⟨W, H, D, ⟨h1, ⟨h2, h3⟩, h8, h9⟩, ⟨h1, ⟨h4, h5⟩, h8, h10⟩⟩
theorem c_dots {w : Bool} {M : im_M} {p0 p1 : Int32} (q : RL w M) : ed (f_H_dots w p0 p1 M) (fun v => ed (f_M_dots p0 p1 M) (fun s => v = s.1 ∧ RL w s.2)) := by
  obtain ⟨W, H, D, dh, dr⟩ := QD_H q
  obtain ⟨x, rfl, x1, x2⟩ := iZ_of p0
  obtain ⟨y, rfl, y1, y2⟩ := iZ_of p1
  unfold f_H_dots
  apply bd1_mk
  refine ed_mono (s_wordFrom dh ⟨x1, x2⟩ ⟨y1, y2⟩) (fun v hv => ed_mk ?_)
  unfold f_M_dots
  apply bd2_mk
  refine ed_mono (s_row (DR_0 (fr0_69 fr0_refl) dr) ⟨x1, x2⟩ ⟨y1, y2⟩) (fun r hr => ed_mk ⟨?_, RL_0 (fr0_tr (fr1_0 hr.2) (fr0_69 fr0_refl)) q⟩)
  apply lb_ext
  intro k hk
  rw [hv k hk, hr.1 k hk]
