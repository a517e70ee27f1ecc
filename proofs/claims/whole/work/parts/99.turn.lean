/-! CALLS: TURN -/
theorem spD_at {D : Nat → Nat → Bool} {W H x y : Nat} {v : Int64} {X Y : Nat} : ∀ k, spD D W H (x : Int) (y : Int) v k X Y = if Y = y ∧ x ≤ X ∧ X < x + k ∧ spb W H (x : Int) (y : Int) v (X - x) = true then !(D X Y) else D X Y := by
  intro k
  induction k with
  | zero => rw [if_neg (by omega)]; rfl
  | succ k ih =>
    show (if spb W H (x : Int) (y : Int) v k = true then flip1 (spD D W H (x : Int) (y : Int) v k) ((x : Int) + (k : Int)).toNat (y : Int).toNat else spD D W H (x : Int) (y : Int) v k) X Y = _
    by_cases hs : spb W H (x : Int) (y : Int) v k = true
    · rw [if_pos hs]
      unfold flip1
      have e1 : ((x : Int) + (k : Int)).toNat = x + k := by omega
      have e2 : (y : Int).toNat = y := by omega
      rw [e1, e2, ih]
      by_cases c : X = x + k ∧ Y = y
      · obtain ⟨rfl, rfl⟩ := c
        rw [if_pos ⟨rfl, rfl⟩, if_neg (by omega), if_pos ⟨rfl, by omega, by omega, by rw [Nat.add_sub_cancel_left]; exact hs⟩]
      · rw [if_neg c]
        by_cases c2 : Y = y ∧ x ≤ X ∧ X < x + k ∧ spb W H (x : Int) (y : Int) v (X - x) = true
        · rw [if_pos c2, if_pos ⟨c2.1, c2.2.1, by omega, c2.2.2.2⟩]
        · rw [if_neg c2, if_neg (fun z => c2 ⟨z.1, z.2.1, by omega, z.2.2.2⟩)]
    · rw [if_neg hs, ih]
      by_cases c2 : Y = y ∧ x ≤ X ∧ X < x + k ∧ spb W H (x : Int) (y : Int) v (X - x) = true
      · rw [if_pos c2, if_pos ⟨c2.1, c2.2.1, by omega, c2.2.2.2⟩]
      · rw [if_neg c2, if_neg]
        rintro ⟨z1, z2, z3, z4⟩
        apply c2
        refine ⟨z1, z2, ?_, z4⟩
        by_cases e : X = x + k
        · subst e
          rw [Nat.add_sub_cancel_left] at z4
          exact absurd z4 hs
        · omega
/-- what follow may change -/
def frF (M M' : im_M) : Prop := fr (2 ^ 131) [(69, 0), (71, 0), (89, 0), (96, 3), (108, 0), (130, 0), (130, 1), (130, 2), (130, 8), (130, 10)] M M'
theorem frF_1 {M M1 M2 : im_M} (h2 : fr1 M1 M2) (h1 : frF M M1) : frF M M2 := fr_tr (fr_mono (by decide) (by decide) h2) h1
theorem PR_eq {M : im_M} {W H : Nat} {D E : Nat → Nat → Bool} (q : PR M W H D) (h : ∀ a b, D a b = E a b) : PR M W H E := by
  have : D = E := funext fun a => funext fun b => h a b
  rw [← this]
  exact q
theorem s_sheetP {M : im_M} {W H : Nat} (hW : 1 ≤ W ∧ W ≤ 512 ∧ 1 ≤ H ∧ H ≤ 512) : ∃ N, f_MPlaceRows_sheet (nI W) (nI H) M = some N ∧ PR N W H (fun _ _ => false) ∧ im_i N 130 10 = 0 ∧ fr (2 ^ 131) [(130, 0), (130, 1), (130, 2), (130, 8), (130, 10)] M N := by
  obtain ⟨C, hC⟩ : ∃ C : Nat, C = 262144 := ⟨_, rfl⟩
  have z : ((if nI W < 1 then 1 else (if 512 < nI W then 1 else (if nI H < 1 then 1 else (if nI H ≤ 512 then 0 else 1)))) : Int32) = 0 := by
    have z1 : ¬ nI W < 1 := nI_nlt (b := 1) hW.1 (by omega)
    have z2 : ¬ 512 < nI W := nI_nlt (a := 512) hW.2.1 (by decide)
    have z3 : ¬ nI H < 1 := nI_nlt (b := 1) hW.2.2.1 (by omega)
    have z4 : nI H ≤ 512 := nI_le (b := 512) hW.2.2.2 (by decide)
    rw [if_neg z1, if_neg z2, if_neg z3, if_pos z4]
  have e : lp (uc2 f_MPlaceRows_sheet_L53) (0, im_setI (im_setI (im_setI M 130 0 0) 130 1 (nI W)) 130 2 (nI H)) = some (af_M (im_setI (im_setI (im_setI M 130 0 0) 130 1 (nI W)) 130 2 (nI H)) 131 0 0 C) := by
    refine lp_row (fun k => (nI k, af_M (im_setI (im_setI (im_setI M 130 0 0) 130 1 (nI W)) 130 2 (nI H)) 131 0 0 k)) C (fun k hk => ?_) ?_
    · show f_MPlaceRows_sheet_L53 (nI k) _ = _
      unfold f_MPlaceRows_sheet_L53
      have z1 : ¬ (262144 : Int32) ≤ nI k := nI_ge (b := 262144) (by omega) (by decide)
      have z2 : vp_nar .boolean 0 = 0 := by decide
      rw [if_neg z1, gd_pos (by rw [inb_nI (by omega)]; omega), nI_clamp (by omega), nI_1, z2]
      show _ = some (Sum.inl (nI (k + 1), im_setI (af_M _ 131 0 0 k) 131 (0 + k) 0))
      rw [Nat.zero_add]
    · show f_MPlaceRows_sheet_L53 (nI C) _ = _
      unfold f_MPlaceRows_sheet_L53
      have z1 : (262144 : Int32) ≤ nI C := nI_le (a := 262144) (by omega) (by omega)
      rw [if_pos z1]
  have k : f_MPlaceRows_sheet (nI W) (nI H) M = some (im_setI (im_setI (af_M (im_setI (im_setI (im_setI M 130 0 0) 130 1 (nI W)) 130 2 (nI H)) 131 0 0 C) 130 8 0) 130 10 0) := by
    unfold f_MPlaceRows_sheet
    rw [z, if_pos (by show (0 : Int32) ≤ 0; decide), e, bd1_s]
    rfl
  refine ⟨_, k, ⟨hW, ⟨?_, ?_⟩, ?_⟩, rfl, f_MPlaceRows_sheet_fr k⟩
  · rw [mi_I, if_pos rfl, if_neg (by decide), mi_I, if_pos rfl, if_neg (by decide), af_i, if_neg (by omega)]
    rfl
  · rw [mi_I, if_pos rfl, if_neg (by decide), mi_I, if_pos rfl, if_neg (by decide), af_i, if_neg (by omega)]
    rfl
  · intro x y hx hy
    rw [mi_I, if_neg (by decide), mi_I, if_neg (by decide), af_i, if_pos ⟨rfl, by omega, by omega⟩]
    rfl
/-- the dots that were gone through -/
def foD (D : Nat → Nat → Bool) (y x a b : Nat) : Bool := if b < y ∨ (b = y ∧ a < x) then D a b else false
def foI (M : im_M) (W H : Nat) (D : Nat → Nat → Bool) (n : Nat) (s : Int32 × im_M) : Prop := ∃ y : Nat, y + n = H ∧ s.1 = nI y ∧ DR s.2 W H D ∧ PR s.2 W H (foD D y 0) ∧ im_i s.2 130 10 = 0 ∧ frF M s.2
def fxI (M : im_M) (W H : Nat) (D : Nat → Nat → Bool) (y : Nat) (n : Nat) (s : Int32 × im_M) : Prop := ∃ t : Nat, t + n = 8 ∧ s.1 = nI (64 * t) ∧ DR s.2 W H D ∧ PR s.2 W H (foD D y (64 * t)) ∧ im_i s.2 130 10 = 0 ∧ frF M s.2
theorem s_follow {M : im_M} {W H : Nat} {D : Nat → Nat → Bool} (q : DR M W H D) : ed (f_M_follow M) (fun N => DR N W H D ∧ PR N W H D ∧ im_i N 130 10 = 0 ∧ frF M N) := by
  have hW := q.1
  have d1 := q.2.2.1
  have q2 : DR (im_setI M 89 0 0) W H D := DR_1 (fr1_89 fr1_refl) q
  have q3 : DR (im_setI (im_setI M 89 0 0) 89 0 0) W H D := DR_1 (fr1_89 fr1_refl) q2
  unfold f_M_follow
  rw [(e_told01 q).1, bd2_s, (e_told01 q2).2, bd2_s]
  obtain ⟨N, eN, pN, zN, fN⟩ := s_sheetP (M := im_setI (im_setI M 89 0 0) 89 0 0) hW
  rw [eN, bd1_s]
  have f0 : frF M N := fr_tr (fr_mono (by decide) (by decide) fN) (fr_F (by decide) (fr_F (by decide) fr_refl))
  apply bd1_mk
  refine ed_mono (lp_inv (foI M W H D) (Q := fun (N : im_M) => DR N W H D ∧ PR N W H D ∧ im_i N 130 10 = 0 ∧ frF M N) ?_ (k := H) ⟨0, by omega, rfl, DR_fr fN (by decide +kernel) q3, PR_eq pN (fun a b => by unfold foD; rw [if_neg (by omega)]), zN, f0⟩) (fun r hr => ed_mk hr)
  rintro n ⟨i, M1⟩ ⟨y, hy, e1, e2, e3, e4, e5⟩
  replace e1 : i = nI y := e1
  replace e2 : DR M1 W H D := e2
  replace e3 : PR M1 W H (foD D y 0) := e3
  replace e4 : im_i M1 130 10 = 0 := e4
  replace e5 : frF M M1 := e5
  subst e1
  show ed (f_M_follow_L29 (nI W) (nI H) (nI y) M1) _
  unfold f_M_follow_L29
  by_cases h : H ≤ y
  · have hyH : y = H := by omega
    subst hyH
    rw [if_pos (nI_le (Nat.le_refl y) (by omega))]
    refine lpo_r ⟨e2, PR_eq e3 ?_, e4, e5⟩
    intro a b
    unfold foD
    by_cases c : b < y ∨ (b = y ∧ a < 0)
    · rw [if_pos c]
    · rw [if_neg c]
      cases hd : D a b with
      | false => rfl
      | true =>
        have := d1 a b hd
        omega
  · have hy2 : y < H := by omega
    rw [if_neg (nI_ge hy2 (by omega))]
    apply bd1_mk
    refine ed_mono (lp_inv (fxI M W H D y) (Q := fun (N : im_M) => DR N W H D ∧ PR N W H (foD D (y + 1) 0) ∧ im_i N 130 10 = 0 ∧ frF M N) ?_ (k := 8) ⟨0, by omega, rfl, e2, e3, e4, e5⟩) ?_
    · rintro n2 ⟨i2, M2⟩ ⟨t, ht, g1, g2, g3, g4, g5⟩
      replace g1 : i2 = nI (64 * t) := g1
      replace g2 : DR M2 W H D := g2
      replace g3 : PR M2 W H (foD D y (64 * t)) := g3
      replace g4 : im_i M2 130 10 = 0 := g4
      replace g5 : frF M M2 := g5
      subst g1
      show ed (f_M_follow_L37 (nI W) (nI H) (nI y) (nI (64 * t)) M2) _
      unfold f_M_follow_L37
      by_cases hx : W ≤ 64 * t
      · rw [if_pos (nI_le hx (by omega))]
        refine lpo_r ⟨g2, PR_eq g3 ?_, g4, g5⟩
        intro a b
        unfold foD
        by_cases c : b < y ∨ (b = y ∧ a < 64 * t)
        · rw [if_pos c, if_pos (by omega)]
        · rw [if_neg c]
          by_cases c2 : b < y + 1 ∨ (b = y + 1 ∧ a < 0)
          · rw [if_pos c2]
            cases hd : D a b with
            | false => rfl
            | true =>
              have := d1 a b hd
              omega
          · rw [if_neg c2]
      · have hx2 : 64 * t < W := by omega
        rw [if_neg (nI_ge hx2 (by omega))]
        apply bd2_mk
        rw [iZ_nI, iZ_nI (n := y)]
        refine ed_mono (s_row g2 (x := ((64 * t : Nat) : Int)) (y := (y : Int)) (by omega) (by omega)) ?_
        rintro ⟨v, M3⟩ ⟨hv, f3⟩
        replace hv : ∀ k, k < 64 → lb v k = Dz D (((64 * t : Nat) : Int) + (k : Int)) (y : Int) := hv
        replace f3 : fr1 M2 M3 := f3
        apply bd2_mk
        refine ed_mono (s_turnP (PR_fr f3 (by decide +kernel) g3) (x := ((64 * t : Nat) : Int)) (y := (y : Int)) (v := v) (by omega) (by omega)) ?_
        rintro ⟨m, M4⟩ ⟨_, p4, f4⟩
        replace p4 : PR M4 W H (spD (foD D y (64 * t)) W H ((64 * t : Nat) : Int) (y : Int) v 64) := p4
        replace f4 : fr (2 ^ 131) [(130, 0)] M3 M4 := f4
        have e64 : iZ ((64 * t : Nat) : Int) + 64 = nI (64 * (t + 1)) := by
          rw [iZ_n, iZ_add, iZ_nI]
          congr 1
        show ed (some (Sum.inl (iZ ((64 * t : Nat) : Int) + 64, M4))) _
        rw [e64]
        refine lpo_l (7 - t) (by omega) ⟨t + 1, by omega, rfl, DR_fr f4 (by decide +kernel) (DR_1 f3 g2), PR_eq p4 ?_, ?_, fr_tr (fr_mono (by decide) (by decide) f4) (frF_1 f3 g5)⟩
        · intro a b
          rw [spD_at]
          unfold foD
          by_cases c : b = y ∧ 64 * t ≤ a ∧ a < 64 * t + 64 ∧ spb W H ((64 * t : Nat) : Int) (y : Int) v (a - 64 * t) = true
          · obtain ⟨rfl, c2, c3, c4⟩ := c
            rw [if_pos ⟨rfl, c2, c3, c4⟩, if_neg (by omega), if_pos (by omega)]
            unfold spb at c4
            simp only [Bool.and_eq_true] at c4
            have := hv (a - 64 * t) (by omega)
            rw [c4.1] at this
            have e9 : ((64 * t : Nat) : Int) + ((a - 64 * t : Nat) : Int) = (a : Int) := by omega
            rw [e9, Dz_nn] at this
            rw [← this]
            rfl
          · rw [if_neg c]
            by_cases c5 : b < y ∨ (b = y ∧ a < 64 * t)
            · rw [if_pos c5, if_pos (by omega)]
            · rw [if_neg c5]
              by_cases c6 : b < y ∨ (b = y ∧ a < 64 * (t + 1))
              · rw [if_pos c6]
                cases hd : D a b with
                | false => rfl
                | true =>
                  exfalso
                  have hin := d1 a b hd
                  apply c
                  refine ⟨by omega, by omega, by omega, ?_⟩
                  unfold spb
                  have hb : b = y := by omega
                  subst hb
                  have := hv (a - 64 * t) (by omega)
                  have e9 : ((64 * t : Nat) : Int) + ((a - 64 * t : Nat) : Int) = (a : Int) := by omega
                  rw [e9, Dz_nn, hd] at this
                  have e8 : decide (0 ≤ ((64 * t : Nat) : Int) + ((a - 64 * t : Nat) : Int) ∧ ((64 * t : Nat) : Int) + ((a - 64 * t : Nat) : Int) < (W : Int) ∧ 0 ≤ (b : Int) ∧ (b : Int) < (H : Int)) = true := decide_eq_true (by omega)
                  rw [this, e8]
                  rfl
              · rw [if_neg c6]
        · show im_i M4 130 10 = 0
          rw [f4.1 130 10 rfl (by decide), f3.1 130 10 rfl (by decide), g4]
    · rintro N ⟨h1, h2, h3, h4⟩
      exact lpo_l (H - (y + 1)) (by omega) ⟨y + 1, by omega, nI_1 y, h1, h2, h3, h4⟩
/-- a quarter turned: of a sheet W wide, H high -/
def rot1 (D : Nat → Nat → Bool) (W H : Nat) (a b : Nat) : Bool := if a < H ∧ b < W then D b (H - 1 - a) else false
/-- before each int of the copy -/
def toI (M : im_M) (n : Nat) (s : Int32 × im_M) : Prop := ∃ k : Nat, k + n = 32768 ∧ s.1 = nI k ∧ (∀ j, j < k → im_i s.2 91 j = im_i M 90 j ∧ im_i s.2 90 j = 0) ∧ (∀ j, k ≤ j → im_i s.2 90 j = im_i M 90 j) ∧ fr (2 ^ 90 ||| 2 ^ 91) [] M s.2
theorem s_copy {M : im_M} : ed (lp (uc2 f_MDotRows_turnOnce_L2) (0, M)) (fun N => (∀ j, j < 32768 → im_i N 91 j = im_i M 90 j ∧ im_i N 90 j = 0) ∧ fr (2 ^ 90 ||| 2 ^ 91) [] M N) := by
  refine lp_inv (toI M) ?_ (k := 32768) ⟨0, by omega, rfl, fun j hj => absurd hj (by omega), fun j _ => rfl, fr_refl⟩
  rintro n ⟨i, M1⟩ ⟨k, hk, e1, e2, e3, e4⟩
  replace e1 : i = nI k := e1
  replace e2 : ∀ j, j < k → im_i M1 91 j = im_i M 90 j ∧ im_i M1 90 j = 0 := e2
  replace e3 : ∀ j, k ≤ j → im_i M1 90 j = im_i M 90 j := e3
  replace e4 : fr (2 ^ 90 ||| 2 ^ 91) [] M M1 := e4
  subst e1
  show ed (f_MDotRows_turnOnce_L2 (nI k) M1) _
  unfold f_MDotRows_turnOnce_L2
  by_cases h : 32768 ≤ k
  · have z : (32768 : Int32) ≤ nI k := nI_le (a := 32768) h (by omega)
    rw [if_pos z]
    have hk2 : k = 32768 := by omega
    subst hk2
    exact lpo_r ⟨e2, e4⟩
  · have z : ¬ (32768 : Int32) ≤ nI k := nI_ge (b := 32768) (by omega) (by decide)
    have g : inb (nI k) 32768 := by rw [inb_nI (by omega)]; omega
    rw [if_neg z, gd_pos g, gd_pos g, gd_pos g, nI_clamp (by omega), nI_1]
    refine lpo_l (32768 - (k + 1)) (by omega) ⟨k + 1, by omega, rfl, ?_, ?_, fr_I (by decide) (fr_I (by decide) e4)⟩
    · intro j hj
      constructor
      · show im_i (im_setI (im_setI M1 91 k (im_i M1 90 k)) 90 k 0) 91 j = _
        rw [mi_I, if_neg (by decide), mi_I, if_pos rfl]
        by_cases c : j = k
        · rw [if_pos c, c, e3 k (Nat.le_refl k)]
        · rw [if_neg c, (e2 j (by omega)).1]
      · show im_i (im_setI (im_setI M1 91 k (im_i M1 90 k)) 90 k 0) 90 j = _
        rw [mi_I, if_pos rfl]
        by_cases c : j = k
        · rw [if_pos c]
        · rw [if_neg c, mi_I, if_neg (by decide), (e2 j (by omega)).2]
    · intro j hj
      show im_i (im_setI (im_setI M1 91 k (im_i M1 90 k)) 90 k 0) 90 j = _
      rw [mi_I, if_pos rfl, if_neg (by omega), mi_I, if_neg (by decide), e3 j (by omega)]
/-- the turned dots, once those before (x, y) were gone through -/
def tnD (D : Nat → Nat → Bool) (W H y x : Nat) (a b : Nat) : Bool := if a < H ∧ b < W ∧ (H - 1 - a < y ∨ (H - 1 - a = y ∧ b < x)) then D b (H - 1 - a) else false
/-- the dots as they were before -/
def BF (M : im_M) (D : Nat → Nat → Bool) : Prop := ∀ y j b, y < 1024 → j < 32 → b < 32 → ib (im_i M 91 (32 * y + j)) b = D (32 * j + b) y
def tyI (M : im_M) (W H : Nat) (D : Nat → Nat → Bool) (n : Nat) (s : Int32 × im_M) : Prop := ∃ y : Nat, y + n = H ∧ s.1 = nI y ∧ DR s.2 H W (tnD D W H y 0) ∧ BF s.2 D ∧ fr (2 ^ 90) [] M s.2
def txI (M : im_M) (W H : Nat) (D : Nat → Nat → Bool) (y : Nat) (n : Nat) (s : Int32 × im_M) : Prop := ∃ x : Nat, x + n = W ∧ s.1 = nI x ∧ DR s.2 H W (tnD D W H y x) ∧ BF s.2 D ∧ fr (2 ^ 90) [] M s.2
theorem s_turn1 {M : im_M} {W H : Nat} {D : Nat → Nat → Bool} (q : DR M W H D) : ed (f_MDotRows_turnOnce M) (fun N => DR N H W (rot1 D W H) ∧ fr (2 ^ 90 ||| 2 ^ 91) [(89, 1), (89, 2)] M N) := by
  have hW := q.1
  have d1 := q.2.2.1
  have d2 := q.2.2.2
  unfold f_MDotRows_turnOnce
  apply bd1_mk
  refine ed_mono s_copy ?_
  rintro N ⟨c1, c2⟩
  have w1 : im_i N 89 1 = nI W := by rw [c2.1 89 1 rfl (by decide), q.2.1.1]
  have w2 : im_i N 89 2 = nI H := by rw [c2.1 89 2 rfl (by decide), q.2.1.2]
  rw [w1, w2]
  have f0 : fr (2 ^ 90 ||| 2 ^ 91) [(89, 1), (89, 2)] M (im_setI (im_setI N 89 1 (nI H)) 89 2 (nI W)) := fr_F (by decide) (fr_F (by decide) (fr_mono (by decide) (by decide) c2))
  have hib0 : ∀ b, ib 0 b = false := fun b => ib_0
  apply bd1_mk
  refine ed_mono (lp_inv (tyI (im_setI (im_setI N 89 1 (nI H)) 89 2 (nI W)) W H D) (Q := fun (N' : im_M) => DR N' H W (rot1 D W H) ∧ fr (2 ^ 90) [] (im_setI (im_setI N 89 1 (nI H)) 89 2 (nI W)) N') ?_ (k := H) ⟨0, by omega, rfl, ⟨by omega, ⟨rfl, rfl⟩, ?_, ?_⟩, ?_, fr_refl⟩) ?_
  · rintro n ⟨i, M1⟩ ⟨y, hy, e1, e2, e3, e4⟩
    replace e1 : i = nI y := e1
    replace e2 : DR M1 H W (tnD D W H y 0) := e2
    replace e3 : BF M1 D := e3
    replace e4 : fr (2 ^ 90) [] (im_setI (im_setI N 89 1 (nI H)) 89 2 (nI W)) M1 := e4
    subst e1
    show ed (f_MDotRows_turnOnce_L55 (nI W) (nI H) (nI y) M1) _
    unfold f_MDotRows_turnOnce_L55
    by_cases h : H ≤ y
    · have hyH : y = H := by omega
      subst hyH
      rw [if_pos (nI_le (Nat.le_refl y) (by omega))]
      refine lpo_r ⟨DR_eq e2 ?_, e4⟩
      intro a b
      unfold tnD rot1
      by_cases c : a < y ∧ b < W
      · rw [if_pos ⟨c.1, c.2, by omega⟩, if_pos c]
      · rw [if_neg (by omega), if_neg c]
    · have hy2 : y < H := by omega
      rw [if_neg (nI_ge hy2 (by omega))]
      apply bd1_mk
      refine ed_mono (lp_inv (txI (im_setI (im_setI N 89 1 (nI H)) 89 2 (nI W)) W H D y) (Q := fun (N' : im_M) => DR N' H W (tnD D W H (y + 1) 0) ∧ BF N' D ∧ fr (2 ^ 90) [] (im_setI (im_setI N 89 1 (nI H)) 89 2 (nI W)) N') ?_ (k := W) ⟨0, by omega, rfl, e2, e3, e4⟩) ?_
      · rintro n2 ⟨i2, M2⟩ ⟨x, hx, g1, g2, g3, g4⟩
        replace g1 : i2 = nI x := g1
        replace g2 : DR M2 H W (tnD D W H y x) := g2
        replace g3 : BF M2 D := g3
        replace g4 : fr (2 ^ 90) [] (im_setI (im_setI N 89 1 (nI H)) 89 2 (nI W)) M2 := g4
        subst g1
        show ed (f_MDotRows_turnOnce_L63 (nI W) (nI H) (nI y) (nI x) M2) _
        unfold f_MDotRows_turnOnce_L63
        by_cases hxx : W ≤ x
        · have hxW : x = W := by omega
          subst hxW
          rw [if_pos (nI_le (Nat.le_refl x) (by omega))]
          refine lpo_r ⟨DR_eq g2 ?_, g3, g4⟩
          intro a b
          unfold tnD
          by_cases c : a < H ∧ b < x ∧ (H - 1 - a < y ∨ (H - 1 - a = y ∧ b < x))
          · rw [if_pos c, if_pos ⟨c.1, c.2.1, by omega⟩]
          · rw [if_neg c, if_neg (fun z => c ⟨z.1, z.2.1, by omega⟩)]
        · have hx2 : x < W := by omega
          have g : inb ((32 : Int32) * nI y + nI x / 32) 32768 := by rw [iZ_nI, iZ_nI, dk_ix (by omega) (by omega), inb_nI (by omega)]; omega
          have ec : ((32 : Int32) * nI y + nI x / 32).toNatClampNeg = 32 * y + x / 32 := by rw [iZ_nI, iZ_nI, dk_ix (by omega) (by omega), nI_clamp (by omega)]
          have es : nI x - nI x / 32 * 32 = iZ ((x % 32 : Nat) : Int) := by rw [iZ_nI, dk_sh (by omega)]
          have eb : ((im_i M2 91 (32 * y + x / 32) >>> (iZ ((x % 32 : Nat) : Int) &&& 31 : Int32) : Int32) &&& 1) = if D x y = true then 1 else 0 := by
            rw [i_and1, ib_shr (by omega), g3 y (x / 32) (x % 32) (by omega) (by omega) (by omega), Nat.div_add_mod]
          rw [if_neg (nI_ge hx2 (by omega)), gd_pos g, ec, es, eb, nI_1]
          have nx : ∀ (N' : im_M), DR N' H W (tnD D W H y (x + 1)) → BF N' D → fr (2 ^ 90) [] (im_setI (im_setI N 89 1 (nI H)) 89 2 (nI W)) N' → ed (some (Sum.inl (nI (x + 1), N'))) (lpo (txI (im_setI (im_setI N 89 1 (nI H)) 89 2 (nI W)) W H D y) (fun (N' : im_M) => DR N' H W (tnD D W H (y + 1) 0) ∧ BF N' D ∧ fr (2 ^ 90) [] (im_setI (im_setI N 89 1 (nI H)) 89 2 (nI W)) N') n2) := by
            intro N' h1 h2 h3
            exact lpo_l (W - (x + 1)) (by omega) ⟨x + 1, by omega, rfl, h1, h2, h3⟩
          by_cases hd : D x y = true
          · rw [if_pos hd, if_neg (by decide)]
            have e5 : nI H - 1 - nI y = nI (H - 1 - y) := by
              rw [iZ_nI, iZ_nI, iZ_n, iZ_sub, iZ_sub, iZ_nI]
              congr 1
              show (H : Int) - 1 - (y : Int) = _
              omega
            obtain ⟨N2, k1, k2, k3⟩ := s_other g2 (x := H - 1 - y) (y := x) (by omega) hx2
            rw [e5, k1, bd1_s, bd1_s]
            refine nx N2 (DR_eq k2 ?_) ?_ (fr_tr k3 g4)
            · intro a b
              unfold flip1 tnD
              by_cases c : a = H - 1 - y ∧ b = x
              · obtain ⟨rfl, rfl⟩ := c
                have e6 : H - 1 - (H - 1 - y) = y := by omega
                rw [if_pos ⟨rfl, rfl⟩, e6, if_neg (by omega), if_pos ⟨by omega, hx2, by omega⟩, hd]
                rfl
              · rw [if_neg c]
                by_cases c2 : a < H ∧ b < W ∧ (H - 1 - a < y ∨ (H - 1 - a = y ∧ b < x))
                · rw [if_pos c2, if_pos ⟨c2.1, c2.2.1, by omega⟩]
                · rw [if_neg c2, if_neg (fun z => c2 ⟨z.1, z.2.1, by omega⟩)]
            · intro b j k hb hj hk
              rw [fr_c k3 91 rfl (by decide)]
              exact g3 b j k hb hj hk
          · rw [if_neg hd, if_pos (by decide), bd1_s]
            refine nx M2 (DR_eq g2 ?_) g3 g4
            intro a b
            unfold tnD
            by_cases c2 : a < H ∧ b < W ∧ (H - 1 - a < y ∨ (H - 1 - a = y ∧ b < x))
            · rw [if_pos c2, if_pos ⟨c2.1, c2.2.1, by omega⟩]
            · rw [if_neg c2]
              by_cases c3 : a < H ∧ b < W ∧ (H - 1 - a < y ∨ (H - 1 - a = y ∧ b < x + 1))
              · have e7 : b = x := by omega
                have e8 : H - 1 - a = y := by omega
                rw [if_pos c3, e7, e8]
                simpa using hd
              · rw [if_neg c3]
      · rintro N' ⟨h1, h2, h3⟩
        exact lpo_l (H - (y + 1)) (by omega) ⟨y + 1, by omega, nI_1 y, h1, h2, h3⟩
  · intro a b hd
    unfold tnD at hd
    rw [if_neg (by omega)] at hd
    cases hd
  · intro b j k hb hj hk
    show ib (im_i N 90 (32 * b + j)) k = tnD D W H 0 0 (32 * j + k) b
    rw [(c1 (32 * b + j) (by omega)).2, ib_0]
    unfold tnD
    rw [if_neg (by omega)]
  · intro b j k hb hj hk
    show ib (im_i N 91 (32 * b + j)) k = _
    rw [(c1 (32 * b + j) (by omega)).1]
    exact d2 b j k hb hj hk
  · rintro N' ⟨h1, h2⟩
    exact ed_mk ⟨h1, fr_tr (fr_mono (by decide) (by decide) h2) f0⟩
/-- how a turn moves dots: where (x, y) goes, whence (a, b) comes, and which (a, b) there are -/
def TM (W H : Nat) (q : Int32) (tx ty sx sy : Nat → Nat → Nat) (V : Nat → Nat → Bool) : Prop := (∀ x y, x < W → y < H → V (tx x y) (ty x y) = true ∧ sx (tx x y) (ty x y) = x ∧ sy (tx x y) (ty x y) = y ∧ tx x y < 512 ∧ ty x y < 512 ∧ (if ¬ q = 1 then (if ¬ q = 2 then nI y else nI W - 1 - nI x) else nI H - 1 - nI y) = nI (tx x y) ∧ (if ¬ q = 1 then (if ¬ q = 2 then nI W - 1 - nI x else nI H - 1 - nI y) else nI x) = nI (ty x y)) ∧ ∀ a b, V a b = true → sx a b < W ∧ sy a b < H ∧ tx (sx a b) (sy a b) = a ∧ ty (sx a b) (sy a b) = b
/-- the turned dots, once those before (x, y) were gone through -/
def rcD (D : Nat → Nat → Bool) (sx sy : Nat → Nat → Nat) (V : Nat → Nat → Bool) (y x a b : Nat) : Bool := V a b && (decide (sy a b < y ∨ (sy a b = y ∧ sx a b < x)) && D (sx a b) (sy a b))
/-- the spare words hold E -/
def SP (w : Bool) (M : im_M) (E : Nat → Nat → Bool) : Prop := ∀ y j b, y < 512 → j < 8 → b < 64 → lb (im_l M (ss w) (8 * y + j)) b = E (64 * j + b) y
theorem SP_eq {w : Bool} {M : im_M} {D E : Nat → Nat → Bool} (q : SP w M D) (h : ∀ a b, D a b = E a b) : SP w M E := by
  have : D = E := funext fun a => funext fun b => h a b
  rw [← this]
  exact q
theorem sw_ne {w : Bool} : ¬ sw w = ss w := by cases w <;> decide
theorem bit_ss {w : Bool} : (2 ^ 29 ||| 2 ^ 30).testBit (ss w) = true := by cases w <;> decide
theorem DH_ss {w : Bool} {M : im_M} {W H k : Nat} {v : Int64} {D : Nat → Nat → Bool} (q : DH w M W H D) : DH w (im_setL M (ss w) k v) W H D := by
  obtain ⟨h1, h2, h3, h4⟩ := q
  refine ⟨h1, h2, h3, ?_⟩
  intro y j b hy hj hb
  rw [ml_L, if_neg sw_ne]
  exact h4 y j b hy hj hb
theorem SP_set {w : Bool} {M : im_M} {E : Nat → Nat → Bool} (q : SP w M E) {x y : Nat} (hx : x < 512) (hy : y < 512) : SP w (im_setL M (ss w) (8 * y + x / 64) (im_l M (ss w) (8 * y + x / 64) ||| ((1 : Int64) <<< (lZ ((x % 64 : Nat) : Int) &&& 63) : Int64))) (fun a b => E a b || decide (a = x ∧ b = y)) := by
  intro b j k hb hj hk
  rw [ml_L, if_pos rfl]
  by_cases c : 8 * b + j = 8 * y + x / 64
  · have hb2 : b = y := by omega
    have hj2 : j = x / 64 := by omega
    subst hb2
    rw [if_pos c, lb_or, lb_one (by omega) hk]
    have e1 : lb (im_l M (ss w) (8 * b + x / 64)) k = E (64 * j + k) b := by rw [← hj2]; exact q b j k hb hj hk
    rw [e1]
    congr 1
    by_cases ck : k = x % 64
    · simp [ck]; omega
    · simp [ck]; omega
  · rw [if_neg c, q b j k hb hj hk]
    have : decide (64 * j + k = x ∧ b = y) = false := decide_eq_false (by omega)
    show E (64 * j + k) b = (E (64 * j + k) b || decide (64 * j + k = x ∧ b = y))
    rw [this, Bool.or_false]
def frW (M M' : im_M) : Prop := fr (2 ^ 29 ||| 2 ^ 30) [] M M'
def rwJ (w : Bool) (M : im_M) (W H : Nat) (D : Nat → Nat → Bool) (sx sy : Nat → Nat → Nat) (V : Nat → Nat → Bool) (y j : Nat) (n : Nat) (s : Int32 × im_M) : Prop := ∃ i : Nat, i + n = 64 ∧ s.1 = nI i ∧ DH w s.2 W H D ∧ SP w s.2 (rcD D sx sy V y (64 * j + i)) ∧ frW M s.2
theorem s_rotWord {w : Bool} {M : im_M} {W H : Nat} {D : Nat → Nat → Bool} {q : Int32} {tx ty sx sy : Nat → Nat → Nat} {V : Nat → Nat → Bool} (tm : TM W H q tx ty sx sy V) (dh : DH w M W H D) {y j : Nat} (hy : y < H) (hj : j < 8) (sp : SP w M (rcD D sx sy V y (64 * j))) : ed (f_HSheet_rotateWord w (nI j) (nI y) q M) (fun N => DH w N W H D ∧ SP w N (rcD D sx sy V y (64 * (j + 1))) ∧ frW M N) := by
  have hW := dh.1
  have d1 := dh.2.2.1
  unfold f_HSheet_rotateWord
  have ei : nI y * 8 + nI j = nI (8 * y + j) := by rw [nI_n, nI_mul, nI_add, Nat.mul_comm]
  rw [ei, gd_pos (by rw [inb_nI (by omega)]; omega), nI_clamp (by omega)]
  have hv : ∀ b, b < 64 → lb (im_l M (sw w) (8 * y + j)) b = D (64 * j + b) y := fun b hb => dh.2.2.2 y j b (by omega) hj hb
  generalize im_l M (sw w) (8 * y + j) = v at hv
  apply bd1_mk
  refine ed_mono (lp_inv (rwJ w M W H D sx sy V y j) (Q := fun (N : im_M) => DH w N W H D ∧ SP w N (rcD D sx sy V y (64 * (j + 1))) ∧ frW M N) ?_ (k := 64) ⟨0, rfl, rfl, dh, sp, fr_refl⟩) (fun r hr => ed_mk hr)
  rintro n ⟨i', M1⟩ ⟨i, hi, e1, e2, e3, e4⟩
  replace e1 : i' = nI i := e1
  replace e2 : DH w M1 W H D := e2
  replace e3 : SP w M1 (rcD D sx sy V y (64 * j + i)) := e3
  replace e4 : frW M M1 := e4
  subst e1
  show ed (f_HSheet_rotateWord_L16 w (nI j) (nI y) q v (nI i) M1) _
  unfold f_HSheet_rotateWord_L16
  by_cases h : 64 ≤ i
  · have hi6 : i = 64 := by omega
    subst hi6
    rw [if_pos (e64_64 h (by omega))]
    exact lpo_r ⟨e2, e3, e4⟩
  · have hi2 : i < 64 := by omega
    rw [if_neg (e64_k hi2)]
    simp only [u_and1 hi2]
    have nx : ∀ (N : im_M), DH w N W H D → SP w N (rcD D sx sy V y (64 * j + (i + 1))) → frW M N → ed (some (Sum.inl (nI i + 1, N))) (lpo (rwJ w M W H D sx sy V y j) (fun (N : im_M) => DH w N W H D ∧ SP w N (rcD D sx sy V y (64 * (j + 1))) ∧ frW M N) n) := by
      intro N g1 g2 g3
      exact lpo_l (64 - (i + 1)) (by omega) ⟨i + 1, by omega, nI_1 i, g1, g2, g3⟩
    -- one dot more
    have one : ∀ a b, rcD D sx sy V y (64 * j + (i + 1)) a b = (rcD D sx sy V y (64 * j + i) a b || (V a b && decide (sx a b = 64 * j + i ∧ sy a b = y) && D (64 * j + i) y)) := by
      intro a b
      unfold rcD
      cases hV : V a b with
      | false => rfl
      | true =>
        simp only [Bool.true_and]
        by_cases c : sx a b = 64 * j + i ∧ sy a b = y
        · rw [c.1, c.2]
          have k1 : decide (y < y ∨ (y = y ∧ 64 * j + i < 64 * j + (i + 1))) = true := decide_eq_true (by omega)
          have k2 : decide (y < y ∨ (y = y ∧ 64 * j + i < 64 * j + i)) = false := decide_eq_false (by omega)
          rw [k1, k2]
          simp
        · have k1 : decide (sy a b < y ∨ (sy a b = y ∧ sx a b < 64 * j + (i + 1))) = decide (sy a b < y ∨ (sy a b = y ∧ sx a b < 64 * j + i)) := by
            by_cases z : sy a b < y ∨ (sy a b = y ∧ sx a b < 64 * j + i)
            · rw [decide_eq_true z, decide_eq_true (by omega)]
            · rw [decide_eq_false z, decide_eq_false (by omega)]
          rw [k1, decide_eq_false c]
          simp
    by_cases hb : lb v i = false
    · rw [if_pos hb, bd1_s]
      refine nx M1 e2 (SP_eq e3 ?_) e4
      intro a b
      rw [one, ← hv i hi2, hb]
      simp
    · rw [if_neg hb]
      have hd : D (64 * j + i) y = true := by rw [← hv i hi2]; simpa using hb
      have hin := d1 _ _ hd
      obtain ⟨t1, t2, t3, t4, t5, t6, t7⟩ := tm.1 (64 * j + i) y hin.1 hy
      have ex : (64 : Int32) * nI j + nI i = nI (64 * j + i) := by rw [nI_n, nI_mul, nI_add]
      rw [e2.2.1.1, e2.2.1.2, ex, t6, t7]
      have es : nI (tx (64 * j + i) y) >>> (6 &&& 31 : Int32) = nI (tx (64 * j + i) y / 64) := by
        rw [iZ_nI, iZ_shr (k := 6) (by decide +kernel) (by omega), iZ_nI]
        rfl
      have ea : nI (tx (64 * j + i) y) &&& 63 = iZ ((tx (64 * j + i) y % 64 : Nat) : Int) := by
        have k6 : (63 : Int32) = iZ ((2 ^ 6 - 1 : Nat) : Int) := rfl
        rw [iZ_nI, k6, iZ_and 6 (by decide)]
        congr 1
      have ei2 : nI (ty (64 * j + i) y) * 8 + nI (tx (64 * j + i) y / 64) = nI (8 * ty (64 * j + i) y + tx (64 * j + i) y / 64) := by rw [nI_n, nI_mul, nI_add, Nat.mul_comm]
      rw [es, ea, ei2, gd_pos (by rw [inb_nI (by omega)]; omega), gd_pos (by rw [inb_nI (by omega)]; omega), nI_clamp (by omega), iZ_l (by omega), bd1_s]
      refine nx _ (DH_ss e2) (SP_eq (SP_set e3 t4 t5) ?_) (fr_L bit_ss e4)
      intro a b
      rw [one, hd, Bool.and_true]
      congr 1
      by_cases c : a = tx (64 * j + i) y ∧ b = ty (64 * j + i) y
      · obtain ⟨rfl, rfl⟩ := c
        rw [t1, t2, t3]
        simp
      · rw [decide_eq_false c]
        cases hV : V a b with
        | false => rfl
        | true =>
          have z := tm.2 a b hV
          have : decide (sx a b = 64 * j + i ∧ sy a b = y) = false := decide_eq_false (fun z2 => c (by
            rw [z2.1, z2.2] at z
            exact ⟨z.2.2.1.symm, z.2.2.2.symm⟩))
          rw [this]
          rfl
theorem SP_fr {w : Bool} {M M' : im_M} {E : Nat → Nat → Bool} (h : im_l M' (ss w) = im_l M (ss w)) (q : SP w M E) : SP w M' E := by
  unfold SP at q ⊢
  rw [h]
  exact q
def rjI (w : Bool) (M : im_M) (W H : Nat) (D : Nat → Nat → Bool) (sx sy : Nat → Nat → Nat) (V : Nat → Nat → Bool) (y : Nat) (n : Nat) (s : Int32 × im_M) : Prop := ∃ j : Nat, j + n = 8 ∧ s.1 = nI j ∧ DH w s.2 W H D ∧ SP w s.2 (rcD D sx sy V y (64 * j)) ∧ frW M s.2
def ryI (w : Bool) (M : im_M) (W H : Nat) (D : Nat → Nat → Bool) (sx sy : Nat → Nat → Nat) (V : Nat → Nat → Bool) (n : Nat) (s : Int32 × im_M) : Prop := ∃ y : Nat, y + n = H ∧ s.1 = nI y ∧ DH w s.2 W H D ∧ SP w s.2 (rcD D sx sy V y 0) ∧ frW M s.2
theorem s_rotLoop {w : Bool} {M : im_M} {W H : Nat} {D : Nat → Nat → Bool} {q : Int32} {tx ty sx sy : Nat → Nat → Nat} {V : Nat → Nat → Bool} (tm : TM W H q tx ty sx sy V) (dh : DH w M W H D) (sp : SP w M (fun _ _ => false)) : ed (lp (uc2 (f_HSheet_rotate_L15 w q)) (0, M)) (fun N => DH w N W H D ∧ SP w N (fun a b => V a b && D (sx a b) (sy a b)) ∧ frW M N) := by
  have hW := dh.1
  have d1 := dh.2.2.1
  refine lp_inv (ryI w M W H D sx sy V) ?_ (k := H) ⟨0, by omega, rfl, dh, SP_eq sp (fun a b => by
    unfold rcD
    have : decide (sy a b < 0 ∨ (sy a b = 0 ∧ sx a b < 0)) = false := decide_eq_false (by omega)
    rw [this]
    simp), fr_refl⟩
  rintro n ⟨i, M1⟩ ⟨y, hy, e1, e2, e3, e4⟩
  replace e1 : i = nI y := e1
  replace e2 : DH w M1 W H D := e2
  replace e3 : SP w M1 (rcD D sx sy V y 0) := e3
  replace e4 : frW M M1 := e4
  subst e1
  show ed (f_HSheet_rotate_L15 w q (nI y) M1) _
  unfold f_HSheet_rotate_L15
  rw [e2.2.1.2]
  by_cases h : H ≤ y
  · have hyH : y = H := by omega
    subst hyH
    rw [if_pos (nI_le (Nat.le_refl y) (by omega))]
    refine lpo_r ⟨e2, SP_eq e3 ?_, e4⟩
    intro a b
    unfold rcD
    cases hV : V a b with
    | false => rfl
    | true =>
      have z := tm.2 a b hV
      have : decide (sy a b < y ∨ (sy a b = y ∧ sx a b < 0)) = true := decide_eq_true (by omega)
      rw [this]
      rfl
  · have hy2 : y < H := by omega
    rw [if_neg (nI_ge hy2 (by omega))]
    apply bd1_mk
    refine ed_mono (lp_inv (rjI w M W H D sx sy V y) (Q := fun (N : im_M) => DH w N W H D ∧ SP w N (rcD D sx sy V (y + 1) 0) ∧ frW M N) ?_ (k := 8) ⟨0, by omega, rfl, e2, e3, e4⟩) ?_
    · rintro n2 ⟨i2, M2⟩ ⟨j, hj, g1, g2, g3, g4⟩
      replace g1 : i2 = nI j := g1
      replace g2 : DH w M2 W H D := g2
      replace g3 : SP w M2 (rcD D sx sy V y (64 * j)) := g3
      replace g4 : frW M M2 := g4
      subst g1
      show ed (f_HSheet_rotate_L25 w q (nI y) (nI j) M2) _
      unfold f_HSheet_rotate_L25
      by_cases hjj : 8 ≤ j
      · have hj8 : j = 8 := by omega
        subst hj8
        rw [if_pos (by decide)]
        refine lpo_r ⟨g2, SP_eq g3 ?_, g4⟩
        intro a b
        unfold rcD
        cases hV : V a b with
        | false => rfl
        | true =>
          have z := tm.2 a b hV
          congr 2
          exact decide_eq_decide.mpr (by omega)
      · have hj2 : j < 8 := by omega
        have z8 : ¬ (8 : Int32) ≤ nI j := nI_ge (b := 8) hj2 (by decide)
        have ei : nI y * 8 + nI j = nI (8 * y + j) := by rw [nI_n, nI_mul, nI_add, Nat.mul_comm]
        rw [if_neg z8, ei, gd_pos (by rw [inb_nI (by omega)]; omega), nI_clamp (by omega)]
        simp only [lc_eq]
        by_cases h0 : im_l M2 (sw w) (8 * y + j) = 0
        · rw [if_pos h0, bd1_s]
          refine lpo_l (7 - j) (by omega) ⟨j + 1, by omega, nI_1 j, g2, SP_eq g3 ?_, g4⟩
          have hz : ∀ b, b < 64 → D (64 * j + b) y = false := by
            intro b hb
            rw [← g2.2.2.2 y j b (by omega) hj2 hb, h0, lb_0]
          intro a b
          unfold rcD
          cases hV : V a b with
          | false => rfl
          | true =>
            by_cases c : sy a b = y ∧ 64 * j ≤ sx a b ∧ sx a b < 64 * (j + 1)
            · have := hz (sx a b - 64 * j) (by omega)
              rw [show 64 * j + (sx a b - 64 * j) = sx a b by omega] at this
              rw [c.1, this]
              simp
            · congr 2
              exact decide_eq_decide.mpr (by omega)
        · rw [if_neg h0]
          apply bd1_mk
          apply bd1_mk
          refine ed_mono (s_rotWord tm g2 hy2 hj2 g3) ?_
          rintro N ⟨h1, h2, h3⟩
          refine ed_mk ?_
          show ed (some (Sum.inl (nI j + 1, N))) _
          exact lpo_l (7 - j) (by omega) ⟨j + 1, by omega, nI_1 j, h1, h2, fr_tr h3 g4⟩
    · rintro N ⟨h1, h2, h3⟩
      exact lpo_l (H - (y + 1)) (by omega) ⟨y + 1, by omega, nI_1 y, h1, h2, h3⟩
/-- before each long of the fill -/
def f2I (w : Bool) (M : im_M) (n : Nat) (s : Int32 × im_M) : Prop := ∃ k : Nat, k + n = 4096 ∧ s.1 = nI k ∧ (∀ j, j < k → im_l s.2 (ss w) j = 0) ∧ im_l s.2 (sw w) = im_l M (sw w) ∧ frW M s.2
theorem s_fill2 {w : Bool} {M : im_M} : ed (f_Arrays_fill2_1 w 0 M) (fun N => (∀ j, j < 4096 → im_l N (ss w) j = 0) ∧ im_l N (sw w) = im_l M (sw w) ∧ frW M N) := by
  unfold f_Arrays_fill2_1
  apply bd1_mk
  refine ed_mono (lp_inv (f2I w M) (Q := fun (N : im_M) => (∀ j, j < 4096 → im_l N (ss w) j = 0) ∧ im_l N (sw w) = im_l M (sw w) ∧ frW M N) ?_ (k := 4096) ⟨0, by omega, rfl, fun j hj => absurd hj (by omega), rfl, fr_refl⟩) (fun r hr => ed_mk hr)
  rintro n ⟨i, M1⟩ ⟨k, hk, e1, e2, e3, e4⟩
  replace e1 : i = nI k := e1
  replace e2 : ∀ j, j < k → im_l M1 (ss w) j = 0 := e2
  replace e3 : im_l M1 (sw w) = im_l M (sw w) := e3
  replace e4 : frW M M1 := e4
  subst e1
  show ed (f_Arrays_fill2_1_L6 w 0 4096 (nI k) M1) _
  unfold f_Arrays_fill2_1_L6
  by_cases h : 4096 ≤ k
  · have z : (4096 : Int32) ≤ nI k := nI_le (a := 4096) h (by omega)
    rw [if_pos z]
    have hk2 : k = 4096 := by omega
    subst hk2
    exact lpo_r ⟨e2, e3, e4⟩
  · have z : ¬ (4096 : Int32) ≤ nI k := nI_ge (b := 4096) (by omega) (by decide)
    rw [if_neg z, gd_pos (by rw [inb_nI (by omega)]; omega), nI_clamp (by omega), nI_1]
    refine lpo_l (4096 - (k + 1)) (by omega) ⟨k + 1, by omega, rfl, ?_, ?_, fr_L bit_ss e4⟩
    · intro j hj
      show im_l (im_setL M1 (ss w) k 0) (ss w) j = 0
      rw [ml_L, if_pos rfl]
      by_cases c : j = k
      · rw [if_pos c]
      · rw [if_neg c, e2 j (by omega)]
    · show im_l (im_setL M1 (ss w) k 0) (sw w) = _
      rw [← e3]
      funext j
      rw [ml_L, if_neg sw_ne]
theorem lpn_r {S R : Type} {b : S → Option (S ⊕ R)} {n : Nat} {s : S} {r : R} (h : b s = some (.inr r)) : lpn b (n + 1) s = some r := by
  unfold lpn
  rw [h]
theorem lpn_l {S R : Type} {b : S → Option (S ⊕ R)} {n : Nat} {s s' : S} {r : R} (h : b s = some (.inl s')) (k : lpn b n s' = some r) : lpn b (n + 1) s = some r := by
  unfold lpn
  rw [h]
  exact k
/-- turned by so many quarters -/
def rtD (D : Nat → Nat → Bool) (W H : Nat) : Nat → Nat → Nat → Bool
  | 0 => D
  | 1 => rot1 D W H
  | 2 => rot1 (rot1 D W H) H W
  | _ => rot1 (rot1 (rot1 D W H) H W) W H
def rtW (W H q : Nat) : Nat := if q = 1 ∨ q = 3 then H else W
def rtH (W H q : Nat) : Nat := if q = 1 ∨ q = 3 then W else H
theorem nI_s1 {A b : Nat} (h : b < A) (hA : A ≤ 512) : nI A - 1 - nI b = nI (A - 1 - b) := by
  rw [iZ_nI, iZ_nI, iZ_n, iZ_sub, iZ_sub, iZ_nI]
  congr 1
  show (A : Int) - 1 - (b : Int) = _
  omega
theorem TM_1 {W H : Nat} (hW : W ≤ 512) (hH : H ≤ 512) : TM W H 1 (fun _ y => H - 1 - y) (fun x _ => x) (fun _ b => b) (fun a _ => H - 1 - a) (fun a b => decide (a < H ∧ b < W)) := by
  unfold TM
  dsimp only
  refine ⟨fun x y hx hy => ⟨decide_eq_true (by omega), rfl, by omega, by omega, by omega, ?_, ?_⟩, fun a b h => ?_⟩
  · rw [if_neg (by decide)]
    exact nI_s1 hy hH
  · rw [if_neg (by decide)]
  · have := of_decide_eq_true h
    exact ⟨by omega, by omega, by omega, rfl⟩
theorem TM_2 {W H : Nat} (hW : W ≤ 512) (hH : H ≤ 512) : TM W H 2 (fun x _ => W - 1 - x) (fun _ y => H - 1 - y) (fun a _ => W - 1 - a) (fun _ b => H - 1 - b) (fun a b => decide (a < W ∧ b < H)) := by
  unfold TM
  dsimp only
  refine ⟨fun x y hx hy => ⟨decide_eq_true (by omega), by omega, by omega, by omega, by omega, ?_, ?_⟩, fun a b h => ?_⟩
  · rw [if_pos (by decide), if_neg (by decide)]
    exact nI_s1 hx hW
  · rw [if_pos (by decide), if_neg (by decide)]
    exact nI_s1 hy hH
  · have := of_decide_eq_true h
    exact ⟨by omega, by omega, by omega, by omega⟩
theorem TM_3 {W H : Nat} (hW : W ≤ 512) (hH : H ≤ 512) : TM W H 3 (fun _ y => y) (fun x _ => W - 1 - x) (fun _ b => W - 1 - b) (fun a _ => a) (fun a b => decide (a < H ∧ b < W)) := by
  unfold TM
  dsimp only
  refine ⟨fun x y hx hy => ⟨decide_eq_true (by omega), by omega, rfl, by omega, by omega, ?_, ?_⟩, fun a b h => ?_⟩
  · rw [if_pos (by decide), if_pos (by decide)]
  · rw [if_pos (by decide), if_pos (by decide)]
    exact nI_s1 hx hW
  · have := of_decide_eq_true h
    exact ⟨by omega, by omega, rfl, by omega⟩
theorem sw_not {w : Bool} : sw (!w) = ss w := by cases w <;> rfl
theorem s_rotate {w : Bool} {M : im_M} {W H : Nat} {D : Nat → Nat → Bool} (dh : DH w M W H D) {q : Nat} (hq : q ≤ 3) : ed (f_HSheet_rotate w (nI q) M) (fun r => DH r.1 r.2 (rtW W H q) (rtH W H q) (rtD D W H q) ∧ fr (2 ^ 29 ||| 2 ^ 30) [(28, 0), (28, 1)] M r.2) := by
  have hW := dh.1
  have d1 := dh.2.2.1
  unfold f_HSheet_rotate
  by_cases h0 : q = 0
  · subst h0
    rw [if_neg (by decide)]
    exact ed_mk ⟨dh, fr_refl⟩
  · have n0 : ¬ nI q = 0 := nI_ne0 (by omega) (by omega)
    rw [if_pos n0]
    apply bd1_mk
    refine ed_mono s_fill2 ?_
    rintro N ⟨z1, z2, z3⟩
    have dhN : DH w N W H D := by
      obtain ⟨a1, ⟨a2, a3⟩, a4, a5⟩ := dh
      refine ⟨a1, ⟨by rw [z3.1 28 0 (by decide) (by decide), a2], by rw [z3.1 28 1 (by decide) (by decide), a3]⟩, a4, ?_⟩
      rw [z2]
      exact a5
    have spN : SP w N (fun _ _ => false) := by
      intro y j b hy hj hb
      rw [z1 _ (by omega), lb_0]
    apply bd1_mk
    -- the end: the rows of words exchanged, and width and height where a quarter is odd
    have fin : ∀ (N2 : im_M) (V : Nat → Nat → Bool) (sx sy : Nat → Nat → Nat), DH w N2 W H D → SP w N2 (fun a b => V a b && D (sx a b) (sy a b)) → frW N N2 → (∀ a b, (V a b && D (sx a b) (sy a b)) = rtD D W H q a b) → (∀ a b, rtD D W H q a b = true → a < rtW W H q ∧ b < rtH W H q) → ed (if nI q = 2 then some (!w, im_setR (im_setR N2 28 4 (some (ss w))) 28 5 (some (sw w))) else some (!w, im_setI (im_setI (im_setR (im_setR N2 28 4 (some (ss w))) 28 5 (some (sw w))) 28 1 (im_i (im_setR (im_setR N2 28 4 (some (ss w))) 28 5 (some (sw w))) 28 0)) 28 0 (im_i (im_setR (im_setR N2 28 4 (some (ss w))) 28 5 (some (sw w))) 28 1))) (fun r => DH r.1 r.2 (rtW W H q) (rtH W H q) (rtD D W H q) ∧ fr (2 ^ 29 ||| 2 ^ 30) [(28, 0), (28, 1)] M r.2) := by
      intro N2 V sx sy g1 g2 g3 g4 g5
      have f9 : frW M N2 := fr_tr g3 z3
      have bits : ∀ y j b, y < 512 → j < 8 → b < 64 → lb (im_l N2 (sw (!w)) (8 * y + j)) b = rtD D W H q (64 * j + b) y := by
        intro y j b hy hj hb
        rw [sw_not, g2 y j b hy hj hb]
        exact g4 _ _
      by_cases c : nI q = 2
      · rw [if_pos c]
        have q2 : q = 2 := (nI_eq (a := q) (b := 2) (by omega) (by omega)).mp c
        subst q2
        refine ed_mk ⟨⟨hW, ⟨g1.2.1.1, g1.2.1.2⟩, g5, bits⟩, fr_R (fr_R (fr_mono (by decide) (by decide) f9))⟩
      · rw [if_neg c]
        have q13 : q = 1 ∨ q = 3 := by
          have : ¬ q = 2 := fun z => c (by rw [z]; rfl)
          omega
        have eW : rtW W H q = H := if_pos q13
        have eH : rtH W H q = W := if_pos q13
        rw [eW, eH] at g5 ⊢
        refine ed_mk ⟨⟨by omega, ⟨?_, ?_⟩, g5, bits⟩, fr_F (by decide) (fr_F (by decide) (fr_R (fr_R (fr_mono (by decide) (by decide) f9))))⟩
        · show im_i N2 28 1 = nI H
          exact g1.2.1.2
        · show im_i N2 28 0 = nI W
          exact g1.2.1.1
    rcases (show q = 1 ∨ q = 2 ∨ q = 3 by omega) with rfl | rfl | rfl
    · refine ed_mono (s_rotLoop (TM_1 hW.2.1 hW.2.2.2) dhN spN) (fun N2 g => fin N2 _ _ _ g.1 g.2.1 g.2.2 ?_ ?_)
      · intro a b
        show (decide (a < H ∧ b < W) && D b (H - 1 - a)) = rot1 D W H a b
        unfold rot1
        by_cases c : a < H ∧ b < W
        · rw [if_pos c, decide_eq_true c]
          rfl
        · rw [if_neg c, decide_eq_false c]
          rfl
      · intro a b h
        have h2 : rot1 D W H a b = true := h
        unfold rot1 at h2
        by_cases c : a < H ∧ b < W
        · exact c
        · rw [if_neg c] at h2
          cases h2
    · refine ed_mono (s_rotLoop (TM_2 hW.2.1 hW.2.2.2) dhN spN) (fun N2 g => fin N2 _ _ _ g.1 g.2.1 g.2.2 ?_ ?_)
      · intro a b
        show (decide (a < W ∧ b < H) && D (W - 1 - a) (H - 1 - b)) = rot1 (rot1 D W H) H W a b
        unfold rot1
        by_cases c : a < W ∧ b < H
        · rw [if_pos c, if_pos (by omega), decide_eq_true c]
          rfl
        · rw [if_neg c, decide_eq_false c]
          rfl
      · intro a b h
        have h2 : rot1 (rot1 D W H) H W a b = true := h
        unfold rot1 at h2
        by_cases c : a < W ∧ b < H
        · exact c
        · rw [if_neg c] at h2
          cases h2
    · refine ed_mono (s_rotLoop (TM_3 hW.2.1 hW.2.2.2) dhN spN) (fun N2 g => fin N2 _ _ _ g.1 g.2.1 g.2.2 ?_ ?_)
      · intro a b
        show (decide (a < H ∧ b < W) && D (W - 1 - b) a) = rot1 (rot1 (rot1 D W H) H W) W H a b
        unfold rot1
        by_cases c : a < H ∧ b < W
        · rw [if_pos c, if_pos (by omega), if_pos (by omega), decide_eq_true c]
          have e : H - 1 - (H - 1 - a) = a := by omega
          rw [e]
          rfl
        · rw [if_neg c, decide_eq_false c]
          rfl
      · intro a b h
        have h2 : rot1 (rot1 (rot1 D W H) H W) W H a b = true := h
        unfold rot1 at h2
        by_cases c : a < H ∧ b < W
        · exact c
        · rw [if_neg c] at h2
          cases h2
/-- what a turn may change in the reference's dots -/
def frT (M M' : im_M) : Prop := fr (2 ^ 90 ||| 2 ^ 91) [(89, 0), (89, 1), (89, 2)] M M'
theorem s_turnD {M : im_M} {W H : Nat} {D : Nat → Nat → Bool} (dr : DR M W H D) {q : Nat} (hq : q ≤ 3) : ed (f_MDotRows_turn (nI q) M) (fun N => DR N (rtW W H q) (rtH W H q) (rtD D W H q) ∧ im_i N 89 0 = 0 ∧ frT M N) := by
  unfold f_MDotRows_turn
  have zq : nI q ≤ 3 := nI_le (b := 3) hq (by decide)
  rw [isn0 (nI_pos (by omega)) zq, bd1_s, if_pos rfl]
  have f0 : frT M (im_setI M 89 0 0) := fr_F (by decide) fr_refl
  have dr0 : DR (im_setI M 89 0 0) W H D := DR_1 (fr1_89 fr1_refl) dr
  -- one turn of the loop, and its end
  have ends : ∀ N, lpn (uc2 (f_MDotRows_turn_L20 (nI q))) 1 (nI q, N) = some N := by
    intro N
    refine lpn_r ?_
    show f_MDotRows_turn_L20 (nI q) (nI q) N = _
    unfold f_MDotRows_turn_L20
    rw [if_pos (nI_le (Nat.le_refl q) (by omega))]
  have step : ∀ k N N' n r, k < q → im_i N 89 0 = 0 → f_MDotRows_turnOnce N = some N' → lpn (uc2 (f_MDotRows_turn_L20 (nI q))) n (nI (k + 1), N') = some r → lpn (uc2 (f_MDotRows_turn_L20 (nI q))) (n + 1) (nI k, N) = some r := by
    intro k N N' n r hk h0 h1 h2
    refine lpn_l ?_ h2
    show f_MDotRows_turn_L20 (nI q) (nI k) N = _
    unfold f_MDotRows_turn_L20
    rw [if_neg (nI_ge hk (by omega)), if_neg (by simp [h0]), h1, bd1_s, nI_1]
  have one : ∀ {N : im_M} {W H : Nat} {D : Nat → Nat → Bool}, DR N W H D → im_i N 89 0 = 0 → frT M N → ∃ N', f_MDotRows_turnOnce N = some N' ∧ DR N' H W (rot1 D W H) ∧ im_i N' 89 0 = 0 ∧ frT M N' := by
    intro N W H D d z f
    obtain ⟨N', e, d', f'⟩ := s_turn1 d
    exact ⟨N', e, d', by rw [f'.1 89 0 rfl (by decide), z], fr_tr (fr_mono (by decide) (by decide) f') f⟩
  apply bd1_mk
  rcases (show q = 0 ∨ q = 1 ∨ q = 2 ∨ q = 3 by omega) with rfl | rfl | rfl | rfl
  · exact ⟨_, lp_of (ends _), ed_mk ⟨dr0, rfl, f0⟩⟩
  · obtain ⟨N1, k1, k2, k3, k4⟩ := one dr0 rfl f0
    exact ⟨_, lp_of (step 0 _ _ _ _ (by decide) rfl k1 (ends _)), ed_mk ⟨k2, k3, k4⟩⟩
  · obtain ⟨N1, k1, k2, k3, k4⟩ := one dr0 rfl f0
    obtain ⟨N2, j1, j2, j3, j4⟩ := one k2 k3 k4
    exact ⟨_, lp_of (step 0 _ _ _ _ (by decide) rfl k1 (step 1 _ _ _ _ (by decide) k3 j1 (ends _))), ed_mk ⟨j2, j3, j4⟩⟩
  · obtain ⟨N1, k1, k2, k3, k4⟩ := one dr0 rfl f0
    obtain ⟨N2, j1, j2, j3, j4⟩ := one k2 k3 k4
    obtain ⟨N3, i1, i2, i3, i4⟩ := one j2 j3 j4
    exact ⟨_, lp_of (step 0 _ _ _ _ (by decide) rfl k1 (step 1 _ _ _ _ (by decide) k3 j1 (step 2 _ _ _ _ (by decide) j3 i1 (ends _)))), ed_mk ⟨i2, i3, i4⟩⟩
theorem c_turn {w : Bool} {M : im_M} {p0 : Int32} (q : RL w M) (h1 : ¬ p0 < 0) (h2 : p0 ≤ 3) : ed (f_H_turn w p0 M) (fun r => ed (f_M_turn p0 r.2) (fun N => im_i N 69 0 = 0 ∧ RL r.1 N)) := by
  obtain ⟨W, H, D, ⟨g1, ⟨g2, g3, g4, g5, g6, g7⟩, g8, g9, g10, g11⟩, rp⟩ := q.2.2.2.2.2.2.1
  have dh : DH w M W H D := ⟨g1, ⟨g2, g3⟩, g8, g9⟩
  have dr : DR M W H D := ⟨g1, ⟨g4, g5⟩, g8, g10⟩
  obtain ⟨k, rfl, hk⟩ := iz3 h1 (n := 3) h2 (by omega)
  have f0 : fr 0 [(59, 0)] M (im_setI M 59 0 0) := fr_F (by decide) fr_refl
  unfold f_H_turn
  rw [if_neg h1, if_pos h2]
  apply bd2_mk
  refine ed_mono (s_rotate (DH_fr f0 (by decide +kernel) dh) hk) ?_
  rintro ⟨w1, M1⟩ ⟨k1, k2⟩
  replace k1 : DH w1 M1 (rtW W H k) (rtH W H k) (rtD D W H k) := k1
  replace k2 : fr (2 ^ 29 ||| 2 ^ 30) [(28, 0), (28, 1)] (im_setI M 59 0 0) M1 := k2
  have f1 : fr (2 ^ 29 ||| 2 ^ 30) [(28, 0), (28, 1), (59, 0)] M M1 := fr_tr (fr_mono (by decide) (by decide) k2) (fr_mono (by decide) (by decide) f0)
  refine ed_mk ?_
  show ed (f_M_turn (nI k) M1) _
  unfold f_M_turn
  apply bd1_mk
  refine ed_mono (s_turnD (DR_fr f1 (by decide +kernel) dr) hk) ?_
  rintro N ⟨j1, j2, j3⟩
  unfold f_MDotRows_thrown
  rw [j2, bd1_s, if_neg (by simp [mi_I])]
  obtain ⟨N2, eN2, i1, i2, i3, i4⟩ := s_follow (DR_1 (fr1_69 (v := 0) fr1_refl) j1)
  rw [eN2, bd1_s]
  have e0 : im_i N2 69 0 = 0 := by
    rw [(f_M_follow_fr eN2).1 69 0 rfl (by decide)]
    rfl
  have hf : fr (2 ^ 29 ||| 2 ^ 30 ||| 2 ^ 90 ||| 2 ^ 91 ||| 2 ^ 131) [(28, 0), (28, 1), (59, 0), (69, 0), (71, 0), (89, 0), (89, 1), (89, 2), (96, 3), (108, 0), (130, 0), (130, 1), (130, 2), (130, 8), (130, 10)] M N2 := fr_tr (fr_mono (by decide) (by decide) i4) (fr_F (by decide) (fr_tr (fr_mono (by decide) (by decide) j3) (fr_mono (by decide) (by decide) f1)))
  have dhF : DH w1 N2 (rtW W H k) (rtH W H k) (rtD D W H k) := DH_fr (fr_tr (fr_mono (A := 2 ^ 131) (B := 2 ^ 90 ||| 2 ^ 91 ||| 2 ^ 131) (H := [(69, 0), (71, 0), (89, 0), (89, 1), (89, 2), (96, 3), (108, 0), (130, 0), (130, 1), (130, 2), (130, 8), (130, 10)]) (by decide) (by decide) i4) (fr_F (by decide) (fr_mono (by decide) (by decide) j3))) (by decide +kernel) k1
  refine ed_mk ⟨e0, RL_D hf ⟨rtW W H k, rtH W H k, rtD D W H k, ⟨dhF.1, ⟨dhF.2.1.1, dhF.2.1.2, i1.2.1.1, i1.2.1.2, i2.2.1.1, i2.2.1.2⟩, dhF.2.2.1, dhF.2.2.2, i1.2.2.2, i2.2.2⟩, ⟨0, by omega, ?_, i3, fun j hj => absurd hj (by omega)⟩⟩ q⟩
  rw [i4.1 59 0 (by decide) (by decide)]
  show im_i N 59 0 = _
  rw [j3.1 59 0 (by decide) (by decide), k2.1 59 0 (by decide) (by decide)]
  rfl
theorem n_turn {w : Bool} {M : im_M} {p0 : Int32} (q : RL w M) (h : ¬ (¬ p0 < 0 ∧ p0 ≤ 3)) : ed (f_M_turn p0 (im_noX M)) (fun N => im_i N 69 0 = 1 ∧ RL w N) := by
  have e : f_MDotRows_turn p0 (im_noX M) = some (im_setI (im_noX M) 89 0 1) := by
    unfold f_MDotRows_turn
    rw [isn1 h, bd1_s, if_neg (by decide)]
    have e2 : lp (uc2 (f_MDotRows_turn_L20 p0)) (0, im_setI (im_noX M) 89 0 1) = some (im_setI (im_noX M) 89 0 1) := by
      refine lp_of (n := 1) ?_
      refine lpn_r ?_
      show f_MDotRows_turn_L20 p0 0 (im_setI (im_noX M) 89 0 1) = _
      unfold f_MDotRows_turn_L20
      by_cases c : p0 ≤ 0
      · rw [if_pos c]
      · rw [if_neg c, if_pos (by simp [mi_I])]
    rw [e2, bd1_s]
  unfold f_M_turn f_MDotRows_thrown
  rw [e, bd1_s, bd1_s, if_pos (by simp [mi_I])]
  exact ed_mk ⟨by simp [mi_I], RL_0 (fr0_69 (fr0_89 fr0_X)) q⟩
