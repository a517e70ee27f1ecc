/-! THE REFERENCE GIVES AN ORDER -/
def sxI (x i j r : Int32) : Int32 := if ¬ r = 0 then (if ¬ r = 1 then (if ¬ r = 2 then x + j else x - i) else x - j) else x + i
def syI (y i j r : Int32) : Int32 := if ¬ r = 0 then (if ¬ r = 1 then (if ¬ r = 2 then y - i else y - j) else y + i) else y + j
theorem s_stepX {x i j r : Int32} {M : im_M} : f_MScriptRows_stepX x i j r M = some (sxI x i j r) := by
  unfold f_MScriptRows_stepX sxI
  repeat' split
  all_goals rfl
theorem s_stepY {y i j r : Int32} {M : im_M} : f_MScriptRows_stepY y i j r M = some (syI y i j r) := by
  unfold f_MScriptRows_stepY syI
  repeat' split
  all_goals rfl
def farI (v : Int32) : Bool := decide (v < -4096) || !decide (v ≤ 4096)
theorem s_isFar {v : Int32} {M : im_M} : f_MScriptRows_isFar v M = some (if farI v = true then 1 else 0) := by
  unfold f_MScriptRows_isFar farI
  simp only [jn0]
  by_cases a : v < -4096
  · rw [if_pos a, decide_eq_true a, Bool.true_or, if_pos rfl]
  · rw [if_neg a, decide_eq_false a, Bool.false_or]
    by_cases b : v ≤ 4096
    · rw [if_pos b, decide_eq_true b]; rfl
    · rw [if_neg b, decide_eq_false b]; rfl
/-- whether something was wrong, after one more order -/
def wrI (M : im_M) (f : Nat) (r i j : Int32) : Int32 := if ¬ im_i M 71 32 = 0 then 1 else if farI (sxI (im_i M 82 (16 * f + 5)) i j r) = true then 1 else if farI (syI (im_i M 82 (16 * f + 6)) i j r) = true then 1 else 0
theorem wr_mid {M : im_M} {f : Nat} {r i j : Int32} : (jn0 (fun (_ : Unit) => some (1 : Int32)) fun k4 => if ¬ (im_i M 71 32) = 0 then k4 () else bd1 (f_MScriptRows_isFar (sxI (im_i M 82 (16 * f + 5)) i j r) M) fun (x5 : Int32) => if ¬ x5 = 0 then k4 () else bd1 (f_MScriptRows_isFar (syI (im_i M 82 (16 * f + 6)) i j r) M) fun (x6 : Int32) => if x6 = 0 then some 0 else k4 ()) = some (wrI M f r i j) ∧ (wrI M f r i j = 0 ∨ wrI M f r i j = 1) := by
  unfold wrI
  simp only [jn0, s_isFar, bd1_s]
  by_cases a : im_i M 71 32 = 0
  · by_cases b : farI (sxI (im_i M 82 (16 * f + 5)) i j r) = true
    · simp [a, b]
    · by_cases c : farI (syI (im_i M 82 (16 * f + 6)) i j r) = true
      · simp [a, b, c]
      · simp [a, b, c]
  · simp [a]
theorem s_give0 {M : im_M} {f : Nat} {k r i j a s : Int32} (hf : 16 * f + 16 ≤ 2000) (hk : im_i M 71 33 = 0) : f_MScriptRows_give (nI f) k r i j a s M = some (im_setI (im_setI M 71 32 (wrI M f r i j)) 71 26 (im_i M 71 26 + 1)) := by
  have e5 : (16 : Int32) * nI f + 5 = nI (16 * f + 5) := by rw [nI_m]; exact nI_add _ 5
  have e6 : (16 : Int32) * nI f + 6 = nI (16 * f + 6) := by rw [nI_m]; exact nI_add _ 6
  unfold f_MScriptRows_give
  rw [e5, e6, gd_pos (by rw [inb_nI (by omega)]; omega), nI_clamp (by omega), s_stepX, bd1_s, gd_pos (by rw [inb_nI (by omega)]; omega), nI_clamp (by omega), s_stepY, bd1_s, (wr_mid (M := M) (f := f) (r := r) (i := i) (j := j)).1, bd1_s, gd_pos (wr_mid (M := M) (f := f) (r := r) (i := i) (j := j)).2]
  rw [if_neg (show ¬ ¬ im_i (im_setI (im_setI M 71 32 (wrI M f r i j)) 71 26 ((im_i (im_setI M 71 32 (wrI M f r i j)) 71 26) + 1)) 71 33 = 0 from fun z => z hk)]
  rfl
theorem s_have0 {M : im_M} {a b c : Int32} (hk : im_i M 71 33 = 0) : f_MScriptRows_have a b c M = some M := by
  unfold f_MScriptRows_have
  rw [if_pos hk]
/-- the bytes of an order -/
noncomputable def odB (M : im_M) (k : Int32) (a : Nat) (i : Nat) : Option Int32 := if ¬ k = 7 then some (im_i M 85 (a + i)) else bd1 (f_MScriptRows_hex (im_i M 85 (2 * i)) M) fun (x : Int32) => bd1 (f_MScriptRows_hex (im_i M 85 (2 * i + 1)) M) fun (y : Int32) => some ((16 : Int32) * x + y)
def odR (k x y r w s : Int32) (t : Nat) : Int32 := if t = 0 then k else if t = 1 then x else if t = 2 then y else if t = 3 then r else if t = 4 then w else if t = 8 then s else 0
theorem s_giveB {M : im_M} {k : Int32} {a s o : Nat} (h37 : im_i M 71 37 = nI o) (ho : o < 120) (ha : a + s ≤ 200) (hs : k = 7 → 2 * s ≤ 200) (hb : ∀ i, i < s → ∃ v, odB M k a i = some v) : ed (lp (uc2 (f_MScriptRows_give_L210 k (nI a) (nI s))) (0, M)) (fun r => fr (2 ^ 88) [] M r ∧ (∀ i, i < s → odB M k a i = some (im_i r 88 (200 * o + i))) ∧ ∀ p, ¬ (200 * o ≤ p ∧ p < 200 * o + s) → im_i r 88 p = im_i M 88 p) := by
  refine lp_inv (fun n (t : Int32 × im_M) => ∃ i : Nat, i + n = s ∧ t.1 = nI i ∧ fr (2 ^ 88) [] M t.2 ∧ (∀ x, x < i → odB M k a x = some (im_i t.2 88 (200 * o + x))) ∧ ∀ p, ¬ (200 * o ≤ p ∧ p < 200 * o + i) → im_i t.2 88 p = im_i M 88 p) ?_ (k := s) ⟨0, by omega, rfl, fr_refl, fun x hx => absurd hx (by omega), fun _ _ => rfl⟩
  rintro n ⟨x28, M29⟩ ⟨i, hi, e1, f, g1, g2⟩
  replace e1 : x28 = nI i := e1
  replace f : fr (2 ^ 88) [] M M29 := f
  replace g1 : ∀ x, x < i → odB M k a x = some (im_i M29 88 (200 * o + x)) := g1
  replace g2 : ∀ p, ¬ (200 * o ≤ p ∧ p < 200 * o + i) → im_i M29 88 p = im_i M 88 p := g2
  subst e1
  have e85 : im_i M29 85 = im_i M 85 := fr_c f 85 (by decide) (by decide)
  have e37 : im_i M29 71 37 = nI o := (f.1 71 37 (by decide) (by decide)).trans h37
  show ed (f_MScriptRows_give_L210 k (nI a) (nI s) (nI i) M29) _
  unfold f_MScriptRows_give_L210
  rw [if_nIl (by omega) (by omega)]
  by_cases c : s ≤ i
  · rw [if_pos c]
    obtain rfl : i = s := by omega
    exact lpo_r ⟨f, g1, g2⟩
  · obtain ⟨v, hv⟩ := hb i (by omega)
    have e2 : (2 : Int32) * nI i = nI (2 * i) := nI_m 2
    have e21 : nI (2 * i) + 1 = nI (2 * i + 1) := nI_add _ 1
    have hxm : ∀ y, f_MScriptRows_hex y M29 = f_MScriptRows_hex y M := fun y => rfl
    have val : (if ¬ k = 7 then gd (inb (nI a + nI i) 200) <| some (im_i M29 85 (Int32.toNatClampNeg (nI a + nI i))) else gd (inb ((2 : Int32) * nI i) 200) <| bd1 (f_MScriptRows_hex (im_i M29 85 (Int32.toNatClampNeg ((2 : Int32) * nI i))) M29) fun (x31 : Int32) => gd (inb (((2 : Int32) * nI i) + 1) 200) <| bd1 (f_MScriptRows_hex (im_i M29 85 (Int32.toNatClampNeg (((2 : Int32) * nI i) + 1))) M29) fun (x32 : Int32) => some (((16 : Int32) * x31) + x32)) = some v := by
      unfold odB at hv
      by_cases c7 : k = 7
      · rw [if_neg (fun z => z c7)] at hv ⊢
        have := hs c7
        rw [e2, e21, gd_pos (by rw [inb_nI (by omega)]; omega), nI_clamp (by omega), nI_clamp (by omega), e85, hxm]
        cases e : f_MScriptRows_hex (im_i M 85 (2 * i)) M with
        | none => rw [e] at hv; cases hv
        | some x =>
          rw [e, bd1_s] at hv
          rw [bd1_s, gd_pos (by rw [inb_nI (by omega)]; omega), hxm]
          exact hv
      · rw [if_pos c7] at hv ⊢
        rw [nI_add, gd_pos (by rw [inb_nI (by omega)]; omega), nI_clamp (by omega), e85]
        exact hv
    have ex : (200 : Int32) * nI o + nI i = nI (200 * o + i) := by rw [nI_m, nI_add]
    rw [if_neg c, val, bd1_s, e37, ex, gd_pos (by rw [inb_nI (by omega)]; omega), nI_clamp (by omega)]
    refine lpo_l (n - 1) (by omega) ⟨i + 1, by omega, nI_add i 1, fr_I (by decide) f, fun x hx => ?_, fun p hp => ?_⟩
    · show _ = some (if 200 * o + x = 200 * o + i then v else im_i M29 88 (200 * o + x))
      by_cases e : x = i
      · subst e
        rw [if_pos rfl]
        exact hv
      · rw [if_neg (by omega)]
        exact g1 x (by omega)
    · show (if p = 200 * o + i then v else im_i M29 88 p) = _
      rw [if_neg (by omega)]
      exact g2 p (by omega)
def odF (k x y r w a b c s : Int32) (t : Nat) : Int32 := if t = 5 then a else if t = 6 then b else if t = 7 then c else odR k x y r w s t
/-- nine numbers written -/
def row9 (M : im_M) (o : Nat) (v0 v1 v2 v3 v4 v5 v6 v7 v8 : Int32) : im_M := im_setI (im_setI (im_setI (im_setI (im_setI (im_setI (im_setI (im_setI (im_setI M 87 (9 * o) v0) 87 (9 * o + 1) v1) 87 (9 * o + 2) v2) 87 (9 * o + 3) v3) 87 (9 * o + 4) v4) 87 (9 * o + 5) v5) 87 (9 * o + 6) v6) 87 (9 * o + 7) v7) 87 (9 * o + 8) v8
theorem row9_i {M : im_M} {o : Nat} {v0 v1 v2 v3 v4 v5 v6 v7 v8 : Int32} (t : Nat) : im_i (row9 M o v0 v1 v2 v3 v4 v5 v6 v7 v8) 87 t = if t = 9 * o + 8 then v8 else if t = 9 * o + 7 then v7 else if t = 9 * o + 6 then v6 else if t = 9 * o + 5 then v5 else if t = 9 * o + 4 then v4 else if t = 9 * o + 3 then v3 else if t = 9 * o + 2 then v2 else if t = 9 * o + 1 then v1 else if t = 9 * o then v0 else im_i M 87 t := rfl
theorem row9_fr {M : im_M} {o : Nat} {v0 v1 v2 v3 v4 v5 v6 v7 v8 : Int32} : fr (2 ^ 87) [] M (row9 M o v0 v1 v2 v3 v4 v5 v6 v7 v8) := fr_I (by decide) (fr_I (by decide) (fr_I (by decide) (fr_I (by decide) (fr_I (by decide) (fr_I (by decide) (fr_I (by decide) (fr_I (by decide) (fr_I (by decide) fr_refl))))))))
theorem odB_c {M N : im_M} (h : im_i N 85 = im_i M 85) {k : Int32} {a i : Nat} : odB N k a i = odB M k a i := by
  unfold odB
  rw [h]
  rfl
theorem s_have1 {R : im_M} {o : Nat} {p b c : Int32} (h37 : im_i R 71 37 = nI (o + 1)) (ho : o < 120) (hk : im_i R 71 33 = 1) : f_MScriptRows_have p b c R = some (im_setI (im_setI (im_setI R 87 (9 * o + 5) p) 87 (9 * o + 6) b) 87 (9 * o + 7) c) := by
  unfold f_MScriptRows_have
  have s37 : ∀ (N : im_M) (t : Nat) (x : Int32), im_i (im_setI N 87 t x) 71 37 = im_i N 71 37 := fun _ _ _ => rfl
  have z9 : (9 : Int32) * nI (o + 1) = nI (9 * o + 9) := by rw [nI_m]; congr 1
  have z4 : nI (9 * o + 9) - 4 = nI (9 * o + 5) := by rw [nI_sm 4 (by show 4 ≤ _; omega)]; congr 1
  have z3 : nI (9 * o + 9) - 3 = nI (9 * o + 6) := by rw [nI_sm 3 (by show 3 ≤ _; omega)]; congr 1
  have z2 : nI (9 * o + 9) - 2 = nI (9 * o + 7) := by rw [nI_sm 2 (by show 2 ≤ _; omega)]; congr 1
  have kt : ∀ t, t < 9 → Int32.toNatClampNeg (nI (9 * o + t)) = 9 * o + t := fun t ht => nI_clamp (by omega)
  have gt : ∀ {Z : Type} (z : Option Z) (t : Nat), t < 9 → gd (inb (nI (9 * o + t)) 1080) z = z := fun z t ht => gd_pos (by rw [inb_nI (by omega)]; omega)
  rw [if_neg (by rw [hk]; decide)]
  simp only [s37, h37, z9, z4, z3, z2, kt 5 (by omega), kt 6 (by omega), kt 7 (by omega), gt _ 5 (by omega), gt _ 6 (by omega), gt _ 7 (by omega)]
/-- an order given, kept -/
theorem s_give1 {M : im_M} {f o a s : Nat} {k r i j : Int32} (hf : 16 * f + 16 ≤ 2000) (hk : im_i M 71 33 = 1) (h37 : im_i M 71 37 = nI o) (ho : o < 120) : f_MScriptRows_give (nI f) k r i j (nI a) (nI s) M = bd1 (lp (uc2 (f_MScriptRows_give_L210 k (nI a) (nI s))) (0, row9 (im_setI (im_setI M 71 32 (wrI M f r i j)) 71 26 (im_i M 71 26 + 1)) o k (sxI (im_i M 82 (16 * f + 5)) i j r) (syI (im_i M 82 (16 * f + 6)) i j r) r (im_i M 82 (16 * f + 7)) 0 0 0 (nI s))) fun (M39 : im_M) => some (im_setI M39 71 37 ((im_i M39 71 37) + 1)) := by
  have e5 : (16 : Int32) * nI f + 5 = nI (16 * f + 5) := by rw [nI_m]; exact nI_add _ 5
  have e6 : (16 : Int32) * nI f + 6 = nI (16 * f + 6) := by rw [nI_m]; exact nI_add _ 6
  have e7 : (16 : Int32) * nI f + 7 = nI (16 * f + 7) := by rw [nI_m]; exact nI_add _ 7
  unfold f_MScriptRows_give
  rw [e5, e6, e7, gd_pos (by rw [inb_nI (by omega)]; omega), nI_clamp (by omega), s_stepX, bd1_s, gd_pos (by rw [inb_nI (by omega)]; omega), nI_clamp (by omega), s_stepY, bd1_s, (wr_mid (M := M) (f := f) (r := r) (i := i) (j := j)).1, bd1_s, gd_pos (wr_mid (M := M) (f := f) (r := r) (i := i) (j := j)).2]
  generalize wrI M f r i j = w
  generalize sxI (im_i M 82 (16 * f + 5)) i j r = X
  generalize syI (im_i M 82 (16 * f + 6)) i j r = Y
  have g37 : im_i (im_setI (im_setI M 71 32 w) 71 26 ((im_i (im_setI M 71 32 w) 71 26) + 1)) 71 37 = nI o := h37
  have g33 : im_i (im_setI (im_setI M 71 32 w) 71 26 ((im_i (im_setI M 71 32 w) 71 26) + 1)) 71 33 = 1 := hk
  rw [g33, g37, if_pos (show ¬ (1 : Int32) = 0 by decide)]
  have q0 : (9 : Int32) * nI o = nI (9 * o) := nI_m 9
  have qt : ∀ t : Nat, nI (9 * o) + nI t = nI (9 * o + t) := fun t => nI_add _ t
  have q1 : nI (9 * o) + 1 = nI (9 * o + 1) := qt 1
  have q2 : nI (9 * o) + 2 = nI (9 * o + 2) := qt 2
  have q3 : nI (9 * o) + 3 = nI (9 * o + 3) := qt 3
  have q4 : nI (9 * o) + 4 = nI (9 * o + 4) := qt 4
  have q5 : nI (9 * o) + 5 = nI (9 * o + 5) := qt 5
  have q6 : nI (9 * o) + 6 = nI (9 * o + 6) := qt 6
  have q7 : nI (9 * o) + 7 = nI (9 * o + 7) := qt 7
  have q8 : nI (9 * o) + 8 = nI (9 * o + 8) := qt 8
  have kt : ∀ t, t < 9 → Int32.toNatClampNeg (nI (9 * o + t)) = 9 * o + t := fun t ht => nI_clamp (by omega)
  have k0 : Int32.toNatClampNeg (nI (9 * o)) = 9 * o := nI_clamp (by omega)
  have gt : ∀ {Z : Type} (z : Option Z) (t : Nat), t < 9 → gd (inb (nI (9 * o + t)) 1080) z = z := fun z t ht => gd_pos (by rw [inb_nI (by omega)]; omega)
  have gt0 : ∀ {Z : Type} (z : Option Z), gd (inb (nI (9 * o)) 1080) z = z := fun z => gd_pos (by rw [inb_nI (by omega)]; omega)
  have g16 : ∀ {Z : Type} (z : Option Z), gd (inb (nI (16 * f + 7)) 2000) z = z := fun z => gd_pos (by rw [inb_nI (by omega)]; omega)
  have k16 : Int32.toNatClampNeg (nI (16 * f + 7)) = 16 * f + 7 := nI_clamp (by omega)
  simp only [q0, q1, q2, q3, q4, q5, q6, q7, q8, k0, kt 1 (by omega), kt 2 (by omega), kt 3 (by omega), kt 4 (by omega), kt 5 (by omega), kt 6 (by omega), kt 7 (by omega), kt 8 (by omega), gt0, gt _ 1 (by omega), gt _ 2 (by omega), gt _ 3 (by omega), gt _ 4 (by omega), gt _ 5 (by omega), gt _ 6 (by omega), gt _ 7 (by omega), gt _ 8 (by omega), g16, k16]
  rfl
