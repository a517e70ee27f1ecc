/-! MASKS OF THE CLASS -/
/-- the modules and what is fixed, in the square alone -/
def GRc (M : im_M) (n : Nat) (s : GS) : Prop := ∀ x y, x < n → y < n → im_i M 54 (177 * y + x) = s.1 (177 * y + x) ∧ im_i M 55 (177 * y + x) = s.2 (177 * y + x)
theorem fl_x : ∀ a b : Bool, vp_nar .byte ((Int32.toInt8 (bI a ^^^ 1)).toInt32) = bI (!a) := by decide +kernel
theorem s_turnC {M0 M : im_M} {n k : Nat} {g : Nat → Nat → Bool} {F : Nat → Int32} (h1 : im_i M 38 1 = nI n) (hn : n ≤ 177) (hF : im_i M 55 = F) (hg : ∀ x y, x < n → y < n → F (177 * y + x) = 0 → im_i M 54 (177 * y + x) = bI (g x y)) : ed (f_HGrid_turnMask (nI k) M) (fun R => (∀ x y, x < n → y < n → F (177 * y + x) = 0 → im_i R 54 (177 * y + x) = bI (Bool.xor (g x y) (tnB k x y))) ∧ (∀ j, ¬ F j = 0 → im_i R 54 j = im_i M 54 j) ∧ fr (2 ^ 54) [] M R) := by
  unfold f_HGrid_turnMask
  apply bd1_mk
  refine ed_mono (lp_inv (fun m (s : Int32 × im_M) => ∃ y : Nat, y + m = n ∧ s.1 = nI y ∧ (∀ x j, x < n → j < n → F (177 * j + x) = 0 → im_i s.2 54 (177 * j + x) = if j < y then bI (Bool.xor (g x j) (tnB k x j)) else bI (g x j)) ∧ (∀ j, ¬ F j = 0 → im_i s.2 54 j = im_i M 54 j) ∧ fr (2 ^ 54) [] M s.2) (Q := fun R => (∀ x y, x < n → y < n → F (177 * y + x) = 0 → im_i R 54 (177 * y + x) = bI (Bool.xor (g x y) (tnB k x y))) ∧ (∀ j, ¬ F j = 0 → im_i R 54 j = im_i M 54 j) ∧ fr (2 ^ 54) [] M R) ?_ (k := n) ⟨0, by omega, rfl, fun x j hx hj hz => by rw [if_neg (Nat.not_lt_zero _)]; exact hg x j hx hj hz, fun _ _ => rfl, fr_refl⟩) (fun R h => ed_mk h)
  rintro m ⟨x3, M4⟩ ⟨y, hy, e1, r4, k4, f4⟩
  replace e1 : x3 = nI y := e1
  replace r4 : ∀ x j, x < n → j < n → F (177 * j + x) = 0 → im_i M4 54 (177 * j + x) = if j < y then bI (Bool.xor (g x j) (tnB k x j)) else bI (g x j) := r4
  replace k4 : ∀ j, ¬ F j = 0 → im_i M4 54 j = im_i M 54 j := k4
  replace f4 : fr (2 ^ 54) [] M M4 := f4
  subst e1
  show ed (f_HGrid_turnMask_L2 (nI k) (nI y) M4) _
  unfold f_HGrid_turnMask_L2
  have w4 : im_i M4 38 1 = nI n := (f4.1 38 1 (by decide) (by simp)).trans h1
  rw [w4, if_nIl (by omega) (by omega)]
  by_cases c : n ≤ y
  · rw [if_pos c]
    refine lpo_r ⟨fun x j hx hj hz => ?_, k4, f4⟩
    rw [r4 x j hx hj hz, if_pos (by omega)]
  · rw [if_neg c]
    apply bd1_mk
    refine ed_mono (lp_inv (fun m (s : Int32 × im_M) => ∃ u : Nat, u + m = n ∧ s.1 = nI u ∧ (∀ x j, x < n → j < n → F (177 * j + x) = 0 → im_i s.2 54 (177 * j + x) = if j < y ∨ (j = y ∧ x < u) then bI (Bool.xor (g x j) (tnB k x j)) else bI (g x j)) ∧ (∀ j, ¬ F j = 0 → im_i s.2 54 j = im_i M 54 j) ∧ fr (2 ^ 54) [] M s.2) (Q := fun R => (∀ x j, x < n → j < n → F (177 * j + x) = 0 → im_i R 54 (177 * j + x) = if j < y + 1 then bI (Bool.xor (g x j) (tnB k x j)) else bI (g x j)) ∧ (∀ j, ¬ F j = 0 → im_i R 54 j = im_i M 54 j) ∧ fr (2 ^ 54) [] M R) ?_ (k := n) ⟨0, by omega, rfl, fun x j hx hj hz => ?_, k4, f4⟩) ?_
    · rintro m ⟨x8, M9⟩ ⟨u, hu, e1, r9, k9, f9⟩
      replace e1 : x8 = nI u := e1
      replace r9 : ∀ x j, x < n → j < n → F (177 * j + x) = 0 → im_i M9 54 (177 * j + x) = if j < y ∨ (j = y ∧ x < u) then bI (Bool.xor (g x j) (tnB k x j)) else bI (g x j) := r9
      replace k9 : ∀ j, ¬ F j = 0 → im_i M9 54 j = im_i M 54 j := k9
      replace f9 : fr (2 ^ 54) [] M M9 := f9
      subst e1
      show ed (f_HGrid_turnMask_L12 (nI k) (nI y) (nI u) M9) _
      unfold f_HGrid_turnMask_L12
      have w9 : im_i M9 38 1 = nI n := (f9.1 38 1 (by decide) (by simp)).trans h1
      have a9 : im_i M9 55 = F := (fr_c f9 55 (by decide) (by simp)).trans hF
      rw [w9, if_nIl (by omega) (by omega)]
      by_cases d : n ≤ u
      · rw [if_pos d]
        refine lpo_r ⟨fun x j hx hj hz => ?_, k9, f9⟩
        rw [r9 x j hx hj hz]
        by_cases w : j < y + 1
        · rw [if_pos w, if_pos (by omega)]
        · rw [if_neg w, if_neg (by omega)]
      · have e7 : nI y * 177 + nI u = nI (177 * y + u) := by rw [show (177 : Int32) = nI 177 from rfl, nI_mul, nI_add, Nat.mul_comm]
        rw [if_neg d, e7, gd_pos (by rw [inb_nI (by omega)]; omega), nI_clamp (by omega), a9]
        have nx : ∀ R : im_M, fr (2 ^ 54) [] M R → (∀ j, ¬ F j = 0 → im_i R 54 j = im_i M 54 j) → (∀ x j, x < n → j < n → F (177 * j + x) = 0 → im_i R 54 (177 * j + x) = if j < y ∨ (j = y ∧ x < u + 1) then bI (Bool.xor (g x j) (tnB k x j)) else bI (g x j)) → ed (some (Sum.inl (nI u + 1, R) : (Int32 × im_M) ⊕ im_M)) (lpo (fun m (s : Int32 × im_M) => ∃ u : Nat, u + m = n ∧ s.1 = nI u ∧ (∀ x j, x < n → j < n → F (177 * j + x) = 0 → im_i s.2 54 (177 * j + x) = if j < y ∨ (j = y ∧ x < u) then bI (Bool.xor (g x j) (tnB k x j)) else bI (g x j)) ∧ (∀ j, ¬ F j = 0 → im_i s.2 54 j = im_i M 54 j) ∧ fr (2 ^ 54) [] M s.2) (fun R => (∀ x j, x < n → j < n → F (177 * j + x) = 0 → im_i R 54 (177 * j + x) = if j < y + 1 then bI (Bool.xor (g x j) (tnB k x j)) else bI (g x j)) ∧ (∀ j, ¬ F j = 0 → im_i R 54 j = im_i M 54 j) ∧ fr (2 ^ 54) [] M R) m) := fun R fR kR rR => lpo_l (m - 1) (by omega) ⟨u + 1, by omega, nI_add u 1, rR, kR, fR⟩
        by_cases z : F (177 * y + u) = 0
        · have v9 := r9 u y (by omega) (by omega) z
          rw [if_neg (by omega)] at v9
          rw [if_neg (fun w => w z), mk_H (N := M9), mask_v, bd1_s]
          simp only [bI_0]
          cases t : tnB k u y with
          | false =>
            rw [if_pos rfl, bd1_s]
            refine nx M9 f9 k9 (fun x j hx hj hz => ?_)
            rw [r9 x j hx hj hz]
            by_cases w : j < y ∨ (j = y ∧ x < u)
            · rw [if_pos w, if_pos (by omega)]
            · rw [if_neg w]
              by_cases v : j = y ∧ x = u
              · rw [if_pos (by omega), v.1, v.2, t, Bool.xor_false]
              · rw [if_neg (by omega)]
          | true =>
            rw [if_neg (by decide), gd_pos (by rw [inb_nI (by omega)]; omega), gd_pos (by rw [inb_nI (by omega)]; omega), v9, fl_x _ true, bd1_s]
            refine nx _ (fr_I (by decide) f9) (fun j hj => ?_) (fun x j hx hj hz => ?_)
            · rw [sk1 (fun w => hj (by rw [w.2]; exact z))]
              exact k9 j hj
            · by_cases v : j = y ∧ x = u
              · rw [v.1, v.2, hit, if_pos (by omega), t, Bool.xor_true]
              · rw [sk1 (by omega), r9 x j hx hj hz]
                by_cases w : j < y ∨ (j = y ∧ x < u)
                · rw [if_pos w, if_pos (by omega)]
                · rw [if_neg w, if_neg (by omega)]
        · rw [if_pos z, bd1_s]
          refine nx M9 f9 k9 (fun x j hx hj hz => ?_)
          rw [r9 x j hx hj hz]
          by_cases w : j < y ∨ (j = y ∧ x < u)
          · rw [if_pos w, if_pos (by omega)]
          · rw [if_neg w]
            by_cases v : j = y ∧ x = u
            · rw [v.1, v.2] at hz
              exact absurd hz z
            · rw [if_neg (by omega)]
    · show im_i M4 54 (177 * j + x) = _
      rw [r4 x j hx hj hz]
      by_cases w : j < y
      · rw [if_pos w, if_pos (by omega)]
      · rw [if_neg w, if_neg (by omega)]
    · rintro R ⟨rR, kR, fR⟩
      exact lpo_l (m - 1) (by omega) ⟨y + 1, by omega, nI_add y 1, rR, kR, fR⟩
/-- the form stands on fixed modules only -/
def FFx (n : Nat) (s : GS) : Prop := ∀ x y, x < n → y < n → isF n 0 x y → s.2 (177 * y + x) = 1
theorem fm_FF {n : Nat} {w : Int32} {s : GS} (hn : n ≤ 177) : FFx n (fmF n w s) := by
  have k := itN_inv (R := fun i (s : GS) => ∀ x y j c, x < n → y < n → j < i → c < 2 → x = fmX n j c → y = fmY n j c → s.2 (177 * y + x) = 1) (f := fun i s => fmS n w i s) (s := s) (fun x y j c _ _ hj => absurd hj (Nat.not_lt_zero _)) 15 (fun i a hi q x y j c hx hy hj hc ex ey => by
    show (fx n _ _ _ (fx n _ _ _ a)).2 (177 * y + x) = 1
    rw [(fx_at hn hx hy).2, (fx_at hn hx hy).2]
    by_cases e : j = i
    · subst e
      have d : c = 0 ∨ c = 1 := by omega
      rcases d with rfl | rfl
      · split
        · rfl
        · rw [if_pos ⟨by omega, by omega⟩]
      · rw [if_pos ⟨by omega, by omega⟩]
    · have z := q x y j c hx hy (by omega) hc ex ey
      split
      · rfl
      · split
        · rfl
        · exact z)
  rintro x y hx hy ⟨j, c, _, h2, h3, h4, h5⟩
  exact k x y j c hx hy h2 h3 h4 h5
theorem frm_FF {n v : Nat} {w : Int32} {s : GS} (hn : n ≤ 177) : FFx n (frmG n v w s) := by
  have hk : kpG n (FFx n) := fun a b d s h x y hx hy hf => by
    rw [(fx_at hn hx hy).2]
    split
    · rfl
    · exact h x y hx hy hf
  have hD : FFx n (frmD n w (frmB n v (frmA n s))) := hk _ _ _ _ (fm_FF hn)
  unfold frmG frmE
  split
  · exact hD
  · exact it_kp (n := n) (fun _ _ q => hk _ _ _ _ (hk _ _ _ _ q)) hD
/-- the form changes nothing but itself -/
theorem fm_o {n x y : Nat} {w : Int32} {s : GS} (hn : n ≤ 177) (hF : FFx n s) (hx : x < n) (hy : y < n) : (fmF n w s).2 (177 * y + x) = s.2 (177 * y + x) ∧ (¬ isF n 0 x y → (fmF n w s).1 (177 * y + x) = s.1 (177 * y + x)) := by
  have k := itN_inv (R := fun _ (t : GS) => t.2 (177 * y + x) = s.2 (177 * y + x) ∧ (¬ isF n 0 x y → t.1 (177 * y + x) = s.1 (177 * y + x))) (f := fun i s => fmS n w i s) (s := s) ⟨rfl, fun _ => rfl⟩ 15 (fun i a hi q => by
    have one : ∀ (c : Nat) (a : GS), c < 2 → (a.2 (177 * y + x) = s.2 (177 * y + x) ∧ (¬ isF n 0 x y → a.1 (177 * y + x) = s.1 (177 * y + x))) → ((fx n ((fmX n i c : Nat) : Int) ((fmY n i c : Nat) : Int) (ib w i) a).2 (177 * y + x) = s.2 (177 * y + x) ∧ (¬ isF n 0 x y → (fx n ((fmX n i c : Nat) : Int) ((fmY n i c : Nat) : Int) (ib w i) a).1 (177 * y + x) = s.1 (177 * y + x))) := fun c a hc q => by
      rw [(fx_at hn hx hy).1, (fx_at hn hx hy).2]
      by_cases e : ((fmX n i c : Nat) : Int) = (x : Int) ∧ ((fmY n i c : Nat) : Int) = (y : Int)
      · have f : isF n 0 x y := ⟨i, c, Nat.zero_le _, hi, hc, by omega, by omega⟩
        rw [if_pos e, if_pos e]
        exact ⟨(hF x y hx hy f).symm, fun z => absurd f z⟩
      · rw [if_neg e, if_neg e]
        exact q
    exact one 1 _ (by omega) (one 0 a (by omega) q))
  exact k
