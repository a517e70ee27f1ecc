/-! THE REFERENCE GOES THROUGH THE MODULES; MASKS -/
theorem mk_01 {a b c : Int32} {M : im_M} : f_MSquareRows_masked a b c M = some 0 ∨ f_MSquareRows_masked a b c M = some 1 := by
  unfold f_MSquareRows_masked
  (repeat' split) <;> first | exact Or.inl rfl | exact Or.inr rfl
theorem mk_M {a b c : Int32} {M N : im_M} : f_MSquareRows_masked a b c M = f_MSquareRows_masked a b c N := rfl
theorem mk_H {a b c : Int32} {M N : im_M} : f_HGrid_isTurned a b c M = f_MSquareRows_masked a b c N := rfl
noncomputable def tnB (k x y : Nat) : Bool := decide (f_MSquareRows_masked (nI k) (nI x) (nI y) mm_341 = some 1)
theorem mask_v {k x y : Nat} {M : im_M} : f_MSquareRows_masked (nI k) (nI x) (nI y) M = some (bI (tnB k x y)) := by
  unfold tnB
  rw [mk_M (N := mm_341)]
  rcases mk_01 (a := nI k) (b := nI x) (c := nI y) (M := mm_341) with z | z
  · rw [z]
    rfl
  · rw [z]
    rfl
theorem bI_x : ∀ a b : Bool, bI a ^^^ bI b = bI (Bool.xor a b) := by decide +kernel
theorem bI_0 : ∀ a : Bool, (bI a = 0) = (a = false) := fun a => by
  cases a with
  | false => exact propext ⟨fun _ => rfl, fun _ => rfl⟩
  | true => exact propext ⟨fun z => absurd z (by decide), fun z => by cases z⟩
theorem bI_i : ∀ a : Bool, ((if bI a = 0 then 0 else 1) : Int32) = bI a := by decide +kernel
def RCg (M0 M : im_M) (n W : Nat) (B : Nat → Nat) (F : Nat → Int32) (G : Nat → Int32) : Prop := im_i M 108 8 = nI n ∧ im_i M 113 = F ∧ (∀ k, k < W → B k < 256 ∧ im_i M 120 k = nI (B k)) ∧ im_i M 112 = G ∧ fr (2 ^ 112) [] M0 M
noncomputable def fR (B : Nat → Nat) (W m : Nat) (c x y : Nat) : Int32 := bI (Bool.xor (bitC B W c) (tnB m x y))
theorem s_through1 {M0 M : im_M} {n W m p r k : Nat} {B : Nat → Nat} {F : Nat → Int32} {s : CS2} {uw : Int32} (h : RCg M0 M n W B F s.1) (hn : 21 ≤ n ∧ n ≤ 177 ∧ n % 2 = 1) (hW : W ≤ 3706) (hp : p < (n - 1) / 2) (hr : r = rtC n p) (hu : uw = if p % 2 = 0 then 1 else 0) (hk : k < 2 * n) (hc : s.2 ≤ 100000) : ed (f_MSquareRows_goThrough_L37 (nI m) 0 (nI W) uw (nI r) (nI s.2) (nI k) M) (fun z => ∃ t', z = Sum.inl t' ∧ t'.1 = nI (cyS F (fR B W m) (rtC n p - k % 2) (ycO n p (k / 2)) s).2 ∧ t'.2.1 = nI (k + 1) ∧ RCg M0 t'.2.2 n W B F (cyS F (fR B W m) (rtC n p - k % 2) (ycO n p (k / 2)) s).1) := by
  obtain ⟨h1, h2, h4, h5, h6⟩ := h
  obtain ⟨b1, b2, b3⟩ := cy_b (n := n) (p := p) (i := k / 2) ⟨by omega, hn.2.2⟩ hp (by omega)
  unfold f_MSquareRows_goThrough_L37 cyS
  have e2 : (2 : Int32) * nI n = nI (2 * n) := nI_m 2
  have d2 : nI k / 2 = nI (k / 2) := nI_div (b := 2) (by omega) (by omega) (by omega)
  have r2 : nI k - nI (k / 2) * 2 = nI (k % 2) := by rw [← d2]; exact nI_rem (b := 2) (by omega) (by omega) (by omega)
  have ku : (uw = 0) = ¬ (p % 2 = 0) := by
    rw [hu]
    by_cases y : p % 2 = 0
    · rw [if_pos y]; exact propext ⟨fun z => absurd z (by decide), fun z => absurd y z⟩
    · rw [if_neg y]; exact propext ⟨fun _ => y, fun _ => rfl⟩
  have ey : (if uw = 0 then some (nI (k / 2)) else some ((nI n - 1) - nI (k / 2))) = some (nI (ycO n p (k / 2))) := by
    simp only [ku]
    unfold ycO
    by_cases y : p % 2 = 0
    · rw [if_neg (fun w => w y), if_pos y, nI_m1 (by omega), nI_sb (by omega)]
    · rw [if_pos y, if_neg y]
  have ex : nI r - nI (k % 2) = nI (rtC n p - k % 2) := by rw [hr, nI_sb (by omega)]
  obtain ⟨x, hx⟩ : ∃ x, x = rtC n p - k % 2 := ⟨_, rfl⟩
  obtain ⟨y, hy⟩ : ∃ y, y = ycO n p (k / 2) := ⟨_, rfl⟩
  rw [← hx] at ex ⊢
  rw [← hy] at ey b3 ⊢
  have e7 : nI x + (177 : Int32) * nI y = nI (177 * y + x) := by rw [nI_m, nI_add, Nat.add_comm]
  rw [h1, e2, if_nIl (by omega) (by omega), if_neg (by omega), d2, ey, bd1_s, r2, ex]
  unfold f_MSquareRows_moduleAt
  rw [bd1_s, e7, gd_pos (by rw [inb_nI (by omega)]; omega), nI_clamp (by omega), h2]
  by_cases z : F (177 * y + x) = 0
  · rw [if_neg (fun w => w z), if_pos z, mask_v, bd1_s]
    simp only [jn1]
    rw [if_pos trivial, if_neg (fun w => w trivial)]
    have e8 : (8 : Int32) * nI W = nI (8 * W) := nI_m 8
    have d8 : nI s.2 / 8 = nI (s.2 / 8) := nI_div (b := 8) (by omega) (by omega) (by omega)
    have r8 : nI s.2 - nI (s.2 / 8) * 8 = nI (s.2 % 8) := by rw [← d8]; exact nI_rem (b := 8) (by omega) (by omega) (by omega)
    have s7 : (7 : Int32) - nI (s.2 % 8) = iZ ((7 - s.2 % 8 : Nat) : Int) := by rw [show (7 : Int32) = nI 7 from rfl, nI_sb (by omega), iZ_nI]
    have bv : (if (8 : Int32) * nI W ≤ nI s.2 then some (0 : Int32) else gd (inb (nI s.2 / 8) 3800) <| some (((im_i M 120 (Int32.toNatClampNeg (nI s.2 / 8))) >>> (((7 : Int32) - (nI s.2 - nI s.2 / 8 * 8)) &&& 31 : Int32) : Int32) &&& 1)) = some (bI (bitC B W s.2)) := by
      unfold bitC
      rw [e8, d8, r8, s7, if_nIl (by omega) (by omega)]
      by_cases w : 8 * W ≤ s.2
      · rw [if_pos w, decide_eq_false (by omega), Bool.false_and]
        rfl
      · rw [if_neg w, gd_pos (by rw [inb_nI (by omega)]; omega), nI_clamp (by omega), (h4 (s.2 / 8) (by omega)).2, decide_eq_true (by omega), Bool.true_and, i_and1, ib_shr (by omega), ib_nI (by omega)]
        rfl
    rw [bv, bd1_s, gd_pos (by rw [inb_nI (by omega)]; omega), bI_i, bI_x, bd1_s, bd2_s]
    refine ed_mk ⟨_, rfl, nI_add s.2 1, nI_add k 1, ?_, ?_, fun k hk => ⟨(h4 k hk).1, ?_⟩, ?_, fr_I (by decide) h6⟩
    · rw [sk1 (by omega)]; exact h1
    · rw [up_o (by decide)]; exact h2
    · rw [sk1 (by omega)]; exact (h4 k hk).2
    · show im_i (im_setI M 112 (177 * y + x) _) 112 = upI s.1 (177 * y + x) (fR B W m s.2 x y)
      rw [up_I, h5]
      rfl
  · rw [if_pos z, if_neg z, bd2_s]
    exact ed_mk ⟨_, rfl, rfl, nI_add k 1, h1, h2, h4, h5, h6⟩
theorem s_through {M0 M : im_M} {n W m : Nat} {B : Nat → Nat} {F G : Nat → Int32} (h : RCg M0 M n W B F G) (hn : 21 ≤ n ∧ n ≤ 177 ∧ n % 2 = 1) (hW : W ≤ 3706) : ed (f_MSquareRows_goThrough (nI m) 0 (nI W) M) (fun R => RCg M0 R n W B F (allC n F (fR B W m) (G, 0)).1) := by
  unfold f_MSquareRows_goThrough
  rw [h.1, nI_m1 (by omega)]
  apply bd1_mk
  refine ed_mono (lp_for (S := CS2) (fun p s (t : Int32 × Int32 × Int32 × im_M) => t.1 = nI s.2 ∧ t.2.1 = (if p % 2 = 0 then 1 else 0) ∧ t.2.2.1 = iZ (if 6 ≤ n - 1 - 2 * p then ((n - 1 - 2 * p : Nat) : Int) else ((n - 1 - 2 * p : Nat) : Int) - 1) ∧ RCg M0 t.2.2.2 n W B F s.1 ∧ s.2 ≤ 2 * n * p) (Q := fun s R => RCg M0 R n W B F s.1) ((n - 1) / 2) (fun p s => colS n F (fR B W m) p s) ?_ ?_ (s := (G, 0)) ⟨rfl, rfl, ?_, h, Nat.zero_le _⟩) (fun R h => ed_mk h)
  · rintro p s ⟨x5, x6, x7, M8⟩ hp ⟨e1, e2, e3, h8, c8⟩
    replace e1 : x5 = nI s.2 := e1
    replace e2 : x6 = (if p % 2 = 0 then 1 else 0) := e2
    replace e3 : x7 = iZ (if 6 ≤ n - 1 - 2 * p then ((n - 1 - 2 * p : Nat) : Int) else ((n - 1 - 2 * p : Nat) : Int) - 1) := e3
    replace h8 : RCg M0 M8 n W B F s.1 := h8
    obtain ⟨q, hq⟩ : ∃ q, q = n - 1 - 2 * p := ⟨_, rfl⟩
    have q2 : 2 ≤ q ∧ q ≤ 176 := by omega
    have qe : q % 2 = 0 := by omega
    rw [← hq] at e3
    have pn : 2 * n * p ≤ 2 * n * 88 := Nat.mul_le_mul_left _ (by omega)
    have e7 : x7 = nI (if 6 ≤ q then q else q - 1) := by
      rw [e3, iZ_nI]
      congr 1
      by_cases y : 6 ≤ q
      · rw [if_pos y, if_pos y]
      · rw [if_neg y, if_neg y]; omega
    have er : ((if ¬ x7 = 6 then x7 else 5) : Int32) = nI (rtC n p) := by
      have k6 : (nI (if 6 ≤ q then q else q - 1) = 6) = ((if 6 ≤ q then q else q - 1) = 6) := nIe (c := 6) (by split <;> omega) (by omega)
      unfold rtC
      rw [← hq, e7]
      simp only [k6]
      by_cases y : 6 < q
      · rw [if_pos (show 6 ≤ q by omega), if_pos (by omega), if_pos y]
      · rw [if_neg y]
        by_cases w : q = 6
        · rw [if_pos (show 6 ≤ q by omega), if_neg (fun u => u w), w]
          rfl
        · rw [if_neg (show ¬ 6 ≤ q by omega), if_pos (by omega)]
    have ez : ¬ x7 ≤ 0 := by
      rw [e7, show (0 : Int32) = nI 0 from rfl, nIl (by split <;> omega) (by omega)]
      split <;> omega
    have en : nI (rtC n p) + (-2) = iZ (if 6 ≤ n - 1 - 2 * (p + 1) then ((n - 1 - 2 * (p + 1) : Nat) : Int) else ((n - 1 - 2 * (p + 1) : Nat) : Int) - 1) := by
      rw [iZ_nI, show (-2 : Int32) = iZ (-2) from rfl, iZ_add]
      congr 1
      unfold rtC
      rw [← hq, show n - 1 - 2 * (p + 1) = q - 2 by omega]
      by_cases y : 6 < q
      · rw [if_pos y, if_pos (show 6 ≤ q - 2 by omega)]; omega
      · rw [if_neg y, if_neg (show ¬ 6 ≤ q - 2 by omega)]; omega
    have eu : ((if ¬ x6 = 0 then 0 else 1) : Int32) = if (p + 1) % 2 = 0 then 1 else 0 := by
      rw [e2]
      by_cases y : p % 2 = 0
      · rw [if_pos y, if_neg (show ¬ (p + 1) % 2 = 0 by omega)]; decide
      · rw [if_neg y, if_pos (show (p + 1) % 2 = 0 by omega)]; decide
    show ed (f_MSquareRows_goThrough_L14 (nI m) 0 (nI W) x5 x6 x7 M8) _
    unfold f_MSquareRows_goThrough_L14
    rw [if_neg ez, er, en, eu, e1]
    apply bd2_mk
    refine ed_mono (lp_for (S := CS2) (fun k a (t : Int32 × Int32 × im_M) => t.1 = nI a.2 ∧ t.2.1 = nI k ∧ RCg M0 t.2.2 n W B F a.1 ∧ a.2 ≤ s.2 + k) (Q := fun a (r : Int32 × im_M) => r.1 = nI a.2 ∧ RCg M0 r.2 n W B F a.1 ∧ a.2 ≤ s.2 + 2 * n) (2 * n) (fun k a => cyS F (fR B W m) (rtC n p - k % 2) (ycO n p (k / 2)) a) ?_ ?_ (s := s) ⟨rfl, rfl, h8, Nat.le_refl _⟩) ?_
    · rintro k a ⟨x16, x17, M18⟩ hk ⟨f1, f2, h18, c18⟩
      replace f1 : x16 = nI a.2 := f1
      replace f2 : x17 = nI k := f2
      replace h18 : RCg M0 M18 n W B F a.1 := h18
      subst f1 f2
      show ed (f_MSquareRows_goThrough_L37 (nI m) 0 (nI W) x6 (nI (rtC n p)) (nI a.2) (nI k) M18) _
      refine ed_mono (s_through1 h18 hn hW hp rfl e2 hk (by omega)) ?_
      rintro z ⟨t', z1, z2, z3, z4⟩
      refine ⟨t', z1, z2, z3, z4, ?_⟩
      unfold cyS
      split
      · show a.2 + 1 ≤ _; omega
      · omega
    · rintro a ⟨x16, x17, M18⟩ ⟨f1, f2, h18, c18⟩
      replace f2 : x17 = nI (2 * n) := f2
      replace h18 : RCg M0 M18 n W B F a.1 := h18
      subst f2
      show ed (f_MSquareRows_goThrough_L37 (nI m) 0 (nI W) x6 (nI (rtC n p)) x16 (nI (2 * n)) M18) _
      unfold f_MSquareRows_goThrough_L37
      have e2 : (2 : Int32) * nI n = nI (2 * n) := nI_m 2
      rw [h18.1, e2, if_pos (by rw [nIl (by omega) (by omega)]; omega)]
      exact ed_mk ⟨_, rfl, f1, h18, c18⟩
    · rintro ⟨y77, M78⟩ ⟨r1, r2, r3⟩
      refine ed_mk ⟨_, rfl, r1, rfl, rfl, r2, ?_⟩
      replace r3 : (colS n F (fR B W m) p s).2 ≤ s.2 + 2 * n := r3
      show (colS n F (fR B W m) p s).2 ≤ 2 * n * (p + 1)
      rw [Nat.mul_succ]
      omega
  · rintro s ⟨x5, x6, x7, M8⟩ ⟨e1, e2, e3, h8, c8⟩
    replace e3 : x7 = iZ (if 6 ≤ n - 1 - 2 * ((n - 1) / 2) then ((n - 1 - 2 * ((n - 1) / 2) : Nat) : Int) else ((n - 1 - 2 * ((n - 1) / 2) : Nat) : Int) - 1) := e3
    rw [show n - 1 - 2 * ((n - 1) / 2) = 0 by omega, if_neg (by omega)] at e3
    show ed (f_MSquareRows_goThrough_L14 (nI m) 0 (nI W) x5 x6 x7 M8) _
    unfold f_MSquareRows_goThrough_L14
    rw [e3, if_pos (by decide)]
    exact ed_mk ⟨_, rfl, h8⟩
  · show nI (n - 1) = iZ (if 6 ≤ n - 1 - 2 * 0 then ((n - 1 - 2 * 0 : Nat) : Int) else ((n - 1 - 2 * 0 : Nat) : Int) - 1)
    rw [if_pos (by omega), iZ_nI]
    rfl
/-- how far the columns are done -/
def lfC (n p : Nat) : Nat := if 6 < n - 1 - 2 * p then n - 2 * p else n - 1 - 2 * p
/-- modules that both have gone through are alike, but for the mask -/
theorem all_rel {n W m : Nat} {B : Nat → Nat} {F F' G G' : Nat → Int32} (hn : 21 ≤ n ∧ n ≤ 177 ∧ n % 2 = 1) (hF : ∀ x y, x < n → y < n → F (177 * y + x) = F' (177 * y + x)) (h6 : ∀ y, y < n → ¬ F (177 * y + 6) = 0) : ∀ x y, x < n → y < n → F (177 * y + x) = 0 → ∃ b : Bool, (allC n F (fun c _ _ => bI (bitC B W c)) (G, 0)).1 (177 * y + x) = bI b ∧ (allC n F' (fR B W m) (G', 0)).1 (177 * y + x) = bI (Bool.xor b (tnB m x y)) := by
  have key := itN_rel (S := CS2) (T := CS2) (f := fun p s => colS n F (fun c _ _ => bI (bitC B W c)) p s) (g := fun p s => colS n F' (fR B W m) p s) (s := (G, 0)) (t := (G', 0)) (R := fun p s t => s.2 = t.2 ∧ ∀ x y, x < n → y < n → F (177 * y + x) = 0 → lfC n p ≤ x → ∃ b : Bool, s.1 (177 * y + x) = bI b ∧ t.1 (177 * y + x) = bI (Bool.xor b (tnB m x y))) ⟨rfl, fun x y hx hy _ hl => by
      unfold lfC at hl
      rw [if_pos (by omega)] at hl
      omega⟩ ((n - 1) / 2) ?_
  · intro x y hx hy hz
    refine key.2 x y hx hy hz ?_
    unfold lfC
    rw [if_neg (by omega)]
    omega
  · intro p a b hp ⟨hc, hR⟩
    have inner := itN_rel (S := CS2) (T := CS2) (f := fun k s => cyS F (fun c _ _ => bI (bitC B W c)) (rtC n p - k % 2) (ycO n p (k / 2)) s) (g := fun k s => cyS F' (fR B W m) (rtC n p - k % 2) (ycO n p (k / 2)) s) (s := a) (t := b) (R := fun k s t => s.2 = t.2 ∧ ∀ x y, x < n → y < n → F (177 * y + x) = 0 → (lfC n p ≤ x ∨ ∃ j, j < k ∧ x = rtC n p - j % 2 ∧ y = ycO n p (j / 2)) → ∃ b : Bool, s.1 (177 * y + x) = bI b ∧ t.1 (177 * y + x) = bI (Bool.xor b (tnB m x y))) ⟨hc, fun x y hx hy hz hv => by
        rcases hv with hv | ⟨j, hj, _⟩
        · exact hR x y hx hy hz hv
        · exact absurd hj (Nat.not_lt_zero _)⟩ (2 * n) (fun k s t hk hq => by
      obtain ⟨q1, q2⟩ := hq
      obtain ⟨b1, b2, b3⟩ := cy_b (n := n) (p := p) (i := k / 2) ⟨by omega, hn.2.2⟩ hp (by omega)
      obtain ⟨x0, hx0⟩ : ∃ x0, x0 = rtC n p - k % 2 := ⟨_, rfl⟩
      obtain ⟨y0, hy0⟩ : ∃ y0, y0 = ycO n p (k / 2) := ⟨_, rfl⟩
      show (cyS F _ (rtC n p - k % 2) (ycO n p (k / 2)) s).2 = (cyS F' _ (rtC n p - k % 2) (ycO n p (k / 2)) t).2 ∧ ∀ x y, x < n → y < n → F (177 * y + x) = 0 → (lfC n p ≤ x ∨ ∃ j, j < k + 1 ∧ x = rtC n p - j % 2 ∧ y = ycO n p (j / 2)) → ∃ b : Bool, (cyS F _ (rtC n p - k % 2) (ycO n p (k / 2)) s).1 (177 * y + x) = bI b ∧ (cyS F' _ (rtC n p - k % 2) (ycO n p (k / 2)) t).1 (177 * y + x) = bI (Bool.xor b (tnB m x y))
      rw [← hx0, ← hy0]
      rw [← hy0] at b3
      have x0n : x0 < n := by omega
      unfold cyS
      rw [← hF x0 y0 x0n b3]
      by_cases z : F (177 * y0 + x0) = 0
      · rw [if_pos z, if_pos z]
        refine ⟨(show s.2 + 1 = t.2 + 1 by omega), fun x y hx hy hz hv => ?_⟩
        show ∃ b : Bool, upI s.1 (177 * y0 + x0) (bI (bitC B W s.2)) (177 * y + x) = bI b ∧ upI t.1 (177 * y0 + x0) (fR B W m t.2 x0 y0) (177 * y + x) = bI (Bool.xor b (tnB m x y))
        by_cases e : x = x0 ∧ y = y0
        · rw [e.1, e.2, up_hit, up_hit, ← q1]
          exact ⟨_, rfl, rfl⟩
        · have ne : 177 * y + x ≠ 177 * y0 + x0 := by omega
          rw [up_sk ne, up_sk ne]
          refine q2 x y hx hy hz ?_
          rcases hv with hv | ⟨j, hj, jx, jy⟩
          · exact Or.inl hv
          · by_cases w : j = k
            · exfalso
              apply e
              rw [hx0, hy0, ← w]
              exact ⟨jx, jy⟩
            · exact Or.inr ⟨j, by omega, jx, jy⟩
      · rw [if_neg z, if_neg z]
        refine ⟨q1, fun x y hx hy hz hv => ?_⟩
        refine q2 x y hx hy hz ?_
        rcases hv with hv | ⟨j, hj, jx, jy⟩
        · exact Or.inl hv
        · by_cases w : j = k
          · exfalso
            apply z
            rw [w, ← hx0] at jx
            rw [w, ← hy0] at jy
            rw [← jx, ← jy]
            exact hz
          · exact Or.inr ⟨j, by omega, jx, jy⟩)
    refine ⟨inner.1, fun x y hx hy hz hl => ?_⟩
    refine inner.2 x y hx hy hz ?_
    by_cases c1 : lfC n p ≤ x
    · exact Or.inl c1
    · right
      have x6 : x ≠ 6 := fun e => by
        rw [e] at hz
        exact h6 y hy hz
      have xr : x = rtC n p ∨ x = rtC n p - 1 := by
        obtain ⟨q, hq⟩ : ∃ q, q = n - 1 - 2 * p := ⟨_, rfl⟩
        have q2 : 2 ≤ q ∧ q % 2 = 0 := by omega
        unfold lfC at hl c1
        unfold rtC
        rw [show n - 1 - 2 * (p + 1) = q - 2 by omega, show n - 2 * (p + 1) = q - 1 by omega] at hl
        rw [← hq, show n - 2 * p = q + 1 by omega] at c1
        rw [← hq]
        by_cases y1 : 6 < q
        · rw [if_pos y1] at c1 ⊢
          by_cases y2 : 6 < q - 2
          · rw [if_pos y2] at hl; omega
          · rw [if_neg y2] at hl; omega
        · rw [if_neg y1] at c1 ⊢
          rw [if_neg (by omega)] at hl
          omega
      obtain ⟨i, hi, hyi⟩ : ∃ i, i < n ∧ y = ycO n p i := by
        unfold ycO
        by_cases w : p % 2 = 0
        · exact ⟨n - 1 - y, by omega, by rw [if_pos w]; omega⟩
        · exact ⟨y, hy, by rw [if_neg w]⟩
      rcases xr with e | e
      · exact ⟨2 * i, by omega, by rw [show 2 * i % 2 = 0 by omega]; exact e, by rw [show 2 * i / 2 = i by omega]; exact hyi⟩
      · exact ⟨2 * i + 1, by omega, by rw [show (2 * i + 1) % 2 = 1 by omega]; exact e, by rw [show (2 * i + 1) / 2 = i by omega]; exact hyi⟩
/-- fixed modules stay as they are -/
theorem all_fix {n : Nat} {F G : Nat → Int32} {f : Nat → Nat → Nat → Int32} (k : Nat) (hk : ¬ F k = 0) : (allC n F f (G, 0)).1 k = G k := by
  refine itN_inv (R := fun _ (s : CS2) => s.1 k = G k) (f := fun p s => colS n F f p s) (s := (G, 0)) rfl _ (fun p a _ q => ?_)
  refine itN_inv (R := fun _ (s : CS2) => s.1 k = G k) (f := fun k s => cyS F f (rtC n p - k % 2) (ycO n p (k / 2)) s) (s := a) q _ (fun j b _ q2 => ?_)
  show (cyS F f _ _ b).1 k = G k
  unfold cyS
  split
  · rename_i z
    show upI b.1 _ _ k = G k
    rw [up_sk (fun e => hk (by rw [e]; exact z))]
    exact q2
  · exact q2
