/-! DOTS COUNTED; A FIGURE OF BOXES -/
theorem rowB_c {B C : Nat → Nat → Bool} {y : Nat} : ∀ {n : Nat}, (∀ x, x < n → B x y = C x y) → rowB B y n = rowB C y n := by
  intro n
  induction n with
  | zero => intro _; rfl
  | succ n ih =>
    intro h
    show rowB B y n + _ = rowB C y n + _
    rw [ih (fun x hx => h x (by omega)), h n (by omega)]
theorem allB_c {B C : Nat → Nat → Bool} {W : Nat} : ∀ {n : Nat}, (∀ x y, x < W → y < n → B x y = C x y) → allB B W n = allB C W n := by
  intro n
  induction n with
  | zero => intro _; rfl
  | succ n ih =>
    intro h
    show allB B W n + _ = allB C W n + _
    rw [ih (fun x y hx hy => h x y hx (by omega)), rowB_c (fun x hx => h x n hx (by omega))]
theorem rowB_or {B C : Nat → Nat → Bool} {y : Nat} : ∀ {n : Nat}, (∀ x, x < n → C x y = true → B x y = false) → rowB (fun a b => B a b || C a b) y n = rowB B y n + rowB C y n := by
  intro n
  induction n with
  | zero => intro _; rfl
  | succ n ih =>
    intro h
    show rowB (fun a b => B a b || C a b) y n + (if (B n y || C n y) = true then 1 else 0) = (rowB B y n + (if B n y = true then 1 else 0)) + (rowB C y n + (if C n y = true then 1 else 0))
    rw [ih (fun x hx => h x (by omega))]
    have := h n (by omega)
    cases hb : B n y with
    | false => cases hc : C n y <;> simp <;> omega
    | true =>
      cases hc : C n y with
      | false => simp; omega
      | true => rw [hb] at this; exact absurd (this hc) (by decide)
theorem allB_add {B C : Nat → Nat → Bool} {W : Nat} : ∀ {n : Nat}, (∀ x y, x < W → y < n → C x y = true → B x y = false) → allB (fun a b => B a b || C a b) W n = allB B W n + allB C W n := by
  intro n
  induction n with
  | zero => intro _; rfl
  | succ n ih =>
    intro h
    show allB (fun a b => B a b || C a b) W n + rowB (fun a b => B a b || C a b) n W = (allB B W n + rowB B n W) + (allB C W n + rowB C n W)
    rw [ih (fun x y hx hy => h x y hx (by omega)), rowB_or (fun x hx => h x n hx (by omega))]
    omega
theorem rowB_0 {B : Nat → Nat → Bool} {y : Nat} : ∀ {n : Nat}, (∀ x, x < n → B x y = false) → rowB B y n = 0 := by
  intro n
  induction n with
  | zero => intro _; rfl
  | succ n ih =>
    intro h
    show rowB B y n + (if B n y = true then 1 else 0) = 0
    rw [ih (fun x hx => h x (by omega)), h n (by omega)]
    rfl
theorem allB_0 {B : Nat → Nat → Bool} {W : Nat} : ∀ {n : Nat}, (∀ x y, x < W → y < n → B x y = false) → allB B W n = 0 := by
  intro n
  induction n with
  | zero => intro _; rfl
  | succ n ih =>
    intro h
    show allB B W n + rowB B n W = 0
    rw [ih (fun x y hx hy => h x y hx (by omega)), rowB_0 (fun x hx => h x n hx (by omega))]
theorem rowB_iv {B : Nat → Nat → Bool} {y a b : Nat} (hab : a ≤ b) (h : ∀ x, B x y = decide (a ≤ x ∧ x ≤ b)) : ∀ {n : Nat}, rowB B y n = if n ≤ a then 0 else if n ≤ b then n - a else b + 1 - a := by
  intro n
  induction n with
  | zero => rw [if_pos (by omega)]; rfl
  | succ n ih =>
    show rowB B y n + (if B n y = true then 1 else 0) = _
    rw [ih, h n]
    by_cases c : a ≤ n ∧ n ≤ b
    · rw [decide_eq_true c, if_pos (show (true : Bool) = true from rfl)]
      by_cases u : n ≤ a
      · rw [if_pos u, if_neg (by omega)]
        by_cases v : n + 1 ≤ b
        · rw [if_pos v]; omega
        · rw [if_neg v]; omega
      · rw [if_neg u, if_pos c.2, if_neg (by omega)]
        by_cases v : n + 1 ≤ b
        · rw [if_pos v]; omega
        · rw [if_neg v]; omega
    · rw [decide_eq_false c, if_neg (show ¬ (false : Bool) = true by decide), Nat.add_zero]
      by_cases u : n ≤ a
      · rw [if_pos u, if_pos (by omega)]
      · rw [if_neg u, if_neg (by omega), if_neg (by omega), if_neg (by omega)]
theorem allB_bx {B : Nat → Nat → Bool} {W a b c d : Nat} (hab : a ≤ b) (hb : b < W) (hcd : c ≤ d) (h : ∀ x y, x < W → B x y = decide (a ≤ x ∧ x ≤ b ∧ c ≤ y ∧ y ≤ d)) : ∀ {n : Nat}, allB B W n = (b + 1 - a) * (if n ≤ c then 0 else if n ≤ d then n - c else d + 1 - c) := by
  intro n
  induction n with
  | zero => rw [if_pos (by omega), Nat.mul_zero]; rfl
  | succ n ih =>
    show allB B W n + rowB B n W = _
    rw [ih]
    by_cases z : c ≤ n ∧ n ≤ d
    · have e : rowB B n W = b + 1 - a := by
        rw [rowB_c (C := fun x _ => decide (a ≤ x ∧ x ≤ b)) (fun x hx => by
          rw [h x n hx]
          by_cases u : a ≤ x ∧ x ≤ b
          · rw [decide_eq_true u, decide_eq_true ⟨u.1, u.2, z.1, z.2⟩]
          · rw [decide_eq_false u, decide_eq_false (fun v => u ⟨v.1, v.2.1⟩)]), rowB_iv (a := a) (b := b) hab (fun x => rfl), if_neg (by omega), if_neg (by omega)]
      rw [e]
      by_cases u : n ≤ c
      · obtain rfl : n = c := by omega
        rw [if_pos (Nat.le_refl _), if_neg (by omega), Nat.mul_zero, Nat.zero_add]
        by_cases v : n + 1 ≤ d
        · rw [if_pos v, show n + 1 - n = 1 by omega, Nat.mul_one]
        · rw [if_neg v, show d + 1 - n = 1 by omega, Nat.mul_one]
      · rw [if_neg u, if_neg (show ¬ n + 1 ≤ c by omega), if_pos z.2]
        by_cases v : n + 1 ≤ d
        · rw [if_pos v, show n + 1 - c = (n - c) + 1 by omega, Nat.mul_succ]
        · rw [if_neg v, show d + 1 - c = (n - c) + 1 by omega, Nat.mul_succ]
    · have e : rowB B n W = 0 := rowB_0 (fun x hx => by rw [h x n hx, decide_eq_false (fun v => z ⟨v.2.2.1, v.2.2.2⟩)])
      rw [e, Nat.add_zero]
      congr 1
      repeat' split
      all_goals omega
def bxB (l t r b : Int) (x y : Nat) : Bool := decide (l ≤ (x : Int) ∧ (x : Int) ≤ r ∧ t ≤ (y : Int) ∧ (y : Int) ≤ b)
theorem m_max {a b : Int} {M : im_M} (ha : -2147483648 ≤ a ∧ a < 2147483648) (hb : -2147483648 ≤ b ∧ b < 2147483648) : f_Math_max (iZ a) (iZ b) M = some (iZ (if a < b then b else a)) := by
  unfold f_Math_max
  simp only [iZ_lt ha hb]
  split <;> rfl
theorem m_min {a b : Int} {M : im_M} (ha : -2147483648 ≤ a ∧ a < 2147483648) (hb : -2147483648 ≤ b ∧ b < 2147483648) : f_Math_min (iZ a) (iZ b) M = some (iZ (if b < a then b else a)) := by
  unfold f_Math_min
  simp only [iZ_lt hb ha]
  split <;> rfl
/-- the class's sheet, the dots P of a figure struck -/
def CDS (w : Bool) (M0 M : im_M) (W H : Nat) (D P : Nat → Nat → Bool) (wy : Int32) : Prop := DH w M W H (fun x y => if x < W ∧ y < H ∧ P x y = true then stk wy (D x y) else D x y) ∧ im_i M 28 3 = nI (allB P W H) ∧ im_i M 28 2 = (if wy = 2 then 1 else 0) ∧ fr (2 ^ 29 ||| 2 ^ 30) [(28, 3)] M0 M
theorem DH_eq {w : Bool} {M : im_M} {W H : Nat} {D E : Nat → Nat → Bool} (q : DH w M W H D) (h : ∀ a b, D a b = E a b) : DH w M W H E := by
  have : D = E := funext fun a => funext fun b => h a b
  rw [← this]
  exact q
theorem CDS_c {w : Bool} {M0 M : im_M} {W H : Nat} {D P Q : Nat → Nat → Bool} {wy : Int32} (h : CDS w M0 M W H D P wy) (e : ∀ x y, x < W → y < H → P x y = Q x y) : CDS w M0 M W H D Q wy := by
  refine ⟨DH_eq h.1 (fun a b => ?_), by rw [h.2.1, allB_c e], h.2.2⟩
  by_cases c : a < W ∧ b < H
  · have := e a b c.1 c.2
    show (if a < W ∧ b < H ∧ P a b = true then stk wy (D a b) else D a b) = _
    rw [this]
  · show (if a < W ∧ b < H ∧ P a b = true then stk wy (D a b) else D a b) = _
    rw [if_neg (fun z => c ⟨z.1, z.2.1⟩), if_neg (fun z => c ⟨z.1, z.2.1⟩)]
theorem s_box {w : Bool} {M0 M : im_M} {W H : Nat} {D P : Nat → Nat → Bool} {wy : Int32} {l t r b : Int} (h : CDS w M0 M W H D P wy) (hl : -1000000 ≤ l ∧ l ≤ 1000000) (ht : -1000000 ≤ t ∧ t ≤ 1000000) (hr : -1000000 ≤ r ∧ r ≤ 1000000) (hb : -1000000 ≤ b ∧ b ≤ 1000000) (hd : ∀ x y, x < W → y < H → bxB l t r b x y = true → P x y = false) : ed (f_HSheet_box w (iZ l) (iZ t) (iZ r) (iZ b) M) (fun R => CDS w M0 R W H D (fun x y => P x y || bxB l t r b x y) wy) := by
  obtain ⟨⟨⟨w1, w2, h1, h2⟩, ⟨e0, e1⟩, dIn, wd⟩, e3, e2, f0⟩ := h
  have z0 : (0 : Int32) = iZ 0 := rfl
  have eW : im_i M 28 0 - 1 = iZ ((W : Int) - 1) := by rw [e0, iZ_nI, show (1 : Int32) = iZ 1 from rfl, iZ_sub]
  have eH : im_i M 28 1 - 1 = iZ ((H : Int) - 1) := by rw [e1, iZ_nI, show (1 : Int32) = iZ 1 from rfl, iZ_sub]
  have al := allB_le (B := P) w2 H
  have add := allB_add (B := P) (C := bxB l t r b) (W := W) (n := H) hd
  unfold f_HSheet_box
  rw [z0, m_max (by omega) (by omega), bd1_s, eW, m_min (by omega) (by omega), bd1_s, m_max (by omega) (by omega), bd1_s, eH, m_min (by omega) (by omega), bd1_s]
  obtain ⟨a, ea⟩ : ∃ a : Int, a = if l < 0 then 0 else l := ⟨_, rfl⟩
  obtain ⟨c, ec⟩ : ∃ c : Int, c = if (W : Int) - 1 < r then (W : Int) - 1 else r := ⟨_, rfl⟩
  obtain ⟨u, eu⟩ : ∃ u : Int, u = if t < 0 then 0 else t := ⟨_, rfl⟩
  obtain ⟨v, ev⟩ : ∃ v : Int, v = if (H : Int) - 1 < b then (H : Int) - 1 else b := ⟨_, rfl⟩
  have ba : 0 ≤ a ∧ l ≤ a ∧ (a = 0 ∨ a = l) := by rw [ea]; split <;> omega
  have bc : c ≤ (W : Int) - 1 ∧ c ≤ r ∧ (c = (W : Int) - 1 ∨ c = r) := by rw [ec]; split <;> omega
  have bu : 0 ≤ u ∧ t ≤ u ∧ (u = 0 ∨ u = t) := by rw [eu]; split <;> omega
  have bv : v ≤ (H : Int) - 1 ∧ v ≤ b ∧ (v = (H : Int) - 1 ∨ v = b) := by rw [ev]; split <;> omega
  rw [← ea, ← ec, ← eu, ← ev]
  clear ea ec eu ev
  have bxe : ∀ x y, x < W → y < H → (bxB l t r b x y = true ↔ (a ≤ (x : Int) ∧ (x : Int) ≤ c ∧ u ≤ (y : Int) ∧ (y : Int) ≤ v)) := fun x y hx hy => by
    unfold bxB
    rw [decide_eq_true_iff]
    omega
  -- nothing lies on the sheet
  have no : (c < a ∨ v < u) → CDS w M0 M W H D (fun x y => P x y || bxB l t r b x y) wy := fun z => by
    refine CDS_c (P := P) ⟨⟨⟨w1, w2, h1, h2⟩, ⟨e0, e1⟩, dIn, wd⟩, e3, e2, f0⟩ (fun x y hx hy => ?_)
    cases hh : bxB l t r b x y with
    | false => rw [Bool.or_false]
    | true =>
      have := (bxe x y hx hy).mp hh
      omega
  have l1 : (iZ c < iZ a) = (c < a) := iZ_lt (by omega) (by omega)
  have l2 : (iZ u ≤ iZ v) = (u ≤ v) := iZ_le (by omega) (by omega)
  simp only [l1, l2]
  by_cases k1 : c < a
  · rw [if_pos k1]
    exact ed_mk (no (Or.inl k1))
  · rw [if_neg k1]
    by_cases k2 : u ≤ v
    · rw [if_pos k2]
      obtain ⟨A, rfl⟩ : ∃ A : Nat, a = (A : Int) := ⟨a.toNat, (Int.toNat_of_nonneg ba.1).symm⟩
      obtain ⟨C, rfl⟩ : ∃ C : Nat, c = (C : Int) := ⟨c.toNat, (Int.toNat_of_nonneg (by omega)).symm⟩
      obtain ⟨U, rfl⟩ : ∃ U : Nat, u = (U : Int) := ⟨u.toNat, (Int.toNat_of_nonneg bu.1).symm⟩
      obtain ⟨V, rfl⟩ : ∃ V : Nat, v = (V : Int) := ⟨v.toNat, (Int.toNat_of_nonneg (by omega)).symm⟩
      rw [← iZ_nI, ← iZ_nI, ← iZ_nI, ← iZ_nI, nI_sh6 (by omega)]
      have cnt : allB (bxB l t r b) W H = (C + 1 - A) * (V + 1 - U) := by
        rw [allB_c (C := fun x y => decide (A ≤ x ∧ x ≤ C ∧ U ≤ y ∧ y ≤ V)) (fun x y hx hy => by
          by_cases g : A ≤ x ∧ x ≤ C ∧ U ≤ y ∧ y ≤ V
          · rw [decide_eq_true g, (bxe x y hx hy).mpr (by omega)]
          · rw [decide_eq_false g]
            cases hh : bxB l t r b x y with
            | false => rfl
            | true => have := (bxe x y hx hy).mp hh; omega), allB_bx (a := A) (b := C) (c := U) (d := V) (by omega) (by omega) (by omega) (fun x y _ => rfl), if_neg (by omega)]
        by_cases g : H ≤ V
        · omega
        · rw [if_neg g]
      have ar : ((nI C - nI A) + 1) * ((nI V - nI U) + 1) = nI ((C + 1 - A) * (V + 1 - U)) := by
        rw [nI_sb (by omega), nI_sb (by omega), show nI (C - A) + 1 = nI (C - A + 1) from nI_add _ 1, show nI (V - U) + 1 = nI (V - U + 1) from nI_add _ 1, nI_mul]
        congr 1
        rw [show C - A + 1 = C + 1 - A by omega, show V - U + 1 = V + 1 - U by omega]
      rw [ar, e3, nI_add, ← cnt, ← add]
      obtain ⟨N, hN⟩ : ∃ N, N = im_setI M 28 3 (nI (allB (fun a b_1 => P a b_1 || bxB l t r b a b_1) W H)) := ⟨_, rfl⟩
      have fN : fr 0 [(28, 3)] M N := by rw [hN]; exact fr_F (by decide) fr_refl
      have n3 : im_i N 28 3 = nI (allB (fun a b_1 => P a b_1 || bxB l t r b a b_1) W H) := by rw [hN]; rfl
      have nl : im_l N = im_l M := by rw [hN]; rfl
      rw [← hN]
      clear hN
      apply bd1_mk
      refine ed_mono (s_boxLoop (w := w) (M := N) (E := fun x y => if x < W ∧ y < H ∧ P x y = true then stk wy (D x y) else D x y) (wy := wy) (x0 := A) (x1 := C) (y0 := U) (y1 := V) (fun y j b' g1 g2 g3 => by rw [nl]; exact wd y j b' g1 g2 g3) ((fN.1 28 2 (by decide) (by decide)).trans e2) (by omega) (by omega) (by omega) (by omega)) ?_
      rintro R ⟨hR, fR⟩
      have fNR : fr (2 ^ 29 ||| 2 ^ 30) [(28, 3)] M R := fr_tr (fr_mono (by decide) (by decide) fR) (fr_mono (by decide) (by decide) fN)
      have key : ∀ x y, (if A ≤ x ∧ x ≤ C ∧ U ≤ y ∧ y ≤ V then stk wy (if x < W ∧ y < H ∧ P x y = true then stk wy (D x y) else D x y) else (if x < W ∧ y < H ∧ P x y = true then stk wy (D x y) else D x y)) = if x < W ∧ y < H ∧ (P x y || bxB l t r b x y) = true then stk wy (D x y) else D x y := fun x y => by
        by_cases g : x < W ∧ y < H
        · by_cases s : A ≤ x ∧ x ≤ C ∧ U ≤ y ∧ y ≤ V
          · have hx := (bxe x y g.1 g.2).mpr (by omega)
            rw [if_pos s, hd x y g.1 g.2 hx, hx, if_neg (fun z => by cases z.2.2), if_pos ⟨g.1, g.2, rfl⟩]
          · have hx : bxB l t r b x y = false := by
              cases hh : bxB l t r b x y with
              | false => rfl
              | true => have := (bxe x y g.1 g.2).mp hh; omega
            rw [if_neg s, hx, Bool.or_false]
        · rw [if_neg (fun z => g ⟨by omega, by omega⟩), if_neg (fun z => g ⟨z.1, z.2.1⟩), if_neg (fun z => g ⟨z.1, z.2.1⟩)]
      refine ed_mk ⟨⟨⟨w1, w2, h1, h2⟩, ⟨(fNR.1 28 0 (by decide) (by decide)).trans e0, (fNR.1 28 1 (by decide) (by decide)).trans e1⟩, fun x y hxy => ?_, fun y j b' g1 g2 g3 => ?_⟩, (fR.1 28 3 (by decide) (by decide)).trans n3, (fNR.1 28 2 (by decide) (by decide)).trans e2, fr_tr fNR f0⟩
      · by_cases g : x < W ∧ y < H
        · exact g
        · have hxy : (if x < W ∧ y < H ∧ (P x y || bxB l t r b x y) = true then stk wy (D x y) else D x y) = true := hxy
          rw [if_neg (fun z => g ⟨z.1, z.2.1⟩)] at hxy
          refine dIn x y ?_
          show (if x < W ∧ y < H ∧ P x y = true then stk wy (D x y) else D x y) = true
          rw [if_neg (fun z => g ⟨z.1, z.2.1⟩)]
          exact hxy
      · rw [hR y j b' g1 g2 g3]
        exact key _ _
    · rw [if_neg k2]
      exact ed_mk (no (Or.inr (by omega)))
