/-! CALLS: RUN -/
theorem s_dark {w : Bool} {M : im_M} {W H : Nat} {D : Nat → Nat → Bool} (q : DH w M W H D) {x y : Nat} (hx : x < W) (hy : y < H) : f_HSheet_isDark w (nI x) (nI y) M = some (if D x y = true then 1 else 0) := by
  obtain ⟨hW, _, d1, d2⟩ := q
  have es : nI x >>> (6 &&& 31 : Int32) = nI (x / 64) := by
    rw [iZ_nI, iZ_shr (k := 6) (by decide +kernel) (by omega), iZ_nI]
    rfl
  have ea : nI x &&& 63 = iZ ((x % 64 : Nat) : Int) := by
    have k6 : (63 : Int32) = iZ ((2 ^ 6 - 1 : Nat) : Int) := rfl
    rw [iZ_nI, k6, iZ_and 6 (by decide)]
    congr 1
  have ei : nI y * 8 + nI (x / 64) = nI (8 * y + x / 64) := by
    rw [nI_n, nI_mul, nI_add, Nat.mul_comm]
  unfold f_HSheet_isDark
  rw [es, ea, ei, gd_pos (by rw [inb_nI (by omega)]; omega), nI_clamp (by omega), iZ_l (by omega), l_and1, lb_ushr (by omega), Nat.add_zero, d2 y (x / 64) (x % 64) (by omega) (by omega) (by omega), Nat.div_add_mod]
  simp only [lc_eq]
  by_cases h : D x y = true
  · simp [h]
  · simp [h]
/-- which run dot k lies in -/
def rr (c : Nat → Bool) : Nat → Nat
  | 0 => 0
  | k + 1 => rr c k + (if c (k + 1) = c k then 0 else 1)
/-- how many of the first n dots lie in run j -/
def rc (c : Nat → Bool) (j : Nat) : Nat → Nat
  | 0 => 0
  | n + 1 => rc c j n + (if rr c n = j then 1 else 0)
theorem rr_le {c : Nat → Bool} : ∀ k, rr c k ≤ k := by
  intro k
  induction k with
  | zero => exact Nat.le_refl 0
  | succ k ih =>
    show rr c k + (if c (k + 1) = c k then 0 else 1) ≤ k + 1
    split <;> omega
theorem rc_le {c : Nat → Bool} {j : Nat} : ∀ n, rc c j n ≤ n := by
  intro n
  induction n with
  | zero => exact Nat.le_refl 0
  | succ n ih =>
    show rc c j n + (if rr c n = j then 1 else 0) ≤ n + 1
    split <;> omega
theorem rc_0 {c : Nat → Bool} {j : Nat} : ∀ n, rr c n < j → rc c j (n + 1) = 0 := by
  intro n
  induction n with
  | zero =>
    intro h
    show 0 + (if rr c 0 = j then 1 else 0) = 0
    rw [if_neg (by omega)]
  | succ n ih =>
    intro h
    have h2 : rr c n ≤ rr c (n + 1) := by
      show rr c n ≤ rr c n + _
      omega
    show rc c j (n + 1) + (if rr c (n + 1) = j then 1 else 0) = 0
    rw [ih (by omega), if_neg (by omega)]
theorem rc_pos {c : Nat → Bool} {j : Nat} : ∀ n, j ≤ rr c n → 1 ≤ rc c j (n + 1) := by
  intro n
  induction n with
  | zero =>
    intro h
    have h0 : rr c 0 = 0 := rfl
    show 1 ≤ 0 + (if rr c 0 = j then 1 else 0)
    rw [if_pos (by omega)]
    omega
  | succ n ih =>
    intro h
    show 1 ≤ rc c j (n + 1) + (if rr c (n + 1) = j then 1 else 0)
    by_cases e : rr c (n + 1) = j
    · rw [if_pos e]
      omega
    · have h2 : rr c (n + 1) ≤ rr c n + 1 := by
        show rr c n + (if c (n + 1) = c n then 0 else 1) ≤ rr c n + 1
        split <;> omega
      have := ih (by omega)
      omega
/-- the memory while runs are taken: the runs of the first k dots -/
def rnS (c : Nat → Bool) (k : Nat) (v : Nat → Int32) : Prop := ∀ j, j < (if k = 0 then 0 else rr c (k - 1) + 1) → v j = nI (rc c j k)
/-- before each turn of takeRuns -/
def rnI (M : im_M) (c : Nat → Bool) (len : Nat) (n : Nat) (s : Int32 × Int32 × Int32 × im_M) : Prop := ∃ k : Nat, k + n = len ∧ s.2.2.1 = nI k ∧ s.1 = nI (if k = 0 then 0 else rr c (k - 1) + 1) ∧ s.2.1 = (if (if k = 0 then !(c 0) else c (k - 1)) = true then 1 else 0) ∧ rnS c k (im_i s.2.2.2 32) ∧ fr (2 ^ 32) [] M s.2.2.2
theorem DH_fr {w : Bool} {A : Nat} {F : List (Nat × Nat)} {M M' : im_M} {W H : Nat} {D : Nat → Nat → Bool} (h : fr A F M M') (c : clr A F [] [(28, 0), (28, 1)] [29, 30] = true) (q : DH w M W H D) : DH w M' W H D := by
  have hsw : im_l M' (sw w) = im_l M (sw w) := by cases w; exact clr_l c h (a := 29) (by decide); exact clr_l c h (a := 30) (by decide)
  unfold DH at q ⊢
  rw [clr_f c h (a := 28) (k := 0) (by decide), clr_f c h (a := 28) (k := 1) (by decide), hsw]
  exact q
theorem s_takeRuns {w : Bool} {M : im_M} {W H : Nat} {D : Nat → Nat → Bool} (q : DH w M W H D) {x y : Nat} (hx : x < W) (hy : y < H) (d : Int32) : ed (f_HSheet_takeRuns w (nI x) (nI y) d M) (fun r => ∃ c : Nat → Bool, (∀ k, c k = if d = 0 then D (x + k) y else D x (y + k)) ∧ r.1 = nI (rr c ((if d = 0 then W - x else H - y) - 1) + 1) ∧ (∀ j, j ≤ rr c ((if d = 0 then W - x else H - y) - 1) → im_i r.2 32 j = nI (rc c j (if d = 0 then W - x else H - y))) ∧ fr (2 ^ 32) [] M r.2) := by
  have hW := q.1
  unfold f_HSheet_takeRuns
  rw [s_dark q hx hy]
  obtain ⟨c, hc⟩ : ∃ c : Nat → Bool, ∀ k, c k = if d = 0 then D (x + k) y else D x (y + k) := ⟨fun k => if d = 0 then D (x + k) y else D x (y + k), fun _ => rfl⟩
  obtain ⟨len, hlen⟩ : ∃ len : Nat, len = if d = 0 then W - x else H - y := ⟨_, rfl⟩
  have hl1 : 1 ≤ len ∧ len ≤ 512 := by rw [hlen]; split <;> omega
  have el : (if d = 0 then im_i M 28 0 - nI x else im_i M 28 1 - nI y) = nI len := by
    obtain ⟨_, ⟨e1, e2⟩, _⟩ := q
    rw [hlen]
    by_cases h : d = 0
    · rw [if_pos h, if_pos h, e1, iZ_nI, iZ_nI, iZ_sub, iZ_nI]
      congr 1
      omega
    · rw [if_neg h, if_neg h, e2, iZ_nI, iZ_nI, iZ_sub, iZ_nI]
      congr 1
      omega
  have c0 : c 0 = D x y := by
    rw [hc 0]
    split <;> rfl
  have e0 : (if ¬ (if D x y = true then (1 : Int32) else 0) = 0 then (0 : Int32) else 1) = (if (!(c 0)) = true then 1 else 0) := by
    rw [c0]
    by_cases h : D x y = true
    · simp [h]
    · simp [h]
  rw [← hlen]
  simp only [bd1, Option.bind]
  rw [el, e0]
  apply bd2_mk
  refine ed_mono (lp_inv (rnI M c len) (Q := fun (r : Int32 × im_M) => r.1 = nI (rr c (len - 1) + 1) ∧ rnS c len (im_i r.2 32) ∧ fr (2 ^ 32) [] M r.2) ?_ (k := len) ⟨0, by omega, rfl, rfl, rfl, fun j hj => absurd hj (by simp), fr_refl⟩) ?_
  · rintro n ⟨a, b, i, M'⟩ ⟨k, hk, e1, e2, e3, e4, e5⟩
    replace e1 : i = nI k := e1
    replace e2 : a = nI (if k = 0 then 0 else rr c (k - 1) + 1) := e2
    replace e3 : b = (if (if k = 0 then !(c 0) else c (k - 1)) = true then 1 else 0) := e3
    replace e4 : rnS c k (im_i M' 32) := e4
    replace e5 : fr (2 ^ 32) [] M M' := e5
    subst e1 e2 e3
    show ed (f_HSheet_takeRuns_L43 w (nI x) (nI y) d (nI len) _ _ (nI k) M') _
    unfold f_HSheet_takeRuns_L43
    by_cases h : len ≤ k
    · have hkl : k = len := by omega
      subst hkl
      rw [if_pos (nI_le (Nat.le_refl k) (by omega))]
      refine lpo_r ⟨?_, e4, e5⟩
      rw [if_neg (show ¬ k = 0 by omega)]
    · have hk2 : k < len := by omega
      rw [if_neg (nI_ge hk2 (by omega))]
      have q' : DH w M' W H D := DH_fr e5 (by decide +kernel) q
      have ed1 : (if d = 0 then bd1 (f_HSheet_isDark w (nI x + nI k) (nI y) M') fun (x14 : Int32) => some x14 else bd1 (f_HSheet_isDark w (nI x) (nI y + nI k) M') fun (x15 : Int32) => some x15) = some (if c k = true then 1 else 0) := by
        rw [hc k]
        by_cases hd : d = 0
        · rw [if_pos hd, if_pos hd, nI_add, s_dark q' (show x + k < W by rw [if_pos hd] at hlen; omega) hy]
          rfl
        · rw [if_neg hd, if_neg hd, nI_add, s_dark q' hx (show y + k < H by rw [if_neg hd] at hlen; omega)]
          rfl
      rw [ed1]
      simp only [bd1, Option.bind]
      have hrk := rr_le (c := c) k
      -- the number of runs with dot k
      have fin : ∀ (N : im_M), fr (2 ^ 32) [] M N → (∀ j, j < rr c k + 1 → im_i N 32 j = nI (rc c j k)) → ed (gd (inb (nI (rr c k + 1) - 1) 512) <| gd (inb (nI (rr c k + 1) - 1) 512) <| some (Sum.inl (nI (rr c k + 1), (if c k = true then (1 : Int32) else 0), nI k + 1, im_setI N 32 (Int32.toNatClampNeg (nI (rr c k + 1) - 1)) (im_i N 32 (Int32.toNatClampNeg (nI (rr c k + 1) - 1)) + 1)))) (lpo (rnI M c len) (fun (r : Int32 × im_M) => r.1 = nI (rr c (len - 1) + 1) ∧ rnS c len (im_i r.2 32) ∧ fr (2 ^ 32) [] M r.2) n) := by
        intro N fN hN
        rw [nI_pred, gd_pos (by rw [inb_nI (by omega)]; omega), gd_pos (by rw [inb_nI (by omega)]; omega), nI_clamp (by omega)]
        refine lpo_l (len - (k + 1)) (by omega) ⟨k + 1, by omega, nI_1 k, ?_, ?_, ?_, fr_I (by decide) fN⟩
        · show nI (rr c k + 1) = nI (if k + 1 = 0 then 0 else rr c (k + 1 - 1) + 1)
          rw [if_neg (by omega)]
          rfl
        · show (if c k = true then (1 : Int32) else 0) = (if (if k + 1 = 0 then !(c 0) else c (k + 1 - 1)) = true then 1 else 0)
          rw [if_neg (show ¬ k + 1 = 0 by omega)]
          rfl
        · intro j hj
          rw [if_neg (show ¬ k + 1 = 0 by omega)] at hj
          replace hj : j < rr c k + 1 := hj
          show im_i (im_setI N 32 (rr c k) _) 32 j = nI (rc c j k + (if rr c k = j then 1 else 0))
          rw [mi_I, if_pos rfl]
          by_cases hjk : j = rr c k
          · subst hjk
            rw [if_pos rfl, if_pos rfl, hN _ hj, nI_1]
          · rw [if_neg hjk, if_neg (fun z => hjk z.symm), hN _ hj]
            rfl
      by_cases hs : (if c k = true then (1 : Int32) else 0) = (if (if k = 0 then !(c 0) else c (k - 1)) = true then 1 else 0)
      · rw [if_pos hs]
        have hb : c k = (if k = 0 then !(c 0) else c (k - 1)) := by
          cases h1 : c k <;> cases h2 : (if k = 0 then !(c 0) else c (k - 1)) <;> simp [h1, h2] at hs ⊢
        have hk0 : ¬ k = 0 := by
          intro z
          subst z
          rw [if_pos rfl] at hb
          cases h : c 0 <;> simp [h] at hb
        rw [if_neg hk0] at hb
        have er : rr c k = rr c (k - 1) := by
          obtain ⟨m, rfl⟩ : ∃ m, k = m + 1 := ⟨k - 1, by omega⟩
          show rr c m + (if c (m + 1) = c m then 0 else 1) = rr c m
          rw [if_pos (show c (m + 1) = c m from hb)]
          rfl
        have ea : (if k = 0 then 0 else rr c (k - 1) + 1) = rr c k + 1 := by rw [if_neg hk0, er]
        rw [ea, ← hs]
        apply bd3_mk
        refine ed_mk ?_
        refine fin M' e5 (fun j hj => e4 j ?_)
        rw [ea]
        exact hj
      · rw [if_neg hs]
        have hb : ¬ c k = (if k = 0 then !(c 0) else c (k - 1)) := fun z => hs (by rw [z])
        have ea : (if k = 0 then 0 else rr c (k - 1) + 1) = rr c k := by
          by_cases hk0 : k = 0
          · subst hk0
            rfl
          · rw [if_neg hk0] at hb ⊢
            obtain ⟨m, rfl⟩ : ∃ m, k = m + 1 := ⟨k - 1, by omega⟩
            show rr c m + 1 = rr c m + (if c (m + 1) = c m then 0 else 1)
            rw [if_neg (show ¬ c (m + 1) = c m from hb)]
        rw [ea, gd_pos (by rw [inb_nI (by omega)]; omega), nI_clamp (by omega), nI_1]
        apply bd3_mk
        refine ed_mk ?_
        refine fin (im_setI M' 32 (rr c k) 0) (fr_I (by decide) e5) (fun j hj => ?_)
        rw [mi_I, if_pos rfl]
        by_cases hjk : j = rr c k
        · subst hjk
          rw [if_pos rfl]
          have : rc c (rr c k) k = 0 := by
            by_cases hk0 : k = 0
            · subst hk0
              rfl
            · rw [if_neg hk0] at ea
              obtain ⟨m, rfl⟩ : ∃ m, k = m + 1 := ⟨k - 1, by omega⟩
              exact rc_0 m (by
                have : rr c m + 1 = rr c (m + 1) := ea
                omega)
          rw [this]
          rfl
        · rw [if_neg hjk]
          exact e4 j (by rw [ea]; omega)
  · rintro ⟨a, N⟩ ⟨h1, h2, h3⟩
    refine ed_mk ⟨c, hc, h1, fun j hj => h2 j ?_, h3⟩
    rw [if_neg (by omega)]
    omega
theorem s_has {w : Bool} {M : im_M} {W H : Nat} {D : Nat → Nat → Bool} (q : DH w M W H D) {a b : Int} (ha : -2147483648 ≤ a ∧ a < 2147483648) (hb : -2147483648 ≤ b ∧ b < 2147483648) : f_HSheet_has (iZ a) (iZ b) M = some (if 0 ≤ a ∧ a < (W : Int) ∧ 0 ≤ b ∧ b < (H : Int) then 1 else 0) := by
  obtain ⟨hW, ⟨e1, e2⟩, _⟩ := q
  unfold f_HSheet_has
  rw [e1, e2, iZ_nI, iZ_nI]
  have c1 : (iZ a < 0) = (a < 0) := iZ_lt (b := 0) ha (by decide)
  have c2 : (iZ b < 0) = (b < 0) := iZ_lt (b := 0) hb (by decide)
  have c3 : (iZ (W : Int) ≤ iZ a) = ((W : Int) ≤ a) := iZ_le (by omega) ha
  have c4 : (iZ (H : Int) ≤ iZ b) = ((H : Int) ≤ b) := iZ_le (by omega) hb
  simp only [c1, c2, c3, c4]
  by_cases h1 : a < 0
  · rw [if_pos h1, if_neg (by omega)]
  · by_cases h2 : (W : Int) ≤ a
    · rw [if_neg h1, if_pos h2, if_neg (by omega)]
    · by_cases h3 : b < 0
      · rw [if_neg h1, if_neg h2, if_pos h3, if_neg (by omega)]
      · by_cases h4 : (H : Int) ≤ b
        · rw [if_neg h1, if_neg h2, if_neg h3, if_pos h4, if_neg (by omega)]
        · rw [if_neg h1, if_neg h2, if_neg h3, if_neg h4, if_pos (by omega)]
theorem bd1_s {A Y : Type} {a : A} {k : A → Option Y} : bd1 (some a) k = k a := rfl
theorem bd2_s {A B Y : Type} {a : A} {b : B} {k : A → B → Option Y} : bd2 (some (a, b)) k = k a b := rfl
theorem bd3_s {A B C Y : Type} {a : A} {b : B} {c : C} {k : A → B → C → Option Y} : bd3 (some (a, b, c)) k = k a b c := rfl
/-- how many of the first n dots lie in the run that p names -/
def rci (c : Nat → Bool) (p : Int32) : Nat → Nat
  | 0 => 0
  | n + 1 => rci c p n + (if nI (rr c n) = p then 1 else 0)
theorem rci_le {c : Nat → Bool} {p : Int32} : ∀ n, rci c p n ≤ n := by
  intro n
  induction n with
  | zero => exact Nat.le_refl 0
  | succ n ih =>
    show rci c p n + (if nI (rr c n) = p then 1 else 0) ≤ n + 1
    split <;> omega
theorem rci_n {c : Nat → Bool} {j : Nat} (hj : j < 1000) : ∀ n, n < 1000 → rci c (nI j) n = rc c j n := by
  intro n
  induction n with
  | zero => intro _; rfl
  | succ n ih =>
    intro hn
    have h1 := rr_le (c := c) n
    show rci c (nI j) n + (if nI (rr c n) = nI j then 1 else 0) = rc c j n + (if rr c n = j then 1 else 0)
    rw [ih (by omega)]
    congr 1
    by_cases h : rr c n = j
    · rw [if_pos h, if_pos (by rw [h])]
    · rw [if_neg h, if_neg (fun z => h ((nI_eq (by omega) (by omega)).mp z))]
theorem rci_no {c : Nat → Bool} {p : Int32} {N : Nat} (hp : ∀ m, m < N → ¬ nI m = p) : ∀ n, n ≤ N → rci c p n = 0 := by
  intro n
  induction n with
  | zero => intro _; rfl
  | succ n ih =>
    intro hn
    have h1 := rr_le (c := c) n
    show rci c p n + (if nI (rr c n) = p then 1 else 0) = 0
    rw [ih (by omega), if_neg (hp _ (by omega))]
/-- before each turn of the reference's run -/
def rmI (c : Nat → Bool) (p : Int32) (len n : Nat) (s : Int32 × Int32 × Int32) : Prop := ∃ k : Nat, k + n = len ∧ s.2.2 = nI k ∧ s.1 = nI (if k = 0 then 0 else rr c (k - 1)) ∧ s.2.1 = nI (rci c p k)
theorem s_runL {M : im_M} {W H : Nat} {D : Nat → Nat → Bool} (q : DR M W H D) {a b u v p : Int32} {gx gy : Nat → Nat} {c : Nat → Bool} {len : Nat} (hl : len ≤ 512) (h1 : ∀ k, k ≤ len → a + nI k * u = iZ (gx k : Int)) (h2 : ∀ k, k ≤ len → b + nI k * v = iZ (gy k : Int)) (h3 : ∀ k, k ≤ len → gx k < 5000 ∧ gy k < 5000) (h4 : ∀ k, k < len → gx k < W ∧ gy k < H) (h5 : ¬ (gx len < W ∧ gy len < H)) (hc : ∀ k, k < len → c k = D (gx k) (gy k)) : ed (lp (uc3 (f_MDotRows_run_L72 a b p u v M)) (0, 0, 0)) (fun n => n = nI (rci c p len)) := by
  refine lp_inv (rmI c p len) ?_ (k := len) ⟨0, by omega, rfl, rfl, rfl⟩
  rintro n ⟨r, m, i⟩ ⟨k, hk, e1, e2, e3⟩
  replace e1 : i = nI k := e1
  replace e2 : r = nI (if k = 0 then 0 else rr c (k - 1)) := e2
  replace e3 : m = nI (rci c p k) := e3
  subst e1 e2 e3
  show ed (f_MDotRows_run_L72 a b p u v M _ _ (nI k)) _
  unfold f_MDotRows_run_L72
  have g3 := h3 k (by omega)
  rw [h1 k (by omega), h2 k (by omega), e_isOn q (by omega) (by omega)]
  by_cases h : k < len
  · have g4 := h4 k h
    rw [if_pos (by omega), e_isDark q (by omega) (by omega), Dz_nn, ← hc k h]
    simp only [bd1_s]
    rw [if_neg (by decide)]
    have hr1 := rr_le (c := c) k
    have hr2 := rci_le (c := c) (p := p) k
    have er : (if nI k ≤ 0 then some (nI (if k = 0 then 0 else rr c (k - 1))) else bd1 (f_MDotRows_isDark (a + (nI k - 1) * u) (b + (nI k - 1) * v) M) fun (t : Int32) => if (if c k = true then (1 : Int32) else 0) = t then some (nI (if k = 0 then 0 else rr c (k - 1))) else some (nI (if k = 0 then 0 else rr c (k - 1)) + 1)) = some (nI (rr c k)) := by
      by_cases hk0 : k = 0
      · subst hk0
        rw [if_pos (by decide)]
        rfl
      · obtain ⟨j, rfl⟩ : ∃ j, k = j + 1 := ⟨k - 1, by omega⟩
        have g5 := h3 j (by omega)
        rw [if_neg (nI_nle (by omega) (by omega)), nI_pred, h1 j (by omega), h2 j (by omega), e_isDark q (by omega) (by omega), Dz_nn, ← hc j (by omega)]
        simp only [bd1_s]
        show (if (if c (j + 1) = true then (1 : Int32) else 0) = (if c j = true then (1 : Int32) else 0) then some (nI (rr c j)) else some (nI (rr c j) + 1)) = some (nI (rr c j + (if c (j + 1) = c j then 0 else 1)))
        by_cases hs : c (j + 1) = c j
        · rw [if_pos (by rw [hs]), if_pos hs]
          rfl
        · rw [if_neg (fun z => hs (by cases h8 : c (j + 1) <;> cases h9 : c j <;> simp [h8, h9] at z ⊢)), if_neg hs, nI_1]
    rw [er, bd1_s]
    refine lpo_l (len - (k + 1)) (by omega) ⟨k + 1, by omega, nI_1 k, ?_, ?_⟩
    · show nI (rr c k) = nI (if k + 1 = 0 then 0 else rr c (k + 1 - 1))
      rw [if_neg (by omega)]
      rfl
    · show nI (rci c p k) + (if ¬ nI (rr c k) = p then (0 : Int32) else 1) = nI (rci c p k + (if nI (rr c k) = p then 1 else 0))
      by_cases hp : nI (rr c k) = p
      · rw [if_neg (fun z => z hp), if_pos hp, nI_1]
      · rw [if_pos hp, if_neg hp]
        exact nI_add _ 0
  · have hkl : k = len := by omega
    subst hkl
    rw [if_neg (by omega)]
    exact lpo_r rfl
theorem noPl {M : im_M} {x y : Nat} (hx : x < 512) (hy : y < 512) : f_MDotRows_noPlace (nI x) (nI y) M = some 0 := by
  unfold f_MDotRows_noPlace
  have c1 : (nI x < -4096) = ((x : Int) < -4096) := by rw [iZ_nI]; exact iZ_lt (a := (x : Int)) (b := -4096) (by omega) (by decide)
  have c2 : ((4096 : Int32) < nI x) = (4096 < (x : Int)) := by rw [iZ_nI]; exact iZ_lt (a := 4096) (b := (x : Int)) (by decide) (by omega)
  have c3 : (nI y < -4096) = ((y : Int) < -4096) := by rw [iZ_nI]; exact iZ_lt (a := (y : Int)) (b := -4096) (by omega) (by decide)
  have c4 : (nI y ≤ 4096) = ((y : Int) ≤ 4096) := by rw [iZ_nI]; exact iZ_le (a := (y : Int)) (b := 4096) (by omega) (by decide)
  simp only [jn0, c1, c2, c3, c4]
  rw [if_neg (by omega), if_neg (by omega), if_neg (by omega), if_pos (by omega)]
theorem s_runM {M : im_M} {W H : Nat} {D : Nat → Nat → Bool} (q : DR M W H D) {x y : Nat} (hx : x < W) (hy : y < H) {p d : Int32} {c : Nat → Bool} (hc : ∀ k, c k = if d = 0 then D (x + k) y else D x (y + k)) : f_MDotRows_run (nI x) (nI y) p d M = some (if rci c p (if d = 0 then W - x else H - y) = 0 then -1 else nI (rci c p (if d = 0 then W - x else H - y)), im_setI M 89 0 0) := by
  have hW := q.1
  have q2 : DR (im_setI M 89 0 0) W H D := DR_0 (fr0_89 fr0_refl) q
  have eo : f_MDotRows_isOn (nI x) (nI y) M = some 1 := by
    rw [iZ_nI, iZ_nI, e_isOn q (by omega) (by omega), if_pos (by omega)]
  unfold f_MDotRows_run
  rw [noPl (by omega) (by omega), eo, bd1_s, if_pos rfl, bd1_s, if_neg (by decide), bd1_s]
  have z0 : im_i (im_setI M 89 0 0) 89 0 ≤ 0 := by show (0 : Int32) ≤ 0; decide
  rw [if_pos z0]
  have fin : ∀ len, len ≤ 512 → lp (uc3 (f_MDotRows_run_L72 (nI x) (nI y) p (if d = 0 then 1 else 0) (if d = 0 then 0 else 1) (im_setI M 89 0 0))) (0, 0, 0) = some (nI (rci c p len)) → (bd1 (lp (uc3 (f_MDotRows_run_L72 (nI x) (nI y) p (if d = 0 then 1 else 0) (if d = 0 then 0 else 1) (im_setI M 89 0 0))) (0, 0, 0)) fun (t : Int32) => if ¬ t = 0 then some (t, im_setI M 89 0 0) else some (-1, im_setI M 89 0 0)) = some (if rci c p len = 0 then -1 else nI (rci c p len), im_setI M 89 0 0) := by
    intro len hl e
    rw [e]
    have h1 := rci_le (c := c) (p := p) len
    show (if ¬ nI (rci c p len) = 0 then some (nI (rci c p len), im_setI M 89 0 0) else some (-1, im_setI M 89 0 0)) = _
    by_cases h : rci c p len = 0
    · rw [if_pos h, if_neg (by rw [h]; decide)]
    · rw [if_neg h, if_pos (nI_ne0 (by omega) (by omega))]
  by_cases hd : d = 0
  · have el : (if d = 0 then W - x else H - y) = W - x := if_pos hd
    rw [el]
    refine fin (W - x) (by omega) ?_
    rw [if_pos hd, if_pos hd]
    obtain ⟨n, e, rfl⟩ := s_runL q2 (a := nI x) (b := nI y) (u := 1) (v := 0) (p := p) (gx := fun k => x + k) (gy := fun _ => y) (c := c) (len := W - x) (by omega) (fun k hk => by
      rw [nI_n, nI_mul, Nat.mul_one, nI_add, iZ_nI]) (fun k hk => by
      rw [nI_n, nI_mul, nI_add, iZ_nI]; rfl) (fun k hk => by omega) (fun k hk => by omega) (by omega) (fun k hk => by rw [hc, if_pos hd])
    exact e
  · have el : (if d = 0 then W - x else H - y) = H - y := if_neg hd
    rw [el]
    refine fin (H - y) (by omega) ?_
    rw [if_neg hd, if_neg hd]
    obtain ⟨n, e, rfl⟩ := s_runL q2 (a := nI x) (b := nI y) (u := 0) (v := 1) (p := p) (gx := fun _ => x) (gy := fun k => y + k) (c := c) (len := H - y) (by omega) (fun k hk => by
      rw [nI_n, nI_mul, nI_add, iZ_nI]; rfl) (fun k hk => by
      rw [nI_n, nI_mul, Nat.mul_one, nI_add, iZ_nI]) (fun k hk => by omega) (fun k hk => by omega) (by omega) (fun k hk => by rw [hc, if_neg hd])
    exact e
theorem RL_x {w : Bool} {A : Nat} {F : List (Nat × Nat)} {M M' : im_M} (h : fr A F M M') (q : RL w M) (cT : clr A F [2, 70] [(1, 1), (69, 2)] [] = true := by decide +kernel) (cF : clr A F [57, 93, 58, 94] [] [] = true := by decide +kernel) (cS : clr A F [] [(71, 13), (15, 6), (71, 14), (15, 7)] [] = true := by decide +kernel) (cB : clr A F [16, 86] [(15, 4), (71, 35)] [] = true := by decide +kernel) (cO : clr A F [13, 87, 14, 88, 16] [(11, 3), (71, 37), (15, 4)] [] = true := by decide +kernel) (cV : clr A F [4, 74, 3, 73, 6, 76, 5, 75] [] [] = true := by decide +kernel) (cD : clr A F [90, 131, 63, 135] [(28, 0), (28, 1), (89, 1), (89, 2), (130, 1), (130, 2), (59, 0), (130, 10)] [29, 30, 62] = true := by decide +kernel) (cW : clr A F [66, 136, 120] [(0, 9), (69, 9)] [] = true := by decide +kernel) (cG : clr A F [67, 68, 137, 129] [(0, 12), (69, 12), (69, 10), (108, 31), (96, 15), (108, 32)] [] = true := by decide +kernel) (cC : clr A F [45, 46, 97, 98, 99, 109, 110, 60, 132] [] [] = true := by decide +kernel) : RL w M' := ⟨QT_fr h cT q.1, QF_fr h cF q.2.1, QS_fr h cS q.2.2.1, QB_fr h cB q.2.2.2.1, QO_fr h cO q.2.2.2.2.1, QV_fr h cV q.2.2.2.2.2.1, QD_fr h cD q.2.2.2.2.2.2.1, QW_fr h cW q.2.2.2.2.2.2.2.1, QG_fr h cG q.2.2.2.2.2.2.2.2.1, QC_fr h cC q.2.2.2.2.2.2.2.2.2⟩
theorem c_run {w : Bool} {M : im_M} {p0 p1 p2 d : Int32} (q : RL w M) (h1 : f_HSheet_has p0 p1 M = some 1) : ed (f_H_run w p0 p1 p2 d M) (fun r => ed (f_M_run p0 p1 p2 d (im_setL r.2 138 0 r.1.toInt64)) (ans w 0)) := by
  obtain ⟨W, H, D, dh, dr⟩ := QD_H q
  have hW := dh.1
  obtain ⟨x, rfl, x1, x2⟩ := iZ_of p0
  obtain ⟨y, rfl, y1, y2⟩ := iZ_of p1
  have on : 0 ≤ x ∧ x < (W : Int) ∧ 0 ≤ y ∧ y < (H : Int) := by
    rw [s_has dh ⟨x1, x2⟩ ⟨y1, y2⟩] at h1
    by_cases c : 0 ≤ x ∧ x < (W : Int) ∧ 0 ≤ y ∧ y < (H : Int)
    · exact c
    · rw [if_neg c] at h1
      exact absurd (Option.some.inj h1) (by decide)
  obtain ⟨X, rfl⟩ : ∃ X : Nat, x = (X : Int) := ⟨x.toNat, by omega⟩
  obtain ⟨Y, rfl⟩ : ∃ Y : Nat, y = (Y : Int) := ⟨y.toNat, by omega⟩
  unfold f_H_run
  rw [h1, bd1_s, if_pos (by decide)]
  apply bd2_mk
  have ex : iZ (X : Int) = nI X := iZ_nI.symm
  have ey : iZ (Y : Int) = nI Y := iZ_nI.symm
  rw [ex, ey]
  refine ed_mono (s_takeRuns dh (x := X) (y := Y) (by omega) (by omega) d) ?_
  rintro ⟨cnt, M2⟩ ⟨c, hc, e1, e2, f2⟩
  replace e1 : cnt = nI (rr c ((if d = 0 then W - X else H - Y) - 1) + 1) := e1
  replace e2 : ∀ j, j ≤ rr c ((if d = 0 then W - X else H - Y) - 1) → im_i M2 32 j = nI (rc c j (if d = 0 then W - X else H - Y)) := e2
  replace f2 : fr (2 ^ 32) [] M M2 := f2
  subst e1
  obtain ⟨len, hlen⟩ : ∃ len : Nat, len = if d = 0 then W - X else H - Y := ⟨_, rfl⟩
  rw [← hlen] at e2 ⊢
  have hl : 1 ≤ len ∧ len ≤ 512 := by rw [hlen]; split <;> omega
  have hr := rr_le (c := c) (len - 1)
  -- what the reference answers
  have model : ∀ (v : Int32), v = (if rci c p2 len = 0 then -1 else nI (rci c p2 len)) → ed (f_M_run (nI X) (nI Y) p2 d (im_setL M2 138 0 v.toInt64)) (ans w 0) := by
    intro v hv
    have f3 : fr (2 ^ 32 ||| 2 ^ 138) [] M (im_setL M2 138 0 v.toInt64) := fr_L (by decide) (fr_mono (by decide) (by decide) f2)
    have dr3 : DR (im_setL M2 138 0 v.toInt64) W H D := DR_fr f3 (by decide +kernel) dr
    unfold f_M_run
    apply bd2_mk
    rw [iZ_nI, iZ_nI, iZ_l (by omega), iZ_l (by omega)]
    refine ed_mono (s_isOn dr3 (a := (X : Int)) (b := (Y : Int)) (by omega) (by omega)) ?_
    rintro ⟨t, M4⟩ ⟨ht, f4⟩
    replace ht : t = if 0 ≤ (X : Int) ∧ (X : Int) < (W : Int) ∧ 0 ≤ (Y : Int) ∧ (Y : Int) < (H : Int) then 1 else 0 := ht
    replace f4 : fr1 (im_setL M2 138 0 v.toInt64) M4 := f4
    rw [if_pos on] at ht
    subst ht
    have z1 : ((if (1 : Int32) = 0 then 1 else 0) : Int32) = 0 := by decide
    show ed (if im_i (im_setI M4 69 0 (if (1 : Int32) = 0 then 1 else 0)) 69 0 ≤ 0 then _ else _) _
    rw [z1, if_pos (by show (0 : Int32) ≤ 0; decide)]
    have dr5 : DR (im_setI M4 69 0 0) W H D := DR_1 (fr1_69 f4) dr3
    rw [← iZ_nI, ← iZ_nI, s_runM dr5 (by omega) (by omega) hc, ← hlen, bd2_s]
    have f6 : fr1 (im_setL M2 138 0 v.toInt64) (im_setI (im_setI M4 69 0 0) 89 0 0) := fr1_89 (fr1_69 f4)
    have f7 : fr (2 ^ 32 ||| 2 ^ 138) [(69, 0), (71, 0), (89, 0), (96, 3), (108, 0), (130, 0)] M (im_setI (im_setI M4 69 0 0) 89 0 0) := fr_tr (fr_mono (by decide) (by decide) f6) (fr_mono (by decide) (by decide) f3)
    refine ed_mk ⟨rfl, fun _ => ?_, RL_x f7 q⟩
    have e138 : im_l M4 138 0 = v.toInt64 := by
      rw [f4.2 138 rfl]
      rfl
    show im_l M4 138 0 = _
    rw [e138, hv]
  simp only [jn0]
  by_cases n1 : p2 < 0
  · rw [if_pos n1]
    refine ed_mk (model (-1) ?_)
    have : rci c p2 len = 0 := rci_no (N := len) (fun m hm z => nI_pos (n := m) (by omega) (by rw [z]; exact n1)) len (Nat.le_refl _)
    rw [if_pos this]
  · rw [if_neg n1]
    by_cases n2 : p2 < nI (rr c (len - 1) + 1)
    · rw [if_pos n2]
      obtain ⟨j, rfl, hj⟩ := iz3' n1 n2 (by omega)
      rw [gd_pos (by rw [inb_nI (by omega)]; omega), nI_clamp (by omega)]
      refine ed_mk ?_
      show ed (f_M_run (nI X) (nI Y) (nI j) d (im_setL M2 138 0 (im_i M2 32 j).toInt64)) (ans w 0)
      refine model (im_i M2 32 j) ?_
      have h5 : 1 ≤ rc c j len := by
        have := rc_pos (c := c) (j := j) (len - 1) (by omega)
        rw [show len - 1 + 1 = len by omega] at this
        exact this
      rw [e2 j (by omega), rci_n (by omega) len (by omega), if_neg (by omega)]
    · rw [if_neg n2]
      refine ed_mk (model (-1) ?_)
      have : rci c p2 len = 0 := by
        have : ∀ n, n ≤ len → rci c p2 n = 0 := by
          intro n
          induction n with
          | zero => intro _; rfl
          | succ n ih =>
            intro hn
            show rci c p2 n + (if nI (rr c n) = p2 then 1 else 0) = 0
            rw [ih (by omega), if_neg]
            intro z
            apply n2
            rw [← z]
            have hm : ∀ a b, a ≤ b → rr c a ≤ rr c b := by
              intro a b hab
              induction hab with
              | refl => exact Nat.le_refl _
              | step _ ih2 =>
                refine Nat.le_trans ih2 ?_
                show rr c _ ≤ rr c _ + _
                omega
            have := hm n (len - 1) (by omega)
            exact nI_lt (by omega) (by omega)
        exact this len (Nat.le_refl _)
      rw [if_pos this]
theorem n_run {w : Bool} {M : im_M} {p0 p1 p2 d : Int32} (q : RL w M) (h : f_HSheet_has p0 p1 M = some 0) : ed (f_M_run p0 p1 p2 d (im_noX M)) (ans w 1) := by
  obtain ⟨W, H, D, dh, dr⟩ := QD_H q
  have hW := dh.1
  obtain ⟨x, rfl, x1, x2⟩ := iZ_of p0
  obtain ⟨y, rfl, y1, y2⟩ := iZ_of p1
  have off : ¬ (0 ≤ x ∧ x < (W : Int) ∧ 0 ≤ y ∧ y < (H : Int)) := by
    intro c
    rw [s_has dh ⟨x1, x2⟩ ⟨y1, y2⟩, if_pos c] at h
    exact absurd (Option.some.inj h) (by decide)
  unfold f_M_run
  apply bd2_mk
  rw [iZ_l (by omega), iZ_l (by omega)]
  refine ed_mono (s_isOn (DR_0 fr0_X dr) (a := x) (b := y) (by omega) (by omega)) ?_
  rintro ⟨t, M4⟩ ⟨ht, f4⟩
  replace ht : t = if 0 ≤ x ∧ x < (W : Int) ∧ 0 ≤ y ∧ y < (H : Int) then 1 else 0 := ht
  replace f4 : fr1 (im_noX M) M4 := f4
  rw [if_neg off] at ht
  subst ht
  show ed (if im_i (im_setI M4 69 0 (if (0 : Int32) = 0 then 1 else 0)) 69 0 ≤ 0 then _ else _) _
  rw [if_pos (rfl : (0 : Int32) = 0), if_neg (by show ¬ (1 : Int32) ≤ 0; decide)]
  exact ed_mk ⟨rfl, fun k => absurd k (by decide), RL_0 (fr0_69 (fr0_tr (fr1_0 f4) fr0_X)) q⟩
theorem has_01 {w : Bool} {M : im_M} {p0 p1 : Int32} (q : RL w M) : f_HSheet_has p0 p1 M = some 1 ∨ f_HSheet_has p0 p1 M = some 0 := by
  obtain ⟨W, H, D, dh, dr⟩ := QD_H q
  obtain ⟨x, rfl, x1, x2⟩ := iZ_of p0
  obtain ⟨y, rfl, y1, y2⟩ := iZ_of p1
  rw [s_has dh ⟨x1, x2⟩ ⟨y1, y2⟩]
  split
  · exact Or.inl rfl
  · exact Or.inr rfl
