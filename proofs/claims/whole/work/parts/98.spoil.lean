/-! CALLS: SPOIL -/
/-- whether dot k of a row of bits is struck -/
def spb (W H : Nat) (x y : Int) (v : Int64) (k : Nat) : Bool := lb v k && decide (0 ≤ x + (k : Int) ∧ x + (k : Int) < (W : Int) ∧ 0 ≤ y ∧ y < (H : Int))
/-- the dots once the first k of a row of bits were struck -/
def spD (D : Nat → Nat → Bool) (W H : Nat) (x y : Int) (v : Int64) : Nat → Nat → Nat → Bool
  | 0 => D
  | k + 1 => if spb W H x y v k = true then flip1 (spD D W H x y v k) (x + (k : Int)).toNat y.toNat else spD D W H x y v k
def spN (W H : Nat) (x y : Int) (v : Int64) : Nat → Nat
  | 0 => 0
  | k + 1 => spN W H x y v k + (if spb W H x y v k = true then 1 else 0)
theorem spN_le {W H : Nat} {x y : Int} {v : Int64} : ∀ k, spN W H x y v k ≤ k := by
  intro k
  induction k with
  | zero => exact Nat.le_refl 0
  | succ k ih =>
    show spN W H x y v k + _ ≤ k + 1
    split <;> omega
theorem sp_off {D : Nat → Nat → Bool} {W H : Nat} {x y : Int} {v : Int64} (h : ¬ (0 ≤ y ∧ y < (H : Int))) : ∀ k, spD D W H x y v k = D ∧ spN W H x y v k = 0 := by
  intro k
  induction k with
  | zero => exact ⟨rfl, rfl⟩
  | succ k ih =>
    have e : spb W H x y v k = false := by
      unfold spb
      have : decide (0 ≤ x + (k : Int) ∧ x + (k : Int) < (W : Int) ∧ 0 ≤ y ∧ y < (H : Int)) = false := decide_eq_false (by omega)
      rw [this, Bool.and_false]
    constructor
    · show (if spb W H x y v k = true then _ else spD D W H x y v k) = D
      rw [e]
      exact ih.1
    · show spN W H x y v k + (if spb W H x y v k = true then 1 else 0) = 0
      rw [e, ih.2]
      rfl
theorem DH_flip {w : Bool} {M : im_M} {W H : Nat} {D : Nat → Nat → Bool} (q : DH w M W H D) {x y : Nat} (hx : x < W) (hy : y < H) : DH w (im_setL M (sw w) (8 * y + x / 64) (im_l M (sw w) (8 * y + x / 64) ^^^ ((1 : Int64) <<< (lZ ((x % 64 : Nat) : Int) &&& 63) : Int64))) W H (flip1 D x y) := by
  obtain ⟨hW, e, d1, d2⟩ := q
  refine ⟨hW, e, ?_, ?_⟩
  · intro a b h
    unfold flip1 at h
    by_cases c : a = x ∧ b = y
    · omega
    · rw [if_neg c] at h
      exact d1 a b h
  · intro b j k hb hj hk
    rw [ml_L, if_pos rfl]
    unfold flip1
    by_cases c : 8 * b + j = 8 * y + x / 64
    · have hb2 : b = y := by omega
      have hj2 : j = x / 64 := by omega
      subst hb2
      rw [if_pos c, lb_xor, lb_one (by omega) hk]
      have e1 : lb (im_l M (sw w) (8 * b + x / 64)) k = D (64 * j + k) b := by rw [← hj2]; exact d2 b j k hb hj hk
      rw [e1]
      by_cases ck : k = x % 64
      · rw [if_pos ⟨by omega, rfl⟩]
        simp [ck]
      · rw [if_neg (by omega)]
        simp [ck]
    · rw [if_neg c, d2 b j k hb hj hk, if_neg (by omega)]
/-- before each bit of the class's flip -/
def fpI (w : Bool) (M : im_M) (W H : Nat) (D : Nat → Nat → Bool) (x y : Int) (v : Int64) (n : Nat) (s : Int32 × Int32 × im_M) : Prop := ∃ k : Nat, k + n = 64 ∧ s.2.1 = nI k ∧ s.1 = nI (spN W H x y v k) ∧ DH w s.2.2 W H (spD D W H x y v k) ∧ fr (2 ^ 29 ||| 2 ^ 30) [] M s.2.2
theorem u_and1 {v : Int64} {k : Nat} (hk : k < 64) : (lg_cmp ((Int64.toUInt64 v >>> ((Int32.toInt64 (nI k)).toUInt64 &&& Int64.toUInt64 63)).toInt64 &&& 1) 0 = 0) = (lb v k = false) := by
  rw [lc_eq, e64_s (by omega), l_and1, lb_ushr hk, Nat.add_zero]
  cases lb v k <;> simp
theorem s_and1 {v : Int64} {k : Nat} (hk : k < 64) : (lg_cmp ((v >>> (Int32.toInt64 (nI k) &&& 63) : Int64) &&& 1) 1 = 0) = (lb v k = true) := by
  rw [lc_eq, e64_s (by omega), l_and1, lb_shr hk]
  cases lb v k <;> simp
theorem s_flip {w : Bool} {M : im_M} {W H : Nat} {D : Nat → Nat → Bool} (q : DH w M W H D) {x y : Int} (hx : -2147483648 ≤ x ∧ x < 2147483648) (hy : -2147483648 ≤ y ∧ y < 2147483648) {v : Int64} : ed (f_HSheet_flip w (iZ x) (iZ y) v M) (fun r => r.1 = nI (spN W H x y v 64) ∧ DH w r.2 W H (spD D W H x y v 64) ∧ fr (2 ^ 29 ||| 2 ^ 30) [] M r.2) := by
  have hW := q.1
  unfold f_HSheet_flip
  have c1 : (iZ y < 0) = (y < 0) := iZ_lt (b := 0) hy (by decide)
  have c2 : (iZ y < im_i M 28 1) = (y < (H : Int)) := by rw [q.2.1.2, iZ_nI, iZ_lt hy (by omega)]
  simp only [c1, c2]
  by_cases h1 : y < 0
  · rw [if_pos h1]
    have so := sp_off (D := D) (W := W) (H := H) (x := x) (y := y) (v := v) (by omega) 64
    refine ed_mk ⟨?_, ?_, fr_refl⟩
    · rw [so.2]; rfl
    · rw [so.1]; exact q
  · by_cases h2 : y < (H : Int)
    · rw [if_neg h1, if_pos h2]
      apply bd2_mk
      refine ed_mono (lp_inv (fpI w M W H D x y v) (Q := fun (r : Int32 × im_M) => r.1 = nI (spN W H x y v 64) ∧ DH w r.2 W H (spD D W H x y v 64) ∧ fr (2 ^ 29 ||| 2 ^ 30) [] M r.2) ?_ (k := 64) ⟨0, rfl, rfl, rfl, q, fr_refl⟩) (fun r hr => ed_mk hr)
      rintro n ⟨m, i, M1⟩ ⟨k, hk, e1, e2, e3, e4⟩
      replace e1 : i = nI k := e1
      replace e2 : m = nI (spN W H x y v k) := e2
      replace e3 : DH w M1 W H (spD D W H x y v k) := e3
      replace e4 : fr (2 ^ 29 ||| 2 ^ 30) [] M M1 := e4
      subst e1 e2
      show ed (f_HSheet_flip_L20 w (iZ x) (iZ y) v (nI (spN W H x y v k)) (nI k) M1) _
      unfold f_HSheet_flip_L20
      by_cases h : 64 ≤ k
      · have hk6 : k = 64 := by omega
        subst hk6
        rw [if_pos (e64_64 h (by omega))]
        exact lpo_r ⟨rfl, e3, e4⟩
      · have hk2 : k < 64 := by omega
        have nx : ∀ (N : im_M), DH w N W H (spD D W H x y v (k + 1)) → fr (2 ^ 29 ||| 2 ^ 30) [] M N → ed (some (Sum.inl (nI (spN W H x y v k + (if spb W H x y v k = true then 1 else 0)), nI k + 1, N))) (lpo (fpI w M W H D x y v) (fun (r : Int32 × im_M) => r.1 = nI (spN W H x y v 64) ∧ DH w r.2 W H (spD D W H x y v 64) ∧ fr (2 ^ 29 ||| 2 ^ 30) [] M r.2) n) := by
          intro N g1 g2
          exact lpo_l (64 - (k + 1)) (by omega) ⟨k + 1, by omega, nI_1 k, rfl, g1, g2⟩
        have d1 : (lg_cmp (lZ (x + (k : Int))) 0 < 0) = (x + (k : Int) < 0) := by rw [lc_lt]; exact lZ_lt (b := 0) (by omega) (by decide)
        have d2 : (0 ≤ lg_cmp (lZ (x + (k : Int))) (Int32.toInt64 (im_i M1 28 0))) = ¬ (x + (k : Int) < (W : Int)) := by rw [lc_ge, e3.2.1.1, iZ_nI, iZ_l (by omega), lZ_lt (by omega) (by omega)]
        have keep : spb W H x y v k = false → ed (bd2 (some (nI (spN W H x y v k), M1)) fun (y9 : Int32) (M10 : im_M) => some (Sum.inl (y9, nI k + 1, M10))) (lpo (fpI w M W H D x y v) (fun (r : Int32 × im_M) => r.1 = nI (spN W H x y v 64) ∧ DH w r.2 W H (spD D W H x y v 64) ∧ fr (2 ^ 29 ||| 2 ^ 30) [] M r.2) n) := by
          intro hs
          rw [bd2_s]
          rw [hs] at nx
          refine nx M1 ?_ e4
          show DH w M1 W H (if spb W H x y v k = true then _ else spD D W H x y v k)
          rw [hs]
          exact e3
        rw [if_neg (e64_k hk2), e64_a hx (by omega)]
        simp only [u_and1 hk2, d1, d2]
        by_cases hb : lb v k = false
        · rw [if_pos hb]
          exact keep (by unfold spb; rw [hb]; rfl)
        · rw [if_neg hb]
          by_cases g1 : x + (k : Int) < 0
          · rw [if_pos g1]
            exact keep (by unfold spb; rw [decide_eq_false (by omega), Bool.and_false])
          · by_cases g2 : x + (k : Int) < (W : Int)
            · rw [if_neg g1, if_neg (by simp [g2])]
              obtain ⟨X, hX⟩ : ∃ X : Nat, x + (k : Int) = (X : Int) := ⟨(x + (k : Int)).toNat, by omega⟩
              obtain ⟨Y, rfl⟩ : ∃ Y : Nat, y = (Y : Int) := ⟨y.toNat, by omega⟩
              have hbit : (2 ^ 29 ||| 2 ^ 30).testBit (sw w) = true := by cases w <;> decide
              have hs : spb W H x (Y : Int) v k = true := by
                unfold spb
                rw [decide_eq_true (by omega)]
                simpa using hb
              have k6 : Int32.toInt64 6 = lZ ((6 : Nat) : Int) := by decide +kernel
              have es : (lZ (X : Int) >>> (Int32.toInt64 6 &&& 63) : Int64) = lZ ((X / 64 : Nat) : Int) := by
                rw [k6, lZ_shr (by decide) (by omega)]
                congr 1
              have ea : Int64.toInt32 (lZ (X : Int) &&& 63) = iZ ((X % 64 : Nat) : Int) := by
                have : ∀ X : Fin 512, Int64.toInt32 (lZ ((X.val : Nat) : Int) &&& 63) = iZ ((X.val % 64 : Nat) : Int) := by decide +kernel
                exact this ⟨X, by omega⟩
              have ei : iZ (Y : Int) * 8 + Int64.toInt32 (lZ ((X / 64 : Nat) : Int)) = nI (8 * Y + X / 64) := by
                rw [lZ_i (by omega), iZ_n, iZ_mul, iZ_add, iZ_nI]
                congr 1
                show (Y : Int) * 8 + ((X / 64 : Nat) : Int) = _
                omega
              rw [hX, es, ea, ei, gd_pos (by rw [inb_nI (by omega)]; omega), gd_pos (by rw [inb_nI (by omega)]; omega), nI_clamp (by omega), iZ_l (by omega), bd2_s, nI_1]
              rw [hs] at nx
              refine nx _ ?_ (fr_L hbit e4)
              show DH w _ W H (if spb W H x (Y : Int) v k = true then flip1 (spD D W H x (Y : Int) v k) (x + (k : Int)).toNat (Y : Int).toNat else spD D W H x (Y : Int) v k)
              rw [hs, hX]
              exact DH_flip e3 (by omega) (by omega)
            · rw [if_neg g1, if_pos g2]
              exact keep (by unfold spb; rw [decide_eq_false (by omega), Bool.and_false])
    · rw [if_neg h1, if_neg h2]
      have so := sp_off (D := D) (W := W) (H := H) (x := x) (y := y) (v := v) (by omega) 64
      refine ed_mk ⟨?_, ?_, fr_refl⟩
      · rw [so.2]; rfl
      · rw [so.1]; exact q
/-- the reference's sheet of places -/
def PR (M : im_M) (W H : Nat) (D : Nat → Nat → Bool) : Prop := (1 ≤ W ∧ W ≤ 512 ∧ 1 ≤ H ∧ H ≤ 512) ∧ (im_i M 130 1 = nI W ∧ im_i M 130 2 = nI H) ∧ ∀ x y, x < 512 → y < 512 → im_i M 131 (512 * y + x) = if D x y = true then 1 else 0
theorem PR_fr {A : Nat} {F : List (Nat × Nat)} {M M' : im_M} {W H : Nat} {D : Nat → Nat → Bool} (h : fr A F M M') (c : clr A F [131] [(130, 1), (130, 2)] [] = true) (q : PR M W H D) : PR M' W H D := by
  unfold PR at q ⊢
  rw [clr_a c h (a := 131) (by decide), clr_f c h (a := 130) (k := 1) (by decide), clr_f c h (a := 130) (k := 2) (by decide)]
  exact q
theorem e_isOnP {M : im_M} {W H : Nat} {D : Nat → Nat → Bool} (q : PR M W H D) {a b : Int} (ha : -9223372036854775808 ≤ a ∧ a < 9223372036854775808) (hb : -9223372036854775808 ≤ b ∧ b < 9223372036854775808) : f_MPlaceRows_isOn (lZ a) (lZ b) M = some (if 0 ≤ a ∧ a < (W : Int) ∧ 0 ≤ b ∧ b < (H : Int) then 1 else 0) := by
  have hW := q.1
  unfold f_MPlaceRows_isOn
  rw [q.2.1.1, q.2.1.2]
  have c1 : (lZ a < 0) = (a < 0) := lZ_lt (b := 0) ha (by decide)
  have c2 : (lZ b < 0) = (b < 0) := lZ_lt (b := 0) hb (by decide)
  have c3 : (lZ a < (nI W).toInt64) = (a < (W : Int)) := by rw [iZ_nI, iZ_l (by omega), lZ_lt ha (by omega)]
  have c4 : (lZ b < (nI H).toInt64) = (b < (H : Int)) := by rw [iZ_nI, iZ_l (by omega), lZ_lt hb (by omega)]
  simp only [lc_lt, lc_ge, c1, c2, c3, c4]
  by_cases h1 : a < 0
  · rw [if_pos h1, if_neg (by omega)]
  · by_cases h3 : a < (W : Int)
    · by_cases h2 : b < 0
      · rw [if_neg h1, if_neg (by simp [h3]), if_pos h2, if_neg (by omega)]
      · by_cases h4 : b < (H : Int)
        · rw [if_neg h1, if_neg (by simp [h3]), if_neg h2, if_neg (by simp [h4]), if_pos (by omega)]
        · rw [if_neg h1, if_neg (by simp [h3]), if_neg h2, if_pos h4, if_neg (by omega)]
    · rw [if_neg h1, if_pos h3, if_neg (by omega)]
/-- before each bit of the reference's turn of a row -/
def tuI (M : im_M) (W H : Nat) (D : Nat → Nat → Bool) (x y : Int) (v : Int64) (n : Nat) (s : Int32 × Int32 × im_M) : Prop := ∃ k : Nat, k + n = 64 ∧ s.2.1 = nI k ∧ s.1 = nI (spN W H x y v k) ∧ PR s.2.2 W H (spD D W H x y v k) ∧ fr (2 ^ 131) [(130, 0)] M s.2.2
theorem s_turnP {M : im_M} {W H : Nat} {D : Nat → Nat → Bool} (q : PR M W H D) {x y : Int} (hx : -2147483648 ≤ x ∧ x < 2147483648) (hy : -2147483648 ≤ y ∧ y < 2147483648) {v : Int64} : ed (f_MPlaceRows_turn (iZ x) (iZ y) v M) (fun r => r.1 = nI (spN W H x y v 64) ∧ PR r.2 W H (spD D W H x y v 64) ∧ fr (2 ^ 131) [(130, 0)] M r.2) := by
  have hW := q.1
  unfold f_MPlaceRows_turn
  apply bd2_mk
  refine ed_mono (lp_inv (tuI M W H D x y v) (Q := fun (r : Int32 × im_M) => r.1 = nI (spN W H x y v 64) ∧ PR r.2 W H (spD D W H x y v 64) ∧ fr (2 ^ 131) [(130, 0)] M r.2) ?_ (k := 64) ⟨0, rfl, rfl, rfl, q, fr_F (by decide) fr_refl⟩) (fun r hr => ed_mk hr)
  rintro n ⟨m, i, M1⟩ ⟨k, hk, e1, e2, e3, e4⟩
  replace e1 : i = nI k := e1
  replace e2 : m = nI (spN W H x y v k) := e2
  replace e3 : PR M1 W H (spD D W H x y v k) := e3
  replace e4 : fr (2 ^ 131) [(130, 0)] M M1 := e4
  subst e1 e2
  show ed (f_MPlaceRows_turn_L11 (iZ x) (iZ y) v (nI (spN W H x y v k)) (nI k) M1) _
  unfold f_MPlaceRows_turn_L11
  by_cases h : 64 ≤ k
  · have hk6 : k = 64 := by omega
    subst hk6
    rw [if_pos (e64_64 h (by omega))]
    exact lpo_r ⟨rfl, e3, e4⟩
  · have hk2 : k < 64 := by omega
    have nx : ∀ (N : im_M), PR N W H (spD D W H x y v (k + 1)) → fr (2 ^ 131) [(130, 0)] M N → ed (some (Sum.inl (nI (spN W H x y v k + (if spb W H x y v k = true then 1 else 0)), nI k + 1, N))) (lpo (tuI M W H D x y v) (fun (r : Int32 × im_M) => r.1 = nI (spN W H x y v 64) ∧ PR r.2 W H (spD D W H x y v 64) ∧ fr (2 ^ 131) [(130, 0)] M r.2) n) := by
      intro N g1 g2
      exact lpo_l (64 - (k + 1)) (by omega) ⟨k + 1, by omega, nI_1 k, rfl, g1, g2⟩
    have keep : spb W H x y v k = false → ed (bd2 (some (nI (spN W H x y v k), M1)) fun (y9 : Int32) (M10 : im_M) => some (Sum.inl (y9, nI k + 1, M10))) (lpo (tuI M W H D x y v) (fun (r : Int32 × im_M) => r.1 = nI (spN W H x y v 64) ∧ PR r.2 W H (spD D W H x y v 64) ∧ fr (2 ^ 131) [(130, 0)] M r.2) n) := by
      intro hs
      rw [bd2_s]
      rw [hs] at nx
      refine nx M1 ?_ e4
      show PR M1 W H (if spb W H x y v k = true then _ else spD D W H x y v k)
      rw [hs]
      exact e3
    rw [if_neg (e64_k hk2), e64_a hx (by omega), iZ_l hy, e_isOnP e3 (by omega) (by omega), bd1_s]
    simp only [s_and1 hk2]
    by_cases hb : lb v k = true
    · rw [if_neg (by simp [hb])]
      by_cases g : 0 ≤ x + (k : Int) ∧ x + (k : Int) < (W : Int) ∧ 0 ≤ y ∧ y < (H : Int)
      · rw [if_pos g, if_neg (by decide)]
        obtain ⟨X, hX⟩ : ∃ X : Nat, x + (k : Int) = (X : Int) := ⟨(x + (k : Int)).toNat, by omega⟩
        obtain ⟨Y, rfl⟩ : ∃ Y : Nat, y = (Y : Int) := ⟨y.toNat, by omega⟩
        have hs : spb W H x (Y : Int) v k = true := by
          unfold spb
          rw [decide_eq_true g, hb]
          rfl
        have e5 : iZ x + nI k = iZ (X : Int) := by rw [iZ_nI, iZ_add, hX]
        have e6 : (512 : Int32) * iZ (Y : Int) + iZ (X : Int) = nI (512 * Y + X) := by
          rw [iZ_n, iZ_mul, iZ_add, iZ_nI]
          congr 1
        have e7 : (512 : Int32) * iZ (Y : Int) + iZ x + nI k = nI (512 * Y + X) := by
          rw [iZ_n, iZ_nI, iZ_mul, iZ_add, iZ_add, iZ_nI]
          congr 1
          show (512 : Int) * (Y : Int) + x + (k : Int) = _
          omega
        have e8 : im_i M1 131 (512 * Y + X) = if spD D W H x (Y : Int) v k X Y = true then 1 else 0 := e3.2.2 X Y (by omega) (by omega)
        have ek : f_MPlaceRows_isDark (iZ x + nI k) (iZ (Y : Int)) M1 = some (if spD D W H x (Y : Int) v k X Y = true then 1 else 0) := by
          unfold f_MPlaceRows_isDark
          rw [e5, e6, gd_pos (by rw [inb_nI (by omega)]; omega), nI_clamp (by omega), gd_pos (by rw [e8]; split <;> simp), e8]
        rw [ek, bd1_s, e7, gd_pos (by rw [inb_nI (by omega)]; omega), nI_clamp (by omega), bd2_s, nI_1]
        rw [hs] at nx
        refine nx _ ?_ (fr_I (by decide) e4)
        show PR _ W H (if spb W H x (Y : Int) v k = true then flip1 (spD D W H x (Y : Int) v k) (x + (k : Int)).toNat (Y : Int).toNat else spD D W H x (Y : Int) v k)
        rw [hs, hX]
        refine ⟨e3.1, e3.2.1, ?_⟩
        intro a b ha hb2
        rw [mi_I, if_pos rfl]
        show (if 512 * b + a = 512 * Y + X then _ else _) = (if flip1 (spD D W H x (Y : Int) v k) X Y a b = true then (1 : Int32) else 0)
        unfold flip1
        by_cases c : a = X ∧ b = Y
        · obtain ⟨rfl, rfl⟩ := c
          rw [if_pos rfl]
          cases hd : spD D W H x (b : Int) v k a b
          · simp
            decide
          · simp
            decide
        · rw [if_neg (by omega), if_neg c]
          exact e3.2.2 a b ha hb2
      · rw [if_neg g, if_pos rfl]
        exact keep (by unfold spb; rw [decide_eq_false g, Bool.and_false])
    · rw [if_pos hb]
      exact keep (by unfold spb; simp at hb; rw [hb]; rfl)
theorem rowB_1 {X Y y : Nat} : ∀ n, rowB (fun a b => decide (a = X ∧ b = Y)) y n = if y = Y ∧ X < n then 1 else 0 := by
  intro n
  induction n with
  | zero => rw [if_neg (by omega)]; rfl
  | succ n ih =>
    show rowB _ y n + (if decide (n = X ∧ y = Y) = true then 1 else 0) = _
    rw [ih]
    by_cases h1 : y = Y
    · by_cases h2 : n = X
      · rw [if_neg (by omega), if_pos (by simp [h1, h2]), if_pos (by omega)]
      · by_cases h3 : X < n
        · rw [if_pos ⟨h1, h3⟩, if_neg (by simp [h2]), if_pos (by omega)]
        · rw [if_neg (by omega), if_neg (by simp [h2]), if_neg (by omega)]
    · rw [if_neg (by omega), if_neg (by simp [h1]), if_neg (by omega)]
theorem allB_1 {X Y W : Nat} (hX : X < W) : ∀ n, allB (fun a b => decide (a = X ∧ b = Y)) W n = if Y < n then 1 else 0 := by
  intro n
  induction n with
  | zero => rw [if_neg (by omega)]; rfl
  | succ n ih =>
    show allB _ W n + rowB _ n W = _
    rw [ih, rowB_1]
    by_cases h : Y < n
    · rw [if_pos h, if_neg (by omega), if_pos (by omega)]
    · by_cases h2 : n = Y
      · rw [if_neg h, if_pos ⟨h2, hX⟩, if_pos (by omega)]
      · rw [if_neg h, if_neg (by omega), if_neg (by omega)]
theorem s_frame1 {M : im_M} {W H : Nat} {D : Nat → Nat → Bool} (q : DR M W H D) (hwy : im_i M 89 3 = 2) {X Y : Nat} (hX : X < W) (hY : Y < H) : ed (f_MDotRows_frame (nI X) (nI Y) 1 1 1 M) (fun r => r.1 = 1 ∧ DR r.2 W H (flip1 D X Y) ∧ fr (2 ^ 90) [(89, 0), (89, 10), (89, 11), (89, 12), (89, 13), (89, 14)] M r.2) := by
  have hW := q.1
  unfold f_MDotRows_frame
  have er : f_MDotRows_noRing 1 1 1 M = some 0 := by
    unfold f_MDotRows_noRing
    rw [isn0 (by decide) (by decide), bd1_s]
    simp only [jn0]
    rw [if_neg (by decide), isn0 (by decide) (by decide), bd1_s, if_neg (by decide), bd1_s, if_pos rfl]
  rw [noPl (by omega) (by omega), bd1_s]
  simp only [jn0]
  rw [if_neg (by decide), er, bd1_s, if_pos rfl, bd1_s, if_pos (by show (0 : Int32) ≤ 0; decide)]
  unfold f_MDotRows_at
  rw [bd1_s]
  have f1 : fr 0 [(89, 0), (89, 10), (89, 11), (89, 12), (89, 13), (89, 14)] M (im_setI (im_setI (im_setI (im_setI (im_setI (im_setI M 89 0 0) 89 10 (nI X)) 89 11 (nI Y)) 89 12 1) 89 13 1) 89 14 1) := fr_F (by decide) (fr_F (by decide) (fr_F (by decide) (fr_F (by decide) (fr_F (by decide) (fr_F (by decide) fr_refl)))))
  apply bd2_mk
  refine ed_mono (s_draw (B := fun a b => decide (a = X ∧ b = Y)) (wy := 2) (DR_fr f1 (by decide +kernel) q) hwy (Or.inr rfl) ?_) ?_
  · intro M' f2 x y hx hy
    have g0 : im_i M' 89 10 = nI X := f2.1 89 10 rfl (by decide)
    have g1 : im_i M' 89 11 = nI Y := f2.1 89 11 rfl (by decide)
    have g2 : im_i M' 89 12 = 1 := f2.1 89 12 rfl (by decide)
    have g3 : im_i M' 89 13 = 1 := f2.1 89 13 rfl (by decide)
    have g4 : im_i M' 89 14 = 1 := f2.1 89 14 rfl (by decide)
    have e1 : f_MDotRows_inFrame (nI x) (nI y) M' = some (if decide (x = X ∧ y = Y) = true then 1 else 0) := by
      unfold f_MDotRows_inFrame
      rw [g0, g1, g2, g3, g4]
      have k1 : nI X + 1 - 1 = nI X := by rw [nI_1, nI_pred]
      have k2 : nI Y + 1 - 1 = nI Y := by rw [nI_1, nI_pred]
      rw [k1, k2]
      have c1 : (nI x < nI X) = (x < X) := propext (nI_ltI (by omega) (by omega))
      have c2 : (nI X < nI x) = (X < x) := propext (nI_ltI (by omega) (by omega))
      have c3 : (nI y < nI Y) = (y < Y) := propext (nI_ltI (by omega) (by omega))
      have c4 : (nI Y < nI y) = (Y < y) := propext (nI_ltI (by omega) (by omega))
      have c5 : (nI x < nI X + 1) = (x < X + 1) := by rw [nI_1]; exact propext (nI_ltI (by omega) (by omega))
      simp only [c1, c2, c3, c4, c5, jn0]
      by_cases h : x = X ∧ y = Y
      · obtain ⟨rfl, rfl⟩ := h
        simp
      · by_cases a1 : x < X
        · simp [a1, h]
        · by_cases a2 : X < x
          · simp [a1, a2, h]
          · by_cases a3 : y < Y
            · simp [a1, a2, a3, h]
            · by_cases a4 : Y < y
              · simp [a1, a2, a3, a4, h]
              · exact absurd ⟨by omega, by omega⟩ h
    show f_MDotRows_belongs 0 (nI x) (nI y) M' = some (if decide (x = X ∧ y = Y) = true then 1 else 0)
    unfold f_MDotRows_belongs
    rw [if_neg (by decide), e1, bd1_s, gd_pos (by split <;> simp)]
  · rintro ⟨n, N⟩ ⟨h1, h2, h3⟩
    refine ed_mk ⟨?_, DR_eq h2 ?_, fr_tr (fr_mono (by decide) (by decide) h3) (fr_mono (by decide) (by decide) f1)⟩
    · have h4 : n = nI (allB (fun a b => decide (a = X ∧ b = Y)) W H) := h1
      show n = 1
      rw [h4, allB_1 hX, if_pos hY]
      rfl
    · intro a b
      unfold flip1 stk
      by_cases c : a = X ∧ b = Y
      · rw [if_pos ⟨by omega, by omega, by simp [c]⟩, if_pos rfl, if_pos c]
      · rw [if_neg (fun z => c (by simpa using z.2.2)), if_neg c]
theorem sp_one {D : Nat → Nat → Bool} {W H X Y : Nat} (hX : X < W) (hY : Y < H) : ∀ k, k < 64 → spD D W H (X : Int) (Y : Int) 1 (k + 1) = flip1 D X Y := by
  intro k
  induction k with
  | zero =>
    intro _
    have e : spb W H (X : Int) (Y : Int) 1 0 = true := by
      unfold spb
      have e2 : decide (0 ≤ (X : Int) + ((0 : Nat) : Int) ∧ (X : Int) + ((0 : Nat) : Int) < (W : Int) ∧ 0 ≤ (Y : Int) ∧ (Y : Int) < (H : Int)) = true := decide_eq_true (by omega)
      rw [lb_1, e2]
      rfl
    show (if spb W H (X : Int) (Y : Int) 1 0 = true then flip1 D ((X : Int) + ((0 : Nat) : Int)).toNat (Y : Int).toNat else D) = _
    rw [if_pos e]
    rfl
  | succ k ih =>
    intro hk
    have e : spb W H (X : Int) (Y : Int) 1 (k + 1) = false := by
      unfold spb
      rw [lb_1]
      rfl
    show (if spb W H (X : Int) (Y : Int) 1 (k + 1) = true then _ else spD D W H (X : Int) (Y : Int) 1 (k + 1)) = _
    rw [e]
    exact ih (by omega)
/-- what spoil may change in the reference -/
def frS (M M' : im_M) : Prop := fr (2 ^ 90 ||| 2 ^ 131) [(69, 0), (71, 0), (89, 0), (96, 3), (108, 0), (130, 0), (89, 3), (89, 10), (89, 11), (89, 12), (89, 13), (89, 14)] M M'
theorem frS_1 {M M1 M2 : im_M} (h2 : fr1 M1 M2) (h1 : frS M M1) : frS M M2 := fr_tr (fr_mono (by decide) (by decide) h2) h1
/-- before each bit of the reference's spoil -/
def slI (M : im_M) (W H : Nat) (D : Nat → Nat → Bool) (x y : Int) (v : Int64) (n : Nat) (s : Int32 × Int32 × im_M) : Prop := ∃ k : Nat, k + n = 64 ∧ s.2.1 = nI k ∧ s.1 = nI (spN W H x y v k) ∧ DR s.2.2 W H (spD D W H x y v k) ∧ PR s.2.2 W H (spD D W H x y v k) ∧ im_i s.2.2 89 3 = 2 ∧ frS M s.2.2
theorem s_spoilM {M : im_M} {W H : Nat} {D : Nat → Nat → Bool} (q : DR M W H D) (p : PR M W H D) {x y : Int} (hx : -2147483648 ≤ x ∧ x < 2147483648) (hy : -2147483648 ≤ y ∧ y < 2147483648) {v : Int64} : ed (f_M_spoil (iZ x) (iZ y) v M) (fun r => r.1 = nI (spN W H x y v 64) ∧ DR r.2 W H (spD D W H x y v 64) ∧ PR r.2 W H (spD D W H x y v 64) ∧ frS M r.2) := by
  have hW := q.1
  unfold f_M_spoil
  have ew : f_MDotRows_way 2 (im_setI M 69 0 0) = some (im_i M 89 3, im_setI (im_setI (im_setI M 69 0 0) 89 0 0) 89 3 2) := by
    unfold f_MDotRows_way
    simp [mi_I]
  rw [ew, bd2_s]
  have f0 : frS M (im_setI (im_setI (im_setI M 69 0 0) 89 0 0) 89 3 2) := fr_F (by decide) (fr_F (by decide) (fr_F (by decide) fr_refl))
  have f0' : fr 0 [(69, 0), (89, 0), (89, 3)] M (im_setI (im_setI (im_setI M 69 0 0) 89 0 0) 89 3 2) := fr_F (by decide) (fr_F (by decide) (fr_F (by decide) fr_refl))
  apply bd2_mk
  refine ed_mono (lp_inv (slI M W H D x y v) (Q := fun (r : Int32 × im_M) => r.1 = nI (spN W H x y v 64) ∧ DR r.2 W H (spD D W H x y v 64) ∧ PR r.2 W H (spD D W H x y v 64) ∧ frS M r.2) ?_ (k := 64) ⟨0, rfl, rfl, rfl, DR_fr f0' (by decide +kernel) q, PR_fr f0' (by decide +kernel) p, rfl, f0⟩) (fun r hr => ed_mk hr)
  rintro n ⟨m, i, M1⟩ ⟨k, hk, e1, e2, e3, e4, e5, e6⟩
  replace e1 : i = nI k := e1
  replace e2 : m = nI (spN W H x y v k) := e2
  replace e3 : DR M1 W H (spD D W H x y v k) := e3
  replace e4 : PR M1 W H (spD D W H x y v k) := e4
  replace e5 : im_i M1 89 3 = 2 := e5
  replace e6 : frS M M1 := e6
  subst e1 e2
  show ed (f_M_spoil_L21 (iZ x) (iZ y) v (nI (spN W H x y v k)) (nI k) M1) _
  unfold f_M_spoil_L21
  by_cases h : 64 ≤ k
  · have hk6 : k = 64 := by omega
    subst hk6
    rw [if_pos (e64_64 h (by omega))]
    exact lpo_r ⟨rfl, e3, e4, e6⟩
  · have hk2 : k < 64 := by omega
    have nx : ∀ (N : im_M), DR N W H (spD D W H x y v (k + 1)) → PR N W H (spD D W H x y v (k + 1)) → im_i N 89 3 = 2 → frS M N → ed (some (Sum.inl (nI (spN W H x y v k + (if spb W H x y v k = true then 1 else 0)), nI k + 1, N))) (lpo (slI M W H D x y v) (fun (r : Int32 × im_M) => r.1 = nI (spN W H x y v 64) ∧ DR r.2 W H (spD D W H x y v 64) ∧ PR r.2 W H (spD D W H x y v 64) ∧ frS M r.2) n) := by
      intro N g1 g2 g3 g4
      exact lpo_l (64 - (k + 1)) (by omega) ⟨k + 1, by omega, nI_1 k, rfl, g1, g2, g3, g4⟩
    have keep : spb W H x y v k = false → ∀ N, fr1 M1 N → ed (some (Sum.inl (nI (spN W H x y v k), nI k + 1, N))) (lpo (slI M W H D x y v) (fun (r : Int32 × im_M) => r.1 = nI (spN W H x y v 64) ∧ DR r.2 W H (spD D W H x y v 64) ∧ PR r.2 W H (spD D W H x y v 64) ∧ frS M r.2) n) := by
      intro hs N fN
      have es : spD D W H x y v (k + 1) = spD D W H x y v k := by
        show (if spb W H x y v k = true then _ else spD D W H x y v k) = _
        rw [hs]
        rfl
      rw [hs, es] at nx
      exact nx N (DR_1 fN e3) (PR_fr fN (by decide +kernel) e4) (by rw [fN.1 89 3 rfl (by decide), e5]) (frS_1 fN e6)
    rw [if_neg (e64_k hk2), e64_a hx (by omega), iZ_l hy]
    simp only [s_and1 hk2]
    by_cases hb : lb v k = true
    · rw [if_neg (by simp [hb])]
      apply bd2_mk
      apply bd2_mk
      refine ed_mono (s_isOn e3 (a := x + (k : Int)) (b := y) (by omega) (by omega)) ?_
      rintro ⟨t, M2⟩ ⟨ht, f2⟩
      replace ht : t = if 0 ≤ x + (k : Int) ∧ x + (k : Int) < (W : Int) ∧ 0 ≤ y ∧ y < (H : Int) then 1 else 0 := ht
      replace f2 : fr1 M1 M2 := f2
      by_cases g : 0 ≤ x + (k : Int) ∧ x + (k : Int) < (W : Int) ∧ 0 ≤ y ∧ y < (H : Int)
      · rw [if_pos g] at ht
        subst ht
        obtain ⟨X, hX⟩ : ∃ X : Nat, x + (k : Int) = (X : Int) := ⟨(x + (k : Int)).toNat, by omega⟩
        obtain ⟨Y, rfl⟩ : ∃ Y : Nat, y = (Y : Int) := ⟨y.toNat, by omega⟩
        have hs : spb W H x (Y : Int) v k = true := by
          unfold spb
          rw [decide_eq_true g, hb]
          rfl
        have es : spD D W H x (Y : Int) v (k + 1) = flip1 (spD D W H x (Y : Int) v k) X Y := by
          show (if spb W H x (Y : Int) v k = true then flip1 (spD D W H x (Y : Int) v k) (x + (k : Int)).toNat (Y : Int).toNat else spD D W H x (Y : Int) v k) = _
          rw [hs, hX]
          rfl
        rw [hs, es] at nx
        show ed (if (1 : Int32) = 0 then _ else _) _
        rw [if_neg (by decide), hX, lZ_i (by omega)]
        apply bd2_mk
        rw [← iZ_nI (n := X), ← iZ_nI (n := Y)]
        refine ed_mono (s_frame1 (DR_1 f2 e3) (by rw [f2.1 89 3 rfl (by decide), e5]) (X := X) (Y := Y) (by omega) (by omega)) ?_
        rintro ⟨t3, M3⟩ ⟨h1, h2, h3⟩
        replace h1 : t3 = 1 := h1
        replace h2 : DR M3 W H (flip1 (spD D W H x (Y : Int) v k) X Y) := h2
        replace h3 : fr (2 ^ 90) [(89, 0), (89, 10), (89, 11), (89, 12), (89, 13), (89, 14)] M2 M3 := h3
        subst h1
        apply bd2_mk
        rw [iZ_nI (n := X), iZ_nI (n := Y)]
        refine ed_mono (s_turnP (PR_fr h3 (by decide +kernel) (PR_fr f2 (by decide +kernel) e4)) (x := (X : Int)) (y := (Y : Int)) (v := 1) (by omega) (by omega)) ?_
        rintro ⟨t4, M4⟩ ⟨_, h5, h6⟩
        replace h5 : PR M4 W H (spD (spD D W H x (Y : Int) v k) W H (X : Int) (Y : Int) 1 64) := h5
        replace h6 : fr (2 ^ 131) [(130, 0)] M3 M4 := h6
        rw [sp_one (by omega) (by omega) 63 (by decide)] at h5
        refine ed_mk ?_
        show ed (some (Sum.inl (nI (spN W H x (Y : Int) v k) + 1, nI k + 1, M4))) _
        rw [nI_1 (spN W H x (Y : Int) v k)]
        refine nx M4 (DR_fr h6 (by decide +kernel) h2) h5 ?_ (fr_tr (fr_mono (by decide) (by decide) h6) (fr_tr (fr_mono (by decide) (by decide) h3) (frS_1 f2 e6)))
        rw [h6.1 89 3 rfl (by decide), h3.1 89 3 rfl (by decide), f2.1 89 3 rfl (by decide), e5]
      · rw [if_neg g] at ht
        subst ht
        show ed (if (0 : Int32) = 0 then _ else _) _
        rw [if_pos rfl]
        refine ed_mk ?_
        exact keep (by unfold spb; rw [decide_eq_false g, Bool.and_false]) M2 f2
    · rw [if_pos hb, bd2_s]
      exact keep (by unfold spb; simp at hb; rw [hb]; rfl) M1 fr1_refl
theorem c_spoil {w : Bool} {M : im_M} {p0 p1 : Int32} {p2 : Int64} (q : RL w M) : ed (f_H_spoil w p0 p1 p2 M) (fun r => ed (f_M_spoil p0 p1 p2 r.2) (fun s => r.1 = s.1 ∧ RL w s.2)) := by
  obtain ⟨W, H, D, ⟨h1, ⟨h2, h3, h4, h5, h6, h7⟩, h8, h9, h10, h11⟩, rp⟩ := q.2.2.2.2.2.2.1
  have dh : DH w M W H D := ⟨h1, ⟨h2, h3⟩, h8, h9⟩
  have dr : DR M W H D := ⟨h1, ⟨h4, h5⟩, h8, h10⟩
  have pr : PR M W H D := ⟨h1, ⟨h6, h7⟩, h11⟩
  obtain ⟨x, rfl, x1, x2⟩ := iZ_of p0
  obtain ⟨y, rfl, y1, y2⟩ := iZ_of p1
  unfold f_H_spoil
  apply bd2_mk
  refine ed_mono (s_flip dh ⟨x1, x2⟩ ⟨y1, y2⟩ (v := p2)) ?_
  rintro ⟨n, M1⟩ ⟨g1, g2, g3⟩
  replace g1 : n = nI (spN W H x y p2 64) := g1
  replace g2 : DH w M1 W H (spD D W H x y p2 64) := g2
  replace g3 : fr (2 ^ 29 ||| 2 ^ 30) [] M M1 := g3
  refine ed_mk ?_
  show ed (f_M_spoil (iZ x) (iZ y) p2 M1) _
  refine ed_mono (s_spoilM (DR_fr g3 (by decide +kernel) dr) (PR_fr g3 (by decide +kernel) pr) ⟨x1, x2⟩ ⟨y1, y2⟩ (v := p2)) ?_
  rintro ⟨m, M2⟩ ⟨k1, k2, k3, k4⟩
  replace k1 : m = nI (spN W H x y p2 64) := k1
  replace k2 : DR M2 W H (spD D W H x y p2 64) := k2
  replace k3 : PR M2 W H (spD D W H x y p2 64) := k3
  replace k4 : frS M1 M2 := k4
  refine ⟨by rw [g1, k1], ?_⟩
  have hf : fr (2 ^ 29 ||| 2 ^ 30 ||| 2 ^ 90 ||| 2 ^ 131) [(69, 0), (71, 0), (89, 0), (96, 3), (108, 0), (130, 0), (89, 3), (89, 10), (89, 11), (89, 12), (89, 13), (89, 14)] M M2 := fr_tr (fr_mono (by decide) (by decide) k4) (fr_mono (by decide) (by decide) g3)
  have g4 : DH w M2 W H (spD D W H x y p2 64) := DH_fr k4 (by decide +kernel) g2
  refine RL_D hf ⟨W, H, spD D W H x y p2 64, ⟨h1, ⟨g4.2.1.1, g4.2.1.2, k2.2.1.1, k2.2.1.2, k3.2.1.1, k3.2.1.2⟩, k2.2.2.1, g4.2.2.2, k2.2.2.2, k3.2.2⟩, ?_⟩ q
  show RP (im_i M2 59 0) (im_i M2 130 10) (im_l M2 62) (im_i M2 63) (im_i M2 135) W H
  rw [hf.1 59 0 rfl (by decide), hf.1 130 10 rfl (by decide), hf.2 62 rfl, fr_c hf 63 rfl (by decide), fr_c hf 135 rfl (by decide)]
  exact rp
