/-! THE FIELD OF 256 -/
def xt (x : Nat) : Nat := if 2 * x ≤ 255 then 2 * x else (2 * x) ^^^ 285
def pwN : Nat → Nat
  | 0 => 1
  | k + 1 => xt (pwN k)
def lgL : List Nat := [0, 0, 1, 25, 2, 50, 26, 198, 3, 223, 51, 238, 27, 104, 199, 75, 4, 100, 224, 14, 52, 141, 239, 129, 28, 193, 105, 248, 200, 8, 76, 113, 5, 138, 101, 47, 225, 36, 15, 33, 53, 147, 142, 218, 240, 18, 130, 69, 29, 181, 194, 125, 106, 39, 249, 185, 201, 154, 9, 120, 77, 228, 114, 166, 6, 191, 139, 98, 102, 221, 48, 253, 226, 152, 37, 179, 16, 145, 34, 136, 54, 208, 148, 206, 143, 150, 219, 189, 241, 210, 19, 92, 131, 56, 70, 64, 30, 66, 182, 163, 195, 72, 126, 110, 107, 58, 40, 84, 250, 133, 186, 61, 202, 94, 155, 159, 10, 21, 121, 43, 78, 212, 229, 172, 115, 243, 167, 87, 7, 112, 192, 247, 140, 128, 99, 13, 103, 74, 222, 237, 49, 197, 254, 24, 227, 165, 153, 119, 38, 184, 180, 124, 17, 68, 146, 217, 35, 32, 137, 46, 55, 63, 209, 91, 149, 188, 207, 205, 144, 135, 151, 178, 220, 252, 190, 97, 242, 86, 211, 171, 20, 42, 93, 158, 132, 60, 57, 83, 71, 109, 65, 162, 31, 45, 67, 216, 183, 123, 164, 118, 196, 23, 73, 236, 127, 12, 111, 246, 108, 161, 59, 82, 41, 157, 85, 170, 251, 96, 134, 177, 187, 204, 62, 90, 203, 89, 95, 176, 156, 169, 160, 81, 11, 245, 22, 235, 122, 117, 44, 215, 79, 174, 213, 233, 230, 231, 173, 232, 116, 214, 244, 234, 168, 80, 88, 175]
def lgN (a : Nat) : Nat := lgL.getD a 0
theorem xt_lt : ∀ x : Fin 256, xt x.val < 256 := by decide +kernel
theorem pw_lt : ∀ k, pwN k < 256 := by
  intro k
  induction k with
  | zero => decide
  | succ k ih => exact xt_lt ⟨pwN k, ih⟩
theorem pw_255 : pwN 255 = 1 := by decide +kernel
theorem pw_per : ∀ i, pwN (255 + i) = pwN i := by
  intro i
  induction i with
  | zero => exact pw_255
  | succ i ih =>
    show xt (pwN (255 + i)) = xt (pwN i)
    rw [ih]
theorem lg_a : ∀ a : Fin 256, a.val ≠ 0 → pwN (lgN a.val) = a.val ∧ lgN a.val < 255 := by decide +kernel
theorem lg_p : ∀ i : Fin 255, lgN (pwN i.val) = i.val ∧ pwN i.val ≠ 0 := by decide +kernel
theorem pw_ne (i : Nat) : pwN i ≠ 0 := by
  have h : ∀ k, pwN (255 * k + i % 255) = pwN (i % 255) := by
    intro k
    induction k with
    | zero => rw [Nat.mul_zero, Nat.zero_add]
    | succ k ih =>
      rw [show 255 * (k + 1) + i % 255 = 255 + (255 * k + i % 255) by omega, pw_per, ih]
  have := h (i / 255)
  rw [show 255 * (i / 255) + i % 255 = i by omega] at this
  rw [this]
  exact (lg_p ⟨i % 255, by omega⟩).2
/-- the product -/
def gm (a b : Nat) : Nat := if a = 0 ∨ b = 0 then 0 else pwN (lgN a + lgN b)
theorem gm_lt {a b : Nat} : gm a b < 256 := by
  unfold gm
  split
  · omega
  · exact pw_lt _
theorem gm_0 {b : Nat} : gm 0 b = 0 := if_pos (Or.inl rfl)
theorem gm_z {a : Nat} : gm a 0 = 0 := if_pos (Or.inr rfl)
/-! the class's tables -/
theorem xt_i : ∀ x : Fin 256, (if 255 < nI x.val <<< ((1 : Int32) &&& 31) then (nI x.val <<< ((1 : Int32) &&& 31)) ^^^ 285 else nI x.val <<< ((1 : Int32) &&& 31)) = nI (xt x.val) := by decide +kernel
theorem bl_pw : ∀ k, bl_v k = nI (pwN k) := by
  intro k
  induction k with
  | zero => rfl
  | succ k ih =>
    show (if 255 < bl_v k <<< ((1 : Int32) &&& 31) then (bl_v k <<< ((1 : Int32) &&& 31)) ^^^ 285 else bl_v k <<< ((1 : Int32) &&& 31)) = nI (xt (pwN k))
    rw [ih]
    exact xt_i ⟨pwN k, pw_lt k⟩
theorem u2_hit {f : Nat → Nat → Int32} {a k : Nat} {v : Int32} : im_u2 f a k v a k = v := by
  unfold im_u2
  simp
theorem u2_a {f : Nat → Nat → Int32} {a k b j : Nat} {v : Int32} (h : ¬ (b = a ∧ j = k)) : im_u2 f a k v b j = f b j := by
  unfold im_u2
  by_cases c : b = a
  · have d : ¬ j = k := fun z => h ⟨c, z⟩
    simp [c, d]
  · simp [c]
theorem bl_s {k : Nat} : bl_i (k + 1) = if k < 255 then im_u2 (im_u2 (bl_i k) 45 k (bl_v k)) 46 (bl_v k).toNatClampNeg (nI k) else im_u2 (bl_i k) 45 k (bl_v k) := rfl
theorem bl_45 : ∀ k i, i < k → bl_i k 45 i = nI (pwN i) := by
  intro k
  induction k with
  | zero => intro i hi; omega
  | succ k ih =>
    intro i hi
    have core : im_u2 (bl_i k) 45 k (bl_v k) 45 i = nI (pwN i) := by
      by_cases e : i = k
      · subst e
        rw [u2_hit, bl_pw]
      · rw [u2_a (fun z => e z.2)]
        exact ih i (by omega)
    rw [bl_s]
    by_cases c : k < 255
    · rw [if_pos c, u2_a (fun z => by omega)]
      exact core
    · rw [if_neg c]
      exact core
theorem bl_46 : ∀ k i, i < k → i < 255 → bl_i k 46 (pwN i) = nI i := by
  intro k
  induction k with
  | zero => intro i hi; omega
  | succ k ih =>
    intro i hi h2
    rw [bl_s]
    by_cases c : k < 255
    · rw [if_pos c, bl_pw, nI_clamp (by have := pw_lt k; omega)]
      by_cases e : i = k
      · subst e
        exact u2_hit
      · rw [u2_a (fun z => e ?_), u2_a (fun z => by omega)]
        · exact ih i (by omega) h2
        · have a := (lg_p ⟨i, h2⟩).1
          have b := (lg_p ⟨k, c⟩).1
          rw [show pwN i = pwN k from z.2] at a
          exact a.symm.trans b
    · rw [if_neg c, u2_a (fun z => by omega)]
      exact ih i (by omega) h2
def PWL (M : im_M) : Prop := im_i M 45 = im_i mm_341 45 ∧ im_i M 46 = im_i mm_341 46
theorem PWL_fr {A : Nat} {F : List (Nat × Nat)} {M M' : im_M} (h : fr A F M M') (c : clr A F [45, 46] [] [] = true) (q : PWL M) : PWL M' := by
  unfold PWL at q ⊢
  rw [clr_a c h (a := 45) (by decide), clr_a c h (a := 46) (by decide)]
  exact q
theorem mmA_45 : im_i mm_341 45 = bl_i 510 45 := rfl
theorem mmA_46 : im_i mm_341 46 = bl_i 510 46 := rfl
theorem pw_M {M : im_M} {i : Nat} (q : PWL M) (hi : i < 510) : im_i M 45 i = nI (pwN i) := by
  rw [q.1, mmA_45]
  exact bl_45 510 i hi
theorem lg_M {M : im_M} {a : Nat} (q : PWL M) (ha : a < 256) (h0 : a ≠ 0) : im_i M 46 a = nI (lgN a) := by
  obtain ⟨a1, a2⟩ := lg_a ⟨a, ha⟩ h0
  replace a1 : pwN (lgN a) = a := a1
  replace a2 : lgN a < 255 := a2
  have := bl_46 510 (lgN a) (by omega) a2
  rw [a1] at this
  rw [q.2, mmA_46]
  exact this
theorem s_timesC {M : im_M} {a b : Nat} (q : PWL M) (ha : a < 256) (hb : b < 256) : f_HBlocks_times (nI a) (nI b) M = some (nI (gm a b)) := by
  unfold f_HBlocks_times gm
  have ka : (nI a = 0) = (a = 0) := nIe (c := 0) (by omega) (by omega)
  have kb : (nI b = 0) = (b = 0) := nIe (c := 0) (by omega) (by omega)
  simp only [jn0, ka, kb]
  by_cases ca : a = 0
  · rw [if_pos ca, if_pos (Or.inl ca)]
    rfl
  · rw [if_neg ca]
    by_cases cb : b = 0
    · rw [if_neg (fun z => z cb), if_pos (Or.inr cb)]
      rfl
    · have la := (lg_a ⟨a, ha⟩ ca).2
      have lb := (lg_a ⟨b, hb⟩ cb).2
      replace la : lgN a < 255 := la
      replace lb : lgN b < 255 := lb
      rw [if_pos cb, if_neg (fun z => z.elim ca cb), gd_pos (by rw [inb_nI (by omega)]; omega), gd_pos (by rw [inb_nI (by omega)]; omega), nI_clamp (by omega), nI_clamp (by omega), lg_M q ha ca, lg_M q hb cb, nI_add, gd_pos (by rw [inb_nI (by omega)]; omega), nI_clamp (by omega), pw_M q (by omega)]
/-! the reference's way -/
def gmR : Nat → Nat → Nat → Nat
  | 0, _, _ => 0
  | f + 1, x, k => (if k % 2 = 1 then x else 0) ^^^ gmR f (xt x) (k / 2)
theorem xt_xor : ∀ a b : Fin 256, xt (a.val ^^^ b.val) = xt a.val ^^^ xt b.val := by decide +kernel
theorem xor_lt {a b : Nat} (ha : a < 256) (hb : b < 256) : a ^^^ b < 256 := Nat.xor_lt_two_pow (n := 8) ha hb
theorem gmR_lt : ∀ f x k, x < 256 → gmR f x k < 256 := by
  intro f
  induction f with
  | zero => intro x k _; show 0 < 256; omega
  | succ f ih =>
    intro x k hx
    refine xor_lt ?_ (ih _ _ (xt_lt ⟨x, hx⟩))
    split <;> omega
theorem gmR_xt : ∀ f x k, x < 256 → gmR f (xt x) k = xt (gmR f x k) := by
  intro f
  induction f with
  | zero => intro x k _; rfl
  | succ f ih =>
    intro x k hx
    have hy := xt_lt ⟨x, hx⟩
    replace hy : xt x < 256 := hy
    show (if k % 2 = 1 then xt x else 0) ^^^ gmR f (xt (xt x)) (k / 2) = xt ((if k % 2 = 1 then x else 0) ^^^ gmR f (xt x) (k / 2))
    have l := gmR_lt f (xt x) (k / 2) hy
    have z : (if k % 2 = 1 then x else 0) < 256 := by split <;> omega
    rw [ih (xt x) (k / 2) hy, xt_xor ⟨_, z⟩ ⟨_, l⟩]
    congr 1
    show _ = xt (if k % 2 = 1 then x else 0)
    split
    · rfl
    · rfl
theorem gmR_1 : ∀ b : Fin 256, gmR 8 1 b.val = b.val := by decide +kernel
theorem gmR_p {b : Nat} (hb : b < 256) (j : Nat) (hj : b = pwN j) : ∀ i, gmR 8 (pwN i) b = pwN (i + j) := by
  intro i
  induction i with
  | zero =>
    rw [Nat.zero_add, ← hj]
    exact gmR_1 ⟨b, hb⟩
  | succ i ih =>
    show gmR 8 (xt (pwN i)) b = _
    rw [gmR_xt _ _ _ (pw_lt i), ih, show i + 1 + j = i + j + 1 by omega]
    rfl
theorem gmR_0 : ∀ f k, gmR f 0 k = 0 := by
  intro f
  induction f with
  | zero => intro k; rfl
  | succ f ih =>
    intro k
    show (if k % 2 = 1 then 0 else 0) ^^^ gmR f 0 (k / 2) = 0
    rw [ih]
    split <;> rfl
theorem gmR_z : ∀ f x, gmR f x 0 = 0 := by
  intro f
  induction f with
  | zero => intro x; rfl
  | succ f ih =>
    intro x
    show 0 ^^^ gmR f (xt x) 0 = 0
    rw [ih]
    rfl
theorem gmR_gm {a b : Nat} (ha : a < 256) (hb : b < 256) : gmR 8 a b = gm a b := by
  unfold gm
  by_cases ca : a = 0
  · rw [if_pos (Or.inl ca), ca, gmR_0]
  · by_cases cb : b = 0
    · rw [if_pos (Or.inr cb), cb, gmR_z]
    · rw [if_neg (fun z => z.elim ca cb)]
      have p := (lg_a ⟨a, ha⟩ ca).1
      have q := (lg_a ⟨b, hb⟩ cb).1
      have := gmR_p hb (lgN b) q.symm (lgN a)
      rw [show pwN (lgN a) = a from p] at this
      exact this
theorem xt_r : ∀ x : Fin 256, ((if (nI x.val <<< (1 &&& 31 : Int32) : Int32) ≤ 255 then (nI x.val <<< (1 &&& 31 : Int32) : Int32) else ((nI x.val <<< (1 &&& 31 : Int32) : Int32) ^^^ 285)) : Int32) = nI (xt x.val) := by decide +kernel
theorem kk_r : ∀ k : Fin 256, (nI k.val &&& 1) = nI (k.val % 2) ∧ (nI k.val >>> (1 &&& 31 : Int32) : Int32) = nI (k.val / 2) := by decide +kernel
theorem s_timesR {M : im_M} {a b : Nat} (ha : a < 256) (hb : b < 256) : f_MSquareRows_times (nI a) (nI b) M = some (nI (gm a b)) := by
  have run : ed (lp (uc3 (f_MSquareRows_times_L7 M)) (0, nI a, nI b)) (fun r => r = nI (gm a b)) := by
    refine lp_inv (fun f (s : Int32 × Int32 × Int32) => ∃ P X K : Nat, P < 256 ∧ X < 256 ∧ K < 256 ∧ K < 2 ^ f ∧ P ^^^ gmR f X K = gm a b ∧ s.1 = nI P ∧ s.2.1 = nI X ∧ s.2.2 = nI K) ?_ (k := 8) ⟨0, a, b, by omega, ha, hb, hb, by rw [Nat.zero_xor]; exact gmR_gm ha hb, rfl, rfl, rfl⟩
    rintro f ⟨x2, x3, x4⟩ ⟨P, X, K, hP, hX, hK, hK2, e, e1, e2, e3⟩
    replace e1 : x2 = nI P := e1
    replace e2 : x3 = nI X := e2
    replace e3 : x4 = nI K := e3
    subst e1 e2 e3
    show ed (f_MSquareRows_times_L7 M (nI P) (nI X) (nI K)) _
    unfold f_MSquareRows_times_L7
    have k0 : (nI K = 0) = (K = 0) := nIe (c := 0) (by omega) (by omega)
    have k1 : (nI (K % 2) = 1) = (K % 2 = 1) := nIe (c := 1) (by omega) (by omega)
    obtain ⟨t1, t2⟩ := kk_r ⟨K, hK⟩
    replace t1 : nI K &&& 1 = nI (K % 2) := t1
    replace t2 : (nI K >>> (1 &&& 31 : Int32) : Int32) = nI (K / 2) := t2
    rw [t1, t2, xt_r ⟨X, hX⟩, nI_xor]
    simp only [k0, k1]
    by_cases c : K = 0
    · rw [if_pos c]
      refine lpo_r ?_
      rw [c, gmR_z, Nat.xor_zero] at e
      rw [e]
    · rw [if_neg c]
      cases f with
      | zero => exact absurd hK2 (by show ¬ K < 2 ^ 0; omega)
      | succ f =>
        refine lpo_l f (by omega) ⟨if ¬ K % 2 = 1 then P else P ^^^ X, xt X, K / 2, ?_, xt_lt ⟨X, hX⟩, by omega, ?_, ?_, ?_, rfl, rfl⟩
        · split
          · exact hP
          · exact xor_lt hP hX
        · rw [Nat.pow_succ] at hK2
          omega
        · rw [← e]
          show _ = P ^^^ ((if K % 2 = 1 then X else 0) ^^^ gmR f (xt X) (K / 2))
          by_cases d : K % 2 = 1
          · rw [if_neg (fun z => z d), if_pos d, Nat.xor_assoc]
          · rw [if_pos d, if_neg d, Nat.zero_xor]
        · show (if ¬ K % 2 = 1 then nI P else nI (P ^^^ X)) = _
          by_cases d : K % 2 = 1
          · rw [if_neg (fun z => z d), if_neg (fun z => z d)]
          · rw [if_pos d, if_pos d]
  obtain ⟨r, hr, rfl⟩ := run
  unfold f_MSquareRows_times
  rw [hr, bd1_s]
theorem s_two {M : im_M} {k : Nat} (hk : k < 255) : f_MSquareRows_two (nI k) M = some (nI (pwN k)) := by
  have r : nI k - nI k / 255 * 255 = nI (k % 255) := nI_rem (b := 255) (by omega) (by omega) (by omega)
  have k0 : (0 : Int32) ≤ nI (k % 255) := by
    have : ((0 : Int32) ≤ nI (k % 255)) = (0 ≤ k % 255) := nIl (x := 0) (by omega) (by omega)
    rw [this]; omega
  unfold f_MSquareRows_two
  rw [r, if_pos k0, Nat.mod_eq_of_lt hk]
  have e : lp (uc2 (f_MSquareRows_two_L24 (nI k) M)) (1, 0) = some (nI (pwN k)) := by
    refine lp_row (fun i => (nI (pwN i), nI i)) k (fun i hi => ?_) ?_
    · show f_MSquareRows_two_L24 (nI k) M (nI (pwN i)) (nI i) = some (Sum.inl (nI (xt (pwN i)), nI (i + 1)))
      unfold f_MSquareRows_two_L24
      rw [if_nIl (by omega) (by omega), if_neg (by omega), xt_r ⟨pwN i, pw_lt i⟩]
      exact congrArg (fun z => some (Sum.inl (_, z))) (nI_add i 1)
    · show f_MSquareRows_two_L24 (nI k) M (nI (pwN k)) (nI k) = _
      unfold f_MSquareRows_two_L24
      rw [if_nIl (by omega) (by omega), if_pos (by omega)]
  rw [e, bd1_s]
