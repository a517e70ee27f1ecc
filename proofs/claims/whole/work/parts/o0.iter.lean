/-! LOOPS THAT COUNT: the state after k turns -/
def itN {S : Type} (f : Nat → S → S) (s : S) : Nat → S
  | 0 => s
  | k + 1 => f k (itN f s k)
theorem lp_for {T R S : Type} {b : T → Option (T ⊕ R)} (I : Nat → S → T → Prop) {Q : S → R → Prop} (k : Nat) (f : Nat → S → S) (step : ∀ i s t, i < k → I i s t → ed (b t) (fun r => ∃ t', r = Sum.inl t' ∧ I (i + 1) (f i s) t')) (fin : ∀ s t, I k s t → ed (b t) (fun r => ∃ z, r = Sum.inr z ∧ Q s z)) {s : S} {t : T} (h : I 0 s t) : ed (lp b t) (Q (itN f s k)) := by
  refine lp_inv (fun m (t : T) => ∃ i, i + m = k ∧ I i (itN f s i) t) ?_ (k := k) ⟨0, by omega, h⟩
  rintro m t ⟨i, hi, hI⟩
  by_cases c : i < k
  · refine ed_mono (step i _ t c hI) ?_
    rintro r ⟨t', rfl, h'⟩
    exact ⟨m - 1, by omega, i + 1, by omega, h'⟩
  · obtain rfl : i = k := by omega
    refine ed_mono (fin _ t hI) ?_
    rintro r ⟨z, rfl, h'⟩
    exact h'
theorem itN_rel {S T : Type} {f : Nat → S → S} {g : Nat → T → T} {R : Nat → S → T → Prop} {s : S} {t : T} (h : R 0 s t) : ∀ k, (∀ i a b, i < k → R i a b → R (i + 1) (f i a) (g i b)) → R k (itN f s k) (itN g t k) := by
  intro k
  induction k with
  | zero => intro _; exact h
  | succ k ih =>
    intro hs
    exact hs k _ _ (Nat.lt_succ_self k) (ih (fun i a b hi => hs i a b (by omega)))
theorem itN_inv {S : Type} {f : Nat → S → S} {R : Nat → S → Prop} {s : S} (h : R 0 s) : ∀ k, (∀ i a, i < k → R i a → R (i + 1) (f i a)) → R k (itN f s k) := by
  intro k
  induction k with
  | zero => intro _; exact h
  | succ k ih =>
    intro hs
    exact hs k _ (Nat.lt_succ_self k) (ih (fun i a hi => hs i a (by omega)))
theorem itN_two {S : Type} {f : Nat → S → S} {s : S} : ∀ k, itN f s (2 * k) = itN (fun i a => f (2 * i + 1) (f (2 * i) a)) s k := by
  intro k
  induction k with
  | zero => rfl
  | succ k ih =>
    show f (2 * k + 1) (f (2 * k) (itN f s (2 * k))) = f (2 * k + 1) (f (2 * k) (itN (fun i a => f (2 * i + 1) (f (2 * i) a)) s k))
    rw [ih]
/-- an array with one element set -/
def upI (A : Nat → Int32) (k : Nat) (v : Int32) (j : Nat) : Int32 := if j = k then v else A j
theorem up_hit {A : Nat → Int32} {k : Nat} {v : Int32} : upI A k v k = v := if_pos rfl
theorem up_sk {A : Nat → Int32} {k j : Nat} {v : Int32} (h : j ≠ k) : upI A k v j = A j := if_neg h
theorem up_I {M : im_M} {a k : Nat} {v : Int32} : im_i (im_setI M a k v) a = upI (im_i M a) k v := funext fun j => by
  rw [mi_I, if_pos rfl]
  rfl
theorem up_o {M : im_M} {a b k : Nat} {v : Int32} (h : b ≠ a) : im_i (im_setI M a k v) b = im_i M b := funext fun j => by
  rw [mi_I, if_neg h]
/-! THE TABLES OF SQUARE SYMBOLS -/
def sgN (n : Nat) : Option Nat := fdp (fun i => xb_1 (nI i) = (Int32.toInt8 (nI n)).toInt32) 45
theorem s_indexOf1 {M : im_M} {n : Nat} (hn : n < 256) : f_String_indexOf_1 (((Int32.toUInt32 (nI n)) % 65536).toInt32) M = some (oI (sgN n)) := by
  rw [u16_t ⟨n, hn⟩]
  show f_String_indexOf_1 (nI n) M = _
  unfold f_String_indexOf_1 f_String_indexOf2_1 f_String_isLatin1_1 f_String_length_1 f_String_coder_1 f_StringLatin1_indexOf_1 f_StringLatin1_canEncode f_Math_max f_Math_min f_StringLatin1_indexOfChar_1
  rw [if_neg (by decide), if_neg (by decide), bd1_s, if_neg (by decide), if_neg (by decide), bd1_s, bd1_s]
  have z1 : (nI n < 0) = (n < 0) := nIlt (c := 0) (by omega) (by omega)
  have z2 : ((255 : Int32) < nI n) = (255 < n) := nIlt (x := 255) (by omega) (by omega)
  simp only [z1, z2]
  rw [if_neg (by omega), if_neg (by omega), bd1_s, if_pos (by decide), if_neg (by decide), bd1_s]
  have e45 : (Int32.ofNat 45 >>> (0 &&& 31 : Int32) : Int32) = nI 45 := by decide +kernel
  rw [e45, if_neg (by decide), bd1_s, if_pos (by decide), lp_fdp (N := 45) (p := fun i => xb_1 (nI i) = (Int32.toInt8 (nI n)).toInt32) ?_ ?_ ?_]
  · rfl
  · intro i hi h
    unfold f_StringLatin1_indexOfChar_1_L7
    rw [if_nIl (by omega) (by omega), if_neg (by omega), gd_pos (by rw [inb_nI (by omega)]; omega), if_neg (show ¬ ¬ xb_1 (nI i) = (Int32.toInt8 (nI n)).toInt32 from fun z => z h)]
  · intro i hi h
    unfold f_StringLatin1_indexOfChar_1_L7
    rw [if_nIl (by omega) (by omega), if_neg (by omega), gd_pos (by rw [inb_nI (by omega)]; omega), if_pos (show ¬ xb_1 (nI i) = (Int32.toInt8 (nI n)).toInt32 from h)]
    exact congrArg (fun z => some (Sum.inl z)) (nI_add i 1)
  · unfold f_StringLatin1_indexOfChar_1_L7
    rw [if_nIl (by omega) (by omega), if_pos (by omega)]
/-- the reference finds the same sign -/
theorem sg_ref {M : im_M} (n : Fin 256) : f_MSquareRows_signOf (nI n.val) M = some (oI (sgN n.val)) := by
  unfold f_MSquareRows_signOf
  revert n
  decide +kernel
theorem sg_t : ∀ n : Fin 256, (∀ c, sgN n.val = some c → c < 45) ∧ (48 ≤ n.val ∧ n.val ≤ 57 → sgN n.val = some (n.val - 48)) := by
  have : ∀ n : Fin 256, (match sgN n.val with | some c => decide (c < 45) | none => true) && decide (48 ≤ n.val ∧ n.val ≤ 57 → sgN n.val = some (n.val - 48)) = true := by decide +kernel
  intro n
  have h := this n
  rw [Bool.and_eq_true] at h
  refine ⟨fun c hc => ?_, of_decide_eq_true (of_decide_eq_true h.2)⟩
  rw [hc] at h
  exact of_decide_eq_true h.1
/-- may a byte stand in a mode -/
def mayB (m b : Nat) : Bool := if m = 2 then true else if m = 0 then decide (48 ≤ b) && decide (b ≤ 57) else (sgN b).isSome
/-- state behind a byte of a mode, and what it takes -/
def nxS (m s : Nat) : Nat := [1, 2, 0, 1, 1, 1, 1, 4, 4, 4, 4, 3, 4, 4, 5, 5, 5, 5, 5, 5, 5].getD (7 * m + s) 0
def cbS (g m : Nat) : Nat := [10, 9, 8, 12, 11, 16, 14, 13, 16].getD (3 * g + m) 0
def moS (s : Nat) : Nat := [0, 0, 0, 1, 1, 2, 3].getD s 0
def csS (g s m : Nat) : Nat := (if moS s = m then 0 else 4 + cbS g m) + [3, 4, 3, 5, 6, 8, 0].getD (nxS m s) 0
theorem tb_nx : ∀ (m : Fin 3) (s : Fin 7), xa_7 (nI (7 * m.val + s.val)) = nI (nxS m.val s.val) ∧ nxS m.val s.val < 6 := by decide +kernel
theorem tb_cb : ∀ (g m : Fin 3), xa_9 (nI (3 * g.val + m.val)) = nI (cbS g.val m.val) ∧ cbS g.val m.val ≤ 16 ∧ 8 ≤ cbS g.val m.val := by decide +kernel
theorem tb_mo : ∀ (m : Fin 3) (s : Fin 7), (xa_8 (nI s.val) = nI m.val ↔ moS s.val = m.val) := by decide +kernel
theorem tb_bt : ∀ (s : Fin 7), xa_10 (nI s.val) = nI ([3, 4, 3, 5, 6, 8, 0].getD s.val 0) := by decide +kernel
theorem tb_cs : ∀ (g m : Fin 3) (s : Fin 7), 3 ≤ csS g.val s.val m.val ∧ csS g.val s.val m.val ≤ 28 := by decide +kernel
/-- the reference's states: none yet is -1 -/
def sI (s : Nat) : Int32 := if s = 6 then -1 else nI s
theorem rf_st {M : im_M} (m : Fin 3) (s : Fin 7) : f_MSquareRows_stateAfter (sI s.val) (nI m.val) M = some (nI (nxS m.val s.val)) := by
  unfold f_MSquareRows_stateAfter f_MSquareRows_modeOf
  revert m s
  decide +kernel
theorem rf_cs {M : im_M} (g m : Fin 3) (s : Fin 7) : f_MSquareRows_costOf (sI s.val) (nI m.val) (nI g.val) M = some (nI (csS g.val s.val m.val)) := by
  unfold f_MSquareRows_costOf f_MSquareRows_stateAfter f_MSquareRows_modeOf f_MSquareRows_lengthBits
  revert g m s
  decide +kernel
theorem rf_lb {M : im_M} (g m : Fin 3) : f_MSquareRows_lengthBits (nI m.val) (nI g.val) M = some (nI (cbS g.val m.val)) := by
  unfold f_MSquareRows_lengthBits
  revert g m
  decide +kernel
theorem rf_may {M : im_M} (m : Fin 3) (b : Fin 256) : f_MSquareRows_may (nI m.val) (nI b.val) M = some (if mayB m.val b.val = true then 1 else 0) := by
  unfold f_MSquareRows_may f_MSquareRows_signOf
  revert m b
  decide +kernel
theorem s_isOf {M : im_M} {m b : Nat} (hm : m < 3) (hb : b < 256) : f_HSegments_isOf (nI m) (nI b) M = some (if mayB m b = true then 1 else 0) := by
  unfold f_HSegments_isOf mayB
  simp only [jn0]
  have k2 : (nI m = 2) = (m = 2) := nIe (c := 2) (by omega) (by omega)
  have k0 : (nI m = 0) = (m = 0) := nIe (c := 0) (by omega) (by omega)
  have b1 : (nI b < 48) = (b < 48) := nIlt (c := 48) (by omega) (by omega)
  have b2 : ((57 : Int32) < nI b) = (57 < b) := nIlt (x := 57) (by omega) (by omega)
  simp only [k2, k0, b1, b2]
  by_cases c2 : m = 2
  · rw [if_pos c2, if_pos c2, if_pos rfl]
  · rw [if_neg c2, if_neg c2]
    by_cases c0 : m = 0
    · rw [if_neg (fun z => z c0), if_pos c0]
      by_cases d1 : b < 48
      · rw [if_pos d1, decide_eq_false (by omega), Bool.false_and, if_neg (by decide)]
      · rw [if_neg d1, decide_eq_true (by omega), Bool.true_and]
        by_cases d2 : 57 < b
        · rw [if_pos d2, decide_eq_false (by omega), if_neg (by decide)]
        · rw [if_neg d2, decide_eq_true (by omega), if_pos rfl]
    · rw [if_pos c0, if_neg c0, s_indexOf1 hb, bd1_s]
      cases e : sgN b with
      | none => rfl
      | some c =>
        have l := (sg_t ⟨b, hb⟩).1 c e
        have z : ¬ oI (some c) < 0 := nI_pos (by omega)
        rw [if_neg z]
        rfl
