/-! THERE IS ROOM FOR EVERY BIT -/
def smN (f : Nat → Nat) : Nat → Nat
  | 0 => 0
  | k + 1 => smN f k + f k
theorem smN_add {f g : Nat → Nat} : ∀ k, smN (fun j => f j + g j) k = smN f k + smN g k := by
  intro k
  induction k with
  | zero => rfl
  | succ k ih =>
    show smN (fun j => f j + g j) k + (f k + g k) = smN f k + f k + (smN g k + g k)
    omega
theorem smN_f (f : Nat → Nat) : ∀ k, smN f (k + 1) = f 0 + smN (fun j => f (j + 1)) k := by
  intro k
  induction k with
  | zero => show 0 + f 0 = f 0 + 0; omega
  | succ k ih =>
    show smN f (k + 1) + f (k + 1) = f 0 + (smN (fun j => f (j + 1)) k + f (k + 1))
    omega
theorem smN_rev (f : Nat → Nat) : ∀ n, smN (fun j => f (n - 1 - j)) n = smN f n := by
  intro n
  induction n with
  | zero => rfl
  | succ n ih =>
    rw [smN_f]
    have e : (fun j => f (n + 1 - 1 - (j + 1))) = fun j => f (n - 1 - j) := funext fun j => by
      rw [show n + 1 - 1 - (j + 1) = n - 1 - j by omega]
    rw [e, ih]
    show f (n + 1 - 1 - 0) + smN f n = smN f n + f n
    rw [show n + 1 - 1 - 0 = n by omega, Nat.add_comm]
def zbN (m y : Nat) : Nat := 1 - m / 2 ^ y % 2
theorem zb_t {m y : Nat} (h : m.testBit y = true) : zbN m y = 0 := by
  rw [Nat.testBit_eq_decide_div_mod_eq, decide_eq_true_eq] at h
  unfold zbN
  rw [h]
theorem zb_1 {m y : Nat} : zbN m y ≤ 1 := Nat.sub_le _ _
def czN (m n : Nat) : Nat := smN (zbN m) n
theorem yc_sum {n p m : Nat} : smN (fun j => zbN m (ycO n p j)) n = czN m n := by
  unfold czN ycO
  by_cases c : p % 2 = 0
  · simp only [if_pos c]
    exact smN_rev (zbN m) n
  · simp only [if_neg c]
theorem rd_cnt {n x y : Nat} {F : Nat → Int32} {C : Nat → Nat} {g : Nat → Nat → Bool} {a : RS2} (hZ : (C x).testBit y = false → F (177 * y + x) = 0) : a.2 + zbN (C x) y ≤ (rdS F g x y a).2 := by
  have z1 := zb_1 (m := C x) (y := y)
  unfold rdS
  by_cases z : F (177 * y + x) = 0
  · rw [if_pos z]
    show a.2 + zbN (C x) y ≤ a.2 + 1
    omega
  · rw [if_neg z]
    cases e : (C x).testBit y with
    | false => exact absurd (hZ e) z
    | true => rw [zb_t e]; exact Nat.le_refl _
theorem rt_6 {n p : Nat} (hn : 21 ≤ n ∧ n % 2 = 1) (hp : p < (n - 1) / 2) : rtC n p ≠ 6 ∧ rtC n p - 1 ≠ 6 := by
  unfold rtC
  split <;> omega
theorem cold_cnt {n p : Nat} {F : Nat → Int32} {C : Nat → Nat} {g : Nat → Nat → Bool} {s : RS2} (hn : 21 ≤ n ∧ n % 2 = 1) (hp : p < (n - 1) / 2) (hZ : ∀ x y, x < n → y < n → x ≠ 6 → (C x).testBit y = false → F (177 * y + x) = 0) : s.2 + (czN (C (rtC n p)) n + czN (C (rtC n p - 1)) n) ≤ (colD n F g p s).2 := by
  obtain ⟨r1, r2⟩ := rt_6 hn hp
  have key := itN_inv (R := fun i (a : RS2) => s.2 + smN (fun j => zbN (C (rtC n p)) (ycO n p j) + zbN (C (rtC n p - 1)) (ycO n p j)) i ≤ a.2) (f := fun i a => rdS F g (rtC n p - 1) (ycO n p i) (rdS F g (rtC n p) (ycO n p i) a)) (s := s) (Nat.le_refl _) n (fun i a hi q => by
    obtain ⟨b1, b2, b3⟩ := cy_b (n := n) (p := p) (i := i) hn hp hi
    have c1 := rd_cnt (n := n) (C := C) (g := g) (a := a) (x := rtC n p) (y := ycO n p i) (F := F) (fun z => hZ _ _ b2 b3 r1 z)
    have c2 := rd_cnt (n := n) (C := C) (g := g) (a := rdS F g (rtC n p) (ycO n p i) a) (x := rtC n p - 1) (y := ycO n p i) (F := F) (fun z => hZ _ _ (by omega) b3 r2 z)
    replace q : s.2 + smN (fun j => zbN (C (rtC n p)) (ycO n p j) + zbN (C (rtC n p - 1)) (ycO n p j)) i ≤ a.2 := q
    show s.2 + (smN (fun j => zbN (C (rtC n p)) (ycO n p j) + zbN (C (rtC n p - 1)) (ycO n p j)) i + (zbN (C (rtC n p)) (ycO n p i) + zbN (C (rtC n p - 1)) (ycO n p i))) ≤ _
    omega)
  rw [smN_add, yc_sum, yc_sum] at key
  rw [cold_two]
  exact key
theorem alld_cnt {n : Nat} {F : Nat → Int32} {C : Nat → Nat} {g : Nat → Nat → Bool} {T : Nat → Bool} (hn : 21 ≤ n ∧ n % 2 = 1) (hZ : ∀ x y, x < n → y < n → x ≠ 6 → (C x).testBit y = false → F (177 * y + x) = 0) : smN (fun p => czN (C (rtC n p)) n + czN (C (rtC n p - 1)) n) ((n - 1) / 2) ≤ (allD n F g (T, 0)).2 := by
  refine itN_inv (R := fun p (a : RS2) => smN (fun p => czN (C (rtC n p)) n + czN (C (rtC n p - 1)) n) p ≤ a.2) (f := fun p s => colD n F g p s) (s := (T, 0)) (Nat.le_refl _) ((n - 1) / 2) (fun p a hp q => ?_)
  have c := cold_cnt (g := g) (s := a) hn hp hZ
  replace q : smN (fun p => czN (C (rtC n p)) n + czN (C (rtC n p - 1)) n) p ≤ a.2 := q
  show smN (fun p => czN (C (rtC n p)) n + czN (C (rtC n p - 1)) n) p + (czN (C (rtC n p)) n + czN (C (rtC n p - 1)) n) ≤ (colD n F g p a).2
  omega
/-! which modules can be fixed: a column as bits -/
def mkB (lo len : Nat) : Nat := (2 ^ len - 1) <<< lo
theorem mkB_t {lo len y : Nat} (h1 : lo ≤ y) (h2 : y < lo + len) : (mkB lo len).testBit y = true := by
  unfold mkB
  rw [Nat.testBit_shiftLeft, Nat.testBit_two_pow_sub_one, decide_eq_true h1, decide_eq_true (show y - lo < len by omega)]
  rfl
theorem or_l {a b y : Nat} (h : a.testBit y = true) : (a ||| b).testBit y = true := by rw [Nat.testBit_or, h, Bool.true_or]
theorem or_r {a b y : Nat} (h : b.testBit y = true) : (a ||| b).testBit y = true := by rw [Nat.testBit_or, h, Bool.or_true]
def alM (v x : Nat) : Nat := itN (fun i a => if smP v i ≤ x + 2 ∧ x ≤ smP v i + 2 then itN (fun j a => if crB (v / 7 + 2) i j = true then a else a ||| mkB (smP v j - 2) 5) a (v / 7 + 2) else a) 0 (v / 7 + 2)
theorem alM_t {v x y i j : Nat} (hi : i < v / 7 + 2) (hj : j < v / 7 + 2) (hc : ¬ crB (v / 7 + 2) i j = true) (hx : smP v i ≤ x + 2 ∧ x ≤ smP v i + 2) (hy : smP v j ≤ y + 2 ∧ y ≤ smP v j + 2) : (alM v x).testBit y = true := by
  have kp : ∀ (i a k : Nat), a.testBit y = true → (itN (fun j a => if crB (v / 7 + 2) i j = true then a else a ||| mkB (smP v j - 2) 5) a k).testBit y = true := fun i a k h => itN_inv (R := fun _ (a : Nat) => a.testBit y = true) (f := fun j a => if crB (v / 7 + 2) i j = true then a else a ||| mkB (smP v j - 2) 5) h k (fun j a _ q => by
    show (if crB (v / 7 + 2) i j = true then a else a ||| mkB (smP v j - 2) 5).testBit y = true
    split
    · exact q
    · exact or_l q)
  have inn : ∀ a : Nat, (itN (fun j a => if crB (v / 7 + 2) i j = true then a else a ||| mkB (smP v j - 2) 5) a (v / 7 + 2)).testBit y = true := fun a => by
    refine itN_inv (R := fun k (a : Nat) => j < k → a.testBit y = true) (f := fun j a => if crB (v / 7 + 2) i j = true then a else a ||| mkB (smP v j - 2) 5) (fun z => absurd z (Nat.not_lt_zero _)) (v / 7 + 2) (fun k a hk q z => ?_) hj
    show (if crB (v / 7 + 2) i k = true then a else a ||| mkB (smP v k - 2) 5).testBit y = true
    by_cases e : j = k
    · subst e
      rw [if_neg hc]
      exact or_r (mkB_t (by omega) (by omega))
    · have q' := q (by omega)
      split
      · exact q'
      · exact or_l q'
  unfold alM
  refine itN_inv (R := fun k (a : Nat) => i < k → a.testBit y = true) (f := fun i a => if smP v i ≤ x + 2 ∧ x ≤ smP v i + 2 then itN (fun j a => if crB (v / 7 + 2) i j = true then a else a ||| mkB (smP v j - 2) 5) a (v / 7 + 2) else a) (fun z => absurd z (Nat.not_lt_zero _)) (v / 7 + 2) (fun k a hk q z => ?_) hi
  show (if smP v k ≤ x + 2 ∧ x ≤ smP v k + 2 then itN (fun j a => if crB (v / 7 + 2) k j = true then a else a ||| mkB (smP v j - 2) 5) a (v / 7 + 2) else a).testBit y = true
  by_cases e : i = k
  · subst e
    rw [if_pos hx]
    exact inn a
  · have q' := q (by omega)
    split
    · exact kp k a _ q'
    · exact q'
def colM (v x : Nat) : Nat := mkB 6 1 ||| ((if x ≤ 8 then mkB 0 9 ||| mkB (17 + 4 * v - 8) 8 else 0) ||| ((if 17 + 4 * v - 8 ≤ x then mkB 0 9 else 0) ||| ((if v ≤ 1 then 0 else alM v x) ||| (if v ≤ 6 then 0 else (if 17 + 4 * v - 11 ≤ x then mkB 0 6 else 0) ||| (if x < 6 then mkB (17 + 4 * v - 11) 3 else 0)))))
theorem cm_6 {v x : Nat} : (colM v x).testBit 6 = true := or_l (mkB_t (by omega) (by omega))
theorem cm_a {v x y : Nat} (hx : x ≤ 8) (hy : y ≤ 8 ∨ (17 + 4 * v - 8 ≤ y ∧ y < 17 + 4 * v)) : (colM v x).testBit y = true := by
  refine or_r (or_l ?_)
  rw [if_pos hx]
  rcases hy with h | h
  · exact or_l (mkB_t (by omega) (by omega))
  · exact or_r (mkB_t (by omega) (by omega))
theorem cm_b {v x y : Nat} (hx : 17 + 4 * v - 8 ≤ x) (hy : y ≤ 8) : (colM v x).testBit y = true := by
  refine or_r (or_r (or_l ?_))
  rw [if_pos hx]
  exact mkB_t (by omega) (by omega)
theorem cm_c {v x y : Nat} (hv : ¬ v ≤ 1) (h : (alM v x).testBit y = true) : (colM v x).testBit y = true := by
  refine or_r (or_r (or_r (or_l ?_)))
  rw [if_neg hv]
  exact h
theorem cm_d {v x y : Nat} (hv : ¬ v ≤ 6) (h : (17 + 4 * v - 11 ≤ x ∧ y < 6) ∨ (x < 6 ∧ 17 + 4 * v - 11 ≤ y ∧ y < 17 + 4 * v - 8)) : (colM v x).testBit y = true := by
  refine or_r (or_r (or_r (or_r ?_)))
  rw [if_neg hv]
  rcases h with h | h
  · refine or_l ?_
    rw [if_pos h.1]
    exact mkB_t (by omega) (by omega)
  · refine or_r ?_
    rw [if_pos h.1]
    exact mkB_t (by omega) (by omega)
def ZP (n : Nat) (C : Nat → Nat) (s : GS) : Prop := ∀ x y, x < n → y < n → x ≠ 6 → ¬ s.2 (177 * y + x) = 0 → (C x).testBit y = true
theorem fx_zp {n : Nat} {C : Nat → Nat} {a b : Int} {d : Bool} {s : GS} (hn : n ≤ 177) (hP : ∀ x y : Nat, a = (x : Int) → b = (y : Int) → x < n → y < n → x ≠ 6 → (C x).testBit y = true) (h : ZP n C s) : ZP n C (fx n a b d s) := fun x y hx hy h6 hz => by
  rw [(fx_at hn hx hy).2] at hz
  by_cases e : a = (x : Int) ∧ b = (y : Int)
  · exact hP x y e.1 e.2 hx hy h6
  · rw [if_neg e] at hz
    exact h x y hx hy h6 hz
theorem it_zp {n k : Nat} {C : Nat → Nat} {s : GS} {f : Nat → GS → GS} (hf : ∀ i a, i < k → ZP n C a → ZP n C (f i a)) (h : ZP n C s) : ZP n C (itN f s k) := itN_inv (R := fun _ s => ZP n C s) h k hf
theorem sqF_zp {n k li : Nat} {C : Nat → Nat} {x0 y0 : Int} {s : GS} (hn : n ≤ 177) (hP : ∀ x y : Nat, x0 - (k : Int) ≤ (x : Int) → (x : Int) ≤ x0 + (k : Int) → y0 - (k : Int) ≤ (y : Int) → (y : Int) ≤ y0 + (k : Int) → x < n → y < n → x ≠ 6 → (C x).testBit y = true) (h : ZP n C s) : ZP n C (sqF n x0 y0 k li s) := it_zp (fun a s ha q => it_zp (fun b s hb q => fx_zp hn (fun x y ex ey hx hy h6 => hP x y (by omega) (by omega) (by omega) (by omega) hx hy h6) q) q) h
theorem frm_zp {v : Nat} {w : Int32} {s : GS} (hv : 1 ≤ v ∧ v ≤ 40) (z : zG (17 + 4 * v) s) : ZP (17 + 4 * v) (colM v) (frmG (17 + 4 * v) v w s) := by
  obtain ⟨n, en⟩ : ∃ n, n = 17 + 4 * v := ⟨_, rfl⟩
  have hn : n ≤ 177 := by omega
  rw [← en] at z ⊢
  have z0 : ZP n (colM v) s := fun x y hx hy h6 hz => absurd (z x y hx hy).2 hz
  have zA : ZP n (colM v) (frmA n s) := by
    unfold frmA
    refine sqF_zp hn (fun x y h1 h2 h3 h4 hx hy h6 => cm_a (by omega) (Or.inr (by omega))) ?_
    refine sqF_zp hn (fun x y h1 h2 h3 h4 hx hy h6 => cm_b (by omega) (by omega)) ?_
    refine sqF_zp hn (fun x y h1 h2 h3 h4 hx hy h6 => cm_a (by omega) (Or.inl (by omega))) ?_
    refine it_zp (fun i a hi q => ?_) z0
    refine fx_zp hn (fun x y ex ey hx hy h6 => absurd (show x = 6 by omega) h6) (fx_zp hn (fun x y ex ey hx hy h6 => ?_) q)
    rw [show y = 6 by omega]
    exact cm_6
  have zB : ZP n (colM v) (frmB n v (frmA n s)) := by
    unfold frmB
    by_cases c : v ≤ 1
    · rw [if_pos c]
      exact zA
    · rw [if_neg c]
      unfold smF
      refine it_zp (fun i a hi q => it_zp (fun j a hj q => ?_) q) zA
      by_cases d : crB (v / 7 + 2) i j = true
      · rw [if_pos d]
        exact q
      · rw [if_neg d]
        exact sqF_zp hn (fun x y h1 h2 h3 h4 hx hy h6 => cm_c c (alM_t hi hj d ⟨by omega, by omega⟩ ⟨by omega, by omega⟩)) q
  have zD : ZP n (colM v) (frmD n w (frmB n v (frmA n s))) := by
    unfold frmD
    refine fx_zp hn (fun x y ex ey hx hy h6 => cm_a (by omega) (Or.inr (by omega))) ?_
    unfold fmF
    refine it_zp (fun i a hi q => ?_) zB
    unfold fmS
    refine fx_zp hn (fun x y ex ey hx hy h6 => ?_) (fx_zp hn (fun x y ex ey hx hy h6 => ?_) q)
    · unfold fmX at ex
      unfold fmY at ey
      rw [if_pos rfl] at ex ey
      by_cases c : i < 8
      · rw [if_pos c] at ex ey
        exact cm_b (by omega) (by omega)
      · rw [if_neg c] at ex ey
        exact cm_a (by omega) (Or.inr (by omega))
    · unfold fmX at ex
      unfold fmY at ey
      rw [if_neg (by omega)] at ex ey
      by_cases c : i < 8
      · rw [if_pos c] at ex
        refine cm_a (by omega) (Or.inl ?_)
        by_cases c2 : i < 6
        · rw [if_pos c2] at ey; omega
        · rw [if_neg c2] at ey
          by_cases c3 : i = 6
          · rw [if_pos c3] at ey; omega
          · rw [if_neg c3] at ey; omega
      · rw [if_neg c] at ex
        rw [if_neg (show ¬ i < 6 by omega), if_neg (show ¬ i = 6 by omega)] at ey
        refine cm_a ?_ (Or.inl (by omega))
        by_cases c2 : i = 8
        · rw [if_pos c2] at ex; omega
        · rw [if_neg c2] at ex; omega
  unfold frmG frmE
  by_cases c : v ≤ 6
  · rw [if_pos c]
    exact zD
  · rw [if_neg c]
    unfold vsF
    refine it_zp (fun i a hi q => ?_) zD
    unfold vsS
    refine fx_zp hn (fun x y ex ey hx hy h6 => cm_d c (Or.inr ⟨by omega, by omega, by omega⟩)) (fx_zp hn (fun x y ex ey hx hy h6 => cm_d c (Or.inl ⟨by omega, by omega⟩)) q)
def ctV (v : Nat) : Nat := smN (fun p => czN (colM v (rtC (17 + 4 * v) p)) (17 + 4 * v) + czN (colM v (rtC (17 + 4 * v) p - 1)) (17 + 4 * v)) ((17 + 4 * v - 1) / 2)
theorem ct_all : ∀ v : Fin 41, 1 ≤ v.val → 8 * CW v.val ≤ ctV v.val := by decide +kernel
/-- all bits of the codewords are read -/
theorem alld_room {v : Nat} {w : Int32} {s : GS} {g : Nat → Nat → Bool} {T : Nat → Bool} (hv : 1 ≤ v ∧ v ≤ 40) (z : zG (17 + 4 * v) s) : 8 * CW v ≤ (allD (17 + 4 * v) (frmG (17 + 4 * v) v w s).2 g (T, 0)).2 := by
  refine Nat.le_trans (ct_all ⟨v, by omega⟩ hv.1) ?_
  exact alld_cnt (n := 17 + 4 * v) (C := colM v) ⟨by omega, by omega⟩ (fun x y hx hy h6 hb => by
    by_cases c : (frmG (17 + 4 * v) v w s).2 (177 * y + x) = 0
    · exact c
    · have := frm_zp (w := w) hv z x y hx hy h6 c
      rw [this] at hb
      cases hb)
