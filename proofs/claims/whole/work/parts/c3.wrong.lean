/-! HOW MANY DOTS ARE WRONG -/
def ce (m : Nat) (c z : Int) : Int := if c = 1 then ((m * m : Nat) : Int) - z else if c = 0 then z else 0
def EE (s q m : Nat) (B : Nat → Nat → Int) : Int := iS (fun b => iS (fun a => ce m (moq q (cl s a) (cl s b)) (B a b)) s) s
def bS (X : Nat → Nat → Int) (a0 b0 w h : Nat) : Int := iS (fun b => iS (fun a => X (a0 + a) (b0 + b)) w) h
theorem bS_k {c : Int} {a0 b0 w h : Nat} : bS (fun _ _ => c) a0 b0 w h = h * (w * c) := by
  unfold bS
  rw [iS_c h (fun b _ => iS_k (c := c) w), iS_k]
theorem bS_sub {X Y : Nat → Nat → Int} {a0 b0 w h : Nat} : bS (fun a b => X a b - Y a b) a0 b0 w h = bS X a0 b0 w h - bS Y a0 b0 w h := by
  unfold bS
  rw [← iS_sub]
  exact iS_c h (fun b _ => iS_sub w)
theorem EE_T {s q m : Nat} {B : Nat → Nat → Int} : EE s q m B = TT s (fun a b => if moq q (cl s a) (cl s b) = 1 then 1 else 0) (fun a b => ((m * m : Nat) : Int) - B a b) + TT s (fun a b => if moq q (cl s a) (cl s b) = 0 then 1 else 0) B := by
  unfold EE TT
  rw [← iS_add]
  refine iS_c s (fun b _ => ?_)
  rw [← iS_add]
  refine iS_c s (fun a _ => ?_)
  unfold ce
  by_cases h1 : moq q (cl s a) (cl s b) = 1
  · simp only [h1]; simp
  · by_cases h0 : moq q (cl s a) (cl s b) = 0
    · simp only [h0]; simp
    · simp only [h1, h0]; simp
theorem i7 {v t a : Nat} {y : Bool} (ht : t ≤ 2) (hv : 1 ≤ v) (h : a < 17 + 4 * v) : p7 t y (cl (17 + 4 * v) a) = true ↔ (if y = true then 10 + 4 * v else 0) + t ≤ a ∧ a < (if y = true then 10 + 4 * v else 0) + t + (7 - 2 * t) := by
  unfold p7 cl
  cases y <;> simp only [if_true, Bool.false_eq_true, if_false, Bool.and_eq_true, decide_eq_true_eq] <;> (repeat' split) <;> omega
theorem i8 {v a : Nat} {y : Bool} (hv : 1 ≤ v) (h : a < 17 + 4 * v) : p8 y (cl (17 + 4 * v) a) = true ↔ (if y = true then 9 + 4 * v else 0) ≤ a ∧ a < (if y = true then 9 + 4 * v else 0) + 8 := by
  unfold p8 cl
  cases y <;> simp only [if_true, Bool.false_eq_true, if_false, Bool.and_eq_true, decide_eq_true_eq] <;> (repeat' split) <;> omega
theorem iE {v a : Nat} {y : Bool} (hv : 1 ≤ v) (h : a < 17 + 4 * v) : pE y (cl (17 + 4 * v) a) = true ↔ 8 ≤ a ∧ a < 9 + 4 * v ∧ (a % 2 = 1 ↔ y = true) := by
  unfold pE mdc cl
  cases y <;> simp only [Bool.and_eq_true, decide_eq_true_eq, beq_iff_eq, Bool.false_eq_true, beq_eq_false_iff_ne, iff_true, iff_false] <;> (repeat' split) <;> omega
/-- where a class of one row lies -/
def at1 (s z : Nat) : Nat := if z ≤ 8 then z else if z = 11 then s - 9 else s - 1 - (z - 12)
theorem i1 {v z a : Nat} (hz : z ≤ 8 ∨ z = 11 ∨ (12 ≤ z ∧ z < 20)) (hv : 1 ≤ v) (h : a < 17 + 4 * v) : p1 z (cl (17 + 4 * v) a) = true ↔ a = at1 (17 + 4 * v) z := by
  unfold p1 at1 cl
  simp only [beq_iff_eq]
  repeat' split
  all_goals omega
theorem at1_lt {v z : Nat} (hz : z ≤ 8 ∨ z = 11 ∨ (12 ≤ z ∧ z < 20)) (hv : 1 ≤ v) : at1 (17 + 4 * v) z < 17 + 4 * v := by
  unfold at1
  repeat' split
  all_goals omega
def oX (v : Nat) (y : Bool) : Nat := if y = true then 10 + 4 * v else 0
def ringE (m : Nat) (B : Nat → Nat → Int) (x y : Nat) : Int := 33 * ((m * m : Nat) : Int) - bS B x y 7 7 + 2 * bS B (x + 1) (y + 1) 5 5 - 2 * bS B (x + 2) (y + 2) 3 3
def edgE (B : Nat → Nat → Int) (v c : Nat) : Int := bS B (oX v (cnR c) - (if cnR c = true then 1 else 0)) (oX v (cnD c) - (if cnD c = true then 1 else 0)) 8 8 - bS B (oX v (cnR c)) (oX v (cnD c)) 7 7
theorem T_k7 {v t c : Nat} {X : Nat → Nat → Int} (ht : t ≤ 2) (hv : 1 ≤ v) : TT (17 + 4 * v) (fun a b => k7 t c (cl (17 + 4 * v) a) (cl (17 + 4 * v) b)) X = bS X (oX v (cnR c) + t) (oX v (cnD c) + t) (7 - 2 * t) (7 - 2 * t) := by
  have o1 : ∀ y, oX v y ≤ 10 + 4 * v := fun y => by unfold oX; split <;> omega
  refine TT_rct (p1 := fun a => p7 t (cnR c) (cl (17 + 4 * v) a)) (p2 := fun a => p7 t (cnD c) (cl (17 + 4 * v) a)) ?_ ?_ ?_ ?_
  · have := o1 (cnR c); omega
  · have := o1 (cnD c); omega
  · intro a ha; exact i7 ht hv ha
  · intro a ha; exact i7 ht hv ha
theorem T_k8 {v c : Nat} {X : Nat → Nat → Int} (hv : 1 ≤ v) : TT (17 + 4 * v) (fun a b => k8 c (cl (17 + 4 * v) a) (cl (17 + 4 * v) b)) X = bS X (oX v (cnR c) - (if cnR c = true then 1 else 0)) (oX v (cnD c) - (if cnD c = true then 1 else 0)) 8 8 := by
  have o1 : ∀ y, oX v y - (if y = true then 1 else 0) = (if y = true then 9 + 4 * v else 0) := fun y => by unfold oX; cases y <;> simp <;> omega
  rw [o1, o1]
  refine TT_rct (p1 := fun a => p8 (cnR c) (cl (17 + 4 * v) a)) (p2 := fun a => p8 (cnD c) (cl (17 + 4 * v) a)) ?_ ?_ ?_ ?_
  · split <;> omega
  · split <;> omega
  · intro a ha; exact i8 hv ha
  · intro a ha; exact i8 hv ha
theorem TT_if {s : Nat} {P : Prop} [Decidable P] {f B : Nat → Nat → Int} : TT s (fun a b => if P then 0 else f a b) B = if P then 0 else TT s f B := by
  split
  · unfold TT
    exact iS_0 s (fun b _ => iS_0 s (fun a _ => Int.zero_mul _))
  · rfl
theorem T_kD {v q c m : Nat} {B : Nat → Nat → Int} (hv : 1 ≤ v) : TT (17 + 4 * v) (fun a b => kD q c (cl (17 + 4 * v) a) (cl (17 + 4 * v) b)) (fun a b => ((m * m : Nat) : Int) - B a b) = if c + q = 3 then 0 else 33 * ((m * m : Nat) : Int) - bS B (oX v (cnR c)) (oX v (cnD c)) 7 7 + bS B (oX v (cnR c) + 1) (oX v (cnD c) + 1) 5 5 - bS B (oX v (cnR c) + 2) (oX v (cnD c) + 2) 3 3 := by
  unfold kD
  rw [TT_if]
  split
  · rfl
  · rw [TT_add (d := fun a b => k7 2 c (cl (17 + 4 * v) a) (cl (17 + 4 * v) b)), TT_sub (d := fun a b => k7 1 c (cl (17 + 4 * v) a) (cl (17 + 4 * v) b)), T_k7 (by omega) hv, T_k7 (by omega) hv, T_k7 (by omega) hv, bS_sub, bS_sub, bS_sub, bS_k, bS_k, bS_k]
    simp only [Nat.reduceMul, Nat.reduceSub, Nat.sub_zero, Nat.add_zero, Nat.mul_zero]
    generalize ((m * m : Nat) : Int) = z
    omega
theorem T_kL {v q c : Nat} {B : Nat → Nat → Int} (hv : 1 ≤ v) : TT (17 + 4 * v) (fun a b => kL q c (cl (17 + 4 * v) a) (cl (17 + 4 * v) b)) B = if c + q = 3 then 0 else edgE B v c + bS B (oX v (cnR c) + 1) (oX v (cnD c) + 1) 5 5 - bS B (oX v (cnR c) + 2) (oX v (cnD c) + 2) 3 3 := by
  unfold kL
  rw [TT_if]
  split
  · rfl
  · rw [TT_sub (d := fun a b => k7 2 c (cl (17 + 4 * v) a) (cl (17 + 4 * v) b)), TT_add (d := fun a b => k7 1 c (cl (17 + 4 * v) a) (cl (17 + 4 * v) b)), TT_sub (d := fun a b => k7 0 c (cl (17 + 4 * v) a) (cl (17 + 4 * v) b)), T_k7 (by omega) hv, T_k7 (by omega) hv, T_k7 (by omega) hv, T_k8 hv]
    unfold edgE
    simp only [Nat.reduceMul, Nat.reduceSub, Nat.sub_zero, Nat.add_zero, Nat.mul_zero]
/-- a dot of the dotted lines -/
def tmE (v m : Nat) (B : Nat → Int) (a : Nat) : Int := if 8 ≤ a ∧ a < 9 + 4 * v then (if a % 2 = 1 then B a else ((m * m : Nat) : Int) - B a) else 0
theorem T_tm {v m : Nat} {B : Nat → Int} (hv : 1 ≤ v) : iS (fun a => if pE false (cl (17 + 4 * v) a) = true then ((m * m : Nat) : Int) - B a else 0) (17 + 4 * v) + iS (fun a => if pE true (cl (17 + 4 * v) a) = true then B a else 0) (17 + 4 * v) = iS (tmE v m B) (17 + 4 * v) := by
  rw [← iS_add]
  refine iS_c _ (fun a ha => ?_)
  unfold tmE
  have e1 := iE (y := true) hv ha
  have e0 := iE (y := false) hv ha
  simp only [iff_true, Bool.false_eq_true, iff_false] at e1 e0
  by_cases h : 8 ≤ a ∧ a < 9 + 4 * v
  · by_cases h2 : a % 2 = 1
    · rw [if_neg (fun z => (e0.mp z).2.2 h2), if_pos (e1.mpr ⟨h.1, h.2, h2⟩), if_pos h, if_pos h2]; omega
    · rw [if_pos (e0.mpr ⟨h.1, h.2, h2⟩), if_neg (fun z => h2 (e1.mp z).2.2), if_pos h, if_neg h2]; omega
  · rw [if_neg (fun z => h ⟨(e0.mp z).1, (e0.mp z).2.1⟩), if_neg (fun z => h ⟨(e1.mp z).1, (e1.mp z).2.1⟩), if_neg h]; omega
theorem T_kT {v q m : Nat} {B : Nat → Nat → Int} (hv : 1 ≤ v) : TT (17 + 4 * v) (fun a b => kT q false (cl (17 + 4 * v) a) (cl (17 + 4 * v) b)) (fun a b => ((m * m : Nat) : Int) - B a b) + TT (17 + 4 * v) (fun a b => kT q true (cl (17 + 4 * v) a) (cl (17 + 4 * v) b)) B = iS (tmE v m (fun a => B a (at1 (17 + 4 * v) (tmR q)))) (17 + 4 * v) + iS (tmE v m (B (at1 (17 + 4 * v) (tmC q)))) (17 + 4 * v) := by
  have zR : tmR q ≤ 8 ∨ tmR q = 11 ∨ (12 ≤ tmR q ∧ tmR q < 20) := by unfold tmR; split <;> omega
  have zC : tmC q ≤ 8 ∨ tmC q = 11 ∨ (12 ≤ tmC q ∧ tmC q < 20) := by unfold tmC; split <;> omega
  have row : ∀ y X, TT (17 + 4 * v) (fun a b => rct (pE y) (p1 (tmR q)) (cl (17 + 4 * v) a) (cl (17 + 4 * v) b)) X = iS (fun a => if pE y (cl (17 + 4 * v) a) = true then X a (at1 (17 + 4 * v) (tmR q)) else 0) (17 + 4 * v) := fun y X => TT_line (p1 := fun a => pE y (cl (17 + 4 * v) a)) (p2 := fun b => p1 (tmR q) (cl (17 + 4 * v) b)) (at1_lt zR hv) (fun b hb => i1 zR hv hb)
  have col : ∀ y X, TT (17 + 4 * v) (fun a b => rct (p1 (tmC q)) (pE y) (cl (17 + 4 * v) a) (cl (17 + 4 * v) b)) X = iS (fun b => if pE y (cl (17 + 4 * v) b) = true then X (at1 (17 + 4 * v) (tmC q)) b else 0) (17 + 4 * v) := fun y X => TT_col (p1 := fun a => p1 (tmC q) (cl (17 + 4 * v) a)) (p2 := fun b => pE y (cl (17 + 4 * v) b)) (at1_lt zC hv) (fun b hb => i1 zC hv hb)
  unfold kT
  rw [TT_add (d := fun a b => rct (p1 (tmC q)) (pE false) (cl (17 + 4 * v) a) (cl (17 + 4 * v) b)), TT_add (d := fun a b => rct (p1 (tmC q)) (pE true) (cl (17 + 4 * v) a) (cl (17 + 4 * v) b)), row, row, col, col, ← T_tm hv, ← T_tm hv]
  omega
theorem EE_class {v q m : Nat} {B : Nat → Nat → Int} (hv : 1 ≤ v) (hq : q < 4) : EE (17 + 4 * v) q m B = (if 0 + q = 3 then 0 else ringE m B (oX v (cnR 0)) (oX v (cnD 0)) + edgE B v 0) + (if 1 + q = 3 then 0 else ringE m B (oX v (cnR 1)) (oX v (cnD 1)) + edgE B v 1) + (if 2 + q = 3 then 0 else ringE m B (oX v (cnR 2)) (oX v (cnD 2)) + edgE B v 2) + (if 3 + q = 3 then 0 else ringE m B (oX v (cnR 3)) (oX v (cnD 3)) + edgE B v 3) + (((m * m : Nat) : Int) - B (at1 (17 + 4 * v) (lnX q)) (at1 (17 + 4 * v) (lnY q))) + iS (tmE v m (fun a => B a (at1 (17 + 4 * v) (tmR q)))) (17 + 4 * v) + iS (tmE v m (B (at1 (17 + 4 * v) (tmC q)))) (17 + 4 * v) := by
  have zX : lnX q ≤ 8 ∨ lnX q = 11 ∨ (12 ≤ lnX q ∧ lnX q < 20) := by unfold lnX; (repeat' split) <;> omega
  have zY : lnY q ≤ 8 ∨ lnY q = 11 ∨ (12 ≤ lnY q ∧ lnY q < 20) := by unfold lnY; (repeat' split) <;> omega
  rw [EE_T, TT_c (d := fun a b => kD q 0 (cl (17 + 4 * v) a) (cl (17 + 4 * v) b) + kD q 1 (cl (17 + 4 * v) a) (cl (17 + 4 * v) b) + kD q 2 (cl (17 + 4 * v) a) (cl (17 + 4 * v) b) + kD q 3 (cl (17 + 4 * v) a) (cl (17 + 4 * v) b) + rct (p1 (lnX q)) (p1 (lnY q)) (cl (17 + 4 * v) a) (cl (17 + 4 * v) b) + kT q false (cl (17 + 4 * v) a) (cl (17 + 4 * v) b)) (fun a b ha hb => by rw [dk_t ⟨q, hq⟩ ⟨_, cl_lt ha⟩ ⟨_, cl_lt hb⟩]),
    TT_c (c := fun a b => if moq q (cl (17 + 4 * v) a) (cl (17 + 4 * v) b) = 0 then 1 else 0) (d := fun a b => kL q 0 (cl (17 + 4 * v) a) (cl (17 + 4 * v) b) + kL q 1 (cl (17 + 4 * v) a) (cl (17 + 4 * v) b) + kL q 2 (cl (17 + 4 * v) a) (cl (17 + 4 * v) b) + kL q 3 (cl (17 + 4 * v) a) (cl (17 + 4 * v) b) + kT q true (cl (17 + 4 * v) a) (cl (17 + 4 * v) b)) (fun a b ha hb => by rw [lt_t ⟨q, hq⟩ ⟨_, cl_lt ha⟩ ⟨_, cl_lt hb⟩])]
  have T := T_kT (m := m) (q := q) (B := B) hv
  have ln : TT (17 + 4 * v) (fun a b => rct (p1 (lnX q)) (p1 (lnY q)) (cl (17 + 4 * v) a) (cl (17 + 4 * v) b)) (fun a b => ((m * m : Nat) : Int) - B a b) = ((m * m : Nat) : Int) - B (at1 (17 + 4 * v) (lnX q)) (at1 (17 + 4 * v) (lnY q)) := by
    have h1 : ∀ a, a < 17 + 4 * v → (p1 (lnX q) (cl (17 + 4 * v) a) = true ↔ at1 (17 + 4 * v) (lnX q) ≤ a ∧ a < at1 (17 + 4 * v) (lnX q) + 1) := fun a ha => (i1 zX hv ha).trans (by omega)
    have h2 : ∀ a, a < 17 + 4 * v → (p1 (lnY q) (cl (17 + 4 * v) a) = true ↔ at1 (17 + 4 * v) (lnY q) ≤ a ∧ a < at1 (17 + 4 * v) (lnY q) + 1) := fun a ha => (i1 zY hv ha).trans (by omega)
    rw [show (fun a b => rct (p1 (lnX q)) (p1 (lnY q)) (cl (17 + 4 * v) a) (cl (17 + 4 * v) b)) = rct (fun a => p1 (lnX q) (cl (17 + 4 * v) a)) (fun b => p1 (lnY q) (cl (17 + 4 * v) b)) from rfl, TT_rct (w := 1) (h := 1) (at1_lt zX hv) (at1_lt zY hv) h1 h2]
    show 0 + (0 + _) = _
    rw [Int.zero_add, Int.zero_add]
    rfl
  rw [TT_add (d := fun a b => kT q false (cl (17 + 4 * v) a) (cl (17 + 4 * v) b)), TT_add (d := fun a b => rct (p1 (lnX q)) (p1 (lnY q)) (cl (17 + 4 * v) a) (cl (17 + 4 * v) b)), TT_add (d := fun a b => kD q 3 (cl (17 + 4 * v) a) (cl (17 + 4 * v) b)), TT_add (d := fun a b => kD q 2 (cl (17 + 4 * v) a) (cl (17 + 4 * v) b)), TT_add (d := fun a b => kD q 1 (cl (17 + 4 * v) a) (cl (17 + 4 * v) b)), ln, T_kD hv, T_kD hv, T_kD hv, T_kD hv]
  rw [TT_add (d := fun a b => kT q true (cl (17 + 4 * v) a) (cl (17 + 4 * v) b)), TT_add (d := fun a b => kL q 3 (cl (17 + 4 * v) a) (cl (17 + 4 * v) b)), TT_add (d := fun a b => kL q 2 (cl (17 + 4 * v) a) (cl (17 + 4 * v) b)), TT_add (d := fun a b => kL q 1 (cl (17 + 4 * v) a) (cl (17 + 4 * v) b)), T_kL hv, T_kL hv, T_kL hv, T_kL hv]
  unfold ringE
  have hq4 : q = 0 ∨ q = 1 ∨ q = 2 ∨ q = 3 := by omega
  rcases hq4 with rfl | rfl | rfl | rfl <;> simp only [Nat.reduceAdd, Nat.reduceEqDiff, if_true, if_false] <;> omega
