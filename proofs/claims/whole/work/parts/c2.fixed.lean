/-! THE FIXED MODULES, BY CLASSES OF ROWS AND COLUMNS -/
/-- 0 to 7: that one from the start; 12 to 19: that one from the end; 8: the eighth; 11: the ninth from the end; 9, 10: even and odd ones between -/
def cl (s a : Nat) : Nat := if a < 8 then a else if s ≤ a + 8 then 12 + (s - 1 - a) else if a = 8 then 8 else if a + 9 = s then 11 else if a % 2 = 0 then 9 else 10
def rvc (c : Nat) : Nat := if c < 8 then c + 12 else if c = 8 then 11 else if c = 11 then 8 else if 12 ≤ c then c - 12 else c
/-- how far from the middle of a corner -/
def dF (i : Nat) : Nat := if i ≤ 3 then 3 - i else i - 3
def mxF (a b : Nat) : Nat := if a ≤ b then b else a
def cF (i j : Nat) : Int := if mxF (dF i) (dF j) = 2 ∨ mxF (dF i) (dF j) = 4 then 0 else 1
def mdc (c : Nat) : Bool := 8 ≤ c && c < 12
def mo0 (c d : Nat) : Int :=
  if c < 8 ∧ d < 8 then cF c d
  else if 12 ≤ c ∧ d < 8 then cF (c - 12) d
  else if c < 8 ∧ 12 ≤ d then cF c (d - 12)
  else if d = 6 ∧ mdc c = true then (if c = 10 then 0 else 1)
  else if c = 6 ∧ mdc d = true then (if d = 10 then 0 else 1)
  else if c = 8 ∧ d = 19 then 1 else -1
def moq (q c d : Nat) : Int := if q = 0 then mo0 c d else if q = 1 then mo0 d (rvc c) else if q = 2 then mo0 (rvc c) (rvc d) else mo0 (rvc d) c
theorem cl_lt {s a : Nat} (h : a < s) : cl s a < 20 := by
  unfold cl
  repeat' split
  all_goals omega
theorem cl_rv {v a : Nat} (hv : 1 ≤ v) (h : a < 17 + 4 * v) : rvc (cl (17 + 4 * v) (17 + 4 * v - 1 - a)) = cl (17 + 4 * v) a := by
  unfold cl rvc
  repeat' split
  all_goals omega
/-- of a square of 7 modules in a corner: n rings off; y: the corner at the end -/
def p7 (t : Nat) (y : Bool) (c : Nat) : Bool := if y then 12 + t ≤ c && c + t < 19 else t ≤ c && c + t < 7
def p8 (y : Bool) (c : Nat) : Bool := if y then 12 ≤ c && c < 20 else c < 8
def cnR (c : Nat) : Bool := c = 0 || c = 3
def cnD (c : Nat) : Bool := 2 ≤ c
def pE (y : Bool) (c : Nat) : Bool := mdc c && ((c == 10) == y)
def p1 (z c : Nat) : Bool := c == z
def lnX (q : Nat) : Nat := if q = 0 then 8 else if q = 1 then 7 else if q = 2 then 11 else 19
def lnY (q : Nat) : Nat := if q = 0 then 19 else if q = 1 then 8 else if q = 2 then 7 else 11
def tmR (q : Nat) : Nat := if q < 2 then 6 else 18
def tmC (q : Nat) : Nat := if q = 0 ∨ q = 3 then 6 else 18
def k7 (t c a b : Nat) : Int := rct (p7 t (cnR c)) (p7 t (cnD c)) a b
def k8 (c a b : Nat) : Int := rct (p8 (cnR c)) (p8 (cnD c)) a b
def kD (q c a b : Nat) : Int := if c + q = 3 then 0 else k7 0 c a b - k7 1 c a b + k7 2 c a b
def kL (q c a b : Nat) : Int := if c + q = 3 then 0 else k8 c a b - k7 0 c a b + k7 1 c a b - k7 2 c a b
def kT (q : Nat) (y : Bool) (a b : Nat) : Int := rct (pE y) (p1 (tmR q)) a b + rct (p1 (tmC q)) (pE y) a b
theorem dk_t : ∀ q : Fin 4, ∀ a : Fin 20, ∀ b : Fin 20, (if moq q.val a.val b.val = 1 then (1 : Int) else 0) = kD q.val 0 a.val b.val + kD q.val 1 a.val b.val + kD q.val 2 a.val b.val + kD q.val 3 a.val b.val + rct (p1 (lnX q.val)) (p1 (lnY q.val)) a.val b.val + kT q.val false a.val b.val := by decide +kernel
theorem lt_t : ∀ q : Fin 4, ∀ a : Fin 20, ∀ b : Fin 20, (if moq q.val a.val b.val = 0 then (1 : Int) else 0) = kL q.val 0 a.val b.val + kL q.val 1 a.val b.val + kL q.val 2 a.val b.val + kL q.val 3 a.val b.val + kT q.val true a.val b.val := by decide +kernel
theorem mo_t : ∀ q : Fin 4, ∀ a : Fin 20, ∀ b : Fin 20, moq q.val a.val b.val = 1 ∨ moq q.val a.val b.val = 0 ∨ moq q.val a.val b.val = -1 := by decide +kernel
