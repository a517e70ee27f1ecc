/-! SUMS OF INTEGERS OVER A SQUARE -/
def iS (f : Nat → Int) : Nat → Int
  | 0 => 0
  | n + 1 => iS f n + f n
theorem iS_c {f g : Nat → Int} : ∀ n, (∀ k, k < n → f k = g k) → iS f n = iS g n := by
  intro n
  induction n with
  | zero => intro _; rfl
  | succ n ih => intro h; show iS f n + f n = iS g n + g n; rw [ih (fun k hk => h k (by omega)), h n (by omega)]
theorem iS_add {f g : Nat → Int} (n : Nat) : iS (fun k => f k + g k) n = iS f n + iS g n := by
  induction n with
  | zero => rfl
  | succ n ih => show iS (fun k => f k + g k) n + (f n + g n) = iS f n + f n + (iS g n + g n); rw [ih]; omega
theorem iS_sub {f g : Nat → Int} (n : Nat) : iS (fun k => f k - g k) n = iS f n - iS g n := by
  induction n with
  | zero => rfl
  | succ n ih => show iS (fun k => f k - g k) n + (f n - g n) = iS f n + f n - (iS g n + g n); rw [ih]; omega
theorem iS_mul {f : Nat → Int} (c : Int) (n : Nat) : iS (fun k => c * f k) n = c * iS f n := by
  induction n with
  | zero => exact (Int.mul_zero c).symm
  | succ n ih => show iS (fun k => c * f k) n + c * f n = c * (iS f n + f n); rw [ih, Int.mul_add]
theorem iS_0 {f : Nat → Int} : ∀ n, (∀ k, k < n → f k = 0) → iS f n = 0 := by
  intro n
  induction n with
  | zero => intro _; rfl
  | succ n ih => intro h; show iS f n + f n = 0; rw [ih (fun k hk => h k (by omega)), h n (by omega)]; rfl
theorem iS_k {c : Int} (n : Nat) : iS (fun _ => c) n = n * c := by
  induction n with
  | zero => simp [iS]
  | succ n ih => show iS (fun _ => c) n + c = _; rw [ih, Int.natCast_add, Int.add_mul]; simp
theorem iS_split {f : Nat → Int} (a b : Nat) : iS f (a + b) = iS f a + iS (fun k => f (a + k)) b := by
  induction b with
  | zero => show iS f a = iS f a + 0; omega
  | succ b ih => show iS f (a + b) + f (a + b) = iS f a + (iS (fun k => f (a + k)) b + f (a + b)); rw [ih]; omega
theorem iS_swap {f : Nat → Nat → Int} (a b : Nat) : iS (fun i => iS (fun j => f i j) b) a = iS (fun j => iS (fun i => f i j) a) b := by
  induction a with
  | zero => show 0 = iS (fun j => (0 : Int)) b; rw [iS_0 b (fun _ _ => rfl)]
  | succ a ih => show iS (fun i => iS (fun j => f i j) b) a + iS (fun j => f a j) b = iS (fun j => iS (fun i => f i j) a + f a j) b; rw [ih, iS_add]
theorem iS_head {f : Nat → Int} (n : Nat) : iS f (n + 1) = f 0 + iS (fun k => f (k + 1)) n := by
  have := iS_split (f := f) 1 n
  rw [Nat.add_comm n 1, this]
  show 0 + f 0 + _ = _
  rw [iS_c n (fun k _ => show f (1 + k) = f (k + 1) by rw [Nat.add_comm])]
  omega
theorem iS_rev {f : Nat → Int} (n : Nat) : iS (fun k => f (n - 1 - k)) n = iS f n := by
  induction n with
  | zero => rfl
  | succ n ih =>
    rw [iS_head]
    show f (n + 1 - 1 - 0) + _ = iS f n + f n
    rw [← ih, iS_c n (fun k hk => show f (n + 1 - 1 - (k + 1)) = f (n - 1 - k) by congr 1; omega)]
    show f n + _ = _
    omega
theorem iS_nn {f : Nat → Int} : ∀ n, (∀ k, k < n → 0 ≤ f k) → 0 ≤ iS f n := by
  intro n
  induction n with
  | zero => intro _; exact Int.le_refl 0
  | succ n ih => intro h; show 0 ≤ iS f n + f n; have := ih (fun k hk => h k (by omega)); have := h n (by omega); omega
theorem iS_le {f g : Nat → Int} : ∀ n, (∀ k, k < n → f k ≤ g k) → iS f n ≤ iS g n := by
  intro n
  induction n with
  | zero => intro _; exact Int.le_refl 0
  | succ n ih => intro h; show iS f n + f n ≤ iS g n + g n; have := ih (fun k hk => h k (by omega)); have := h n (by omega); omega
theorem iS_up {f : Nat → Int} {n m : Nat} (h : n ≤ m) (h0 : ∀ k, k < m → 0 ≤ f k) : iS f n ≤ iS f m := by
  obtain ⟨d, rfl⟩ := Nat.exists_eq_add_of_le h
  rw [iS_split]
  have := iS_nn (f := fun k => f (n + k)) d (fun k hk => h0 (n + k) (by omega))
  omega
/-- part of a row -/
theorem iS_ind {f : Nat → Int} {p : Nat → Bool} {a0 w s : Nat} (hs : a0 + w ≤ s) (hp : ∀ a, a < s → (p a = true ↔ a0 ≤ a ∧ a < a0 + w)) : iS (fun a => if p a = true then f a else 0) s = iS (fun k => f (a0 + k)) w := by
  obtain ⟨d, rfl⟩ := Nat.exists_eq_add_of_le hs
  rw [iS_split, iS_split, iS_0 a0, iS_0 d]
  · rw [iS_c w (fun k hk => show (if p (a0 + k) = true then f (a0 + k) else 0) = f (a0 + k) from if_pos ((hp (a0 + k) (by omega)).mpr (by omega)))]
    omega
  · intro k hk
    exact if_neg (fun z => by have := (hp _ (by omega)).mp z; omega)
  · intro k hk
    exact if_neg (fun z => by have := (hp _ (by omega)).mp z; omega)
/-- a sum over the square -/
def TT (s : Nat) (c B : Nat → Nat → Int) : Int := iS (fun b => iS (fun a => c a b * B a b) s) s
theorem TT_c {s : Nat} {c d B C : Nat → Nat → Int} (h : ∀ a b, a < s → b < s → c a b * B a b = d a b * C a b) : TT s c B = TT s d C := iS_c s (fun b hb => iS_c s (fun a ha => h a b ha hb))
theorem TT_add {s : Nat} {c d B : Nat → Nat → Int} : TT s (fun a b => c a b + d a b) B = TT s c B + TT s d B := by
  unfold TT
  rw [← iS_add]
  refine iS_c s (fun b _ => ?_)
  rw [← iS_add]
  exact iS_c s (fun a _ => Int.add_mul _ _ _)
theorem TT_sub {s : Nat} {c d B : Nat → Nat → Int} : TT s (fun a b => c a b - d a b) B = TT s c B - TT s d B := by
  unfold TT
  rw [← iS_sub]
  refine iS_c s (fun b _ => ?_)
  rw [← iS_sub]
  exact iS_c s (fun a _ => Int.sub_mul _ _ _)
theorem TT_B {s : Nat} {c B C : Nat → Nat → Int} : TT s c (fun a b => B a b - C a b) = TT s c B - TT s c C := by
  unfold TT
  rw [← iS_sub]
  refine iS_c s (fun b _ => ?_)
  rw [← iS_sub]
  exact iS_c s (fun a _ => Int.mul_sub _ _ _)
theorem TT_nn {s : Nat} {c B : Nat → Nat → Int} (hc : ∀ a b, a < s → b < s → 0 ≤ c a b) (hB : ∀ a b, a < s → b < s → 0 ≤ B a b) : 0 ≤ TT s c B := iS_nn s (fun b hb => iS_nn s (fun a ha => Int.mul_nonneg (hc a b ha hb) (hB a b ha hb)))
/-- a rectangle -/
def rct (p1 p2 : Nat → Bool) (a b : Nat) : Int := if p1 a && p2 b then 1 else 0
theorem TT_rct {s : Nat} {p1 p2 : Nat → Bool} {a0 w b0 h : Nat} {B : Nat → Nat → Int} (hw : a0 + w ≤ s) (hh : b0 + h ≤ s) (h1 : ∀ a, a < s → (p1 a = true ↔ a0 ≤ a ∧ a < a0 + w)) (h2 : ∀ b, b < s → (p2 b = true ↔ b0 ≤ b ∧ b < b0 + h)) : TT s (rct p1 p2) B = iS (fun b => iS (fun a => B (a0 + a) (b0 + b)) w) h := by
  unfold TT
  rw [← iS_ind (f := fun b => iS (fun a => B (a0 + a) b) w) hh h2]
  refine iS_c s (fun b hb => ?_)
  cases e : p2 b with
  | false => simp only [rct, e, Bool.and_false]; exact iS_0 s (fun a _ => by simp)
  | true =>
    simp only [rct, e, Bool.and_true, if_true]
    rw [← iS_ind (f := fun a => B a b) hw h1]
    refine iS_c s (fun a ha => ?_)
    cases p1 a <;> simp
/-- part of one row -/
theorem TT_line {s : Nat} {p1 p2 : Nat → Bool} {b0 : Nat} {B : Nat → Nat → Int} (hb : b0 < s) (h2 : ∀ b, b < s → (p2 b = true ↔ b = b0)) : TT s (rct p1 p2) B = iS (fun a => if p1 a = true then B a b0 else 0) s := by
  unfold TT
  have hp : ∀ b, b < s → (p2 b = true ↔ b0 ≤ b ∧ b < b0 + 1) := fun b h => (h2 b h).trans (by omega)
  have e := iS_ind (f := fun b => iS (fun a => if p1 a = true then B a b else 0) s) (w := 1) (by omega) hp
  rw [show iS (fun k => iS (fun a => if p1 a = true then B a (b0 + k) else 0) s) 1 = iS (fun a => if p1 a = true then B a b0 else 0) s from by show 0 + _ = _; rw [Int.zero_add]; rfl] at e
  rw [← e]
  refine iS_c s (fun b hb => ?_)
  cases h : p2 b with
  | false => simp only [rct, h, Bool.and_false]; exact iS_0 s (fun a _ => by simp)
  | true =>
    simp only [rct, h, Bool.and_true, if_true]
    refine iS_c s (fun a ha => ?_)
    cases p1 a <;> simp
theorem TT_col {s : Nat} {p1 p2 : Nat → Bool} {a0 : Nat} {B : Nat → Nat → Int} (ha : a0 < s) (h1 : ∀ a, a < s → (p1 a = true ↔ a = a0)) : TT s (rct p1 p2) B = iS (fun b => if p2 b = true then B a0 b else 0) s := by
  have := TT_line (B := fun a b => B b a) (p1 := p2) (p2 := p1) ha h1
  rw [← this]
  unfold TT
  rw [iS_swap]
  refine iS_c s (fun b hb => iS_c s (fun a ha => ?_))
  show rct p1 p2 b a * B b a = rct p2 p1 a b * B b a
  unfold rct
  rw [Bool.and_comm]
