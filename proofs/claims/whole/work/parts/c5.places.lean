/-! PLACES AS NUMBERS -/
def key (x y m v q : Nat) : Nat := (((y * 512 + x) * 32 + m) * 64 + v) * 4 + q
def kq (k : Nat) : Nat := k % 4
def kv (k : Nat) : Nat := k / 4 % 64
def km (k : Nat) : Nat := k / 256 % 32
def kx (k : Nat) : Nat := k / 8192 % 512
def ky (k : Nat) : Nat := k / 4194304
theorem key_of {k : Nat} : key (kx k) (ky k) (km k) (kv k) (kq k) = k := by
  unfold key kx ky km kv kq
  omega
theorem key_p {x y m v q : Nat} (hx : x < 512) (hm : m < 32) (hv : v < 64) (hq : q < 4) : kx (key x y m v q) = x ∧ ky (key x y m v q) = y ∧ km (key x y m v q) = m ∧ kv (key x y m v q) = v ∧ kq (key x y m v q) = q := by
  unfold key kx ky km kv kq
  omega
theorem kq_lt {k : Nat} : kq k < 4 := by unfold kq; omega
theorem kx_lt {k : Nat} : kx k < 512 := by unfold kx; omega
theorem km_lt {k : Nat} : km k < 32 := by unfold km; omega
theorem kv_lt {k : Nat} : kv k < 64 := by unfold kv; omega
theorem lx4 {N a r b t : Nat} (h : r < N) (h2 : t < N) : a * N + r < b * N + t ↔ a < b ∨ (a = b ∧ r < t) := by
  constructor
  · intro z
    rcases Nat.lt_trichotomy a b with c | c | c
    · exact Or.inl c
    · subst c; exact Or.inr ⟨rfl, by omega⟩
    · have : (b + 1) * N ≤ a * N := Nat.mul_le_mul_right N c
      rw [Nat.add_mul] at this
      omega
  · rintro (c | ⟨rfl, c⟩)
    · have : (a + 1) * N ≤ b * N := Nat.mul_le_mul_right N c
      rw [Nat.add_mul] at this
      omega
    · omega
/-- the order of the numbers is that of the rows -/
theorem key_lt {k l : Nat} : k < l ↔ ky k < ky l ∨ (ky k = ky l ∧ (kx k < kx l ∨ (kx k = kx l ∧ (km k < km l ∨ (km k = km l ∧ (kv k < kv l ∨ (kv k = kv l ∧ kq k < kq l))))))) := by
  have e : ∀ k, k = ky k * 4194304 + (kx k * 8192 + (km k * 256 + (kv k * 4 + kq k))) := fun k => by
    have := key_of (k := k)
    unfold key at this
    omega
  have a1 : ∀ k, kq k < 4 := fun k => kq_lt
  have a2 : ∀ k, kv k < 64 := fun k => kv_lt
  have a3 : ∀ k, km k < 32 := fun k => km_lt
  have a4 : ∀ k, kx k < 512 := fun k => kx_lt
  have b2 : ∀ k, kv k * 4 + kq k < 256 := fun k => by have := a1 k; have := a2 k; omega
  have b3 : ∀ k, km k * 256 + (kv k * 4 + kq k) < 8192 := fun k => by have := b2 k; have := a3 k; omega
  have g4 : ∀ p r : Nat, p < 512 → r < 8192 → p * 8192 + r < 4194304 := fun p r hp hr => by omega
  have b4 : ∀ k, kx k * 8192 + (km k * 256 + (kv k * 4 + kq k)) < 4194304 := fun k => g4 _ _ (a4 k) (b3 k)
  rw [← lx4 (a1 k) (a1 l), ← lx4 (b2 k) (b2 l), ← lx4 (b3 k) (b3 l), ← lx4 (b4 k) (b4 l)]
  have ek := e k
  have el := e l
  constructor <;> intro z <;> omega
def ksz (k : Nat) : Nat := km k * (17 + 4 * kv k)
def eW (D : Nat → Nat → Bool) (k : Nat) : Int := EE (17 + 4 * kv k) (kq k) (km k) (BB D (km k) (kx k) (ky k))
def StP (W H : Nat) (D : Nat → Nat → Bool) (lo hi lim k : Nat) : Prop := (lo ≤ km k ∧ km k ≤ hi) ∧ (1 ≤ kv k ∧ kv k ≤ 40) ∧ (kx k + ksz k ≤ W ∧ ky k + ksz k ≤ H) ∧ eW D k ≤ (lim : Int)
/-! THE CORNERS OF A PLACE -/
def rgE (D : Nat → Nat → Bool) (m x y : Nat) : Int := 33 * ((m * m : Nat) : Int) - bS (dt D) x y (7 * m) (7 * m) + 2 * bS (dt D) (x + m) (y + m) (5 * m) (5 * m) - 2 * bS (dt D) (x + 2 * m) (y + 2 * m) (3 * m) (3 * m)
theorem ring_rg {D : Nat → Nat → Bool} {m x y a b : Nat} : ringE m (BB D m x y) a b = rgE D m (x + m * a) (y + m * b) := by
  unfold ringE rgE
  rw [bS_BB, bS_BB, bS_BB, Nat.mul_comm m 7, Nat.mul_comm m 5, Nat.mul_comm m 3]
  rw [show x + m * (a + 1) = x + m * a + m by rw [Nat.mul_add]; omega, show y + m * (b + 1) = y + m * b + m by rw [Nat.mul_add]; omega, show x + m * (a + 2) = x + m * a + 2 * m by rw [Nat.mul_add]; omega, show y + m * (b + 2) = y + m * b + 2 * m by rw [Nat.mul_add]; omega]
theorem rg_ge {D : Nat → Nat → Bool} {m x y : Nat} : 0 ≤ 9 * ((m * m : Nat) : Int) - bS (dt D) (x + 2 * m) (y + 2 * m) (3 * m) (3 * m) ∧ 9 * ((m * m : Nat) : Int) - bS (dt D) (x + 2 * m) (y + 2 * m) (3 * m) (3 * m) ≤ rgE D m x y ∧ 33 * ((m * m : Nat) : Int) - bS (dt D) x y (7 * m) (7 * m) ≤ rgE D m x y := by
  have h := ring_ge (D := D) (m := m) (x := x) (y := y) (a := 0) (b := 0)
  rw [ring_rg, bS_BB, bS_BB, Nat.mul_comm m 7, Nat.mul_comm m 3] at h
  simpa [Nat.mul_comm m 2] using h
/-- corner c of the place from (x, y) on -/
def rC (D : Nat → Nat → Bool) (m v x y c : Nat) : Int := rgE D m (x + m * oX v (cnR c)) (y + m * oX v (cnD c))
theorem rC_nn {D : Nat → Nat → Bool} {m v x y c : Nat} : 0 ≤ rC D m v x y c := by
  have := rg_ge (D := D) (m := m) (x := x + m * oX v (cnR c)) (y := y + m * oX v (cnD c))
  unfold rC
  omega
def sm3 (q : Nat) (f : Nat → Int) : Int := (if 0 + q = 3 then 0 else f 0) + (if 1 + q = 3 then 0 else f 1) + (if 2 + q = 3 then 0 else f 2) + (if 3 + q = 3 then 0 else f 3)
/-- corner c with its inner edges -/
def eC (D : Nat → Nat → Bool) (m v x y c : Nat) : Int := rC D m v x y c + edgE (BB D m x y) v c
theorem eC_nn {D : Nat → Nat → Bool} {m v x y c : Nat} : 0 ≤ eC D m v x y c := by
  have h1 := rC_nn (D := D) (m := m) (v := v) (x := x) (y := y) (c := c)
  have h2 := edg_nn (D := D) (m := m) (x := x) (y := y) (v := v) (c := c)
  unfold eC
  omega
/-- the same, from the corner's own dot on -/
def egE (D : Nat → Nat → Bool) (m X Y c : Nat) : Int := rgE D m X Y + (bS (dt D) (X - m * (if cnR c = true then 1 else 0)) (Y - m * (if cnD c = true then 1 else 0)) (8 * m) (8 * m) - bS (dt D) X Y (7 * m) (7 * m))
theorem oX_s {v m x : Nat} {y : Bool} : x + m * (oX v y - (if y = true then 1 else 0)) = x + m * oX v y - m * (if y = true then 1 else 0) := by
  have h : (if y = true then 1 else 0) ≤ oX v y := by unfold oX; split <;> omega
  obtain ⟨d, hd⟩ := Nat.exists_eq_add_of_le h
  rw [hd, Nat.add_sub_cancel_left, Nat.mul_add]
  omega
theorem eC_eg {D : Nat → Nat → Bool} {m v x y c : Nat} : eC D m v x y c = egE D m (x + m * oX v (cnR c)) (y + m * oX v (cnD c)) c := by
  unfold eC egE rC edgE
  rw [bS_BB, bS_BB, Nat.mul_comm m 8, Nat.mul_comm m 7, oX_s, oX_s]
/-- beside the corners -/
def oth (D : Nat → Nat → Bool) (m v x y q : Nat) : Int := (((m * m : Nat) : Int) - BB D m x y (at1 (17 + 4 * v) (lnX q)) (at1 (17 + 4 * v) (lnY q))) + (iS (tmE v m (fun a => BB D m x y a (at1 (17 + 4 * v) (tmR q)))) (17 + 4 * v) + iS (tmE v m (BB D m x y (at1 (17 + 4 * v) (tmC q)))) (17 + 4 * v))
theorem EE_parts {D : Nat → Nat → Bool} {m v x y q : Nat} (hv : 1 ≤ v) (hq : q < 4) : EE (17 + 4 * v) q m (BB D m x y) = sm3 q (eC D m v x y) + oth D m v x y q := by
  rw [EE_class hv hq]
  unfold sm3 oth eC rC
  simp only [ring_rg]
  have hq4 : q = 0 ∨ q = 1 ∨ q = 2 ∨ q = 3 := by omega
  rcases hq4 with rfl | rfl | rfl | rfl <;> simp only [Nat.reduceAdd, Nat.reduceEqDiff, if_true, if_false] <;> omega
theorem oth_nn {D : Nat → Nat → Bool} {m v x y q : Nat} : 0 ≤ oth D m v x y q := by
  unfold oth
  have h1 := BB_le (D := D) (m := m) (x := x) (y := y) (a := at1 (17 + 4 * v) (lnX q)) (b := at1 (17 + 4 * v) (lnY q))
  have h2 := iS_nn (f := tmE v m (fun a => BB D m x y a (at1 (17 + 4 * v) (tmR q)))) (17 + 4 * v) (fun k _ => tm_nn (fun a => ⟨BB_nn, BB_le⟩) k)
  have h3 := iS_nn (f := tmE v m (BB D m x y (at1 (17 + 4 * v) (tmC q)))) (17 + 4 * v) (fun k _ => tm_nn (fun a => ⟨BB_nn, BB_le⟩) k)
  omega
/-- one of the three corners has no more than a third -/
theorem third {q lim : Nat} {f : Nat → Int} (hq : q < 4) (h : sm3 q f ≤ (lim : Int)) : ∃ c, c < 4 ∧ f c ≤ ((lim / 3 : Nat) : Int) := by
  apply Classical.byContradiction
  intro hn
  have a : ∀ c, c < 4 → ((lim / 3 : Nat) : Int) < f c := fun c hc => Int.not_le.mp (fun z => hn ⟨c, hc, z⟩)
  have := a 0 (by omega)
  have := a 1 (by omega)
  have := a 2 (by omega)
  have := a 3 (by omega)
  unfold sm3 at h
  have hq4 : q = 0 ∨ q = 1 ∨ q = 2 ∨ q = 3 := by omega
  rcases hq4 with rfl | rfl | rfl | rfl <;> simp only [Nat.reduceAdd, Nat.reduceEqDiff, if_true, if_false] at h <;> omega
/-! AS MANY DARK AND LIGHT DOTS AS THE MARKS NEED -/
theorem tm_0 {v m : Nat} : ∀ n, iS (tmE v m (fun _ => 0)) (8 + 2 * n) = (if n ≤ 2 * v then (n : Int) else 2 * (v : Int) + 1) * ((m * m : Nat) : Int) := by
  intro n
  induction n with
  | zero => rw [Nat.mul_zero, Nat.add_zero, if_pos (by omega), iS_0 8 (fun k hk => by unfold tmE; rw [if_neg (by omega)])]; simp
  | succ n ih =>
    show iS (tmE v m (fun _ => 0)) (8 + 2 * n) + tmE v m (fun _ => 0) (8 + 2 * n) + tmE v m (fun _ => 0) (8 + 2 * n + 1) = _
    rw [ih]
    unfold tmE
    dsimp only
    generalize ((m * m : Nat) : Int) = z
    rw [if_pos (show (8 + 2 * n + 1) % 2 = 1 by omega), if_neg (show ¬ (8 + 2 * n) % 2 = 1 by omega), ite_self]
    by_cases h : n ≤ 2 * v
    · rw [if_pos h, if_pos (show 8 ≤ 8 + 2 * n ∧ 8 + 2 * n < 9 + 4 * v by omega)]
      by_cases h2 : n + 1 ≤ 2 * v
      · rw [if_pos h2, show ((n + 1 : Nat) : Int) = (n : Int) + 1 from rfl, Int.add_mul]; omega
      · rw [if_neg h2, show (n : Int) = 2 * (v : Int) by omega, Int.add_mul]; omega
    · rw [if_neg h, if_neg (show ¬ (8 ≤ 8 + 2 * n ∧ 8 + 2 * n < 9 + 4 * v) by omega), if_neg (show ¬ n + 1 ≤ 2 * v by omega)]; omega
theorem tm_1 {v m : Nat} : ∀ n, n ≤ 2 * v → iS (tmE v m (fun _ => ((m * m : Nat) : Int))) (8 + 2 * n) = (n : Int) * ((m * m : Nat) : Int) := by
  intro n
  induction n with
  | zero => intro _; rw [Nat.mul_zero, Nat.add_zero, iS_0 8 (fun k hk => by unfold tmE; rw [if_neg (by omega)])]; simp
  | succ n ih =>
    intro h
    show iS (tmE v m (fun _ => ((m * m : Nat) : Int))) (8 + 2 * n) + tmE v m (fun _ => ((m * m : Nat) : Int)) (8 + 2 * n) + tmE v m (fun _ => ((m * m : Nat) : Int)) (8 + 2 * n + 1) = _
    rw [ih (by omega)]
    unfold tmE
    dsimp only
    generalize ((m * m : Nat) : Int) = z
    rw [if_pos (show (8 + 2 * n + 1) % 2 = 1 by omega), if_neg (show ¬ (8 + 2 * n) % 2 = 1 by omega), if_pos (show 8 ≤ 8 + 2 * n ∧ 8 + 2 * n < 9 + 4 * v by omega), if_pos (show 8 ≤ 8 + 2 * n + 1 ∧ 8 + 2 * n + 1 < 9 + 4 * v by omega), show ((n + 1 : Nat) : Int) = (n : Int) + 1 from rfl, Int.add_mul]
    omega
theorem tm_0e {v m : Nat} : iS (tmE v m (fun _ => 0)) (17 + 4 * v) = (2 * (v : Int) + 1) * ((m * m : Nat) : Int) := by
  have h := tm_0 (v := v) (m := m) (2 * v + 1)
  rw [if_neg (by omega)] at h
  rw [← h, show 17 + 4 * v = (8 + 2 * (2 * v + 1)) + 7 by omega, iS_split, iS_0 7 (fun k hk => by show tmE v m (fun _ => 0) (8 + 2 * (2 * v + 1) + k) = 0; unfold tmE; rw [if_neg (by omega)])]
  omega
theorem tm_1e {v m : Nat} : iS (tmE v m (fun _ => ((m * m : Nat) : Int))) (17 + 4 * v) = 2 * (v : Int) * ((m * m : Nat) : Int) := by
  have h := tm_1 (v := v) (m := m) (2 * v) (by omega)
  rw [show 17 + 4 * v = (8 + 2 * (2 * v)) + 9 by omega, iS_split, h, iS_0 9 (fun k hk => by
    show tmE v m (fun _ => ((m * m : Nat) : Int)) (8 + 2 * (2 * v) + k) = 0
    unfold tmE
    dsimp only
    by_cases c : k = 0
    · subst c; rw [if_pos (by omega), if_neg (by omega)]; omega
    · rw [if_neg (by omega)]), Int.add_zero]
  rfl
theorem EE_0 {v q m : Nat} (hv : 1 ≤ v) (hq : q < 4) : EE (17 + 4 * v) q m (fun _ _ => 0) = (102 + 4 * (v : Int)) * ((m * m : Nat) : Int) := by
  rw [EE_class hv hq]
  have t := tm_0e (v := v) (m := m)
  unfold ringE edgE
  simp only [bS_k]
  rw [show (2 * (v : Int) + 1) * ((m * m : Nat) : Int) = 2 * ((v : Int) * ((m * m : Nat) : Int)) + ((m * m : Nat) : Int) by rw [Int.add_mul, Int.mul_assoc, Int.one_mul]] at t
  rw [t, show (102 + 4 * (v : Int)) * ((m * m : Nat) : Int) = 102 * ((m * m : Nat) : Int) + 4 * ((v : Int) * ((m * m : Nat) : Int)) by rw [Int.add_mul, Int.mul_assoc]]
  generalize ((v : Int) * ((m * m : Nat) : Int)) = u
  generalize ((m * m : Nat) : Int) = z
  have hq4 : q = 0 ∨ q = 1 ∨ q = 2 ∨ q = 3 := by omega
  rcases hq4 with rfl | rfl | rfl | rfl <;> simp only [Nat.reduceAdd, Nat.reduceEqDiff, if_true, if_false] <;> omega
theorem EE_1 {v q m : Nat} (hv : 1 ≤ v) (hq : q < 4) : EE (17 + 4 * v) q m (fun _ _ => ((m * m : Nat) : Int)) = (93 + 4 * (v : Int)) * ((m * m : Nat) : Int) := by
  rw [EE_class hv hq]
  have t := tm_1e (v := v) (m := m)
  unfold ringE edgE
  simp only [bS_k]
  rw [show 2 * (v : Int) * ((m * m : Nat) : Int) = 2 * ((v : Int) * ((m * m : Nat) : Int)) by rw [Int.mul_assoc]] at t
  rw [t, show (93 + 4 * (v : Int)) * ((m * m : Nat) : Int) = 93 * ((m * m : Nat) : Int) + 4 * ((v : Int) * ((m * m : Nat) : Int)) by rw [Int.add_mul, Int.mul_assoc]]
  generalize ((v : Int) * ((m * m : Nat) : Int)) = u
  generalize ((m * m : Nat) : Int) = z
  have hq4 : q = 0 ∨ q = 1 ∨ q = 2 ∨ q = 3 := by omega
  rcases hq4 with rfl | rfl | rfl | rfl <;> simp only [Nat.reduceAdd, Nat.reduceEqDiff, if_true, if_false] <;> omega
theorem EE_dk {s q m : Nat} {B : Nat → Nat → Int} (hB : ∀ a b, 0 ≤ B a b ∧ B a b ≤ ((m * m : Nat) : Int)) : EE s q m (fun _ _ => 0) ≤ EE s q m B + bS B 0 0 s s := by
  unfold EE bS
  rw [← iS_add]
  refine iS_le s (fun b _ => ?_)
  rw [← iS_add]
  refine iS_le s (fun a _ => ?_)
  have h := hB a b
  rw [Nat.zero_add, Nat.zero_add]
  unfold ce
  dsimp only
  repeat' split
  all_goals omega
theorem EE_lt {s q m : Nat} {B : Nat → Nat → Int} (hB : ∀ a b, 0 ≤ B a b ∧ B a b ≤ ((m * m : Nat) : Int)) : EE s q m (fun _ _ => ((m * m : Nat) : Int)) ≤ EE s q m B + bS (fun a b => ((m * m : Nat) : Int) - B a b) 0 0 s s := by
  unfold EE bS
  rw [← iS_add]
  refine iS_le s (fun b _ => ?_)
  rw [← iS_add]
  refine iS_le s (fun a _ => ?_)
  have h := hB a b
  rw [Nat.zero_add, Nat.zero_add]
  unfold ce
  dsimp only
  repeat' split
  all_goals omega
/-- the dots of the whole square -/
theorem shade {D : Nat → Nat → Bool} {m v x y q : Nat} (hv : 1 ≤ v) (hq : q < 4) : (102 + 4 * (v : Int)) * ((m * m : Nat) : Int) ≤ EE (17 + 4 * v) q m (BB D m x y) + bS (dt D) x y (m * (17 + 4 * v)) (m * (17 + 4 * v)) ∧ (93 + 4 * (v : Int)) * ((m * m : Nat) : Int) ≤ EE (17 + 4 * v) q m (BB D m x y) + (((m * (17 + 4 * v) * (m * (17 + 4 * v)) : Nat) : Int) - bS (dt D) x y (m * (17 + 4 * v)) (m * (17 + 4 * v))) := by
  have e : bS (BB D m x y) 0 0 (17 + 4 * v) (17 + 4 * v) = bS (dt D) x y (m * (17 + 4 * v)) (m * (17 + 4 * v)) := by rw [bS_BB, Nat.mul_zero, Nat.add_zero, Nat.add_zero]
  have h0 := EE_dk (s := 17 + 4 * v) (q := q) (m := m) (B := BB D m x y) (fun a b => ⟨BB_nn, BB_le⟩)
  have h1 := EE_lt (s := 17 + 4 * v) (q := q) (m := m) (B := BB D m x y) (fun a b => ⟨BB_nn, BB_le⟩)
  rw [EE_0 hv hq, e] at h0
  rw [EE_1 hv hq, bS_sub, bS_k, e] at h1
  refine ⟨h0, ?_⟩
  have e2 : ((m * (17 + 4 * v) * (m * (17 + 4 * v)) : Nat) : Int) = ((17 + 4 * v : Nat) : Int) * (((17 + 4 * v : Nat) : Int) * ((m * m : Nat) : Int)) := by
    have : m * (17 + 4 * v) * (m * (17 + 4 * v)) = (17 + 4 * v) * ((17 + 4 * v) * (m * m)) := by
      generalize 17 + 4 * v = s
      rw [Nat.mul_comm m s, Nat.mul_assoc, ← Nat.mul_assoc m s m, Nat.mul_comm m s, Nat.mul_assoc]
    rw [this]
    push_cast
    rfl
  rw [e2]
  exact h1
theorem skip106 {W H lo hi lim k : Nat} {D : Nat → Nat → Bool} (h : StP W H D lo hi lim k) : ((106 * km k * km k : Nat) : Int) ≤ cs D W H + (lim : Int) := by
  obtain ⟨_, hv, hb, he⟩ := h
  unfold eW at he
  have h1 := (shade (D := D) (m := km k) (x := kx k) (y := ky k) hv.1 (kq_lt (k := k))).1
  have h2 : bS (dt D) (kx k) (ky k) (km k * (17 + 4 * kv k)) (km k * (17 + 4 * kv k)) ≤ cs D W H := bS_in (fun _ _ => dt_nn) (by omega) (by have := hb.1; unfold ksz at this; omega) (by omega) (by have := hb.2; unfold ksz at this; omega)
  have h3 : 106 * ((km k * km k : Nat) : Int) ≤ (102 + 4 * (kv k : Int)) * ((km k * km k : Nat) : Int) := Int.mul_le_mul_of_nonneg_right (by omega) (by omega)
  have e9 : ((106 * km k * km k : Nat) : Int) = 106 * ((km k * km k : Nat) : Int) := by rw [Nat.mul_assoc]; rfl
  rw [e9]
  omega
theorem sm3_le {q c : Nat} {f : Nat → Int} (hf : ∀ c, 0 ≤ f c) (hc : c < 4) (h : ¬ c + q = 3) : f c ≤ sm3 q f := by
  have g : ∀ (P : Prop) [Decidable P] (z : Int), 0 ≤ z → 0 ≤ (if P then 0 else z) := fun P _ z hz => by split <;> omega
  have := g (0 + q = 3) _ (hf 0)
  have := g (1 + q = 3) _ (hf 1)
  have := g (2 + q = 3) _ (hf 2)
  have := g (3 + q = 3) _ (hf 3)
  unfold sm3
  have hc4 : c = 0 ∨ c = 1 ∨ c = 2 ∨ c = 3 := by omega
  rcases hc4 with rfl | rfl | rfl | rfl <;> rw [if_neg h] at * <;> omega
/-! THE ORDER IN WHICH THE CLASS LOOKS -/
def fcn (p : Nat → Bool) : Nat := if p 0 then 0 else if p 1 then 1 else if p 2 then 2 else if p 3 then 3 else 4
theorem fcn_ex {p : Nat → Bool} (h : ∃ c, c < 4 ∧ p c = true) : fcn p < 4 ∧ p (fcn p) = true := by
  obtain ⟨c, hc, h⟩ := h
  have hc4 : c = 0 ∨ c = 1 ∨ c = 2 ∨ c = 3 := by omega
  unfold fcn
  rcases hc4 with rfl | rfl | rfl | rfl <;> (repeat' split) <;> simp_all
theorem fcn_is {p : Nat → Bool} {c : Nat} (hc : c < 4) (h : p c = true) : fcn p = c ↔ ∀ j, j < c → p j = false := by
  have hc4 : c = 0 ∨ c = 1 ∨ c = 2 ∨ c = 3 := by omega
  have f4 : ∀ n, (∀ j, j < n + 1 → p j = false) ↔ (∀ j, j < n → p j = false) ∧ p n = false := fun n => ⟨fun z => ⟨fun j hj => z j (by omega), z n (by omega)⟩, fun z j hj => by
    by_cases e : j = n
    · rw [e]; exact z.2
    · exact z.1 j (by omega)⟩
  have f0 : (∀ j, j < 0 → p j = false) ↔ True := ⟨fun _ => trivial, fun _ j hj => absurd hj (by omega)⟩
  unfold fcn
  rcases hc4 with rfl | rfl | rfl | rfl <;> simp only [f4, f0, true_and] <;> (repeat' split) <;> simp_all
def qC (D : Nat → Nat → Bool) (lim m v x y c : Nat) : Bool := decide (eC D m v x y c ≤ ((lim / 3 : Nat) : Int))
def cde (cx cy c v : Nat) : Nat := ((cy * 512 + cx) * 4 + c) * 64 + v
def pcB (D : Nat → Nat → Bool) (lim m v x y : Nat) : Nat := cde (x + m * oX v (cnR (fcn (qC D lim m v x y)))) (y + m * oX v (cnD (fcn (qC D lim m v x y)))) (fcn (qC D lim m v x y)) v
def pcK (D : Nat → Nat → Bool) (lim k : Nat) : Nat := pcB D lim (km k) (kv k) (kx k) (ky k)
theorem StP_f {W H lo hi lim k : Nat} {D : Nat → Nat → Bool} (h : StP W H D lo hi lim k) : fcn (qC D lim (km k) (kv k) (kx k) (ky k)) < 4 ∧ eC D (km k) (kv k) (kx k) (ky k) (fcn (qC D lim (km k) (kv k) (kx k) (ky k))) ≤ ((lim / 3 : Nat) : Int) := by
  have ho := oth_nn (D := D) (m := km k) (v := kv k) (x := kx k) (y := ky k) (q := kq k)
  have he := h.2.2.2
  unfold eW at he
  rw [EE_parts h.2.1.1 kq_lt] at he
  obtain ⟨c, hc, e⟩ := third (lim := lim) kq_lt (show sm3 (kq k) (eC D (km k) (kv k) (kx k) (ky k)) ≤ (lim : Int) by omega)
  have := fcn_ex (p := qC D lim (km k) (kv k) (kx k) (ky k)) ⟨c, hc, decide_eq_true e⟩
  exact ⟨this.1, of_decide_eq_true this.2⟩
theorem oX_le {v : Nat} {y : Bool} {m : Nat} : m * oX v y + 7 * m ≤ m * (17 + 4 * v) := by
  have : m * (oX v y + 7) ≤ m * (17 + 4 * v) := Nat.mul_le_mul_left m (by unfold oX; split <;> omega)
  rw [Nat.mul_add] at this
  omega
/-- those that stand and were looked at -/
def SC (W H : Nat) (D : Nat → Nat → Bool) (lo hi lim m T k : Nat) : Prop := StP W H D lo hi lim k ∧ (km k < m ∨ (km k = m ∧ pcK D lim k < T))
/-! ROWS OF NUMBERS AS FUNCTIONS -/
def ins (f : Nat → Nat) (p k i : Nat) : Nat := if i < p then f i else if i = p then k else f (i - 1)
def inc (f : Nat → Nat) (n : Nat) : Prop := ∀ i j, i < j → j < n → f i < f j
theorem inc_ins {f : Nat → Nat} {n p k : Nat} (h : inc f n) (hp : p ≤ n) (h1 : ∀ i, i < p → f i < k) (h2 : ∀ i, p ≤ i → i < n → k < f i) : inc (ins f p k) (n + 1) := by
  intro i j hij hj
  unfold ins
  by_cases a : j < p
  · rw [if_pos a, if_pos (by omega)]; exact h i j hij (by omega)
  · by_cases b : j = p
    · rw [if_neg a, if_pos b, if_pos (by omega)]; exact h1 i (by omega)
    · rw [if_neg a, if_neg b]
      by_cases c : i < p
      · rw [if_pos c]
        exact Nat.lt_trans (h1 i c) (h2 (j - 1) (by omega) (by omega))
      · by_cases d : i = p
        · rw [if_neg c, if_pos d]; exact h2 (j - 1) (by omega) (by omega)
        · rw [if_neg c, if_neg d]; exact h (i - 1) (j - 1) (by omega) (by omega)
theorem mem_ins {f : Nat → Nat} {n p k j : Nat} (hp : p ≤ n) : (∃ i, i < n + 1 ∧ ins f p k i = j) ↔ (∃ i, i < n ∧ f i = j) ∨ j = k := by
  constructor
  · rintro ⟨i, hi, e⟩
    unfold ins at e
    by_cases a : i < p
    · rw [if_pos a] at e; exact Or.inl ⟨i, by omega, e⟩
    · by_cases b : i = p
      · rw [if_neg a, if_pos b] at e; exact Or.inr e.symm
      · rw [if_neg a, if_neg b] at e; exact Or.inl ⟨i - 1, by omega, e⟩
  · rintro (⟨i, hi, e⟩ | e)
    · by_cases a : i < p
      · exact ⟨i, by omega, by unfold ins; rw [if_pos a]; exact e⟩
      · exact ⟨i + 1, by omega, by unfold ins; rw [if_neg (by omega), if_neg (by omega)]; exact e⟩
    · exact ⟨p, by omega, by unfold ins; rw [if_neg (by omega), if_pos rfl]; exact e.symm⟩
def ijc (f : Nat → Nat) (n : Nat) : Prop := ∀ i j, i < j → j < n → f i ≠ f j
theorem inc_ijc {f : Nat → Nat} {n : Nat} (h : inc f n) : ijc f n := fun i j a b => Nat.ne_of_lt (h i j a b)
theorem mem_rng {f : Nat → Nat} {n k : Nat} : k ∈ (List.range n).map f ↔ ∃ i, i < n ∧ f i = k := by
  rw [List.mem_map]
  exact ⟨fun ⟨i, h, e⟩ => ⟨i, List.mem_range.mp h, e⟩, fun ⟨i, h, e⟩ => ⟨i, List.mem_range.mpr h, e⟩⟩
theorem pw_rng {R : Nat → Nat → Prop} {f : Nat → Nat} {n : Nat} (h : ∀ i j, i < j → j < n → R (f i) (f j)) : ((List.range n).map f).Pairwise R := by
  rw [List.pairwise_map]
  have := List.pairwise_lt_range (n := n)
  refine List.Pairwise.imp_of_mem ?_ this
  intro a b ha hb hab
  exact h a b hab (List.mem_range.mp hb)
theorem fn_le {f g : Nat → Nat} {n n2 : Nat} (h : ijc f n) (hm : ∀ i, i < n → ∃ j, j < n2 ∧ g j = f i) : n ≤ n2 := by
  have := nd_le (l := (List.range n).map f) (r := (List.range n2).map g) (pw_rng h) (fun k hk => by
    obtain ⟨i, hi, e⟩ := mem_rng.mp hk
    obtain ⟨j, hj, e2⟩ := hm i hi
    exact mem_rng.mpr ⟨j, hj, e2.trans e⟩)
  simpa using this
theorem inc_eq {f g : Nat → Nat} {n n2 : Nat} (hf : inc f n) (hg : inc g n2) (h : ∀ k, (∃ i, i < n ∧ f i = k) ↔ ∃ i, i < n2 ∧ g i = k) : n = n2 ∧ ∀ i, i < n → f i = g i := by
  have e := srt_eq (l := (List.range n).map f) (r := (List.range n2).map g) (pw_rng hf) (pw_rng hg) (fun k => by rw [mem_rng, mem_rng]; exact h k)
  have hn : n = n2 := by
    have := congrArg List.length e
    simpa using this
  subst hn
  refine ⟨rfl, fun i hi => ?_⟩
  have := congrArg (fun l => l[i]?) e
  simpa [hi] using this
