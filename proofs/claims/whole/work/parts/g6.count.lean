/-! COUNTING ON: THE NUMBERS -/
theorem lZ_div {a b : Int} (h1 : -9223372036854775808 < a ∧ a < 9223372036854775808) (h2 : -9223372036854775808 ≤ b ∧ b < 9223372036854775808) (h3 : -9223372036854775808 ≤ a.tdiv b ∧ a.tdiv b < 9223372036854775808) : lZ a / lZ b = lZ (a.tdiv b) := by
  apply Int64.toInt_inj.mp
  rw [Int64.toInt_div_of_ne_left, lZ_toInt (by omega) (by omega), lZ_toInt (by omega) (by omega), lZ_toInt (by omega) (by omega)]
  intro e
  have := congrArg Int64.toInt e
  rw [lZ_toInt (by omega) (by omega)] at this
  have m : Int64.minValue.toInt = -9223372036854775808 := by decide +kernel
  omega
theorem lZ_divN {a b : Nat} (ha : a < 9223372036854775808) (hb : 0 < b) (hb2 : b < 9223372036854775808) : lZ (a : Int) / lZ (b : Int) = lZ ((a / b : Nat) : Int) := by
  have e : (a : Int).tdiv (b : Int) = ((a / b : Nat) : Int) := rfl
  have h : a / b ≤ a := Nat.div_le_self a b
  generalize a / b = q at e h ⊢
  rw [lZ_div (by omega) (by omega) (by rw [e]; omega), e]
/-- how many digits stand at the end, at most nine -/
def isD (B : Nat → Nat) (i : Nat) : Bool := decide (48 ≤ B i ∧ B i ≤ 57)
def tdg (B : Nat → Nat) (n : Nat) : Nat := match fdp (fun k => isD B (n - 1 - k) = false) (if n ≤ 9 then n else 9) with
  | some k => k
  | none => if n ≤ 9 then n else 9
def vlD (B : Nat → Nat) (n : Nat) : Nat → Nat
  | 0 => 0
  | k + 1 => vlD B n k + 10 ^ k * (B (n - 1 - k) - 48)
theorem tdg_le {B : Nat → Nat} {n : Nat} : tdg B n ≤ n ∧ tdg B n ≤ 9 := by
  unfold tdg
  cases e : fdp (fun k => isD B (n - 1 - k) = false) (if n ≤ 9 then n else 9) with
  | none =>
    show (if n ≤ 9 then n else 9) ≤ n ∧ (if n ≤ 9 then n else 9) ≤ 9
    split <;> omega
  | some k =>
    have := (fdp_some _ _ e).1
    show k ≤ n ∧ k ≤ 9
    split at this <;> omega
theorem tdg_d {B : Nat → Nat} {n k : Nat} (h : k < tdg B n) : 48 ≤ B (n - 1 - k) ∧ B (n - 1 - k) ≤ 57 := by
  have key : isD B (n - 1 - k) = true := by
    unfold tdg at h
    cases e : fdp (fun k => isD B (n - 1 - k) = false) (if n ≤ 9 then n else 9) with
    | none =>
      rw [e] at h
      have := fdp_none _ e k h
      cases hh : isD B (n - 1 - k) with
      | true => rfl
      | false => exact absurd hh this
    | some j =>
      rw [e] at h
      have := (fdp_some _ _ e).2.2 k h
      cases hh : isD B (n - 1 - k) with
      | true => rfl
      | false => exact absurd hh this
  unfold isD at key
  exact of_decide_eq_true key
theorem vlD_lt {B : Nat → Nat} {n : Nat} : ∀ {k : Nat}, k ≤ tdg B n → vlD B n k < 10 ^ k := by
  intro k
  induction k with
  | zero => intro _; exact Nat.one_pos
  | succ k ih =>
    intro h
    have h1 := ih (by omega)
    have h2 := tdg_d (B := B) (n := n) (k := k) (by omega)
    show vlD B n k + 10 ^ k * (B (n - 1 - k) - 48) < 10 ^ (k + 1)
    rw [Nat.pow_succ]
    have : 10 ^ k * (B (n - 1 - k) - 48) ≤ 10 ^ k * 9 := Nat.mul_le_mul_left _ (by omega)
    omega
/-- the number once it is counted on -/
def cnV (B : Nat → Nat) (n : Nat) (sc : Int) : Nat := (((vlD B n (tdg B n) : Nat) : Int) + sc).emod ((10 ^ tdg B n : Nat) : Int) |>.toNat
/-- the bytes once they are counted on -/
def cnB (B : Nat → Nat) (n : Nat) (sc : Int) (i : Nat) : Nat := if n - tdg B n ≤ i ∧ i < n then 48 + cnV B n sc / 10 ^ (n - 1 - i) % 10 else B i
theorem cnB_k {B : Nat → Nat} {n : Nat} {sc : Int} {i : Nat} (h : i < n) : (cnB B n sc i = 10 ↔ B i = 10) ∧ (cnB B n sc i = 32 ↔ B i = 32) ∧ ((48 ≤ cnB B n sc i ∧ cnB B n sc i ≤ 57) ↔ (48 ≤ B i ∧ B i ≤ 57)) ∧ (B i < 256 → cnB B n sc i < 256) := by
  unfold cnB
  by_cases c : n - tdg B n ≤ i ∧ i < n
  · rw [if_pos c]
    have := tdg_d (B := B) (n := n) (k := n - 1 - i) (by omega)
    rw [show n - 1 - (n - 1 - i) = i by omega] at this
    have m : cnV B n sc / 10 ^ (n - 1 - i) % 10 < 10 := Nat.mod_lt _ (by omega)
    omega
  · rw [if_neg c]
    exact ⟨Iff.rfl, Iff.rfl, Iff.rfl, fun z => z⟩
/-! THE REFERENCE'S COPY -/
def TDt (M : im_M) (f n : Nat) (B : Nat → Nat) : Prop := ∀ i, i < n → B i < 256 ∧ im_i M 84 (200 * f + i) = nI (B i)
theorem dgB_n {b : Nat} (h : b < 256) : (dgB (nI b) = 0) = ¬ (48 ≤ b ∧ b ≤ 57) := by
  unfold dgB
  have c1 : (nI b < 48) = (b < 48) := nIlt (c := 48) (by omega) (by omega)
  have c2 : ((57 : Int32) < nI b) = (57 < b) := nIlt (x := 57) (by omega) (by omega)
  simp only [c1, c2]
  apply propext
  by_cases a : b < 48
  · rw [if_pos a]; exact ⟨fun _ => by omega, fun _ => rfl⟩
  · rw [if_neg a]
    by_cases c : 57 < b
    · rw [if_pos c]; exact ⟨fun _ => by omega, fun _ => rfl⟩
    · rw [if_neg c]; exact ⟨fun z => absurd z (by decide), fun z => absurd (by omega) z⟩
theorem s_copyRow {M : im_M} {f n : Nat} {B : Nat → Nat} {v3 : Int32} (hf : f ≤ 120) (hn : n ≤ 200) (hB : TDt M f n B) : ed (lp (uc2 (f_MScriptRows_takeCopy_L16 (nI f) v3 (nI n))) (0, M)) (fun r => fr (2 ^ 85) [] M r ∧ ∀ i, i < n → im_i r 85 i = nI (B i)) := by
  refine lp_inv (fun k (s : Int32 × im_M) => ∃ i : Nat, i + k = n ∧ s.1 = nI i ∧ fr (2 ^ 85) [] M s.2 ∧ ∀ x, x < i → im_i s.2 85 x = nI (B x)) ?_ (k := n) ⟨0, by omega, rfl, fr_refl, fun x hx => absurd hx (by omega)⟩
  rintro k ⟨x5, M6⟩ ⟨i, hi, e1, g, h⟩
  replace e1 : x5 = nI i := e1
  replace g : fr (2 ^ 85) [] M M6 := g
  replace h : ∀ x, x < i → im_i M6 85 x = nI (B x) := h
  subst e1
  show ed (f_MScriptRows_takeCopy_L16 (nI f) v3 (nI n) (nI i) M6) _
  unfold f_MScriptRows_takeCopy_L16
  rw [if_nIl (by omega) (by omega)]
  by_cases c : n ≤ i
  · rw [if_pos c]
    obtain rfl : i = n := by omega
    exact lpo_r ⟨g, h⟩
  · have ex : (200 : Int32) * nI f + nI i = nI (200 * f + i) := by rw [nI_m, nI_add]
    have e84 : im_i M6 84 (200 * f + i) = nI (B i) := (g.1 84 _ (by decide) (by simp)).trans (hB i (by omega)).2
    rw [if_neg c, ex, gd_pos (by rw [inb_nI (by omega)]; omega), gd_pos (by rw [inb_nI (by omega)]; omega), nI_clamp (by omega), nI_clamp (by omega), e84]
    refine lpo_l (k - 1) (by omega) ⟨i + 1, by omega, nI_add i 1, fr_I (by decide) g, fun x hx => ?_⟩
    show (if x = i then nI (B i) else im_i M6 85 x) = _
    by_cases e : x = i
    · rw [if_pos e, e]
    · rw [if_neg e]; exact h x (by omega)
