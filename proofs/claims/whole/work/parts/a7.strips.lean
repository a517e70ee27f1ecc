/-! STRIPS OF BARS: NUMBERS, SUMS, TABLES -/
/-- the number that c digits tell -/
def nm (f : Nat → Nat) : Nat → Nat
  | 0 => 0
  | k + 1 => 10 * nm f k + f k
theorem nm_congr {f g : Nat → Nat} : ∀ c, (∀ k, k < c → f k = g k) → nm f c = nm g c := by
  intro c
  induction c with
  | zero => intro _; rfl
  | succ c ih =>
    intro h
    show 10 * nm f c + f c = 10 * nm g c + g c
    rw [ih (fun k hk => h k (by omega)), h c (by omega)]
theorem nm_inj {f g : Nat → Nat} : ∀ c, (∀ k, k < c → f k ≤ 9) → (∀ k, k < c → g k ≤ 9) → nm f c = nm g c → ∀ k, k < c → f k = g k := by
  intro c
  induction c with
  | zero => intro _ _ _ k hk; omega
  | succ c ih =>
    intro hf hg h k hk
    have h2 : 10 * nm f c + f c = 10 * nm g c + g c := h
    have hf2 := hf c (by omega)
    have hg2 := hg c (by omega)
    by_cases e : k = c
    · subst e
      omega
    · exact ih (fun k hk => hf k (by omega)) (fun k hk => hg k (by omega)) (by omega) k (by omega)
theorem nm_lt {f : Nat → Nat} : ∀ c, (∀ k, k < c → f k ≤ 9) → nm f c < 10 ^ c := by
  intro c
  induction c with
  | zero => intro _; exact Nat.one_pos
  | succ c ih =>
    intro h
    have := ih (fun k hk => h k (by omega))
    have h2 := h c (by omega)
    show 10 * nm f c + f c < 10 ^ (c + 1)
    rw [Nat.pow_succ]
    omega
/-- the k-th of c digits -/
def dig (c t k : Nat) : Nat := t / 10 ^ (c - 1 - k) % 10
/-- c digits, each 1 to 8 -/
def okt (c t : Nat) : Bool := nm (dig c t) c == t && (List.range c).all (fun k => decide (1 ≤ dig c t k) && decide (dig c t k ≤ 8))
theorem okt_1 {c t : Nat} (h : okt c t = true) : nm (dig c t) c = t ∧ ∀ k, k < c → 1 ≤ dig c t k ∧ dig c t k ≤ 8 := by
  unfold okt at h
  simp only [Bool.and_eq_true, beq_iff_eq, List.all_eq_true, List.mem_range, decide_eq_true_eq] at h
  exact ⟨h.1, fun k hk => h.2 k hk⟩
def mn9 (f : Nat → Nat) (k : Nat) : Nat := if f k ≤ 9 then f k else 9
theorem mn9_le {f : Nat → Nat} {k : Nat} : mn9 f k ≤ 9 := by unfold mn9; split <;> omega
/-- what the class takes for a pattern -/
def pv (f : Nat → Nat) (c : Nat) : Int32 := if ∀ k, k < c → 1 ≤ f k ∧ f k ≤ 9 then nI (nm f c) else -1
theorem pv_eq {f : Nat → Nat} {c t : Nat} (hc : c ≤ 7) (h : okt c t = true) : (nI t = pv f c) = (nI t = nI (nm (mn9 f) c)) := by
  obtain ⟨h1, h2⟩ := okt_1 h
  have hp : 10 ^ c ≤ 10 ^ 7 := Nat.pow_le_pow_right (by omega) hc
  have hm : nm (mn9 f) c < 10 ^ c := nm_lt c (fun k _ => mn9_le)
  have ht : t < 10 ^ c := by
    rw [← h1]
    exact nm_lt c (fun k hk => by have := h2 k hk; omega)
  unfold pv
  by_cases q : ∀ k, k < c → 1 ≤ f k ∧ f k ≤ 9
  · rw [if_pos q]
    have : nm f c = nm (mn9 f) c := nm_congr c (fun k hk => by unfold mn9; rw [if_pos (q k hk).2])
    rw [this]
  · rw [if_neg q]
    apply propext
    constructor
    · intro z
      exact absurd (show nI t < 0 by rw [z]; decide) (nI_pos (by omega))
    · intro z
      exfalso
      apply q
      have e : t = nm (mn9 f) c := (nI_eq (by omega) (by omega)).mp z
      intro k hk
      have := nm_inj c (fun k _ => mn9_le) (fun k hk => by have := h2 k hk; omega) (e.symm.trans h1.symm) k hk
      have h3 := h2 k hk
      unfold mn9 at this
      split at this <;> omega
theorem pv_t {f : Nat → Nat} {c t : Nat} (hc : c ≤ 7) (h : okt c t = true) : (pv f c = nI t) = (nI (nm (mn9 f) c) = nI t) := by
  have := pv_eq (f := f) hc h
  apply propext
  constructor
  · intro z
    exact ((this ▸ z.symm : nI t = nI (nm (mn9 f) c))).symm
  · intro z
    exact ((this.symm ▸ z.symm : nI t = pv f c)).symm
/-- sums -/
def sm (u : Nat → Nat) (a : Nat) : Nat → Nat
  | 0 => 0
  | k + 1 => sm u a k + u (a + k)
theorem sm_le {u : Nat → Nat} {a : Nat} : ∀ c, (∀ k, k < c → u (a + k) ≤ 512) → sm u a c ≤ 512 * c := by
  intro c
  induction c with
  | zero => intro _; exact Nat.le_refl 0
  | succ c ih =>
    intro h
    have := ih (fun k hk => h k (by omega))
    have := h c (by omega)
    show sm u a c + u (a + c) ≤ _
    omega
theorem sm_ge {u : Nat → Nat} {a : Nat} : ∀ c, (∀ k, k < c → 1 ≤ u (a + k)) → c ≤ sm u a c := by
  intro c
  induction c with
  | zero => intro _; exact Nat.le_refl 0
  | succ c ih =>
    intro h
    have := ih (fun k hk => h k (by omega))
    have := h c (by omega)
    show c + 1 ≤ sm u a c + u (a + c)
    omega
/-- how many modules a width counts -/
def nr (u : Nat → Nat) (a m s k : Nat) : Nat := (2 * u (a + k) * m + s) / (2 * s)
/-- the first of N for which p holds -/
def fdp (p : Nat → Prop) [DecidablePred p] : Nat → Option Nat
  | 0 => none
  | n + 1 => match fdp p n with
    | some i => some i
    | none => if p n then some n else none
theorem fdp_none {p : Nat → Prop} [DecidablePred p] : ∀ n, fdp p n = none → ∀ i, i < n → ¬ p i := by
  intro n
  induction n with
  | zero => intro _ i hi; omega
  | succ n ih =>
    intro h i hi
    unfold fdp at h
    cases e : fdp p n with
    | some j => rw [e] at h; cases h
    | none =>
      rw [e] at h
      by_cases c : i = n
      · subst c
        intro z
        rw [if_pos z] at h
        cases h
      · exact ih e i (by omega)
theorem fdp_some {p : Nat → Prop} [DecidablePred p] : ∀ n i, fdp p n = some i → i < n ∧ p i ∧ ∀ j, j < i → ¬ p j := by
  intro n
  induction n with
  | zero => intro i h; cases h
  | succ n ih =>
    intro i h
    unfold fdp at h
    cases e : fdp p n with
    | some j =>
      rw [e] at h
      cases h
      have := ih i e
      exact ⟨by omega, this.2⟩
    | none =>
      rw [e] at h
      by_cases z : p n
      · rw [if_pos z] at h
        cases h
        exact ⟨by omega, z, fun j hj => fdp_none n e j hj⟩
      · rw [if_neg z] at h
        cases h
theorem fdp_is {p : Nat → Prop} [DecidablePred p] {n i : Nat} (hi : i < n) (h1 : p i) (h2 : ∀ j, j < i → ¬ p j) : fdp p n = some i := by
  cases e : fdp p n with
  | none => exact absurd h1 (fdp_none n e i hi)
  | some j =>
    obtain ⟨a, b, c⟩ := fdp_some n j e
    have : j = i := by
      rcases Nat.lt_trichotomy i j with z | z | z
      · exact absurd h1 (c i z)
      · exact z.symm
      · exact absurd b (h2 j z)
    rw [this]
theorem fdp_no {p : Nat → Prop} [DecidablePred p] {n : Nat} (h : ∀ i, i < n → ¬ p i) : fdp p n = none := by
  cases e : fdp p n with
  | none => rfl
  | some j =>
    obtain ⟨a, b, c⟩ := fdp_some n j e
    exact absurd b (h j a)
theorem fdp_congr {p q : Nat → Prop} [DecidablePred p] [DecidablePred q] {n : Nat} (h : ∀ i, i < n → (p i ↔ q i)) : fdp p n = fdp q n := by
  cases e : fdp q n with
  | none => exact fdp_no (fun i hi z => fdp_none n e i hi ((h i hi).mp z))
  | some j =>
    obtain ⟨a, b, c⟩ := fdp_some n j e
    exact fdp_is a ((h j a).mpr b) (fun i hi z => c i hi ((h i (by omega)).mp z))
/-- its answer -/
def oI : Option Nat → Int32
  | some i => nI i
  | none => -1
theorem lp_fdp {N : Nat} {p : Nat → Prop} [DecidablePred p] {b : Int32 → Option (Int32 ⊕ (Unit ⊕ Int32))} (h1 : ∀ i, i < N → p i → b (nI i) = some (.inr (.inr (nI i)))) (h2 : ∀ i, i < N → ¬ p i → b (nI i) = some (.inl (nI (i + 1)))) (h3 : b (nI N) = some (.inr (.inl ()))) : bs0 (lp (uc1 b) 0) (fun (_ : Unit) => some (-1)) (fun t => some t) = some (oI (fdp p N)) := by
  cases e : fdp p N with
  | none =>
    have hn := fdp_none N e
    have : lp (uc1 b) 0 = some (.inl ()) := lp_row (b := uc1 b) (fun k => nI k) N (fun k hk => h2 k hk (hn k hk)) h3
    rw [this]
    rfl
  | some j =>
    obtain ⟨a, z, c⟩ := fdp_some N j e
    have : lp (uc1 b) 0 = some (.inr (nI j)) := lp_row (b := uc1 b) (fun k => nI k) j (fun k hk => h2 k (by omega) (c k hk)) (h1 j a z)
    rw [this]
    rfl
