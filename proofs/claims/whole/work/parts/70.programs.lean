/-! PURE PROGRAMS: what a method computes, as a function; it ends (some) or it does not (none) -/
/-- it ends, with P -/
def ed {α : Type} (x : Option α) (P : α → Prop) : Prop := ∃ a, x = some a ∧ P a
/-- only where c holds -/
def gd {α : Type} (c : Prop) [Decidable c] (x : Option α) : Option α := if c then x else none
/-- i is a place of an array of n -/
abbrev inb (i : Int32) (n : Nat) : Prop := 0 ≤ i.toInt ∧ i.toInt < (n : Int)
/-- what System.arraycopy asks: from sp of m, to dp of n, k of them -/
abbrev cpy (sp : Int32) (m : Nat) (dp : Int32) (n : Nat) (k : Int32) : Prop := ¬ sp < 0 ∧ ¬ dp < 0 ∧ ¬ k < 0 ∧ sp.toNatClampNeg + k.toNatClampNeg ≤ m ∧ dp.toNatClampNeg + k.toNatClampNeg ≤ n
theorem ed_some {α : Type} {a : α} {P : α → Prop} (h : ed (some a) P) : P a := by obtain ⟨b, e, h⟩ := h; cases e; exact h
theorem ed_none {α : Type} {P : α → Prop} (h : ed (none : Option α) P) : False := by obtain ⟨b, e, h⟩ := h; cases e
theorem ed_gd {α : Type} {c : Prop} [Decidable c] {x : Option α} {P : α → Prop} (h : ed (gd c x) P) : c ∧ ed x P := by
  unfold gd at h
  by_cases q : c
  · rw [if_pos q] at h; exact ⟨q, h⟩
  · rw [if_neg q] at h; exact (ed_none h).elim
theorem ed_pos {α : Type} {c : Prop} [Decidable c] {x y : Option α} {P : α → Prop} (q : c) (h : ed (if c then x else y) P) : ed x P := by rw [if_pos q] at h; exact h
theorem ed_neg {α : Type} {c : Prop} [Decidable c] {x y : Option α} {P : α → Prop} (q : ¬ c) (h : ed (if c then x else y) P) : ed y P := by rw [if_neg q] at h; exact h
theorem ed_mono {α : Type} {x : Option α} {P Q : α → Prop} (h : ed x P) (k : ∀ a, P a → Q a) : ed x Q := by obtain ⟨a, e, h⟩ := h; exact ⟨a, e, k a h⟩
theorem ed_mk {α : Type} {a : α} {P : α → Prop} (h : P a) : ed (some a) P := ⟨a, rfl, h⟩
theorem ed_mgd {α : Type} {c : Prop} [Decidable c] {x : Option α} {P : α → Prop} (q : c) (h : ed x P) : ed (gd c x) P := by unfold gd; rw [if_pos q]; exact h
theorem ed_mif {α : Type} {c : Prop} [Decidable c] {x y : Option α} {P : α → Prop} (h1 : c → ed x P) (h2 : ¬ c → ed y P) : ed (if c then x else y) P := by
  by_cases q : c
  · rw [if_pos q]; exact h1 q
  · rw [if_neg q]; exact h2 q
/-- so many turns of a loop at the most -/
def lpn {S R : Type} (b : S → Option (S ⊕ R)) : Nat → S → Option R
  | 0, _ => none
  | n + 1, s => match b s with
    | none => none
    | some (.inl s') => lpn b n s'
    | some (.inr r) => some r
theorem lpn_0 {S R : Type} {b : S → Option (S ⊕ R)} {s : S} {r : R} (h : lpn b 0 s = some r) : False := by cases h
/-- what a turn leaves -/
def lq {S R : Type} (b : S → Option (S ⊕ R)) (n : Nat) (r : R) (x : S ⊕ R) : Prop := match x with
  | .inl s => lpn b n s = some r
  | .inr r' => r' = r
theorem lpn_ed {S R : Type} {b : S → Option (S ⊕ R)} {n : Nat} {s : S} {r : R} (h : lpn b (n + 1) s = some r) : ed (b s) (lq b n r) := by
  unfold lpn at h
  cases hb : b s with
  | none => rw [hb] at h; cases h
  | some x =>
    rw [hb] at h
    refine ⟨x, rfl, ?_⟩
    cases x with
    | inl s' => exact h
    | inr r' => exact Option.some.inj h
theorem lq_l {S R : Type} {b : S → Option (S ⊕ R)} {n : Nat} {r : R} {s : S} (h : ed (some (.inl s)) (lq b n r)) : lpn b n s = some r := by
  have q := ed_some (P := lq b n r) h
  exact q
theorem lq_r {S R : Type} {b : S → Option (S ⊕ R)} {n : Nat} {r a : R} {Q : R → Prop} (h : ed (some (.inr a)) (lq b n r)) (q : Q r) : Q a := by
  have e : a = r := by
    have q := ed_some (P := lq b n r) h
    exact q
  rw [e]; exact q
theorem lpn_mono {S R : Type} {b : S → Option (S ⊕ R)} : ∀ (n k : Nat) (s : S) (r : R), lpn b n s = some r → lpn b (n + k) s = some r := by
  intro n
  induction n with
  | zero => intro k s r h; cases h
  | succ n ih =>
    intro k s r h
    rw [Nat.succ_add]
    unfold lpn at h ⊢
    cases hb : b s with
    | none => rw [hb] at h; cases h
    | some x =>
      rw [hb] at h
      cases x with
      | inl s' => exact ih k s' r h
      | inr r' => exact h
theorem lpn_det {S R : Type} {b : S → Option (S ⊕ R)} {n k : Nat} {s : S} {r r' : R} (h : lpn b n s = some r) (h' : lpn b k s = some r') : r = r' := by
  have e1 := lpn_mono n k s r h
  have e2 := lpn_mono k n s r' h'
  rw [Nat.add_comm] at e2
  rw [e1] at e2
  exact Option.some.inj e2
/-- a loop: turn after turn until one stops it -/
noncomputable def lp {S R : Type} (b : S → Option (S ⊕ R)) (s : S) : Option R := @dite (Option R) (∃ r n, lpn b n s = some r) (Classical.propDecidable _) (fun h => some (Classical.choose h)) (fun _ => none)
theorem lp_n {S R : Type} {b : S → Option (S ⊕ R)} {s : S} {r : R} (h : lp b s = some r) : ∃ n, lpn b n s = some r := by
  unfold lp at h
  split at h
  · rename_i q
    cases h
    exact Classical.choose_spec q
  · cases h
theorem lp_of {S R : Type} {b : S → Option (S ⊕ R)} {s : S} {r : R} {n : Nat} (h : lpn b n s = some r) : lp b s = some r := by
  unfold lp
  rw [dif_pos ⟨r, n, h⟩]
  obtain ⟨k, hk⟩ := Classical.choose_spec (⟨r, n, h⟩ : ∃ r n, lpn b n s = some r)
  exact congrArg some (lpn_det hk h)
/-- the rule of loops: what holds before each turn, with a number that falls -/
theorem lp_rule {S R : Type} {b : S → Option (S ⊕ R)} (I : Nat → S → Prop) {Q : R → Prop} (hb : ∀ k s, I k s → ed (b s) (fun x => match x with | .inl s' => ∃ k', k' < k ∧ I k' s' | .inr r => Q r)) : ∀ {k : Nat} {s : S}, I k s → ed (lp b s) Q := by
  intro k
  induction k using Nat.strongRecOn with
  | ind k ih =>
    intro s hI
    obtain ⟨x, ex, hx⟩ := hb k s hI
    cases x with
    | inl s' =>
      obtain ⟨k', hk, hI'⟩ := hx
      obtain ⟨r, er, hr⟩ := ih k' hk hI'
      obtain ⟨n, hn⟩ := lp_n er
      refine ⟨r, lp_of (n := n + 1) ?_, hr⟩
      unfold lpn
      rw [ex]
      exact hn
    | inr r =>
      refine ⟨r, lp_of (n := 1) ?_, hx⟩
      unfold lpn
      rw [ex]
def bd0 {Y : Type} (x : Option (Unit)) (k : Unit → Option Y) : Option Y := x.bind fun t => k t
theorem bd0_ed {Y : Type} {x : Option (Unit)} {k : Unit → Option Y} {P : Y → Prop} (h : ed (bd0 x k) P) : ∃ Q : Unit → Prop, (Q () → ed (k ()) P) ∧ ed x Q := by
  cases x with
  | none => exact (ed_none h).elim
  | some t => exact ⟨fun (t : Unit) => ed (k t) P, fun  q => q, ⟨t, rfl, h⟩⟩
theorem bd0_mk {Y : Type} {x : Option (Unit)} {k : Unit → Option Y} {P : Y → Prop} (h : ed x (fun t => ed (k t) P)) : ed (bd0 x k) P := by
  obtain ⟨t, e, h⟩ := h
  rw [e]
  exact h
def bs0 {X Y : Type} (x : Option ((Unit) ⊕ X)) (k : Unit → Option Y) (r : X → Option Y) : Option Y := x.bind fun u => match u with
  | .inl t => k t
  | .inr s => r s
theorem bs0_ed {X Y : Type} {x : Option ((Unit) ⊕ X)} {k : Unit → Option Y} {r : X → Option Y} {P : Y → Prop} (h : ed (bs0 x k r) P) : ∃ Q : (Unit) ⊕ X → Prop, (Q (.inl ()) → ed (k ()) P) ∧ (∀ s, Q (.inr s) → ed (r s) P) ∧ ed x Q := by
  cases x with
  | none => exact (ed_none h).elim
  | some u => exact ⟨fun (u : (Unit) ⊕ X) => ed (match u with | .inl t => k t | .inr s => r s) P, fun  q => q, fun s q => q, ⟨u, rfl, by cases u <;> exact h⟩⟩
theorem bs0_mk {X Y : Type} {x : Option ((Unit) ⊕ X)} {k : Unit → Option Y} {r : X → Option Y} {P : Y → Prop} (h : ed x (fun u => match u with | .inl t => ed (k t) P | .inr s => ed (r s) P)) : ed (bs0 x k r) P := by
  obtain ⟨u, e, h⟩ := h
  rw [e]
  cases u <;> exact h
def jn0 {Y : Type} (k : Unit → Option Y) (f : (Unit → Option Y) → Option Y) : Option Y := f k
theorem jn0_ed {Y : Type} {k : Unit → Option Y} {f : (Unit → Option Y) → Option Y} {P : Y → Prop} (h : ed (jn0 k f) P) : ∃ (k' : Unit → Option Y) (Q : Unit → Prop), (Q () → ed (k ()) P) ∧ (ed (k' ()) P → Q ()) ∧ ed (f k') P := ⟨k, fun _ => ed (k ()) P, fun  q => q, fun  q => q, h⟩
def bd1 {T1 Y : Type} (x : Option (T1)) (k : T1 → Option Y) : Option Y := x.bind fun t => k t
theorem bd1_ed {T1 Y : Type} {x : Option (T1)} {k : T1 → Option Y} {P : Y → Prop} (h : ed (bd1 x k) P) : ∃ Q : T1 → Prop, (∀ a1, Q a1 → ed (k a1) P) ∧ ed x Q := by
  cases x with
  | none => exact (ed_none h).elim
  | some t => exact ⟨fun (t : T1) => ed (k t) P, fun _ q => q, ⟨t, rfl, h⟩⟩
theorem bd1_mk {T1 Y : Type} {x : Option (T1)} {k : T1 → Option Y} {P : Y → Prop} (h : ed x (fun t => ed (k t) P)) : ed (bd1 x k) P := by
  obtain ⟨t, e, h⟩ := h
  rw [e]
  exact h
def bs1 {T1 X Y : Type} (x : Option ((T1) ⊕ X)) (k : T1 → Option Y) (r : X → Option Y) : Option Y := x.bind fun u => match u with
  | .inl t => k t
  | .inr s => r s
theorem bs1_ed {T1 X Y : Type} {x : Option ((T1) ⊕ X)} {k : T1 → Option Y} {r : X → Option Y} {P : Y → Prop} (h : ed (bs1 x k r) P) : ∃ Q : (T1) ⊕ X → Prop, (∀ a1, Q (.inl a1) → ed (k a1) P) ∧ (∀ s, Q (.inr s) → ed (r s) P) ∧ ed x Q := by
  cases x with
  | none => exact (ed_none h).elim
  | some u => exact ⟨fun (u : (T1) ⊕ X) => ed (match u with | .inl t => k t | .inr s => r s) P, fun _ q => q, fun s q => q, ⟨u, rfl, by cases u <;> exact h⟩⟩
theorem bs1_mk {T1 X Y : Type} {x : Option ((T1) ⊕ X)} {k : T1 → Option Y} {r : X → Option Y} {P : Y → Prop} (h : ed x (fun u => match u with | .inl t => ed (k t) P | .inr s => ed (r s) P)) : ed (bs1 x k r) P := by
  obtain ⟨u, e, h⟩ := h
  rw [e]
  cases u <;> exact h
def jn1 {T1 Y : Type} (k : T1 → Option Y) (f : (T1 → Option Y) → Option Y) : Option Y := f k
theorem jn1_ed {T1 Y : Type} {k : T1 → Option Y} {f : (T1 → Option Y) → Option Y} {P : Y → Prop} (h : ed (jn1 k f) P) : ∃ (k' : T1 → Option Y) (Q : T1 → Prop), (∀ a1, Q a1 → ed (k a1) P) ∧ (∀ a1, ed (k' a1) P → Q a1) ∧ ed (f k') P := ⟨k, fun a1 => ed (k a1) P, fun _ q => q, fun _ q => q, h⟩
/-- a function of 1 as one of a tuple -/
def uc1 {T1 Y : Type} (f : T1 → Y) (t : T1) : Y := f t
theorem lpn_ed1 {T1 R : Type} {f : T1 → Option ((T1) ⊕ R)} {n : Nat} {a1 : T1} {r : R} (h : lpn (uc1 f) (n + 1) a1 = some r) : ed (f a1) (lq (uc1 f) n r) := lpn_ed h
def bd2 {T1 T2 Y : Type} (x : Option (T1 × T2)) (k : T1 → T2 → Option Y) : Option Y := x.bind fun t => k t.1 t.2
theorem bd2_ed {T1 T2 Y : Type} {x : Option (T1 × T2)} {k : T1 → T2 → Option Y} {P : Y → Prop} (h : ed (bd2 x k) P) : ∃ Q : T1 × T2 → Prop, (∀ a1 a2, Q (a1, a2) → ed (k a1 a2) P) ∧ ed x Q := by
  cases x with
  | none => exact (ed_none h).elim
  | some t => exact ⟨fun (t : T1 × T2) => ed (k t.1 t.2) P, fun _ _ q => q, ⟨t, rfl, h⟩⟩
theorem bd2_mk {T1 T2 Y : Type} {x : Option (T1 × T2)} {k : T1 → T2 → Option Y} {P : Y → Prop} (h : ed x (fun t => ed (k t.1 t.2) P)) : ed (bd2 x k) P := by
  obtain ⟨t, e, h⟩ := h
  rw [e]
  exact h
def bs2 {T1 T2 X Y : Type} (x : Option ((T1 × T2) ⊕ X)) (k : T1 → T2 → Option Y) (r : X → Option Y) : Option Y := x.bind fun u => match u with
  | .inl t => k t.1 t.2
  | .inr s => r s
theorem bs2_ed {T1 T2 X Y : Type} {x : Option ((T1 × T2) ⊕ X)} {k : T1 → T2 → Option Y} {r : X → Option Y} {P : Y → Prop} (h : ed (bs2 x k r) P) : ∃ Q : (T1 × T2) ⊕ X → Prop, (∀ a1 a2, Q (.inl (a1, a2)) → ed (k a1 a2) P) ∧ (∀ s, Q (.inr s) → ed (r s) P) ∧ ed x Q := by
  cases x with
  | none => exact (ed_none h).elim
  | some u => exact ⟨fun (u : (T1 × T2) ⊕ X) => ed (match u with | .inl t => k t.1 t.2 | .inr s => r s) P, fun _ _ q => q, fun s q => q, ⟨u, rfl, by cases u <;> exact h⟩⟩
theorem bs2_mk {T1 T2 X Y : Type} {x : Option ((T1 × T2) ⊕ X)} {k : T1 → T2 → Option Y} {r : X → Option Y} {P : Y → Prop} (h : ed x (fun u => match u with | .inl t => ed (k t.1 t.2) P | .inr s => ed (r s) P)) : ed (bs2 x k r) P := by
  obtain ⟨u, e, h⟩ := h
  rw [e]
  cases u <;> exact h
def jn2 {T1 T2 Y : Type} (k : T1 → T2 → Option Y) (f : (T1 → T2 → Option Y) → Option Y) : Option Y := f k
theorem jn2_ed {T1 T2 Y : Type} {k : T1 → T2 → Option Y} {f : (T1 → T2 → Option Y) → Option Y} {P : Y → Prop} (h : ed (jn2 k f) P) : ∃ (k' : T1 → T2 → Option Y) (Q : T1 → T2 → Prop), (∀ a1 a2, Q a1 a2 → ed (k a1 a2) P) ∧ (∀ a1 a2, ed (k' a1 a2) P → Q a1 a2) ∧ ed (f k') P := ⟨k, fun a1 a2 => ed (k a1 a2) P, fun _ _ q => q, fun _ _ q => q, h⟩
/-- a function of 2 as one of a tuple -/
def uc2 {T1 T2 Y : Type} (f : T1 → T2 → Y) (t : T1 × T2) : Y := f t.1 t.2
theorem lpn_ed2 {T1 T2 R : Type} {f : T1 → T2 → Option ((T1 × T2) ⊕ R)} {n : Nat} {a1 : T1} {a2 : T2} {r : R} (h : lpn (uc2 f) (n + 1) (a1, a2) = some r) : ed (f a1 a2) (lq (uc2 f) n r) := lpn_ed h
def bd3 {T1 T2 T3 Y : Type} (x : Option (T1 × T2 × T3)) (k : T1 → T2 → T3 → Option Y) : Option Y := x.bind fun t => k t.1 t.2.1 t.2.2
theorem bd3_ed {T1 T2 T3 Y : Type} {x : Option (T1 × T2 × T3)} {k : T1 → T2 → T3 → Option Y} {P : Y → Prop} (h : ed (bd3 x k) P) : ∃ Q : T1 × T2 × T3 → Prop, (∀ a1 a2 a3, Q (a1, a2, a3) → ed (k a1 a2 a3) P) ∧ ed x Q := by
  cases x with
  | none => exact (ed_none h).elim
  | some t => exact ⟨fun (t : T1 × T2 × T3) => ed (k t.1 t.2.1 t.2.2) P, fun _ _ _ q => q, ⟨t, rfl, h⟩⟩
theorem bd3_mk {T1 T2 T3 Y : Type} {x : Option (T1 × T2 × T3)} {k : T1 → T2 → T3 → Option Y} {P : Y → Prop} (h : ed x (fun t => ed (k t.1 t.2.1 t.2.2) P)) : ed (bd3 x k) P := by
  obtain ⟨t, e, h⟩ := h
  rw [e]
  exact h
def bs3 {T1 T2 T3 X Y : Type} (x : Option ((T1 × T2 × T3) ⊕ X)) (k : T1 → T2 → T3 → Option Y) (r : X → Option Y) : Option Y := x.bind fun u => match u with
  | .inl t => k t.1 t.2.1 t.2.2
  | .inr s => r s
theorem bs3_ed {T1 T2 T3 X Y : Type} {x : Option ((T1 × T2 × T3) ⊕ X)} {k : T1 → T2 → T3 → Option Y} {r : X → Option Y} {P : Y → Prop} (h : ed (bs3 x k r) P) : ∃ Q : (T1 × T2 × T3) ⊕ X → Prop, (∀ a1 a2 a3, Q (.inl (a1, a2, a3)) → ed (k a1 a2 a3) P) ∧ (∀ s, Q (.inr s) → ed (r s) P) ∧ ed x Q := by
  cases x with
  | none => exact (ed_none h).elim
  | some u => exact ⟨fun (u : (T1 × T2 × T3) ⊕ X) => ed (match u with | .inl t => k t.1 t.2.1 t.2.2 | .inr s => r s) P, fun _ _ _ q => q, fun s q => q, ⟨u, rfl, by cases u <;> exact h⟩⟩
theorem bs3_mk {T1 T2 T3 X Y : Type} {x : Option ((T1 × T2 × T3) ⊕ X)} {k : T1 → T2 → T3 → Option Y} {r : X → Option Y} {P : Y → Prop} (h : ed x (fun u => match u with | .inl t => ed (k t.1 t.2.1 t.2.2) P | .inr s => ed (r s) P)) : ed (bs3 x k r) P := by
  obtain ⟨u, e, h⟩ := h
  rw [e]
  cases u <;> exact h
def jn3 {T1 T2 T3 Y : Type} (k : T1 → T2 → T3 → Option Y) (f : (T1 → T2 → T3 → Option Y) → Option Y) : Option Y := f k
theorem jn3_ed {T1 T2 T3 Y : Type} {k : T1 → T2 → T3 → Option Y} {f : (T1 → T2 → T3 → Option Y) → Option Y} {P : Y → Prop} (h : ed (jn3 k f) P) : ∃ (k' : T1 → T2 → T3 → Option Y) (Q : T1 → T2 → T3 → Prop), (∀ a1 a2 a3, Q a1 a2 a3 → ed (k a1 a2 a3) P) ∧ (∀ a1 a2 a3, ed (k' a1 a2 a3) P → Q a1 a2 a3) ∧ ed (f k') P := ⟨k, fun a1 a2 a3 => ed (k a1 a2 a3) P, fun _ _ _ q => q, fun _ _ _ q => q, h⟩
/-- a function of 3 as one of a tuple -/
def uc3 {T1 T2 T3 Y : Type} (f : T1 → T2 → T3 → Y) (t : T1 × T2 × T3) : Y := f t.1 t.2.1 t.2.2
theorem lpn_ed3 {T1 T2 T3 R : Type} {f : T1 → T2 → T3 → Option ((T1 × T2 × T3) ⊕ R)} {n : Nat} {a1 : T1} {a2 : T2} {a3 : T3} {r : R} (h : lpn (uc3 f) (n + 1) (a1, a2, a3) = some r) : ed (f a1 a2 a3) (lq (uc3 f) n r) := lpn_ed h
def bd4 {T1 T2 T3 T4 Y : Type} (x : Option (T1 × T2 × T3 × T4)) (k : T1 → T2 → T3 → T4 → Option Y) : Option Y := x.bind fun t => k t.1 t.2.1 t.2.2.1 t.2.2.2
theorem bd4_ed {T1 T2 T3 T4 Y : Type} {x : Option (T1 × T2 × T3 × T4)} {k : T1 → T2 → T3 → T4 → Option Y} {P : Y → Prop} (h : ed (bd4 x k) P) : ∃ Q : T1 × T2 × T3 × T4 → Prop, (∀ a1 a2 a3 a4, Q (a1, a2, a3, a4) → ed (k a1 a2 a3 a4) P) ∧ ed x Q := by
  cases x with
  | none => exact (ed_none h).elim
  | some t => exact ⟨fun (t : T1 × T2 × T3 × T4) => ed (k t.1 t.2.1 t.2.2.1 t.2.2.2) P, fun _ _ _ _ q => q, ⟨t, rfl, h⟩⟩
theorem bd4_mk {T1 T2 T3 T4 Y : Type} {x : Option (T1 × T2 × T3 × T4)} {k : T1 → T2 → T3 → T4 → Option Y} {P : Y → Prop} (h : ed x (fun t => ed (k t.1 t.2.1 t.2.2.1 t.2.2.2) P)) : ed (bd4 x k) P := by
  obtain ⟨t, e, h⟩ := h
  rw [e]
  exact h
def bs4 {T1 T2 T3 T4 X Y : Type} (x : Option ((T1 × T2 × T3 × T4) ⊕ X)) (k : T1 → T2 → T3 → T4 → Option Y) (r : X → Option Y) : Option Y := x.bind fun u => match u with
  | .inl t => k t.1 t.2.1 t.2.2.1 t.2.2.2
  | .inr s => r s
theorem bs4_ed {T1 T2 T3 T4 X Y : Type} {x : Option ((T1 × T2 × T3 × T4) ⊕ X)} {k : T1 → T2 → T3 → T4 → Option Y} {r : X → Option Y} {P : Y → Prop} (h : ed (bs4 x k r) P) : ∃ Q : (T1 × T2 × T3 × T4) ⊕ X → Prop, (∀ a1 a2 a3 a4, Q (.inl (a1, a2, a3, a4)) → ed (k a1 a2 a3 a4) P) ∧ (∀ s, Q (.inr s) → ed (r s) P) ∧ ed x Q := by
  cases x with
  | none => exact (ed_none h).elim
  | some u => exact ⟨fun (u : (T1 × T2 × T3 × T4) ⊕ X) => ed (match u with | .inl t => k t.1 t.2.1 t.2.2.1 t.2.2.2 | .inr s => r s) P, fun _ _ _ _ q => q, fun s q => q, ⟨u, rfl, by cases u <;> exact h⟩⟩
theorem bs4_mk {T1 T2 T3 T4 X Y : Type} {x : Option ((T1 × T2 × T3 × T4) ⊕ X)} {k : T1 → T2 → T3 → T4 → Option Y} {r : X → Option Y} {P : Y → Prop} (h : ed x (fun u => match u with | .inl t => ed (k t.1 t.2.1 t.2.2.1 t.2.2.2) P | .inr s => ed (r s) P)) : ed (bs4 x k r) P := by
  obtain ⟨u, e, h⟩ := h
  rw [e]
  cases u <;> exact h
def jn4 {T1 T2 T3 T4 Y : Type} (k : T1 → T2 → T3 → T4 → Option Y) (f : (T1 → T2 → T3 → T4 → Option Y) → Option Y) : Option Y := f k
theorem jn4_ed {T1 T2 T3 T4 Y : Type} {k : T1 → T2 → T3 → T4 → Option Y} {f : (T1 → T2 → T3 → T4 → Option Y) → Option Y} {P : Y → Prop} (h : ed (jn4 k f) P) : ∃ (k' : T1 → T2 → T3 → T4 → Option Y) (Q : T1 → T2 → T3 → T4 → Prop), (∀ a1 a2 a3 a4, Q a1 a2 a3 a4 → ed (k a1 a2 a3 a4) P) ∧ (∀ a1 a2 a3 a4, ed (k' a1 a2 a3 a4) P → Q a1 a2 a3 a4) ∧ ed (f k') P := ⟨k, fun a1 a2 a3 a4 => ed (k a1 a2 a3 a4) P, fun _ _ _ _ q => q, fun _ _ _ _ q => q, h⟩
/-- a function of 4 as one of a tuple -/
def uc4 {T1 T2 T3 T4 Y : Type} (f : T1 → T2 → T3 → T4 → Y) (t : T1 × T2 × T3 × T4) : Y := f t.1 t.2.1 t.2.2.1 t.2.2.2
theorem lpn_ed4 {T1 T2 T3 T4 R : Type} {f : T1 → T2 → T3 → T4 → Option ((T1 × T2 × T3 × T4) ⊕ R)} {n : Nat} {a1 : T1} {a2 : T2} {a3 : T3} {a4 : T4} {r : R} (h : lpn (uc4 f) (n + 1) (a1, a2, a3, a4) = some r) : ed (f a1 a2 a3 a4) (lq (uc4 f) n r) := lpn_ed h
def bd5 {T1 T2 T3 T4 T5 Y : Type} (x : Option (T1 × T2 × T3 × T4 × T5)) (k : T1 → T2 → T3 → T4 → T5 → Option Y) : Option Y := x.bind fun t => k t.1 t.2.1 t.2.2.1 t.2.2.2.1 t.2.2.2.2
theorem bd5_ed {T1 T2 T3 T4 T5 Y : Type} {x : Option (T1 × T2 × T3 × T4 × T5)} {k : T1 → T2 → T3 → T4 → T5 → Option Y} {P : Y → Prop} (h : ed (bd5 x k) P) : ∃ Q : T1 × T2 × T3 × T4 × T5 → Prop, (∀ a1 a2 a3 a4 a5, Q (a1, a2, a3, a4, a5) → ed (k a1 a2 a3 a4 a5) P) ∧ ed x Q := by
  cases x with
  | none => exact (ed_none h).elim
  | some t => exact ⟨fun (t : T1 × T2 × T3 × T4 × T5) => ed (k t.1 t.2.1 t.2.2.1 t.2.2.2.1 t.2.2.2.2) P, fun _ _ _ _ _ q => q, ⟨t, rfl, h⟩⟩
theorem bd5_mk {T1 T2 T3 T4 T5 Y : Type} {x : Option (T1 × T2 × T3 × T4 × T5)} {k : T1 → T2 → T3 → T4 → T5 → Option Y} {P : Y → Prop} (h : ed x (fun t => ed (k t.1 t.2.1 t.2.2.1 t.2.2.2.1 t.2.2.2.2) P)) : ed (bd5 x k) P := by
  obtain ⟨t, e, h⟩ := h
  rw [e]
  exact h
def bs5 {T1 T2 T3 T4 T5 X Y : Type} (x : Option ((T1 × T2 × T3 × T4 × T5) ⊕ X)) (k : T1 → T2 → T3 → T4 → T5 → Option Y) (r : X → Option Y) : Option Y := x.bind fun u => match u with
  | .inl t => k t.1 t.2.1 t.2.2.1 t.2.2.2.1 t.2.2.2.2
  | .inr s => r s
theorem bs5_ed {T1 T2 T3 T4 T5 X Y : Type} {x : Option ((T1 × T2 × T3 × T4 × T5) ⊕ X)} {k : T1 → T2 → T3 → T4 → T5 → Option Y} {r : X → Option Y} {P : Y → Prop} (h : ed (bs5 x k r) P) : ∃ Q : (T1 × T2 × T3 × T4 × T5) ⊕ X → Prop, (∀ a1 a2 a3 a4 a5, Q (.inl (a1, a2, a3, a4, a5)) → ed (k a1 a2 a3 a4 a5) P) ∧ (∀ s, Q (.inr s) → ed (r s) P) ∧ ed x Q := by
  cases x with
  | none => exact (ed_none h).elim
  | some u => exact ⟨fun (u : (T1 × T2 × T3 × T4 × T5) ⊕ X) => ed (match u with | .inl t => k t.1 t.2.1 t.2.2.1 t.2.2.2.1 t.2.2.2.2 | .inr s => r s) P, fun _ _ _ _ _ q => q, fun s q => q, ⟨u, rfl, by cases u <;> exact h⟩⟩
theorem bs5_mk {T1 T2 T3 T4 T5 X Y : Type} {x : Option ((T1 × T2 × T3 × T4 × T5) ⊕ X)} {k : T1 → T2 → T3 → T4 → T5 → Option Y} {r : X → Option Y} {P : Y → Prop} (h : ed x (fun u => match u with | .inl t => ed (k t.1 t.2.1 t.2.2.1 t.2.2.2.1 t.2.2.2.2) P | .inr s => ed (r s) P)) : ed (bs5 x k r) P := by
  obtain ⟨u, e, h⟩ := h
  rw [e]
  cases u <;> exact h
def jn5 {T1 T2 T3 T4 T5 Y : Type} (k : T1 → T2 → T3 → T4 → T5 → Option Y) (f : (T1 → T2 → T3 → T4 → T5 → Option Y) → Option Y) : Option Y := f k
theorem jn5_ed {T1 T2 T3 T4 T5 Y : Type} {k : T1 → T2 → T3 → T4 → T5 → Option Y} {f : (T1 → T2 → T3 → T4 → T5 → Option Y) → Option Y} {P : Y → Prop} (h : ed (jn5 k f) P) : ∃ (k' : T1 → T2 → T3 → T4 → T5 → Option Y) (Q : T1 → T2 → T3 → T4 → T5 → Prop), (∀ a1 a2 a3 a4 a5, Q a1 a2 a3 a4 a5 → ed (k a1 a2 a3 a4 a5) P) ∧ (∀ a1 a2 a3 a4 a5, ed (k' a1 a2 a3 a4 a5) P → Q a1 a2 a3 a4 a5) ∧ ed (f k') P := ⟨k, fun a1 a2 a3 a4 a5 => ed (k a1 a2 a3 a4 a5) P, fun _ _ _ _ _ q => q, fun _ _ _ _ _ q => q, h⟩
/-- a function of 5 as one of a tuple -/
def uc5 {T1 T2 T3 T4 T5 Y : Type} (f : T1 → T2 → T3 → T4 → T5 → Y) (t : T1 × T2 × T3 × T4 × T5) : Y := f t.1 t.2.1 t.2.2.1 t.2.2.2.1 t.2.2.2.2
theorem lpn_ed5 {T1 T2 T3 T4 T5 R : Type} {f : T1 → T2 → T3 → T4 → T5 → Option ((T1 × T2 × T3 × T4 × T5) ⊕ R)} {n : Nat} {a1 : T1} {a2 : T2} {a3 : T3} {a4 : T4} {a5 : T5} {r : R} (h : lpn (uc5 f) (n + 1) (a1, a2, a3, a4, a5) = some r) : ed (f a1 a2 a3 a4 a5) (lq (uc5 f) n r) := lpn_ed h
def bd6 {T1 T2 T3 T4 T5 T6 Y : Type} (x : Option (T1 × T2 × T3 × T4 × T5 × T6)) (k : T1 → T2 → T3 → T4 → T5 → T6 → Option Y) : Option Y := x.bind fun t => k t.1 t.2.1 t.2.2.1 t.2.2.2.1 t.2.2.2.2.1 t.2.2.2.2.2
theorem bd6_ed {T1 T2 T3 T4 T5 T6 Y : Type} {x : Option (T1 × T2 × T3 × T4 × T5 × T6)} {k : T1 → T2 → T3 → T4 → T5 → T6 → Option Y} {P : Y → Prop} (h : ed (bd6 x k) P) : ∃ Q : T1 × T2 × T3 × T4 × T5 × T6 → Prop, (∀ a1 a2 a3 a4 a5 a6, Q (a1, a2, a3, a4, a5, a6) → ed (k a1 a2 a3 a4 a5 a6) P) ∧ ed x Q := by
  cases x with
  | none => exact (ed_none h).elim
  | some t => exact ⟨fun (t : T1 × T2 × T3 × T4 × T5 × T6) => ed (k t.1 t.2.1 t.2.2.1 t.2.2.2.1 t.2.2.2.2.1 t.2.2.2.2.2) P, fun _ _ _ _ _ _ q => q, ⟨t, rfl, h⟩⟩
theorem bd6_mk {T1 T2 T3 T4 T5 T6 Y : Type} {x : Option (T1 × T2 × T3 × T4 × T5 × T6)} {k : T1 → T2 → T3 → T4 → T5 → T6 → Option Y} {P : Y → Prop} (h : ed x (fun t => ed (k t.1 t.2.1 t.2.2.1 t.2.2.2.1 t.2.2.2.2.1 t.2.2.2.2.2) P)) : ed (bd6 x k) P := by
  obtain ⟨t, e, h⟩ := h
  rw [e]
  exact h
def bs6 {T1 T2 T3 T4 T5 T6 X Y : Type} (x : Option ((T1 × T2 × T3 × T4 × T5 × T6) ⊕ X)) (k : T1 → T2 → T3 → T4 → T5 → T6 → Option Y) (r : X → Option Y) : Option Y := x.bind fun u => match u with
  | .inl t => k t.1 t.2.1 t.2.2.1 t.2.2.2.1 t.2.2.2.2.1 t.2.2.2.2.2
  | .inr s => r s
theorem bs6_ed {T1 T2 T3 T4 T5 T6 X Y : Type} {x : Option ((T1 × T2 × T3 × T4 × T5 × T6) ⊕ X)} {k : T1 → T2 → T3 → T4 → T5 → T6 → Option Y} {r : X → Option Y} {P : Y → Prop} (h : ed (bs6 x k r) P) : ∃ Q : (T1 × T2 × T3 × T4 × T5 × T6) ⊕ X → Prop, (∀ a1 a2 a3 a4 a5 a6, Q (.inl (a1, a2, a3, a4, a5, a6)) → ed (k a1 a2 a3 a4 a5 a6) P) ∧ (∀ s, Q (.inr s) → ed (r s) P) ∧ ed x Q := by
  cases x with
  | none => exact (ed_none h).elim
  | some u => exact ⟨fun (u : (T1 × T2 × T3 × T4 × T5 × T6) ⊕ X) => ed (match u with | .inl t => k t.1 t.2.1 t.2.2.1 t.2.2.2.1 t.2.2.2.2.1 t.2.2.2.2.2 | .inr s => r s) P, fun _ _ _ _ _ _ q => q, fun s q => q, ⟨u, rfl, by cases u <;> exact h⟩⟩
theorem bs6_mk {T1 T2 T3 T4 T5 T6 X Y : Type} {x : Option ((T1 × T2 × T3 × T4 × T5 × T6) ⊕ X)} {k : T1 → T2 → T3 → T4 → T5 → T6 → Option Y} {r : X → Option Y} {P : Y → Prop} (h : ed x (fun u => match u with | .inl t => ed (k t.1 t.2.1 t.2.2.1 t.2.2.2.1 t.2.2.2.2.1 t.2.2.2.2.2) P | .inr s => ed (r s) P)) : ed (bs6 x k r) P := by
  obtain ⟨u, e, h⟩ := h
  rw [e]
  cases u <;> exact h
def jn6 {T1 T2 T3 T4 T5 T6 Y : Type} (k : T1 → T2 → T3 → T4 → T5 → T6 → Option Y) (f : (T1 → T2 → T3 → T4 → T5 → T6 → Option Y) → Option Y) : Option Y := f k
theorem jn6_ed {T1 T2 T3 T4 T5 T6 Y : Type} {k : T1 → T2 → T3 → T4 → T5 → T6 → Option Y} {f : (T1 → T2 → T3 → T4 → T5 → T6 → Option Y) → Option Y} {P : Y → Prop} (h : ed (jn6 k f) P) : ∃ (k' : T1 → T2 → T3 → T4 → T5 → T6 → Option Y) (Q : T1 → T2 → T3 → T4 → T5 → T6 → Prop), (∀ a1 a2 a3 a4 a5 a6, Q a1 a2 a3 a4 a5 a6 → ed (k a1 a2 a3 a4 a5 a6) P) ∧ (∀ a1 a2 a3 a4 a5 a6, ed (k' a1 a2 a3 a4 a5 a6) P → Q a1 a2 a3 a4 a5 a6) ∧ ed (f k') P := ⟨k, fun a1 a2 a3 a4 a5 a6 => ed (k a1 a2 a3 a4 a5 a6) P, fun _ _ _ _ _ _ q => q, fun _ _ _ _ _ _ q => q, h⟩
/-- a function of 6 as one of a tuple -/
def uc6 {T1 T2 T3 T4 T5 T6 Y : Type} (f : T1 → T2 → T3 → T4 → T5 → T6 → Y) (t : T1 × T2 × T3 × T4 × T5 × T6) : Y := f t.1 t.2.1 t.2.2.1 t.2.2.2.1 t.2.2.2.2.1 t.2.2.2.2.2
theorem lpn_ed6 {T1 T2 T3 T4 T5 T6 R : Type} {f : T1 → T2 → T3 → T4 → T5 → T6 → Option ((T1 × T2 × T3 × T4 × T5 × T6) ⊕ R)} {n : Nat} {a1 : T1} {a2 : T2} {a3 : T3} {a4 : T4} {a5 : T5} {a6 : T6} {r : R} (h : lpn (uc6 f) (n + 1) (a1, a2, a3, a4, a5, a6) = some r) : ed (f a1 a2 a3 a4 a5 a6) (lq (uc6 f) n r) := lpn_ed h
def bd7 {T1 T2 T3 T4 T5 T6 T7 Y : Type} (x : Option (T1 × T2 × T3 × T4 × T5 × T6 × T7)) (k : T1 → T2 → T3 → T4 → T5 → T6 → T7 → Option Y) : Option Y := x.bind fun t => k t.1 t.2.1 t.2.2.1 t.2.2.2.1 t.2.2.2.2.1 t.2.2.2.2.2.1 t.2.2.2.2.2.2
theorem bd7_ed {T1 T2 T3 T4 T5 T6 T7 Y : Type} {x : Option (T1 × T2 × T3 × T4 × T5 × T6 × T7)} {k : T1 → T2 → T3 → T4 → T5 → T6 → T7 → Option Y} {P : Y → Prop} (h : ed (bd7 x k) P) : ∃ Q : T1 × T2 × T3 × T4 × T5 × T6 × T7 → Prop, (∀ a1 a2 a3 a4 a5 a6 a7, Q (a1, a2, a3, a4, a5, a6, a7) → ed (k a1 a2 a3 a4 a5 a6 a7) P) ∧ ed x Q := by
  cases x with
  | none => exact (ed_none h).elim
  | some t => exact ⟨fun (t : T1 × T2 × T3 × T4 × T5 × T6 × T7) => ed (k t.1 t.2.1 t.2.2.1 t.2.2.2.1 t.2.2.2.2.1 t.2.2.2.2.2.1 t.2.2.2.2.2.2) P, fun _ _ _ _ _ _ _ q => q, ⟨t, rfl, h⟩⟩
theorem bd7_mk {T1 T2 T3 T4 T5 T6 T7 Y : Type} {x : Option (T1 × T2 × T3 × T4 × T5 × T6 × T7)} {k : T1 → T2 → T3 → T4 → T5 → T6 → T7 → Option Y} {P : Y → Prop} (h : ed x (fun t => ed (k t.1 t.2.1 t.2.2.1 t.2.2.2.1 t.2.2.2.2.1 t.2.2.2.2.2.1 t.2.2.2.2.2.2) P)) : ed (bd7 x k) P := by
  obtain ⟨t, e, h⟩ := h
  rw [e]
  exact h
def bs7 {T1 T2 T3 T4 T5 T6 T7 X Y : Type} (x : Option ((T1 × T2 × T3 × T4 × T5 × T6 × T7) ⊕ X)) (k : T1 → T2 → T3 → T4 → T5 → T6 → T7 → Option Y) (r : X → Option Y) : Option Y := x.bind fun u => match u with
  | .inl t => k t.1 t.2.1 t.2.2.1 t.2.2.2.1 t.2.2.2.2.1 t.2.2.2.2.2.1 t.2.2.2.2.2.2
  | .inr s => r s
theorem bs7_ed {T1 T2 T3 T4 T5 T6 T7 X Y : Type} {x : Option ((T1 × T2 × T3 × T4 × T5 × T6 × T7) ⊕ X)} {k : T1 → T2 → T3 → T4 → T5 → T6 → T7 → Option Y} {r : X → Option Y} {P : Y → Prop} (h : ed (bs7 x k r) P) : ∃ Q : (T1 × T2 × T3 × T4 × T5 × T6 × T7) ⊕ X → Prop, (∀ a1 a2 a3 a4 a5 a6 a7, Q (.inl (a1, a2, a3, a4, a5, a6, a7)) → ed (k a1 a2 a3 a4 a5 a6 a7) P) ∧ (∀ s, Q (.inr s) → ed (r s) P) ∧ ed x Q := by
  cases x with
  | none => exact (ed_none h).elim
  | some u => exact ⟨fun (u : (T1 × T2 × T3 × T4 × T5 × T6 × T7) ⊕ X) => ed (match u with | .inl t => k t.1 t.2.1 t.2.2.1 t.2.2.2.1 t.2.2.2.2.1 t.2.2.2.2.2.1 t.2.2.2.2.2.2 | .inr s => r s) P, fun _ _ _ _ _ _ _ q => q, fun s q => q, ⟨u, rfl, by cases u <;> exact h⟩⟩
theorem bs7_mk {T1 T2 T3 T4 T5 T6 T7 X Y : Type} {x : Option ((T1 × T2 × T3 × T4 × T5 × T6 × T7) ⊕ X)} {k : T1 → T2 → T3 → T4 → T5 → T6 → T7 → Option Y} {r : X → Option Y} {P : Y → Prop} (h : ed x (fun u => match u with | .inl t => ed (k t.1 t.2.1 t.2.2.1 t.2.2.2.1 t.2.2.2.2.1 t.2.2.2.2.2.1 t.2.2.2.2.2.2) P | .inr s => ed (r s) P)) : ed (bs7 x k r) P := by
  obtain ⟨u, e, h⟩ := h
  rw [e]
  cases u <;> exact h
def jn7 {T1 T2 T3 T4 T5 T6 T7 Y : Type} (k : T1 → T2 → T3 → T4 → T5 → T6 → T7 → Option Y) (f : (T1 → T2 → T3 → T4 → T5 → T6 → T7 → Option Y) → Option Y) : Option Y := f k
theorem jn7_ed {T1 T2 T3 T4 T5 T6 T7 Y : Type} {k : T1 → T2 → T3 → T4 → T5 → T6 → T7 → Option Y} {f : (T1 → T2 → T3 → T4 → T5 → T6 → T7 → Option Y) → Option Y} {P : Y → Prop} (h : ed (jn7 k f) P) : ∃ (k' : T1 → T2 → T3 → T4 → T5 → T6 → T7 → Option Y) (Q : T1 → T2 → T3 → T4 → T5 → T6 → T7 → Prop), (∀ a1 a2 a3 a4 a5 a6 a7, Q a1 a2 a3 a4 a5 a6 a7 → ed (k a1 a2 a3 a4 a5 a6 a7) P) ∧ (∀ a1 a2 a3 a4 a5 a6 a7, ed (k' a1 a2 a3 a4 a5 a6 a7) P → Q a1 a2 a3 a4 a5 a6 a7) ∧ ed (f k') P := ⟨k, fun a1 a2 a3 a4 a5 a6 a7 => ed (k a1 a2 a3 a4 a5 a6 a7) P, fun _ _ _ _ _ _ _ q => q, fun _ _ _ _ _ _ _ q => q, h⟩
/-- a function of 7 as one of a tuple -/
def uc7 {T1 T2 T3 T4 T5 T6 T7 Y : Type} (f : T1 → T2 → T3 → T4 → T5 → T6 → T7 → Y) (t : T1 × T2 × T3 × T4 × T5 × T6 × T7) : Y := f t.1 t.2.1 t.2.2.1 t.2.2.2.1 t.2.2.2.2.1 t.2.2.2.2.2.1 t.2.2.2.2.2.2
theorem lpn_ed7 {T1 T2 T3 T4 T5 T6 T7 R : Type} {f : T1 → T2 → T3 → T4 → T5 → T6 → T7 → Option ((T1 × T2 × T3 × T4 × T5 × T6 × T7) ⊕ R)} {n : Nat} {a1 : T1} {a2 : T2} {a3 : T3} {a4 : T4} {a5 : T5} {a6 : T6} {a7 : T7} {r : R} (h : lpn (uc7 f) (n + 1) (a1, a2, a3, a4, a5, a6, a7) = some r) : ed (f a1 a2 a3 a4 a5 a6 a7) (lq (uc7 f) n r) := lpn_ed h
def bd8 {T1 T2 T3 T4 T5 T6 T7 T8 Y : Type} (x : Option (T1 × T2 × T3 × T4 × T5 × T6 × T7 × T8)) (k : T1 → T2 → T3 → T4 → T5 → T6 → T7 → T8 → Option Y) : Option Y := x.bind fun t => k t.1 t.2.1 t.2.2.1 t.2.2.2.1 t.2.2.2.2.1 t.2.2.2.2.2.1 t.2.2.2.2.2.2.1 t.2.2.2.2.2.2.2
theorem bd8_ed {T1 T2 T3 T4 T5 T6 T7 T8 Y : Type} {x : Option (T1 × T2 × T3 × T4 × T5 × T6 × T7 × T8)} {k : T1 → T2 → T3 → T4 → T5 → T6 → T7 → T8 → Option Y} {P : Y → Prop} (h : ed (bd8 x k) P) : ∃ Q : T1 × T2 × T3 × T4 × T5 × T6 × T7 × T8 → Prop, (∀ a1 a2 a3 a4 a5 a6 a7 a8, Q (a1, a2, a3, a4, a5, a6, a7, a8) → ed (k a1 a2 a3 a4 a5 a6 a7 a8) P) ∧ ed x Q := by
  cases x with
  | none => exact (ed_none h).elim
  | some t => exact ⟨fun (t : T1 × T2 × T3 × T4 × T5 × T6 × T7 × T8) => ed (k t.1 t.2.1 t.2.2.1 t.2.2.2.1 t.2.2.2.2.1 t.2.2.2.2.2.1 t.2.2.2.2.2.2.1 t.2.2.2.2.2.2.2) P, fun _ _ _ _ _ _ _ _ q => q, ⟨t, rfl, h⟩⟩
theorem bd8_mk {T1 T2 T3 T4 T5 T6 T7 T8 Y : Type} {x : Option (T1 × T2 × T3 × T4 × T5 × T6 × T7 × T8)} {k : T1 → T2 → T3 → T4 → T5 → T6 → T7 → T8 → Option Y} {P : Y → Prop} (h : ed x (fun t => ed (k t.1 t.2.1 t.2.2.1 t.2.2.2.1 t.2.2.2.2.1 t.2.2.2.2.2.1 t.2.2.2.2.2.2.1 t.2.2.2.2.2.2.2) P)) : ed (bd8 x k) P := by
  obtain ⟨t, e, h⟩ := h
  rw [e]
  exact h
def bs8 {T1 T2 T3 T4 T5 T6 T7 T8 X Y : Type} (x : Option ((T1 × T2 × T3 × T4 × T5 × T6 × T7 × T8) ⊕ X)) (k : T1 → T2 → T3 → T4 → T5 → T6 → T7 → T8 → Option Y) (r : X → Option Y) : Option Y := x.bind fun u => match u with
  | .inl t => k t.1 t.2.1 t.2.2.1 t.2.2.2.1 t.2.2.2.2.1 t.2.2.2.2.2.1 t.2.2.2.2.2.2.1 t.2.2.2.2.2.2.2
  | .inr s => r s
theorem bs8_ed {T1 T2 T3 T4 T5 T6 T7 T8 X Y : Type} {x : Option ((T1 × T2 × T3 × T4 × T5 × T6 × T7 × T8) ⊕ X)} {k : T1 → T2 → T3 → T4 → T5 → T6 → T7 → T8 → Option Y} {r : X → Option Y} {P : Y → Prop} (h : ed (bs8 x k r) P) : ∃ Q : (T1 × T2 × T3 × T4 × T5 × T6 × T7 × T8) ⊕ X → Prop, (∀ a1 a2 a3 a4 a5 a6 a7 a8, Q (.inl (a1, a2, a3, a4, a5, a6, a7, a8)) → ed (k a1 a2 a3 a4 a5 a6 a7 a8) P) ∧ (∀ s, Q (.inr s) → ed (r s) P) ∧ ed x Q := by
  cases x with
  | none => exact (ed_none h).elim
  | some u => exact ⟨fun (u : (T1 × T2 × T3 × T4 × T5 × T6 × T7 × T8) ⊕ X) => ed (match u with | .inl t => k t.1 t.2.1 t.2.2.1 t.2.2.2.1 t.2.2.2.2.1 t.2.2.2.2.2.1 t.2.2.2.2.2.2.1 t.2.2.2.2.2.2.2 | .inr s => r s) P, fun _ _ _ _ _ _ _ _ q => q, fun s q => q, ⟨u, rfl, by cases u <;> exact h⟩⟩
theorem bs8_mk {T1 T2 T3 T4 T5 T6 T7 T8 X Y : Type} {x : Option ((T1 × T2 × T3 × T4 × T5 × T6 × T7 × T8) ⊕ X)} {k : T1 → T2 → T3 → T4 → T5 → T6 → T7 → T8 → Option Y} {r : X → Option Y} {P : Y → Prop} (h : ed x (fun u => match u with | .inl t => ed (k t.1 t.2.1 t.2.2.1 t.2.2.2.1 t.2.2.2.2.1 t.2.2.2.2.2.1 t.2.2.2.2.2.2.1 t.2.2.2.2.2.2.2) P | .inr s => ed (r s) P)) : ed (bs8 x k r) P := by
  obtain ⟨u, e, h⟩ := h
  rw [e]
  cases u <;> exact h
def jn8 {T1 T2 T3 T4 T5 T6 T7 T8 Y : Type} (k : T1 → T2 → T3 → T4 → T5 → T6 → T7 → T8 → Option Y) (f : (T1 → T2 → T3 → T4 → T5 → T6 → T7 → T8 → Option Y) → Option Y) : Option Y := f k
theorem jn8_ed {T1 T2 T3 T4 T5 T6 T7 T8 Y : Type} {k : T1 → T2 → T3 → T4 → T5 → T6 → T7 → T8 → Option Y} {f : (T1 → T2 → T3 → T4 → T5 → T6 → T7 → T8 → Option Y) → Option Y} {P : Y → Prop} (h : ed (jn8 k f) P) : ∃ (k' : T1 → T2 → T3 → T4 → T5 → T6 → T7 → T8 → Option Y) (Q : T1 → T2 → T3 → T4 → T5 → T6 → T7 → T8 → Prop), (∀ a1 a2 a3 a4 a5 a6 a7 a8, Q a1 a2 a3 a4 a5 a6 a7 a8 → ed (k a1 a2 a3 a4 a5 a6 a7 a8) P) ∧ (∀ a1 a2 a3 a4 a5 a6 a7 a8, ed (k' a1 a2 a3 a4 a5 a6 a7 a8) P → Q a1 a2 a3 a4 a5 a6 a7 a8) ∧ ed (f k') P := ⟨k, fun a1 a2 a3 a4 a5 a6 a7 a8 => ed (k a1 a2 a3 a4 a5 a6 a7 a8) P, fun _ _ _ _ _ _ _ _ q => q, fun _ _ _ _ _ _ _ _ q => q, h⟩
/-- a function of 8 as one of a tuple -/
def uc8 {T1 T2 T3 T4 T5 T6 T7 T8 Y : Type} (f : T1 → T2 → T3 → T4 → T5 → T6 → T7 → T8 → Y) (t : T1 × T2 × T3 × T4 × T5 × T6 × T7 × T8) : Y := f t.1 t.2.1 t.2.2.1 t.2.2.2.1 t.2.2.2.2.1 t.2.2.2.2.2.1 t.2.2.2.2.2.2.1 t.2.2.2.2.2.2.2
theorem lpn_ed8 {T1 T2 T3 T4 T5 T6 T7 T8 R : Type} {f : T1 → T2 → T3 → T4 → T5 → T6 → T7 → T8 → Option ((T1 × T2 × T3 × T4 × T5 × T6 × T7 × T8) ⊕ R)} {n : Nat} {a1 : T1} {a2 : T2} {a3 : T3} {a4 : T4} {a5 : T5} {a6 : T6} {a7 : T7} {a8 : T8} {r : R} (h : lpn (uc8 f) (n + 1) (a1, a2, a3, a4, a5, a6, a7, a8) = some r) : ed (f a1 a2 a3 a4 a5 a6 a7 a8) (lq (uc8 f) n r) := lpn_ed h
def bd9 {T1 T2 T3 T4 T5 T6 T7 T8 T9 Y : Type} (x : Option (T1 × T2 × T3 × T4 × T5 × T6 × T7 × T8 × T9)) (k : T1 → T2 → T3 → T4 → T5 → T6 → T7 → T8 → T9 → Option Y) : Option Y := x.bind fun t => k t.1 t.2.1 t.2.2.1 t.2.2.2.1 t.2.2.2.2.1 t.2.2.2.2.2.1 t.2.2.2.2.2.2.1 t.2.2.2.2.2.2.2.1 t.2.2.2.2.2.2.2.2
theorem bd9_ed {T1 T2 T3 T4 T5 T6 T7 T8 T9 Y : Type} {x : Option (T1 × T2 × T3 × T4 × T5 × T6 × T7 × T8 × T9)} {k : T1 → T2 → T3 → T4 → T5 → T6 → T7 → T8 → T9 → Option Y} {P : Y → Prop} (h : ed (bd9 x k) P) : ∃ Q : T1 × T2 × T3 × T4 × T5 × T6 × T7 × T8 × T9 → Prop, (∀ a1 a2 a3 a4 a5 a6 a7 a8 a9, Q (a1, a2, a3, a4, a5, a6, a7, a8, a9) → ed (k a1 a2 a3 a4 a5 a6 a7 a8 a9) P) ∧ ed x Q := by
  cases x with
  | none => exact (ed_none h).elim
  | some t => exact ⟨fun (t : T1 × T2 × T3 × T4 × T5 × T6 × T7 × T8 × T9) => ed (k t.1 t.2.1 t.2.2.1 t.2.2.2.1 t.2.2.2.2.1 t.2.2.2.2.2.1 t.2.2.2.2.2.2.1 t.2.2.2.2.2.2.2.1 t.2.2.2.2.2.2.2.2) P, fun _ _ _ _ _ _ _ _ _ q => q, ⟨t, rfl, h⟩⟩
theorem bd9_mk {T1 T2 T3 T4 T5 T6 T7 T8 T9 Y : Type} {x : Option (T1 × T2 × T3 × T4 × T5 × T6 × T7 × T8 × T9)} {k : T1 → T2 → T3 → T4 → T5 → T6 → T7 → T8 → T9 → Option Y} {P : Y → Prop} (h : ed x (fun t => ed (k t.1 t.2.1 t.2.2.1 t.2.2.2.1 t.2.2.2.2.1 t.2.2.2.2.2.1 t.2.2.2.2.2.2.1 t.2.2.2.2.2.2.2.1 t.2.2.2.2.2.2.2.2) P)) : ed (bd9 x k) P := by
  obtain ⟨t, e, h⟩ := h
  rw [e]
  exact h
def bs9 {T1 T2 T3 T4 T5 T6 T7 T8 T9 X Y : Type} (x : Option ((T1 × T2 × T3 × T4 × T5 × T6 × T7 × T8 × T9) ⊕ X)) (k : T1 → T2 → T3 → T4 → T5 → T6 → T7 → T8 → T9 → Option Y) (r : X → Option Y) : Option Y := x.bind fun u => match u with
  | .inl t => k t.1 t.2.1 t.2.2.1 t.2.2.2.1 t.2.2.2.2.1 t.2.2.2.2.2.1 t.2.2.2.2.2.2.1 t.2.2.2.2.2.2.2.1 t.2.2.2.2.2.2.2.2
  | .inr s => r s
theorem bs9_ed {T1 T2 T3 T4 T5 T6 T7 T8 T9 X Y : Type} {x : Option ((T1 × T2 × T3 × T4 × T5 × T6 × T7 × T8 × T9) ⊕ X)} {k : T1 → T2 → T3 → T4 → T5 → T6 → T7 → T8 → T9 → Option Y} {r : X → Option Y} {P : Y → Prop} (h : ed (bs9 x k r) P) : ∃ Q : (T1 × T2 × T3 × T4 × T5 × T6 × T7 × T8 × T9) ⊕ X → Prop, (∀ a1 a2 a3 a4 a5 a6 a7 a8 a9, Q (.inl (a1, a2, a3, a4, a5, a6, a7, a8, a9)) → ed (k a1 a2 a3 a4 a5 a6 a7 a8 a9) P) ∧ (∀ s, Q (.inr s) → ed (r s) P) ∧ ed x Q := by
  cases x with
  | none => exact (ed_none h).elim
  | some u => exact ⟨fun (u : (T1 × T2 × T3 × T4 × T5 × T6 × T7 × T8 × T9) ⊕ X) => ed (match u with | .inl t => k t.1 t.2.1 t.2.2.1 t.2.2.2.1 t.2.2.2.2.1 t.2.2.2.2.2.1 t.2.2.2.2.2.2.1 t.2.2.2.2.2.2.2.1 t.2.2.2.2.2.2.2.2 | .inr s => r s) P, fun _ _ _ _ _ _ _ _ _ q => q, fun s q => q, ⟨u, rfl, by cases u <;> exact h⟩⟩
theorem bs9_mk {T1 T2 T3 T4 T5 T6 T7 T8 T9 X Y : Type} {x : Option ((T1 × T2 × T3 × T4 × T5 × T6 × T7 × T8 × T9) ⊕ X)} {k : T1 → T2 → T3 → T4 → T5 → T6 → T7 → T8 → T9 → Option Y} {r : X → Option Y} {P : Y → Prop} (h : ed x (fun u => match u with | .inl t => ed (k t.1 t.2.1 t.2.2.1 t.2.2.2.1 t.2.2.2.2.1 t.2.2.2.2.2.1 t.2.2.2.2.2.2.1 t.2.2.2.2.2.2.2.1 t.2.2.2.2.2.2.2.2) P | .inr s => ed (r s) P)) : ed (bs9 x k r) P := by
  obtain ⟨u, e, h⟩ := h
  rw [e]
  cases u <;> exact h
def jn9 {T1 T2 T3 T4 T5 T6 T7 T8 T9 Y : Type} (k : T1 → T2 → T3 → T4 → T5 → T6 → T7 → T8 → T9 → Option Y) (f : (T1 → T2 → T3 → T4 → T5 → T6 → T7 → T8 → T9 → Option Y) → Option Y) : Option Y := f k
theorem jn9_ed {T1 T2 T3 T4 T5 T6 T7 T8 T9 Y : Type} {k : T1 → T2 → T3 → T4 → T5 → T6 → T7 → T8 → T9 → Option Y} {f : (T1 → T2 → T3 → T4 → T5 → T6 → T7 → T8 → T9 → Option Y) → Option Y} {P : Y → Prop} (h : ed (jn9 k f) P) : ∃ (k' : T1 → T2 → T3 → T4 → T5 → T6 → T7 → T8 → T9 → Option Y) (Q : T1 → T2 → T3 → T4 → T5 → T6 → T7 → T8 → T9 → Prop), (∀ a1 a2 a3 a4 a5 a6 a7 a8 a9, Q a1 a2 a3 a4 a5 a6 a7 a8 a9 → ed (k a1 a2 a3 a4 a5 a6 a7 a8 a9) P) ∧ (∀ a1 a2 a3 a4 a5 a6 a7 a8 a9, ed (k' a1 a2 a3 a4 a5 a6 a7 a8 a9) P → Q a1 a2 a3 a4 a5 a6 a7 a8 a9) ∧ ed (f k') P := ⟨k, fun a1 a2 a3 a4 a5 a6 a7 a8 a9 => ed (k a1 a2 a3 a4 a5 a6 a7 a8 a9) P, fun _ _ _ _ _ _ _ _ _ q => q, fun _ _ _ _ _ _ _ _ _ q => q, h⟩
/-- a function of 9 as one of a tuple -/
def uc9 {T1 T2 T3 T4 T5 T6 T7 T8 T9 Y : Type} (f : T1 → T2 → T3 → T4 → T5 → T6 → T7 → T8 → T9 → Y) (t : T1 × T2 × T3 × T4 × T5 × T6 × T7 × T8 × T9) : Y := f t.1 t.2.1 t.2.2.1 t.2.2.2.1 t.2.2.2.2.1 t.2.2.2.2.2.1 t.2.2.2.2.2.2.1 t.2.2.2.2.2.2.2.1 t.2.2.2.2.2.2.2.2
theorem lpn_ed9 {T1 T2 T3 T4 T5 T6 T7 T8 T9 R : Type} {f : T1 → T2 → T3 → T4 → T5 → T6 → T7 → T8 → T9 → Option ((T1 × T2 × T3 × T4 × T5 × T6 × T7 × T8 × T9) ⊕ R)} {n : Nat} {a1 : T1} {a2 : T2} {a3 : T3} {a4 : T4} {a5 : T5} {a6 : T6} {a7 : T7} {a8 : T8} {a9 : T9} {r : R} (h : lpn (uc9 f) (n + 1) (a1, a2, a3, a4, a5, a6, a7, a8, a9) = some r) : ed (f a1 a2 a3 a4 a5 a6 a7 a8 a9) (lq (uc9 f) n r) := lpn_ed h
def bd10 {T1 T2 T3 T4 T5 T6 T7 T8 T9 T10 Y : Type} (x : Option (T1 × T2 × T3 × T4 × T5 × T6 × T7 × T8 × T9 × T10)) (k : T1 → T2 → T3 → T4 → T5 → T6 → T7 → T8 → T9 → T10 → Option Y) : Option Y := x.bind fun t => k t.1 t.2.1 t.2.2.1 t.2.2.2.1 t.2.2.2.2.1 t.2.2.2.2.2.1 t.2.2.2.2.2.2.1 t.2.2.2.2.2.2.2.1 t.2.2.2.2.2.2.2.2.1 t.2.2.2.2.2.2.2.2.2
theorem bd10_ed {T1 T2 T3 T4 T5 T6 T7 T8 T9 T10 Y : Type} {x : Option (T1 × T2 × T3 × T4 × T5 × T6 × T7 × T8 × T9 × T10)} {k : T1 → T2 → T3 → T4 → T5 → T6 → T7 → T8 → T9 → T10 → Option Y} {P : Y → Prop} (h : ed (bd10 x k) P) : ∃ Q : T1 × T2 × T3 × T4 × T5 × T6 × T7 × T8 × T9 × T10 → Prop, (∀ a1 a2 a3 a4 a5 a6 a7 a8 a9 a10, Q (a1, a2, a3, a4, a5, a6, a7, a8, a9, a10) → ed (k a1 a2 a3 a4 a5 a6 a7 a8 a9 a10) P) ∧ ed x Q := by
  cases x with
  | none => exact (ed_none h).elim
  | some t => exact ⟨fun (t : T1 × T2 × T3 × T4 × T5 × T6 × T7 × T8 × T9 × T10) => ed (k t.1 t.2.1 t.2.2.1 t.2.2.2.1 t.2.2.2.2.1 t.2.2.2.2.2.1 t.2.2.2.2.2.2.1 t.2.2.2.2.2.2.2.1 t.2.2.2.2.2.2.2.2.1 t.2.2.2.2.2.2.2.2.2) P, fun _ _ _ _ _ _ _ _ _ _ q => q, ⟨t, rfl, h⟩⟩
theorem bd10_mk {T1 T2 T3 T4 T5 T6 T7 T8 T9 T10 Y : Type} {x : Option (T1 × T2 × T3 × T4 × T5 × T6 × T7 × T8 × T9 × T10)} {k : T1 → T2 → T3 → T4 → T5 → T6 → T7 → T8 → T9 → T10 → Option Y} {P : Y → Prop} (h : ed x (fun t => ed (k t.1 t.2.1 t.2.2.1 t.2.2.2.1 t.2.2.2.2.1 t.2.2.2.2.2.1 t.2.2.2.2.2.2.1 t.2.2.2.2.2.2.2.1 t.2.2.2.2.2.2.2.2.1 t.2.2.2.2.2.2.2.2.2) P)) : ed (bd10 x k) P := by
  obtain ⟨t, e, h⟩ := h
  rw [e]
  exact h
def bs10 {T1 T2 T3 T4 T5 T6 T7 T8 T9 T10 X Y : Type} (x : Option ((T1 × T2 × T3 × T4 × T5 × T6 × T7 × T8 × T9 × T10) ⊕ X)) (k : T1 → T2 → T3 → T4 → T5 → T6 → T7 → T8 → T9 → T10 → Option Y) (r : X → Option Y) : Option Y := x.bind fun u => match u with
  | .inl t => k t.1 t.2.1 t.2.2.1 t.2.2.2.1 t.2.2.2.2.1 t.2.2.2.2.2.1 t.2.2.2.2.2.2.1 t.2.2.2.2.2.2.2.1 t.2.2.2.2.2.2.2.2.1 t.2.2.2.2.2.2.2.2.2
  | .inr s => r s
theorem bs10_ed {T1 T2 T3 T4 T5 T6 T7 T8 T9 T10 X Y : Type} {x : Option ((T1 × T2 × T3 × T4 × T5 × T6 × T7 × T8 × T9 × T10) ⊕ X)} {k : T1 → T2 → T3 → T4 → T5 → T6 → T7 → T8 → T9 → T10 → Option Y} {r : X → Option Y} {P : Y → Prop} (h : ed (bs10 x k r) P) : ∃ Q : (T1 × T2 × T3 × T4 × T5 × T6 × T7 × T8 × T9 × T10) ⊕ X → Prop, (∀ a1 a2 a3 a4 a5 a6 a7 a8 a9 a10, Q (.inl (a1, a2, a3, a4, a5, a6, a7, a8, a9, a10)) → ed (k a1 a2 a3 a4 a5 a6 a7 a8 a9 a10) P) ∧ (∀ s, Q (.inr s) → ed (r s) P) ∧ ed x Q := by
  cases x with
  | none => exact (ed_none h).elim
  | some u => exact ⟨fun (u : (T1 × T2 × T3 × T4 × T5 × T6 × T7 × T8 × T9 × T10) ⊕ X) => ed (match u with | .inl t => k t.1 t.2.1 t.2.2.1 t.2.2.2.1 t.2.2.2.2.1 t.2.2.2.2.2.1 t.2.2.2.2.2.2.1 t.2.2.2.2.2.2.2.1 t.2.2.2.2.2.2.2.2.1 t.2.2.2.2.2.2.2.2.2 | .inr s => r s) P, fun _ _ _ _ _ _ _ _ _ _ q => q, fun s q => q, ⟨u, rfl, by cases u <;> exact h⟩⟩
theorem bs10_mk {T1 T2 T3 T4 T5 T6 T7 T8 T9 T10 X Y : Type} {x : Option ((T1 × T2 × T3 × T4 × T5 × T6 × T7 × T8 × T9 × T10) ⊕ X)} {k : T1 → T2 → T3 → T4 → T5 → T6 → T7 → T8 → T9 → T10 → Option Y} {r : X → Option Y} {P : Y → Prop} (h : ed x (fun u => match u with | .inl t => ed (k t.1 t.2.1 t.2.2.1 t.2.2.2.1 t.2.2.2.2.1 t.2.2.2.2.2.1 t.2.2.2.2.2.2.1 t.2.2.2.2.2.2.2.1 t.2.2.2.2.2.2.2.2.1 t.2.2.2.2.2.2.2.2.2) P | .inr s => ed (r s) P)) : ed (bs10 x k r) P := by
  obtain ⟨u, e, h⟩ := h
  rw [e]
  cases u <;> exact h
def jn10 {T1 T2 T3 T4 T5 T6 T7 T8 T9 T10 Y : Type} (k : T1 → T2 → T3 → T4 → T5 → T6 → T7 → T8 → T9 → T10 → Option Y) (f : (T1 → T2 → T3 → T4 → T5 → T6 → T7 → T8 → T9 → T10 → Option Y) → Option Y) : Option Y := f k
theorem jn10_ed {T1 T2 T3 T4 T5 T6 T7 T8 T9 T10 Y : Type} {k : T1 → T2 → T3 → T4 → T5 → T6 → T7 → T8 → T9 → T10 → Option Y} {f : (T1 → T2 → T3 → T4 → T5 → T6 → T7 → T8 → T9 → T10 → Option Y) → Option Y} {P : Y → Prop} (h : ed (jn10 k f) P) : ∃ (k' : T1 → T2 → T3 → T4 → T5 → T6 → T7 → T8 → T9 → T10 → Option Y) (Q : T1 → T2 → T3 → T4 → T5 → T6 → T7 → T8 → T9 → T10 → Prop), (∀ a1 a2 a3 a4 a5 a6 a7 a8 a9 a10, Q a1 a2 a3 a4 a5 a6 a7 a8 a9 a10 → ed (k a1 a2 a3 a4 a5 a6 a7 a8 a9 a10) P) ∧ (∀ a1 a2 a3 a4 a5 a6 a7 a8 a9 a10, ed (k' a1 a2 a3 a4 a5 a6 a7 a8 a9 a10) P → Q a1 a2 a3 a4 a5 a6 a7 a8 a9 a10) ∧ ed (f k') P := ⟨k, fun a1 a2 a3 a4 a5 a6 a7 a8 a9 a10 => ed (k a1 a2 a3 a4 a5 a6 a7 a8 a9 a10) P, fun _ _ _ _ _ _ _ _ _ _ q => q, fun _ _ _ _ _ _ _ _ _ _ q => q, h⟩
/-- a function of 10 as one of a tuple -/
def uc10 {T1 T2 T3 T4 T5 T6 T7 T8 T9 T10 Y : Type} (f : T1 → T2 → T3 → T4 → T5 → T6 → T7 → T8 → T9 → T10 → Y) (t : T1 × T2 × T3 × T4 × T5 × T6 × T7 × T8 × T9 × T10) : Y := f t.1 t.2.1 t.2.2.1 t.2.2.2.1 t.2.2.2.2.1 t.2.2.2.2.2.1 t.2.2.2.2.2.2.1 t.2.2.2.2.2.2.2.1 t.2.2.2.2.2.2.2.2.1 t.2.2.2.2.2.2.2.2.2
theorem lpn_ed10 {T1 T2 T3 T4 T5 T6 T7 T8 T9 T10 R : Type} {f : T1 → T2 → T3 → T4 → T5 → T6 → T7 → T8 → T9 → T10 → Option ((T1 × T2 × T3 × T4 × T5 × T6 × T7 × T8 × T9 × T10) ⊕ R)} {n : Nat} {a1 : T1} {a2 : T2} {a3 : T3} {a4 : T4} {a5 : T5} {a6 : T6} {a7 : T7} {a8 : T8} {a9 : T9} {a10 : T10} {r : R} (h : lpn (uc10 f) (n + 1) (a1, a2, a3, a4, a5, a6, a7, a8, a9, a10) = some r) : ed (f a1 a2 a3 a4 a5 a6 a7 a8 a9 a10) (lq (uc10 f) n r) := lpn_ed h
def bd11 {T1 T2 T3 T4 T5 T6 T7 T8 T9 T10 T11 Y : Type} (x : Option (T1 × T2 × T3 × T4 × T5 × T6 × T7 × T8 × T9 × T10 × T11)) (k : T1 → T2 → T3 → T4 → T5 → T6 → T7 → T8 → T9 → T10 → T11 → Option Y) : Option Y := x.bind fun t => k t.1 t.2.1 t.2.2.1 t.2.2.2.1 t.2.2.2.2.1 t.2.2.2.2.2.1 t.2.2.2.2.2.2.1 t.2.2.2.2.2.2.2.1 t.2.2.2.2.2.2.2.2.1 t.2.2.2.2.2.2.2.2.2.1 t.2.2.2.2.2.2.2.2.2.2
theorem bd11_ed {T1 T2 T3 T4 T5 T6 T7 T8 T9 T10 T11 Y : Type} {x : Option (T1 × T2 × T3 × T4 × T5 × T6 × T7 × T8 × T9 × T10 × T11)} {k : T1 → T2 → T3 → T4 → T5 → T6 → T7 → T8 → T9 → T10 → T11 → Option Y} {P : Y → Prop} (h : ed (bd11 x k) P) : ∃ Q : T1 × T2 × T3 × T4 × T5 × T6 × T7 × T8 × T9 × T10 × T11 → Prop, (∀ a1 a2 a3 a4 a5 a6 a7 a8 a9 a10 a11, Q (a1, a2, a3, a4, a5, a6, a7, a8, a9, a10, a11) → ed (k a1 a2 a3 a4 a5 a6 a7 a8 a9 a10 a11) P) ∧ ed x Q := by
  cases x with
  | none => exact (ed_none h).elim
  | some t => exact ⟨fun (t : T1 × T2 × T3 × T4 × T5 × T6 × T7 × T8 × T9 × T10 × T11) => ed (k t.1 t.2.1 t.2.2.1 t.2.2.2.1 t.2.2.2.2.1 t.2.2.2.2.2.1 t.2.2.2.2.2.2.1 t.2.2.2.2.2.2.2.1 t.2.2.2.2.2.2.2.2.1 t.2.2.2.2.2.2.2.2.2.1 t.2.2.2.2.2.2.2.2.2.2) P, fun _ _ _ _ _ _ _ _ _ _ _ q => q, ⟨t, rfl, h⟩⟩
theorem bd11_mk {T1 T2 T3 T4 T5 T6 T7 T8 T9 T10 T11 Y : Type} {x : Option (T1 × T2 × T3 × T4 × T5 × T6 × T7 × T8 × T9 × T10 × T11)} {k : T1 → T2 → T3 → T4 → T5 → T6 → T7 → T8 → T9 → T10 → T11 → Option Y} {P : Y → Prop} (h : ed x (fun t => ed (k t.1 t.2.1 t.2.2.1 t.2.2.2.1 t.2.2.2.2.1 t.2.2.2.2.2.1 t.2.2.2.2.2.2.1 t.2.2.2.2.2.2.2.1 t.2.2.2.2.2.2.2.2.1 t.2.2.2.2.2.2.2.2.2.1 t.2.2.2.2.2.2.2.2.2.2) P)) : ed (bd11 x k) P := by
  obtain ⟨t, e, h⟩ := h
  rw [e]
  exact h
def bs11 {T1 T2 T3 T4 T5 T6 T7 T8 T9 T10 T11 X Y : Type} (x : Option ((T1 × T2 × T3 × T4 × T5 × T6 × T7 × T8 × T9 × T10 × T11) ⊕ X)) (k : T1 → T2 → T3 → T4 → T5 → T6 → T7 → T8 → T9 → T10 → T11 → Option Y) (r : X → Option Y) : Option Y := x.bind fun u => match u with
  | .inl t => k t.1 t.2.1 t.2.2.1 t.2.2.2.1 t.2.2.2.2.1 t.2.2.2.2.2.1 t.2.2.2.2.2.2.1 t.2.2.2.2.2.2.2.1 t.2.2.2.2.2.2.2.2.1 t.2.2.2.2.2.2.2.2.2.1 t.2.2.2.2.2.2.2.2.2.2
  | .inr s => r s
theorem bs11_ed {T1 T2 T3 T4 T5 T6 T7 T8 T9 T10 T11 X Y : Type} {x : Option ((T1 × T2 × T3 × T4 × T5 × T6 × T7 × T8 × T9 × T10 × T11) ⊕ X)} {k : T1 → T2 → T3 → T4 → T5 → T6 → T7 → T8 → T9 → T10 → T11 → Option Y} {r : X → Option Y} {P : Y → Prop} (h : ed (bs11 x k r) P) : ∃ Q : (T1 × T2 × T3 × T4 × T5 × T6 × T7 × T8 × T9 × T10 × T11) ⊕ X → Prop, (∀ a1 a2 a3 a4 a5 a6 a7 a8 a9 a10 a11, Q (.inl (a1, a2, a3, a4, a5, a6, a7, a8, a9, a10, a11)) → ed (k a1 a2 a3 a4 a5 a6 a7 a8 a9 a10 a11) P) ∧ (∀ s, Q (.inr s) → ed (r s) P) ∧ ed x Q := by
  cases x with
  | none => exact (ed_none h).elim
  | some u => exact ⟨fun (u : (T1 × T2 × T3 × T4 × T5 × T6 × T7 × T8 × T9 × T10 × T11) ⊕ X) => ed (match u with | .inl t => k t.1 t.2.1 t.2.2.1 t.2.2.2.1 t.2.2.2.2.1 t.2.2.2.2.2.1 t.2.2.2.2.2.2.1 t.2.2.2.2.2.2.2.1 t.2.2.2.2.2.2.2.2.1 t.2.2.2.2.2.2.2.2.2.1 t.2.2.2.2.2.2.2.2.2.2 | .inr s => r s) P, fun _ _ _ _ _ _ _ _ _ _ _ q => q, fun s q => q, ⟨u, rfl, by cases u <;> exact h⟩⟩
theorem bs11_mk {T1 T2 T3 T4 T5 T6 T7 T8 T9 T10 T11 X Y : Type} {x : Option ((T1 × T2 × T3 × T4 × T5 × T6 × T7 × T8 × T9 × T10 × T11) ⊕ X)} {k : T1 → T2 → T3 → T4 → T5 → T6 → T7 → T8 → T9 → T10 → T11 → Option Y} {r : X → Option Y} {P : Y → Prop} (h : ed x (fun u => match u with | .inl t => ed (k t.1 t.2.1 t.2.2.1 t.2.2.2.1 t.2.2.2.2.1 t.2.2.2.2.2.1 t.2.2.2.2.2.2.1 t.2.2.2.2.2.2.2.1 t.2.2.2.2.2.2.2.2.1 t.2.2.2.2.2.2.2.2.2.1 t.2.2.2.2.2.2.2.2.2.2) P | .inr s => ed (r s) P)) : ed (bs11 x k r) P := by
  obtain ⟨u, e, h⟩ := h
  rw [e]
  cases u <;> exact h
def jn11 {T1 T2 T3 T4 T5 T6 T7 T8 T9 T10 T11 Y : Type} (k : T1 → T2 → T3 → T4 → T5 → T6 → T7 → T8 → T9 → T10 → T11 → Option Y) (f : (T1 → T2 → T3 → T4 → T5 → T6 → T7 → T8 → T9 → T10 → T11 → Option Y) → Option Y) : Option Y := f k
theorem jn11_ed {T1 T2 T3 T4 T5 T6 T7 T8 T9 T10 T11 Y : Type} {k : T1 → T2 → T3 → T4 → T5 → T6 → T7 → T8 → T9 → T10 → T11 → Option Y} {f : (T1 → T2 → T3 → T4 → T5 → T6 → T7 → T8 → T9 → T10 → T11 → Option Y) → Option Y} {P : Y → Prop} (h : ed (jn11 k f) P) : ∃ (k' : T1 → T2 → T3 → T4 → T5 → T6 → T7 → T8 → T9 → T10 → T11 → Option Y) (Q : T1 → T2 → T3 → T4 → T5 → T6 → T7 → T8 → T9 → T10 → T11 → Prop), (∀ a1 a2 a3 a4 a5 a6 a7 a8 a9 a10 a11, Q a1 a2 a3 a4 a5 a6 a7 a8 a9 a10 a11 → ed (k a1 a2 a3 a4 a5 a6 a7 a8 a9 a10 a11) P) ∧ (∀ a1 a2 a3 a4 a5 a6 a7 a8 a9 a10 a11, ed (k' a1 a2 a3 a4 a5 a6 a7 a8 a9 a10 a11) P → Q a1 a2 a3 a4 a5 a6 a7 a8 a9 a10 a11) ∧ ed (f k') P := ⟨k, fun a1 a2 a3 a4 a5 a6 a7 a8 a9 a10 a11 => ed (k a1 a2 a3 a4 a5 a6 a7 a8 a9 a10 a11) P, fun _ _ _ _ _ _ _ _ _ _ _ q => q, fun _ _ _ _ _ _ _ _ _ _ _ q => q, h⟩
/-- a function of 11 as one of a tuple -/
def uc11 {T1 T2 T3 T4 T5 T6 T7 T8 T9 T10 T11 Y : Type} (f : T1 → T2 → T3 → T4 → T5 → T6 → T7 → T8 → T9 → T10 → T11 → Y) (t : T1 × T2 × T3 × T4 × T5 × T6 × T7 × T8 × T9 × T10 × T11) : Y := f t.1 t.2.1 t.2.2.1 t.2.2.2.1 t.2.2.2.2.1 t.2.2.2.2.2.1 t.2.2.2.2.2.2.1 t.2.2.2.2.2.2.2.1 t.2.2.2.2.2.2.2.2.1 t.2.2.2.2.2.2.2.2.2.1 t.2.2.2.2.2.2.2.2.2.2
theorem lpn_ed11 {T1 T2 T3 T4 T5 T6 T7 T8 T9 T10 T11 R : Type} {f : T1 → T2 → T3 → T4 → T5 → T6 → T7 → T8 → T9 → T10 → T11 → Option ((T1 × T2 × T3 × T4 × T5 × T6 × T7 × T8 × T9 × T10 × T11) ⊕ R)} {n : Nat} {a1 : T1} {a2 : T2} {a3 : T3} {a4 : T4} {a5 : T5} {a6 : T6} {a7 : T7} {a8 : T8} {a9 : T9} {a10 : T10} {a11 : T11} {r : R} (h : lpn (uc11 f) (n + 1) (a1, a2, a3, a4, a5, a6, a7, a8, a9, a10, a11) = some r) : ed (f a1 a2 a3 a4 a5 a6 a7 a8 a9 a10 a11) (lq (uc11 f) n r) := lpn_ed h
/-! WHAT COMES BACK FROM A CALL -/
def rpI (M : im_M) (Q : Int32 → Prop) (a : Option Value) (M1 : im_M) : Prop := ∃ x, a = some (.int x) ∧ M1 = M ∧ Q x
def rpL (M : im_M) (Q : Int64 → Prop) (a : Option Value) (M1 : im_M) : Prop := ∃ x, a = some (.long x) ∧ M1 = M ∧ Q x
def rpV (M : im_M) (Q : Unit → Prop) (a : Option Value) (M1 : im_M) : Prop := a = none ∧ M1 = M ∧ Q ()
def rwI (w : Bool) (Q : Int32 × im_M → Prop) (a : Option Value) (M1 : im_M) : Prop := ∃ x, a = some (.int x) ∧ lw_S w M1 ∧ Q (x, M1)
def rwL (w : Bool) (Q : Int64 × im_M → Prop) (a : Option Value) (M1 : im_M) : Prop := ∃ x, a = some (.long x) ∧ lw_S w M1 ∧ Q (x, M1)
def rwV (w : Bool) (Q : im_M → Prop) (a : Option Value) (M1 : im_M) : Prop := a = none ∧ lw_S w M1 ∧ Q M1
theorem iq_iincv {G : im_G} {dep : Nat} {d : im_J} {R : im_F → Prop} {pc : Nat} {L : List (Nat × Value)} {r : List Value} {M : im_M} (h : im_St G dep d R) (q : Nat) {i : Nat} {n : Int} {x c : Int32} (hd : decode d.2.1 pc = .ok (.iinc i n, 3)) (hc : Int32.ofInt n = c) (hl : im_lk L i = some (.int x)) (hn : i < d.2.2.1) (hq : pc + 3 = q) (k : R (q, im_st1 L i (.int (x + c)), r, M)) : R (pc, L, r, M) := by subst hc; exact iq_iinc h q hd hl hn hq k
theorem iq_alenv {G : im_G} {dep : Nat} {d : im_J} {R : im_F → Prop} {pc : Nat} {L : List (Nat × Value)} {r : List Value} {M : im_M} (h : im_St G dep d R) (q : Nat) {a n c : Nat} {v : Int32} (hd : decode d.2.1 pc = .ok (.arraylength, 1)) (ha : a < im_n M ∧ (im_k M a).1 = c) (h1 : 32 ≤ c) (h2 : c < 37) (hl : (im_k M a).2 = n) (hv : Int32.ofNat n = v) (hq : pc + 1 = q) (k : R (q, L, .int v :: r, M)) : R (pc, L, .ref a :: r, M) := by
  refine iq_alen h q hd ⟨ha.1, by rw [ha.2]; exact h1, by rw [ha.2]; exact h2⟩ hq ?_
  rw [hl, hv]; exact k
theorem iq_cpy {G : im_G} {dep : Nat} {d : im_J} {R : im_F → Prop} {pc : Nat} {L : List (Nat × Value)} {r : List Value} {M : im_M} (h : im_St G dep d R) (q : Nat) {k a b c m n : Nat} {x dp sp : Int32} (hd : decode d.2.1 pc = .ok (.invokestatic k, 3)) (ho : ig_aT G d.2.2.2.2.2.2 k = true) (ha : a < im_n M ∧ (im_k M a).1 = c) (hb : b < im_n M ∧ (im_k M b).1 = c) (hc : c = 32 ∨ c = 33) (hm : (im_k M b).2 = m) (hn : (im_k M a).2 = n) (g : cpy sp m dp n x) (hr : (r.map fun v => v.category).sum ≤ 8) (hq : pc + 3 = q) (kk : R (q, L, r, im_setA M a (va_cpy (im_i M b) (im_i M a) sp.toNatClampNeg dp.toNatClampNeg x.toNatClampNeg))) : R (pc, L, .int x :: .int dp :: .ref a :: .int sp :: .ref b :: r, M) :=
  iq_copy h q hd ho ⟨ha.1, hb.1, ha.2.trans hb.2.symm, by rw [ha.2]; exact hc, g.1, g.2.1, g.2.2.1, by rw [hm]; exact g.2.2.2.1, by rw [hn]; exact g.2.2.2.2, hr⟩ hq kk
/-! SWITCHES -/
abbrev sw_t (pc : Nat) (dflt lo hi : Int) (offs : Array Int) (x : Int32) (t : Nat) : Prop := (if x.toInt < lo ∨ hi < x.toInt then some dflt else offs[(x.toInt - lo).toNat]?) = some ((t : Int) - (pc : Int))
theorem iq_tsw {G : im_G} {dep : Nat} {d : im_J} {R : im_F → Prop} {pc : Nat} {L : List (Nat × Value)} {r : List Value} {M : im_M} (h : im_St G dep d R) {dflt lo hi : Int} {offs : Array Int} {len : Nat} {x : Int32} {t : Nat} (hd : decode d.2.1 pc = .ok (.tableswitch dflt lo hi offs, len)) (ht : sw_t pc dflt lo hi offs x t) (k : R (t, L, r, M)) : R (pc, L, .int x :: r, M) := by
  refine ia_one h hd rfl ?_ k
  have e : (pc : Int) + ((t : Int) - (pc : Int)) = (t : Int) := by omega
  unfold sw_t at ht
  simp only [im_step, im_tsw]
  by_cases q : x.toInt < lo ∨ hi < x.toInt
  · rw [if_pos q] at ht ⊢
    cases ht
    simp [im_jmp, im_tgt, e]
  · rw [if_neg q] at ht ⊢
    rw [ht]
    simp [im_jmp, im_tgt, e]
theorem sw_v {pc : Nat} {dflt lo hi : Int} {offs : Array Int} {x v : Int32} {t : Nat} (q : x = v) (h : sw_t pc dflt lo hi offs v t) : sw_t pc dflt lo hi offs x t := by rw [q]; exact h
theorem sw_d {pc : Nat} {dflt lo hi : Int} {offs : Array Int} {x : Int32} {t : Nat} (V : List Int32) (hj : dflt = (t : Int) - (pc : Int)) (hl : -2147483648 ≤ lo ∧ hi < 2147483648) (hc : ∀ i ∈ List.range (hi - lo + 1).toNat, Int32.ofInt (lo + (i : Int)) ∈ V ∨ offs[i]? = some dflt) (hx : ¬ x ∈ V) : sw_t pc dflt lo hi offs x t := by
  unfold sw_t
  by_cases q : x.toInt < lo ∨ hi < x.toInt
  · rw [if_pos q, hj]
  · rw [if_neg q]
    have h1 : lo ≤ x.toInt := by omega
    have h2 : x.toInt ≤ hi := by omega
    have hm : (x.toInt - lo).toNat ∈ List.range (hi - lo + 1).toNat := by rw [List.mem_range]; omega
    rcases hc _ hm with h | h
    · exfalso
      apply hx
      have e : lo + (((x.toInt - lo).toNat : Nat) : Int) = x.toInt := by omega
      rw [e, Int32.ofInt_toInt] at h
      exact h
    · rw [h, hj]
theorem sw_nn {x : Int32} : ¬ x ∈ ([] : List Int32) := fun h => nomatch h
theorem sw_nc {x v : Int32} {V : List Int32} (q : ¬ x = v) (h : ¬ x ∈ V) : ¬ x ∈ v :: V := fun z => by
  rcases List.mem_cons.mp z with e | e
  · exact q e
  · exact h e
/-! THE SHEET'S TWO ROWS OF WORDS -/
def sw (w : Bool) : Nat := if w = true then 30 else 29
def ss (w : Bool) : Nat := if w = true then 29 else 30
theorem ra_28_sw {w : Bool} {M : im_M} (h : lw_S w M) : im_r M 28 4 = some (sw w) := ra_28_4 h
theorem ra_28_ss {w : Bool} {M : im_M} (h : lw_S w M) : im_r M 28 5 = some (ss w) := ra_28_5 h
theorem ka_sw {w : Bool} {M : im_M} (h : lw_S w M) : sw w < im_n M ∧ (im_k M (sw w)).1 = 34 := by cases w; exact ka_29 h; exact ka_30 h
theorem kl_sw {w : Bool} {M : im_M} (h : lw_S w M) : (im_k M (sw w)).2 = 4096 := by cases w; exact kl_29 h; exact kl_30 h
theorem ka_ss {w : Bool} {M : im_M} (h : lw_S w M) : ss w < im_n M ∧ (im_k M (ss w)).1 = 34 := by cases w; exact ka_30 h; exact ka_29 h
theorem kl_ss {w : Bool} {M : im_M} (h : lw_S w M) : (im_k M (ss w)).2 = 4096 := by cases w; exact kl_30 h; exact kl_29 h
/-! THE CLASS'S OWN TABLES -/
theorem gg_of {L : Nat} {xs : Nat → Int32} {a k : Nat} {v : Option Value} (h : tb_find tb_gl a k = v) (hn : ¬ (a = 19 ∧ k = 1053) := by decide) : ig_gT (tb_G L xs) a k = v := by
  show tb_gT xs a k = v
  unfold tb_gT
  rw [if_neg hn]
  exact h
theorem gs_8_134 {L : Nat} {xs : Nat → Int32} : ig_gT (tb_G L xs) 8 134 = some (.ref 1000000) := gg_of (by decide +kernel)
theorem gs_8_110 {L : Nat} {xs : Nat → Int32} : ig_gT (tb_G L xs) 8 110 = some (.ref 1000001) := gg_of (by decide +kernel)
theorem gs_8_225 {L : Nat} {xs : Nat → Int32} : ig_gT (tb_G L xs) 8 225 = some (.ref 1000002) := gg_of (by decide +kernel)
theorem gs_0_89 {L : Nat} {xs : Nat → Int32} : ig_gT (tb_G L xs) 0 89 = some (.ref 1000003) := gg_of (by decide +kernel)
theorem gs_0_106 {L : Nat} {xs : Nat → Int32} : ig_gT (tb_G L xs) 0 106 = some (.ref 1000004) := gg_of (by decide +kernel)
theorem gs_0_109 {L : Nat} {xs : Nat → Int32} : ig_gT (tb_G L xs) 0 109 = some (.ref 1000005) := gg_of (by decide +kernel)
theorem gs_0_112 {L : Nat} {xs : Nat → Int32} : ig_gT (tb_G L xs) 0 112 = some (.ref 1000006) := gg_of (by decide +kernel)
theorem gs_7_62 {L : Nat} {xs : Nat → Int32} : ig_gT (tb_G L xs) 7 62 = some (.ref 1000007) := gg_of (by decide +kernel)
theorem gs_7_69 {L : Nat} {xs : Nat → Int32} : ig_gT (tb_G L xs) 7 69 = some (.ref 1000008) := gg_of (by decide +kernel)
theorem gs_7_72 {L : Nat} {xs : Nat → Int32} : ig_gT (tb_G L xs) 7 72 = some (.ref 1000009) := gg_of (by decide +kernel)
theorem gs_7_75 {L : Nat} {xs : Nat → Int32} : ig_gT (tb_G L xs) 7 75 = some (.ref 1000010) := gg_of (by decide +kernel)
theorem gs_1_47 {L : Nat} {xs : Nat → Int32} : ig_gT (tb_G L xs) 1 47 = some (.ref 1000011) := gg_of (by decide +kernel)
theorem gs_1_50 {L : Nat} {xs : Nat → Int32} : ig_gT (tb_G L xs) 1 50 = some (.ref 1000012) := gg_of (by decide +kernel)
theorem gs_3_108 {L : Nat} {xs : Nat → Int32} : ig_gT (tb_G L xs) 3 108 = some (.ref 1000013) := gg_of (by decide +kernel)
theorem gs_3_111 {L : Nat} {xs : Nat → Int32} : ig_gT (tb_G L xs) 3 111 = some (.ref 1000014) := gg_of (by decide +kernel)
/-- LabelHouse$Setter.RANGES -/
def xa_0 (i : Int32) : Int32 := tb_xs0.getD i.toNatClampNeg 0
theorem xk_0 {L : Nat} {xs : Nat → Int32} : ig_xk (tb_G L xs) 1000000 = (33, 276) := by
  have e : (tb_xs 0).length = 276 := by decide +kernel
  show tb_xk L 1000000 = _
  unfold tb_xk
  rw [if_neg (by decide), if_pos (by decide)]
  show (33, (tb_xs 0).length) = _
  rw [e]
theorem iq_xl_0 {L : Nat} {xs : Nat → Int32} {w : Bool} {dep : Nat} {d : im_J} {R : im_F → Prop} {pc : Nat} {l : List (Nat × Value)} {r : List Value} {M : im_M} (h : im_St (tb_G L xs) dep d R) (q : Nat) {i : Int32} (hd : decode d.2.1 pc = .ok (.iaload, 1)) (hM : lw_S w M) (g : inb i 276) (hq : pc + 1 = q) (k : R (q, l, .int (xa_0 i) :: r, M)) : R (pc, l, .int i :: .ref 1000000 :: r, M) :=
  iq_xiaload h q hd (by rw [hM.1]; decide) ⟨by rw [xk_0], g.1, by rw [xk_0]; exact g.2⟩ hq k
/-- LabelHouse$Setter.HAS -/
def xa_1 (i : Int32) : Int32 := tb_xs1.getD i.toNatClampNeg 0
theorem xk_1 {L : Nat} {xs : Nat → Int32} : ig_xk (tb_G L xs) 1000001 = (33, 23) := by
  have e : (tb_xs 1).length = 23 := by decide +kernel
  show tb_xk L 1000001 = _
  unfold tb_xk
  rw [if_neg (by decide), if_pos (by decide)]
  show (33, (tb_xs 1).length) = _
  rw [e]
theorem iq_xl_1 {L : Nat} {xs : Nat → Int32} {w : Bool} {dep : Nat} {d : im_J} {R : im_F → Prop} {pc : Nat} {l : List (Nat × Value)} {r : List Value} {M : im_M} (h : im_St (tb_G L xs) dep d R) (q : Nat) {i : Int32} (hd : decode d.2.1 pc = .ok (.iaload, 1)) (hM : lw_S w M) (g : inb i 23) (hq : pc + 1 = q) (k : R (q, l, .int (xa_1 i) :: r, M)) : R (pc, l, .int i :: .ref 1000001 :: r, M) :=
  iq_xiaload h q hd (by rw [hM.1]; decide) ⟨by rw [xk_1], g.1, by rw [xk_1]; exact g.2⟩ hq k
/-- LabelHouse$Setter.KINDS -/
def xa_2 (i : Int32) : Int32 := tb_xs2.getD i.toNatClampNeg 0
theorem xk_2 {L : Nat} {xs : Nat → Int32} : ig_xk (tb_G L xs) 1000002 = (33, 9) := by
  have e : (tb_xs 2).length = 9 := by decide +kernel
  show tb_xk L 1000002 = _
  unfold tb_xk
  rw [if_neg (by decide), if_pos (by decide)]
  show (33, (tb_xs 2).length) = _
  rw [e]
theorem iq_xl_2 {L : Nat} {xs : Nat → Int32} {w : Bool} {dep : Nat} {d : im_J} {R : im_F → Prop} {pc : Nat} {l : List (Nat × Value)} {r : List Value} {M : im_M} (h : im_St (tb_G L xs) dep d R) (q : Nat) {i : Int32} (hd : decode d.2.1 pc = .ok (.iaload, 1)) (hM : lw_S w M) (g : inb i 9) (hq : pc + 1 = q) (k : R (q, l, .int (xa_2 i) :: r, M)) : R (pc, l, .int i :: .ref 1000002 :: r, M) :=
  iq_xiaload h q hd (by rw [hM.1]; decide) ⟨by rw [xk_2], g.1, by rw [xk_2]; exact g.2⟩ hq k
/-- LabelHouse$Bars.SYMBOLS -/
def xa_3 (i : Int32) : Int32 := tb_xs3.getD i.toNatClampNeg 0
theorem xk_3 {L : Nat} {xs : Nat → Int32} : ig_xk (tb_G L xs) 1000003 = (33, 106) := by
  have e : (tb_xs 3).length = 106 := by decide +kernel
  show tb_xk L 1000003 = _
  unfold tb_xk
  rw [if_neg (by decide), if_pos (by decide)]
  show (33, (tb_xs 3).length) = _
  rw [e]
theorem iq_xl_3 {L : Nat} {xs : Nat → Int32} {w : Bool} {dep : Nat} {d : im_J} {R : im_F → Prop} {pc : Nat} {l : List (Nat × Value)} {r : List Value} {M : im_M} (h : im_St (tb_G L xs) dep d R) (q : Nat) {i : Int32} (hd : decode d.2.1 pc = .ok (.iaload, 1)) (hM : lw_S w M) (g : inb i 106) (hq : pc + 1 = q) (k : R (q, l, .int (xa_3 i) :: r, M)) : R (pc, l, .int i :: .ref 1000003 :: r, M) :=
  iq_xiaload h q hd (by rw [hM.1]; decide) ⟨by rw [xk_3], g.1, by rw [xk_3]; exact g.2⟩ hq k
/-- LabelHouse$Bars.FIRSTS -/
def xa_4 (i : Int32) : Int32 := tb_xs4.getD i.toNatClampNeg 0
theorem xk_4 {L : Nat} {xs : Nat → Int32} : ig_xk (tb_G L xs) 1000004 = (33, 10) := by
  have e : (tb_xs 4).length = 10 := by decide +kernel
  show tb_xk L 1000004 = _
  unfold tb_xk
  rw [if_neg (by decide), if_pos (by decide)]
  show (33, (tb_xs 4).length) = _
  rw [e]
theorem iq_xl_4 {L : Nat} {xs : Nat → Int32} {w : Bool} {dep : Nat} {d : im_J} {R : im_F → Prop} {pc : Nat} {l : List (Nat × Value)} {r : List Value} {M : im_M} (h : im_St (tb_G L xs) dep d R) (q : Nat) {i : Int32} (hd : decode d.2.1 pc = .ok (.iaload, 1)) (hM : lw_S w M) (g : inb i 10) (hq : pc + 1 = q) (k : R (q, l, .int (xa_4 i) :: r, M)) : R (pc, l, .int i :: .ref 1000004 :: r, M) :=
  iq_xiaload h q hd (by rw [hM.1]; decide) ⟨by rw [xk_4], g.1, by rw [xk_4]; exact g.2⟩ hq k
/-- LabelHouse$Bars.TURNED -/
def xa_5 (i : Int32) : Int32 := tb_xs5.getD i.toNatClampNeg 0
theorem xk_5 {L : Nat} {xs : Nat → Int32} : ig_xk (tb_G L xs) 1000005 = (33, 10) := by
  have e : (tb_xs 5).length = 10 := by decide +kernel
  show tb_xk L 1000005 = _
  unfold tb_xk
  rw [if_neg (by decide), if_pos (by decide)]
  show (33, (tb_xs 5).length) = _
  rw [e]
theorem iq_xl_5 {L : Nat} {xs : Nat → Int32} {w : Bool} {dep : Nat} {d : im_J} {R : im_F → Prop} {pc : Nat} {l : List (Nat × Value)} {r : List Value} {M : im_M} (h : im_St (tb_G L xs) dep d R) (q : Nat) {i : Int32} (hd : decode d.2.1 pc = .ok (.iaload, 1)) (hM : lw_S w M) (g : inb i 10) (hq : pc + 1 = q) (k : R (q, l, .int (xa_5 i) :: r, M)) : R (pc, l, .int i :: .ref 1000005 :: r, M) :=
  iq_xiaload h q hd (by rw [hM.1]; decide) ⟨by rw [xk_5], g.1, by rw [xk_5]; exact g.2⟩ hq k
/-- LabelHouse$Bars.FIGURES -/
def xa_6 (i : Int32) : Int32 := tb_xs6.getD i.toNatClampNeg 0
theorem xk_6 {L : Nat} {xs : Nat → Int32} : ig_xk (tb_G L xs) 1000006 = (33, 10) := by
  have e : (tb_xs 6).length = 10 := by decide +kernel
  show tb_xk L 1000006 = _
  unfold tb_xk
  rw [if_neg (by decide), if_pos (by decide)]
  show (33, (tb_xs 6).length) = _
  rw [e]
theorem iq_xl_6 {L : Nat} {xs : Nat → Int32} {w : Bool} {dep : Nat} {d : im_J} {R : im_F → Prop} {pc : Nat} {l : List (Nat × Value)} {r : List Value} {M : im_M} (h : im_St (tb_G L xs) dep d R) (q : Nat) {i : Int32} (hd : decode d.2.1 pc = .ok (.iaload, 1)) (hM : lw_S w M) (g : inb i 10) (hq : pc + 1 = q) (k : R (q, l, .int (xa_6 i) :: r, M)) : R (pc, l, .int i :: .ref 1000006 :: r, M) :=
  iq_xiaload h q hd (by rw [hM.1]; decide) ⟨by rw [xk_6], g.1, by rw [xk_6]; exact g.2⟩ hq k
/-- LabelHouse$Segments.NEXT -/
def xa_7 (i : Int32) : Int32 := tb_xs7.getD i.toNatClampNeg 0
theorem xk_7 {L : Nat} {xs : Nat → Int32} : ig_xk (tb_G L xs) 1000007 = (33, 21) := by
  have e : (tb_xs 7).length = 21 := by decide +kernel
  show tb_xk L 1000007 = _
  unfold tb_xk
  rw [if_neg (by decide), if_pos (by decide)]
  show (33, (tb_xs 7).length) = _
  rw [e]
theorem iq_xl_7 {L : Nat} {xs : Nat → Int32} {w : Bool} {dep : Nat} {d : im_J} {R : im_F → Prop} {pc : Nat} {l : List (Nat × Value)} {r : List Value} {M : im_M} (h : im_St (tb_G L xs) dep d R) (q : Nat) {i : Int32} (hd : decode d.2.1 pc = .ok (.iaload, 1)) (hM : lw_S w M) (g : inb i 21) (hq : pc + 1 = q) (k : R (q, l, .int (xa_7 i) :: r, M)) : R (pc, l, .int i :: .ref 1000007 :: r, M) :=
  iq_xiaload h q hd (by rw [hM.1]; decide) ⟨by rw [xk_7], g.1, by rw [xk_7]; exact g.2⟩ hq k
/-- LabelHouse$Segments.MODES -/
def xa_8 (i : Int32) : Int32 := tb_xs8.getD i.toNatClampNeg 0
theorem xk_8 {L : Nat} {xs : Nat → Int32} : ig_xk (tb_G L xs) 1000008 = (33, 7) := by
  have e : (tb_xs 8).length = 7 := by decide +kernel
  show tb_xk L 1000008 = _
  unfold tb_xk
  rw [if_neg (by decide), if_pos (by decide)]
  show (33, (tb_xs 8).length) = _
  rw [e]
theorem iq_xl_8 {L : Nat} {xs : Nat → Int32} {w : Bool} {dep : Nat} {d : im_J} {R : im_F → Prop} {pc : Nat} {l : List (Nat × Value)} {r : List Value} {M : im_M} (h : im_St (tb_G L xs) dep d R) (q : Nat) {i : Int32} (hd : decode d.2.1 pc = .ok (.iaload, 1)) (hM : lw_S w M) (g : inb i 7) (hq : pc + 1 = q) (k : R (q, l, .int (xa_8 i) :: r, M)) : R (pc, l, .int i :: .ref 1000008 :: r, M) :=
  iq_xiaload h q hd (by rw [hM.1]; decide) ⟨by rw [xk_8], g.1, by rw [xk_8]; exact g.2⟩ hq k
/-- LabelHouse$Segments.COUNT_BITS -/
def xa_9 (i : Int32) : Int32 := tb_xs9.getD i.toNatClampNeg 0
theorem xk_9 {L : Nat} {xs : Nat → Int32} : ig_xk (tb_G L xs) 1000009 = (33, 9) := by
  have e : (tb_xs 9).length = 9 := by decide +kernel
  show tb_xk L 1000009 = _
  unfold tb_xk
  rw [if_neg (by decide), if_pos (by decide)]
  show (33, (tb_xs 9).length) = _
  rw [e]
theorem iq_xl_9 {L : Nat} {xs : Nat → Int32} {w : Bool} {dep : Nat} {d : im_J} {R : im_F → Prop} {pc : Nat} {l : List (Nat × Value)} {r : List Value} {M : im_M} (h : im_St (tb_G L xs) dep d R) (q : Nat) {i : Int32} (hd : decode d.2.1 pc = .ok (.iaload, 1)) (hM : lw_S w M) (g : inb i 9) (hq : pc + 1 = q) (k : R (q, l, .int (xa_9 i) :: r, M)) : R (pc, l, .int i :: .ref 1000009 :: r, M) :=
  iq_xiaload h q hd (by rw [hM.1]; decide) ⟨by rw [xk_9], g.1, by rw [xk_9]; exact g.2⟩ hq k
/-- LabelHouse$Segments.BITS -/
def xa_10 (i : Int32) : Int32 := tb_xs10.getD i.toNatClampNeg 0
theorem xk_10 {L : Nat} {xs : Nat → Int32} : ig_xk (tb_G L xs) 1000010 = (33, 7) := by
  have e : (tb_xs 10).length = 7 := by decide +kernel
  show tb_xk L 1000010 = _
  unfold tb_xk
  rw [if_neg (by decide), if_pos (by decide)]
  show (33, (tb_xs 10).length) = _
  rw [e]
theorem iq_xl_10 {L : Nat} {xs : Nat → Int32} {w : Bool} {dep : Nat} {d : im_J} {R : im_F → Prop} {pc : Nat} {l : List (Nat × Value)} {r : List Value} {M : im_M} (h : im_St (tb_G L xs) dep d R) (q : Nat) {i : Int32} (hd : decode d.2.1 pc = .ok (.iaload, 1)) (hM : lw_S w M) (g : inb i 7) (hq : pc + 1 = q) (k : R (q, l, .int (xa_10 i) :: r, M)) : R (pc, l, .int i :: .ref 1000010 :: r, M) :=
  iq_xiaload h q hd (by rw [hM.1]; decide) ⟨by rw [xk_10], g.1, by rw [xk_10]; exact g.2⟩ hq k
/-- LabelHouse$Blocks.COUNTS -/
def xa_11 (i : Int32) : Int32 := tb_xs11.getD i.toNatClampNeg 0
theorem xk_11 {L : Nat} {xs : Nat → Int32} : ig_xk (tb_G L xs) 1000011 = (33, 160) := by
  have e : (tb_xs 11).length = 160 := by decide +kernel
  show tb_xk L 1000011 = _
  unfold tb_xk
  rw [if_neg (by decide), if_pos (by decide)]
  show (33, (tb_xs 11).length) = _
  rw [e]
theorem iq_xl_11 {L : Nat} {xs : Nat → Int32} {w : Bool} {dep : Nat} {d : im_J} {R : im_F → Prop} {pc : Nat} {l : List (Nat × Value)} {r : List Value} {M : im_M} (h : im_St (tb_G L xs) dep d R) (q : Nat) {i : Int32} (hd : decode d.2.1 pc = .ok (.iaload, 1)) (hM : lw_S w M) (g : inb i 160) (hq : pc + 1 = q) (k : R (q, l, .int (xa_11 i) :: r, M)) : R (pc, l, .int i :: .ref 1000011 :: r, M) :=
  iq_xiaload h q hd (by rw [hM.1]; decide) ⟨by rw [xk_11], g.1, by rw [xk_11]; exact g.2⟩ hq k
/-- LabelHouse$Blocks.CHECKS -/
def xa_12 (i : Int32) : Int32 := tb_xs12.getD i.toNatClampNeg 0
theorem xk_12 {L : Nat} {xs : Nat → Int32} : ig_xk (tb_G L xs) 1000012 = (33, 160) := by
  have e : (tb_xs 12).length = 160 := by decide +kernel
  show tb_xk L 1000012 = _
  unfold tb_xk
  rw [if_neg (by decide), if_pos (by decide)]
  show (33, (tb_xs 12).length) = _
  rw [e]
theorem iq_xl_12 {L : Nat} {xs : Nat → Int32} {w : Bool} {dep : Nat} {d : im_J} {R : im_F → Prop} {pc : Nat} {l : List (Nat × Value)} {r : List Value} {M : im_M} (h : im_St (tb_G L xs) dep d R) (q : Nat) {i : Int32} (hd : decode d.2.1 pc = .ok (.iaload, 1)) (hM : lw_S w M) (g : inb i 160) (hq : pc + 1 = q) (k : R (q, l, .int (xa_12 i) :: r, M)) : R (pc, l, .int i :: .ref 1000012 :: r, M) :=
  iq_xiaload h q hd (by rw [hM.1]; decide) ⟨by rw [xk_12], g.1, by rw [xk_12]; exact g.2⟩ hq k
/-- LabelHouse$Finder.RIGHT -/
def xa_13 (i : Int32) : Int32 := tb_xs13.getD i.toNatClampNeg 0
theorem xk_13 {L : Nat} {xs : Nat → Int32} : ig_xk (tb_G L xs) 1000013 = (33, 4) := by
  have e : (tb_xs 13).length = 4 := by decide +kernel
  show tb_xk L 1000013 = _
  unfold tb_xk
  rw [if_neg (by decide), if_pos (by decide)]
  show (33, (tb_xs 13).length) = _
  rw [e]
theorem iq_xl_13 {L : Nat} {xs : Nat → Int32} {w : Bool} {dep : Nat} {d : im_J} {R : im_F → Prop} {pc : Nat} {l : List (Nat × Value)} {r : List Value} {M : im_M} (h : im_St (tb_G L xs) dep d R) (q : Nat) {i : Int32} (hd : decode d.2.1 pc = .ok (.iaload, 1)) (hM : lw_S w M) (g : inb i 4) (hq : pc + 1 = q) (k : R (q, l, .int (xa_13 i) :: r, M)) : R (pc, l, .int i :: .ref 1000013 :: r, M) :=
  iq_xiaload h q hd (by rw [hM.1]; decide) ⟨by rw [xk_13], g.1, by rw [xk_13]; exact g.2⟩ hq k
/-- LabelHouse$Finder.DOWN -/
def xa_14 (i : Int32) : Int32 := tb_xs14.getD i.toNatClampNeg 0
theorem xk_14 {L : Nat} {xs : Nat → Int32} : ig_xk (tb_G L xs) 1000014 = (33, 4) := by
  have e : (tb_xs 14).length = 4 := by decide +kernel
  show tb_xk L 1000014 = _
  unfold tb_xk
  rw [if_neg (by decide), if_pos (by decide)]
  show (33, (tb_xs 14).length) = _
  rw [e]
theorem iq_xl_14 {L : Nat} {xs : Nat → Int32} {w : Bool} {dep : Nat} {d : im_J} {R : im_F → Prop} {pc : Nat} {l : List (Nat × Value)} {r : List Value} {M : im_M} (h : im_St (tb_G L xs) dep d R) (q : Nat) {i : Int32} (hd : decode d.2.1 pc = .ok (.iaload, 1)) (hM : lw_S w M) (g : inb i 4) (hq : pc + 1 = q) (k : R (q, l, .int (xa_14 i) :: r, M)) : R (pc, l, .int i :: .ref 1000014 :: r, M) :=
  iq_xiaload h q hd (by rw [hM.1]; decide) ⟨by rw [xk_14], g.1, by rw [xk_14]; exact g.2⟩ hq k
/-! STRINGS OUTSIDE -/
theorem gs_19_38 {L : Nat} {xs : Nat → Int32} : ig_gT (tb_G L xs) 19 38 = some (.int 1) := gg_of (by decide +kernel)
theorem iq_ldcs {G : im_G} {dep : Nat} {d : im_J} {R : im_F → Prop} {pc : Nat} {L : List (Nat × Value)} {r : List Value} {M : im_M} (h : im_St G dep d R) (q : Nat) {k a : Nat} (hd : decode d.2.1 pc = .ok (.ldc k, 2)) (hn : ig_cT G d.2.2.2.2.2.2 k = none) (hc : ig_sT G d.2.2.2.2.2.2 k = some a) (hq : pc + 2 = q) (k' : R (q, L, .ref a :: r, M)) : R (pc, L, r, M) := by
  subst hq
  exact ia_oneX h hd rfl (by simp [im_step, im_ok, hn]) (by simp [im_stepX, im_ok, hc, im_push]) k'
theorem gsT_of {L : Nat} {xs : Nat → Int32} {a k : Nat} {v : Option Nat} (h : tb_find tb_sl a k = v) : ig_sT (tb_G L xs) a k = v := h
theorem gvT_of {L : Nat} {xs : Nat → Int32} {a k : Nat} {v : Option Bool} (h : tb_find tb_vl a k = v) : ig_vT (tb_G L xs) a k = v := h
theorem iq_xval {G : im_G} {dep : Nat} {d : im_J} {R : im_F → Prop} {pc : Nat} {l : List (Nat × Value)} {r : List Value} {M : im_M} (h : im_St G dep d R) (q : Nat) {k a b : Nat} (hd : decode d.2.1 pc = .ok (.getfield k, 3)) (hf : ig_fT G d.2.2.2.2.2.2 k = none) (hv : ig_vT G d.2.2.2.2.2.2 k = some true) (ha : (ig_xk G a).1 = 50) (hb : a + 1000000 = b) (hq : pc + 3 = q) (k' : R (q, l, .ref b :: r, M)) : R (pc, l, .ref a :: r, M) := by
  subst hq; subst hb
  exact ia_oneX h hd rfl (by simp [im_step, im_ok, im_getf, hf]) (by simp [im_stepX, im_ok, hv, im_xgetf, ha]) k'
theorem iq_xcod {G : im_G} {dep : Nat} {d : im_J} {R : im_F → Prop} {pc : Nat} {l : List (Nat × Value)} {r : List Value} {M : im_M} (h : im_St G dep d R) (q : Nat) {k a : Nat} (hd : decode d.2.1 pc = .ok (.getfield k, 3)) (hf : ig_fT G d.2.2.2.2.2.2 k = none) (hv : ig_vT G d.2.2.2.2.2.2 k = some false) (ha : (ig_xk G a).1 = 50) (hq : pc + 3 = q) (k' : R (q, l, .int 0 :: r, M)) : R (pc, l, .ref a :: r, M) := by
  subst hq
  exact ia_oneX h hd rfl (by simp [im_step, im_ok, im_getf, hf]) (by simp [im_stepX, im_ok, hv, im_xgetf, ha]) k'

/-- the bytes of string 0 -/
def xb_0 (i : Int32) : Int32 := tb_by0.getD i.toNatClampNeg 0
theorem xkb_0 {L : Nat} {xs : Nat → Int32} : ig_xk (tb_G L xs) 3000000 = (32, 23) := by
  have e : (tb_by 0).length = 23 := by decide +kernel
  show tb_xk L 3000000 = _
  unfold tb_xk
  rw [if_neg (by decide), if_neg (by decide), if_neg (by decide), if_pos (by decide)]
  show (32, (tb_by 0).length) = _
  rw [e]
theorem xks_0 {L : Nat} {xs : Nat → Int32} : (ig_xk (tb_G L xs) 2000000).1 = 50 := by
  show (tb_xk L 2000000).1 = _
  unfold tb_xk
  rw [if_neg (by decide), if_neg (by decide), if_pos (by decide)]
theorem iq_xlb_0 {L : Nat} {xs : Nat → Int32} {w : Bool} {dep : Nat} {d : im_J} {R : im_F → Prop} {pc : Nat} {l : List (Nat × Value)} {r : List Value} {M : im_M} (h : im_St (tb_G L xs) dep d R) (q : Nat) {i : Int32} (hd : decode d.2.1 pc = .ok (.baload, 1)) (hM : lw_S w M) (g : inb i 23) (hq : pc + 1 = q) (k : R (q, l, .int (xb_0 i) :: r, M)) : R (pc, l, .int i :: .ref 3000000 :: r, M) :=
  iq_xbaload h q hd (by rw [hM.1]; decide) ⟨by rw [xkb_0], g.1, by rw [xkb_0]; exact g.2⟩ hq k
/-- the bytes of string 1 -/
def xb_1 (i : Int32) : Int32 := tb_by1.getD i.toNatClampNeg 0
theorem xkb_1 {L : Nat} {xs : Nat → Int32} : ig_xk (tb_G L xs) 3000001 = (32, 45) := by
  have e : (tb_by 1).length = 45 := by decide +kernel
  show tb_xk L 3000001 = _
  unfold tb_xk
  rw [if_neg (by decide), if_neg (by decide), if_neg (by decide), if_pos (by decide)]
  show (32, (tb_by 1).length) = _
  rw [e]
theorem xks_1 {L : Nat} {xs : Nat → Int32} : (ig_xk (tb_G L xs) 2000001).1 = 50 := by
  show (tb_xk L 2000001).1 = _
  unfold tb_xk
  rw [if_neg (by decide), if_neg (by decide), if_pos (by decide)]
theorem iq_xlb_1 {L : Nat} {xs : Nat → Int32} {w : Bool} {dep : Nat} {d : im_J} {R : im_F → Prop} {pc : Nat} {l : List (Nat × Value)} {r : List Value} {M : im_M} (h : im_St (tb_G L xs) dep d R) (q : Nat) {i : Int32} (hd : decode d.2.1 pc = .ok (.baload, 1)) (hM : lw_S w M) (g : inb i 45) (hq : pc + 1 = q) (k : R (q, l, .int (xb_1 i) :: r, M)) : R (pc, l, .int i :: .ref 3000001 :: r, M) :=
  iq_xbaload h q hd (by rw [hM.1]; decide) ⟨by rw [xkb_1], g.1, by rw [xkb_1]; exact g.2⟩ hq k
/-! THE LOOKUP SWITCH; BOOLEANS; THE TWO ROWS EXCHANGED -/
abbrev sw_l (pc : Nat) (dflt : Int) (ps : Array (Int × Int)) (x : Int32) (t : Nat) : Prop := (ps.toList.zip (ps.toList.drop 1)).all (fun (a, next) => a.1 < next.1) = true ∧ Op.lookupswitch.offset ps.toList dflt x.toInt = (t : Int) - (pc : Int)
theorem iq_lsw {G : im_G} {dep : Nat} {d : im_J} {R : im_F → Prop} {pc : Nat} {L : List (Nat × Value)} {r : List Value} {M : im_M} (h : im_St G dep d R) {dflt : Int} {ps : Array (Int × Int)} {len : Nat} {x : Int32} {t : Nat} (hd : decode d.2.1 pc = .ok (.lookupswitch dflt ps, len)) (ht : sw_l pc dflt ps x t) (k : R (t, L, r, M)) : R (pc, L, .int x :: r, M) := by
  refine ia_one h hd rfl ?_ k
  have e : (pc : Int) + ((t : Int) - (pc : Int)) = (t : Int) := by omega
  simp only [im_step, im_lsw]
  rw [if_pos ht.1, ht.2]
  simp [im_jmp, im_tgt, e]
theorem sl_v {pc : Nat} {dflt : Int} {ps : Array (Int × Int)} {x v : Int32} {t : Nat} (q : x = v) (h : sw_l pc dflt ps v t) : sw_l pc dflt ps x t := by rw [q]; exact h
theorem sl_off {dflt : Int} {x : Int32} : ∀ (ps : List (Int × Int)), (∀ a ∈ ps, ¬ a.1 = x.toInt) → Op.lookupswitch.offset ps dflt x.toInt = dflt := by
  intro ps
  induction ps with
  | nil => intro _; rfl
  | cons a ps ih =>
    intro h
    obtain ⟨a1, a2⟩ := a
    rw [Op.lookupswitch.offset_cons, if_neg (h _ List.mem_cons_self)]
    exact ih (fun b hb => h b (List.mem_cons_of_mem _ hb))
theorem sl_d {pc : Nat} {dflt : Int} {ps : Array (Int × Int)} {x : Int32} {t : Nat} (V : List Int32) (hj : dflt = (t : Int) - (pc : Int)) (hs : (ps.toList.zip (ps.toList.drop 1)).all (fun (a, next) => a.1 < next.1) = true) (hc : ∀ a ∈ ps.toList, ∃ v ∈ V, v.toInt = a.1) (hx : ¬ x ∈ V) : sw_l pc dflt ps x t := by
  refine ⟨hs, ?_⟩
  rw [sl_off _ (fun a ha q => ?_), hj]
  obtain ⟨v, hv, e⟩ := hc a ha
  exact hx (by rw [Int32.toInt_inj.mp (q.symm.trans e.symm)]; exact hv)
theorem nar_z {x : Int32} (h : x = 0 ∨ x = 1) : narrow .boolean (.int x) = .int x := by rcases h with rfl | rfl <;> rfl
def rtV (Q : Bool × im_M → Prop) (a : Option Value) (M1 : im_M) : Prop := a = none ∧ ∃ w, lw_S w M1 ∧ Q (w, M1)
theorem iq_cpI {G : im_G} {d : im_J} {R : im_F → Prop} {pc : Nat} {L : List (Nat × Value)} {M : im_M} {dep : Nat} (h : im_St G (dep + 1) d R) (q : Nat) {i : Instr} {k kd : Nat} {d' : im_J} {st vs rest : List Value} {Q : Int32 → Prop} (hd : decode d.2.1 pc = .ok (i, 3)) (hc : im_iscall G d i = some (k, kd)) (hp : im_prep G d.2.2.2.2.2.2 k kd (pc, L, st, M) = some (d', vs, rest)) (hcal : ia G dep d' (rpI M Q) (0, lv_args 0 vs, [], M)) (hq : pc + 3 = q) (kk : ∀ x, Q x → R (q, L, .int x :: rest, M)) : R (pc, L, st, M) := iq_call h q hd hc hp hcal hq (by rintro _ _ ⟨x, rfl, rfl, hx⟩; exact kk x hx)
theorem iq_cpL {G : im_G} {d : im_J} {R : im_F → Prop} {pc : Nat} {L : List (Nat × Value)} {M : im_M} {dep : Nat} (h : im_St G (dep + 1) d R) (q : Nat) {i : Instr} {k kd : Nat} {d' : im_J} {st vs rest : List Value} {Q : Int64 → Prop} (hd : decode d.2.1 pc = .ok (i, 3)) (hc : im_iscall G d i = some (k, kd)) (hp : im_prep G d.2.2.2.2.2.2 k kd (pc, L, st, M) = some (d', vs, rest)) (hcal : ia G dep d' (rpL M Q) (0, lv_args 0 vs, [], M)) (hq : pc + 3 = q) (kk : ∀ x, Q x → R (q, L, .long x :: rest, M)) : R (pc, L, st, M) := iq_call h q hd hc hp hcal hq (by rintro _ _ ⟨x, rfl, rfl, hx⟩; exact kk x hx)
theorem iq_cpV {G : im_G} {d : im_J} {R : im_F → Prop} {pc : Nat} {L : List (Nat × Value)} {M : im_M} {dep : Nat} (h : im_St G (dep + 1) d R) (q : Nat) {i : Instr} {k kd : Nat} {d' : im_J} {st vs rest : List Value} {Q : Unit → Prop} (hd : decode d.2.1 pc = .ok (i, 3)) (hc : im_iscall G d i = some (k, kd)) (hp : im_prep G d.2.2.2.2.2.2 k kd (pc, L, st, M) = some (d', vs, rest)) (hcal : ia G dep d' (rpV M Q) (0, lv_args 0 vs, [], M)) (hq : pc + 3 = q) (kk : Q () → R (q, L, rest, M)) : R (pc, L, st, M) := iq_call h q hd hc hp hcal hq (by rintro _ _ ⟨rfl, rfl, hx⟩; exact kk hx)
theorem iq_cwI {w : Bool} {G : im_G} {d : im_J} {R : im_F → Prop} {pc : Nat} {L : List (Nat × Value)} {M : im_M} {dep : Nat} (h : im_St G (dep + 1) d R) (q : Nat) {i : Instr} {k kd : Nat} {d' : im_J} {st vs rest : List Value} {Q : Int32 × im_M → Prop} (hd : decode d.2.1 pc = .ok (i, 3)) (hc : im_iscall G d i = some (k, kd)) (hp : im_prep G d.2.2.2.2.2.2 k kd (pc, L, st, M) = some (d', vs, rest)) (hcal : ia G dep d' (rwI w Q) (0, lv_args 0 vs, [], M)) (hq : pc + 3 = q) (kk : ∀ x M1, lw_S w M1 → Q (x, M1) → R (q, L, .int x :: rest, M1)) : R (pc, L, st, M) := iq_call h q hd hc hp hcal hq (by rintro _ M1 ⟨x, rfl, hM, hx⟩; exact kk x M1 hM hx)
theorem iq_cwL {w : Bool} {G : im_G} {d : im_J} {R : im_F → Prop} {pc : Nat} {L : List (Nat × Value)} {M : im_M} {dep : Nat} (h : im_St G (dep + 1) d R) (q : Nat) {i : Instr} {k kd : Nat} {d' : im_J} {st vs rest : List Value} {Q : Int64 × im_M → Prop} (hd : decode d.2.1 pc = .ok (i, 3)) (hc : im_iscall G d i = some (k, kd)) (hp : im_prep G d.2.2.2.2.2.2 k kd (pc, L, st, M) = some (d', vs, rest)) (hcal : ia G dep d' (rwL w Q) (0, lv_args 0 vs, [], M)) (hq : pc + 3 = q) (kk : ∀ x M1, lw_S w M1 → Q (x, M1) → R (q, L, .long x :: rest, M1)) : R (pc, L, st, M) := iq_call h q hd hc hp hcal hq (by rintro _ M1 ⟨x, rfl, hM, hx⟩; exact kk x M1 hM hx)
theorem iq_cwV {w : Bool} {G : im_G} {d : im_J} {R : im_F → Prop} {pc : Nat} {L : List (Nat × Value)} {M : im_M} {dep : Nat} (h : im_St G (dep + 1) d R) (q : Nat) {i : Instr} {k kd : Nat} {d' : im_J} {st vs rest : List Value} {Q : im_M → Prop} (hd : decode d.2.1 pc = .ok (i, 3)) (hc : im_iscall G d i = some (k, kd)) (hp : im_prep G d.2.2.2.2.2.2 k kd (pc, L, st, M) = some (d', vs, rest)) (hcal : ia G dep d' (rwV w Q) (0, lv_args 0 vs, [], M)) (hq : pc + 3 = q) (kk : ∀ M1, lw_S w M1 → Q M1 → R (q, L, rest, M1)) : R (pc, L, st, M) := iq_call h q hd hc hp hcal hq (by rintro _ M1 ⟨rfl, hM, hx⟩; exact kk M1 hM hx)
theorem iq_ctV {G : im_G} {d : im_J} {R : im_F → Prop} {pc : Nat} {L : List (Nat × Value)} {M : im_M} {dep : Nat} (h : im_St G (dep + 1) d R) (q : Nat) {i : Instr} {k kd : Nat} {d' : im_J} {st vs rest : List Value} {Q : Bool × im_M → Prop} (hd : decode d.2.1 pc = .ok (i, 3)) (hc : im_iscall G d i = some (k, kd)) (hp : im_prep G d.2.2.2.2.2.2 k kd (pc, L, st, M) = some (d', vs, rest)) (hcal : ia G dep d' (rtV Q) (0, lv_args 0 vs, [], M)) (hq : pc + 3 = q) (kk : ∀ w M1, lw_S w M1 → Q (w, M1) → R (q, L, rest, M1)) : R (pc, L, st, M) := iq_call h q hd hc hp hcal hq (by rintro _ M1 ⟨rfl, w, hM, hx⟩; exact kk w M1 hM hx)
theorem lw_sI {w : Bool} {M : im_M} {a k : Nat} {v : Int32} (h : lw_S w M) : lw_S w (im_setI M a k v) := h
theorem lw_sL {w : Bool} {M : im_M} {a k : Nat} {v : Int64} (h : lw_S w M) : lw_S w (im_setL M a k v) := h
theorem lw_sA {w : Bool} {M : im_M} {a : Nat} {f : Nat → Int32} (h : lw_S w M) : lw_S w (im_setA M a f) := h
/-- only the arrays of A (its bits) and the fields of F are changed -/
def fr (A : Nat) (F : List (Nat × Nat)) (M M' : im_M) : Prop := (∀ a j, A.testBit a = false → ¬ (a, j) ∈ F → im_i M' a j = im_i M a j) ∧ ∀ a, A.testBit a = false → im_l M' a = im_l M a
theorem fr_refl {A : Nat} {F : List (Nat × Nat)} {M : im_M} : fr A F M M := ⟨fun _ _ _ _ => rfl, fun _ _ => rfl⟩
theorem fr_tr {A : Nat} {F : List (Nat × Nat)} {M M1 M2 : im_M} (h2 : fr A F M1 M2) (h1 : fr A F M M1) : fr A F M M2 := ⟨fun a j ha hj => (h2.1 a j ha hj).trans (h1.1 a j ha hj), fun a ha => (h2.2 a ha).trans (h1.2 a ha)⟩
theorem fr_mono {A B : Nat} {F H : List (Nat × Nat)} {M M' : im_M} (hs : A ||| B = B) (hF : ∀ p ∈ F, p ∈ H) (h : fr A F M M') : fr B H M M' := by
  have e : ∀ a, B.testBit a = false → A.testBit a = false := by
    intro a ha
    rw [← hs, Nat.testBit_or] at ha
    exact (Bool.or_eq_false_iff.mp ha).1
  exact ⟨fun a j ha hj => h.1 a j (e a ha) (fun q => hj (hF _ q)), fun a ha => h.2 a (e a ha)⟩
theorem fr_F {A : Nat} {F : List (Nat × Nat)} {M M1 : im_M} {a k : Nat} {v : Int32} (hw : (a, k) ∈ F) (h : fr A F M M1) : fr A F M (im_setI M1 a k v) := by
  refine ⟨fun b j hb hj => ?_, h.2⟩
  rw [← h.1 b j hb hj]
  by_cases e : b = a
  · subst e
    exact im_u2_nk (fun q => hj (by rw [q]; exact hw))
  · exact im_u2_ne e
theorem fr_I {A : Nat} {F : List (Nat × Nat)} {M M1 : im_M} {a k : Nat} {v : Int32} (hw : A.testBit a = true) (h : fr A F M M1) : fr A F M (im_setI M1 a k v) := by
  refine ⟨fun b j hb hj => ?_, h.2⟩
  have e : b ≠ a := fun q => by rw [q, hw] at hb; cases hb
  rw [← h.1 b j hb hj]
  exact im_u2_ne e
theorem fr_L {A : Nat} {F : List (Nat × Nat)} {M M1 : im_M} {a k : Nat} {v : Int64} (hw : A.testBit a = true) (h : fr A F M M1) : fr A F M (im_setL M1 a k v) := by
  refine ⟨h.1, fun b hb => ?_⟩
  have e : b ≠ a := fun q => by rw [q, hw] at hb; cases hb
  rw [← h.2 b hb]
  funext j
  exact im_u2_ne e
theorem fr_A {A : Nat} {F : List (Nat × Nat)} {M M1 : im_M} {a : Nat} {f : Nat → Int32} (hw : A.testBit a = true) (h : fr A F M M1) : fr A F M (im_setA M1 a f) := by
  refine ⟨fun b j hb hj => ?_, h.2⟩
  have e : b ≠ a := fun q => by rw [q, hw] at hb; cases hb
  rw [← h.1 b j hb hj]
  exact congrFun (if_neg e) j
theorem fr_R {A : Nat} {F : List (Nat × Nat)} {M M1 : im_M} {a k : Nat} {v : Option Nat} (h : fr A F M M1) : fr A F M (im_setR M1 a k v) := h
/-- an array that is not written -/
theorem fr_c {A : Nat} {F : List (Nat × Nat)} {M M' : im_M} (h : fr A F M M') (a : Nat) (ha : A.testBit a = false) (hF : ∀ p ∈ F, p.1 ≠ a) : im_i M' a = im_i M a := funext fun j => h.1 a j ha (fun q => hF _ q rfl)
theorem fr_ret {T : Type} {A : Nat} {F : List (Nat × Nat)} {M M1 : im_M} {v : T} {r : T × im_M} (q : ed (some (v, M1)) (fun x => x = r)) (h : fr A F M M1) : fr A F M r.2 := by
  have e : (v, M1) = r := ed_some (P := fun x => x = r) q
  rw [← e]; exact h
theorem fr_retV {A : Nat} {F : List (Nat × Nat)} {M M1 r : im_M} (q : ed (some M1) (fun x => x = r)) (h : fr A F M M1) : fr A F M r := by
  have e : M1 = r := ed_some (P := fun x => x = r) q
  rw [← e]; exact h
theorem lw_Rf : lw_R false = mv_r281 := if_neg (by decide)
theorem lw_Rt : lw_R true = im_u2 (im_u2 mv_r281 28 4 (some 30)) 28 5 (some 29) := if_pos rfl
theorem u2_back {f : Nat → Nat → Option Nat} (h4 : f 28 4 = some 29) (h5 : f 28 5 = some 30) : im_u2 (im_u2 (im_u2 (im_u2 f 28 4 (some 30)) 28 5 (some 29)) 28 4 (some 29)) 28 5 (some 30) = f := by
  funext b j
  by_cases hb : b = 28
  · subst hb
    by_cases e5 : j = 5
    · subst e5; simp [im_u2, h5]
    · by_cases e4 : j = 4
      · subst e4; simp [im_u2, h4]
      · simp [im_u2, e4, e5]
  · simp [im_u2, hb]
theorem lw_swap {w : Bool} {M : im_M} (h : lw_S w M) : lw_S (!w) (im_setR (im_setR M 28 4 (some (ss w))) 28 5 (some (sw w))) := by
  refine ⟨h.1, h.2.1, ?_⟩
  show im_u2 (im_u2 (im_r M) 28 4 (some (ss w))) 28 5 (some (sw w)) = lw_R (!w)
  rw [h.2.2]
  cases w
  · show im_u2 (im_u2 (lw_R false) 28 4 (some 30)) 28 5 (some 29) = lw_R true
    rw [lw_Rt, lw_Rf]
  · show im_u2 (im_u2 (lw_R true) 28 4 (some 29)) 28 5 (some 30) = lw_R false
    rw [lw_Rt, lw_Rf]
    exact u2_back (by decide +kernel) (by decide +kernel)
