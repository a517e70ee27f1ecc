/-- the i-th from the front, or from the back of n + 1 -/
def pos (up : Bool) (n i : Nat) : Nat := if up = true then i else n - i
def stp (up : Bool) : Int32 := if up = true then 1 else -1
theorem pos_step {up : Bool} {n i : Nat} (h : i < n) : nI (pos up n i) + stp up = nI (pos up n (i + 1)) := by
  cases up
  · show nI (n - i) + (-1) = nI (n - (i + 1))
    have e : (-1 : Int32) = iZ (-1) := rfl
    rw [iZ_nI, e, iZ_add, iZ_nI]
    congr 1
    omega
  · exact nI_1 i
theorem l_ne0 {v : Int64} (h : ¬ v = 0) : ∃ b, b < 64 ∧ lb v b = true := by
  apply Decidable.byContradiction
  intro c
  apply h
  apply lb_ext
  intro b hb
  rw [lb_0]
  cases hd : lb v b with
  | false => rfl
  | true => exact absurd ⟨b, hb, hd⟩ c
def ebI (v : Int64) (up : Bool) (n : Nat) (s : Int32 × Int32) : Prop := ∃ i : Nat, i + n = 63 ∧ s.2 = nI i ∧ s.1 = nI (pos up 63 i) ∧ ∀ c, c < i → lb v (pos up 63 c) = false
theorem pos_lt {up : Bool} {n i : Nat} (h : i ≤ n) : pos up n i ≤ n := by
  cases up
  · show n - i ≤ n
    omega
  · exact h
theorem s_edgeBit {v : Int64} {up : Bool} {M : im_M} (h : ¬ v = 0) : ed (f_HSheet_edgeBit v (stp up) M) (fun r => ∃ i : Nat, i ≤ 63 ∧ r = nI (pos up 63 i) ∧ lb v (pos up 63 i) = true ∧ ∀ c, c < i → lb v (pos up 63 c) = false) := by
  unfold f_HSheet_edgeBit
  have e0 : ((if stp up ≤ 0 then 63 else 0) : Int32) = nI (pos up 63 0) := by cases up <;> decide
  rw [e0]
  apply bd1_mk
  refine ed_mono (lp_inv (ebI v up) (Q := fun (r : Int32) => ∃ i : Nat, i ≤ 63 ∧ r = nI (pos up 63 i) ∧ lb v (pos up 63 i) = true ∧ ∀ c, c < i → lb v (pos up 63 c) = false) ?_ (k := 63) ⟨0, rfl, rfl, rfl, fun c hc => absurd hc (by omega)⟩) (fun r hr => ed_mk hr)
  rintro n ⟨a, i'⟩ ⟨i, hi, e1, e2, e3⟩
  replace e1 : i' = nI i := e1
  replace e2 : a = nI (pos up 63 i) := e2
  subst e1 e2
  show ed (f_HSheet_edgeBit_L14 v (stp up) M (nI (pos up 63 i)) (nI i)) _
  unfold f_HSheet_edgeBit_L14
  have hp := pos_lt (up := up) (n := 63) (i := i) (by omega)
  by_cases h63 : 63 ≤ i
  · have hi63 : i = 63 := by omega
    have z : (63 : Int32) ≤ nI i := nI_le (a := 63) h63 (by omega)
    rw [if_pos z]
    refine lpo_r ⟨i, by omega, rfl, ?_, e3⟩
    obtain ⟨b, hb, hbv⟩ := l_ne0 h
    have hb2 : b = pos up 63 (pos up 63 b) := by
      cases up
      · show b = 63 - (63 - b)
        omega
      · rfl
    by_cases c : pos up 63 b < i
    · rw [hb2, e3 _ c] at hbv
      cases hbv
    · have : pos up 63 b = i := by
        have := pos_lt (up := up) (n := 63) (i := b) (by omega)
        omega
      rw [← this, ← hb2]
      exact hbv
  · have z : ¬ (63 : Int32) ≤ nI i := nI_ge (b := 63) (by omega) (by decide)
    rw [if_neg z]
    simp only [u_and1 (v := v) (k := pos up 63 i) (by omega)]
    by_cases hb : lb v (pos up 63 i) = false
    · rw [if_neg (by simp [hb]), pos_step (by omega), nI_1]
      refine lpo_l (62 - i) (by omega) ⟨i + 1, by omega, rfl, rfl, ?_⟩
      intro c hc
      by_cases c2 : c = i
      · rw [c2]; exact hb
      · exact e3 c (by omega)
    · rw [if_pos hb]
      exact lpo_r ⟨i, by omega, rfl, by simpa using hb, e3⟩
def ecI (D : Nat → Nat → Bool) (j H : Nat) (n : Nat) (s : Int64 × Int32) : Prop := ∃ y : Nat, y + n = H ∧ s.2 = nI y ∧ ∀ b, b < 64 → (lb s.1 b = true ↔ ∃ y', y' < y ∧ D (64 * j + b) y' = true)
theorem s_edgeAny {w : Bool} {M : im_M} {W H : Nat} {D : Nat → Nat → Bool} (q : DH w M W H D) {j : Nat} (hj : j < 8) {a b : Int32} : ed (lp (uc2 (f_HSheet_edgeColumn_L25 w a (nI j) b M)) (0, 0)) (fun v => ∀ b, b < 64 → (lb v b = true ↔ ∃ y', D (64 * j + b) y' = true)) := by
  have hW := q.1
  have d1 := q.2.2.1
  have h0 : ecI D j H H (0, 0) := by
    refine ⟨0, by omega, rfl, fun b hb => ?_⟩
    constructor
    · intro z
      rw [lb_0] at z
      cases z
    · rintro ⟨y', hy, _⟩
      omega
  refine lp_inv (ecI D j H) ?_ (k := H) h0
  rintro n ⟨v, i⟩ ⟨y, hy, e1, e2⟩
  replace e1 : i = nI y := e1
  replace e2 : ∀ b, b < 64 → (lb v b = true ↔ ∃ y', y' < y ∧ D (64 * j + b) y' = true) := e2
  subst e1
  show ed (f_HSheet_edgeColumn_L25 w a (nI j) b M v (nI y)) _
  unfold f_HSheet_edgeColumn_L25
  rw [q.2.1.2]
  by_cases h : H ≤ y
  · rw [if_pos (nI_le h (by omega))]
    refine lpo_r (fun b hb => ?_)
    rw [e2 b hb]
    exact ⟨fun ⟨y', _, z⟩ => ⟨y', z⟩, fun ⟨y', z⟩ => ⟨y', by have := d1 _ _ z; omega, z⟩⟩
  · have hy2 : y < H := by omega
    have ei : nI y * 8 + nI j = nI (8 * y + j) := by rw [nI_n, nI_mul, nI_add, Nat.mul_comm]
    rw [if_neg (nI_ge hy2 (by omega)), ei, gd_pos (by rw [inb_nI (by omega)]; omega), nI_clamp (by omega), nI_1]
    refine lpo_l (H - (y + 1)) (by omega) ⟨y + 1, by omega, rfl, ?_⟩
    intro b hb
    show lb (v ||| im_l M (sw w) (8 * y + j)) b = true ↔ _
    rw [lb_or, q.2.2.2 y j b (by omega) hj hb, Bool.or_eq_true, e2 b hb]
    constructor
    · rintro (⟨y', z1, z2⟩ | z)
      · exact ⟨y', by omega, z2⟩
      · exact ⟨y, by omega, z⟩
    · rintro ⟨y', z1, z2⟩
      by_cases c : y' = y
      · subst c
        exact Or.inr z2
      · exact Or.inl ⟨y', by omega, z2⟩
def ecJ (D : Nat → Nat → Bool) (up : Bool) (n : Nat) (s : Int32 × Int32) : Prop := ∃ i : Nat, i + n = 8 ∧ s.2 = nI i ∧ (i < 8 → s.1 = nI (pos up 7 i)) ∧ ∀ c, c < i → ∀ b y, b < 64 → D (64 * pos up 7 c + b) y = false
theorem s_edgeColumn {w : Bool} {M : im_M} {W H : Nat} {D : Nat → Nat → Bool} (q : DH w M W H D) {up : Bool} : ed (f_HSheet_edgeColumn w (stp up) M) (fun r => exE (!up) (fun a _ => a) D r) := by
  have hW := q.1
  have d1 := q.2.2.1
  unfold f_HSheet_edgeColumn
  have e0 : ((if stp up ≤ 0 then 7 else 0) : Int32) = nI (pos up 7 0) := by cases up <;> decide
  rw [e0]
  -- a column lies in one of the eight
  have col : ∀ x y, D x y = true → ∃ c b, c < 8 ∧ b < 64 ∧ x = 64 * pos up 7 c + b ∧ pos up 7 c = x / 64 := by
    intro x y hd
    have := d1 x y hd
    refine ⟨pos up 7 (x / 64), x % 64, ?_, by omega, ?_, ?_⟩
    · have := pos_lt (up := up) (n := 7) (i := x / 64) (by omega)
      omega
    · cases up
      · show x = 64 * (7 - (7 - x / 64)) + x % 64
        omega
      · show x = 64 * (x / 64) + x % 64
        omega
    · cases up
      · show 7 - (7 - x / 64) = _
        omega
      · rfl
  apply bs0_mk
  refine ed_mono (lp_inv (ecJ D up) (Q := fun (r : Unit ⊕ Int32) => match r with | .inl _ => ∀ a b, D a b = false | .inr e => exE (!up) (fun a _ => a) D e) ?_ (k := 8) ⟨0, rfl, rfl, fun _ => rfl, fun c hc => absurd hc (by omega)⟩) ?_
  · rintro n ⟨a, i'⟩ ⟨i, hi, e1, e2, e3⟩
    replace e1 : i' = nI i := e1
    replace e2 : i < 8 → a = nI (pos up 7 i) := e2
    subst e1
    show ed (f_HSheet_edgeColumn_L13 w (stp up) M a (nI i)) _
    unfold f_HSheet_edgeColumn_L13
    by_cases h8 : 8 ≤ i
    · have z : (8 : Int32) ≤ nI i := nI_le (a := 8) h8 (by omega)
      rw [if_pos z]
      refine lpo_r ?_
      intro x y
      cases hd : D x y with
      | false => rfl
      | true =>
        obtain ⟨c, b, z1, z2, z3, z4⟩ := col x y hd
        rw [z3, e3 c (by omega) b y z2] at hd
        cases hd
    · have z : ¬ (8 : Int32) ≤ nI i := nI_ge (b := 8) (by omega) (by decide)
      have ha := e2 (by omega)
      subst ha
      have hp := pos_lt (up := up) (n := 7) (i := i) (by omega)
      rw [if_neg z]
      apply bd1_mk
      refine ed_mono (s_edgeAny q (j := pos up 7 i) (by omega)) ?_
      intro v hv
      simp only [lc_eq]
      by_cases hv0 : v = 0
      · rw [if_pos hv0]
        refine lpo_l (7 - i) (by omega) ⟨i + 1, by omega, nI_1 i, ?_, ?_⟩
        · intro h9
          exact pos_step (by omega)
        · intro c hc b y hb
          by_cases c2 : c = i
          · subst c2
            cases hd : D (64 * pos up 7 c + b) y with
            | false => rfl
            | true =>
              have := (hv b hb).mpr ⟨y, hd⟩
              rw [hv0, lb_0] at this
              cases this
          · exact e3 c (by omega) b y hb
      · rw [if_neg hv0]
        apply bd1_mk
        refine ed_mono (s_edgeBit hv0) ?_
        rintro r ⟨k, hk, rfl, k1, k2⟩
        have hp2 := pos_lt (up := up) (n := 63) (i := k) (by omega)
        have er : (64 : Int32) * nI (pos up 7 i) + nI (pos up 63 k) = nI (64 * pos up 7 i + pos up 63 k) := by rw [nI_n, nI_mul, nI_add]
        rw [er]
        refine lpo_r (Or.inr ⟨64 * pos up 7 i + pos up 63 k, by omega, rfl, ?_, ?_⟩)
        · obtain ⟨y, hy⟩ := (hv _ (by omega)).mp k1
          exact ⟨_, y, hy, rfl⟩
        · intro x y hd
          obtain ⟨c, b, z1, z2, z3, z4⟩ := col x y hd
          have hci : i ≤ c := by
            apply Decidable.byContradiction
            intro hc
            rw [z3, e3 c (by omega) b y z2] at hd
            cases hd
          have hb2 : b = pos up 63 (pos up 63 b) := by
            cases up
            · show b = 63 - (63 - b)
              omega
            · rfl
          by_cases hc : c = i
          · subst hc
            have hl : lb v b = true := (hv b z2).mpr ⟨y, by rw [← z3]; exact hd⟩
            have hkb : k ≤ pos up 63 b := by
              apply Decidable.byContradiction
              intro hcc
              rw [hb2, k2 _ (by omega)] at hl
              cases hl
            cases up
            · have hkb' : k ≤ 63 - b := hkb
              show x ≤ 64 * pos false 7 c + (63 - k)
              omega
            · have hkb' : k ≤ b := hkb
              show 64 * pos true 7 c + k ≤ x
              omega
          · cases up
            · have a1 : pos false 7 c = 7 - c := rfl
              have a2 : pos false 7 i = 7 - i := rfl
              show x ≤ 64 * pos false 7 i + pos false 63 k
              omega
            · have a1 : pos true 7 c = c := rfl
              have a2 : pos true 7 i = i := rfl
              show 64 * pos true 7 i + pos true 63 k ≤ x
              omega
  · rintro (u | e) hr
    · exact ed_mk (Or.inl ⟨hr, rfl⟩)
    · exact ed_mk hr
