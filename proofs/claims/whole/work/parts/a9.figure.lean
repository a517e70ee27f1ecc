/-! THIRTEEN FIGURES -/
theorem WH_fr {A : Nat} {F : List (Nat × Nat)} {M M' : im_M} {u : Nat → Nat} {n : Nat} (h : fr A F M M') (c : clr A F [32] [(31, 4), (31, 11)] [] = true) (q : WH M u n) : WH M' u n := by
  refine ⟨q.1, q.2.1, ?_, ?_⟩
  · rw [clr_f c h (a := 31) (k := 11) (by decide)]
    exact q.2.2.1
  · intro i hi
    have := q.2.2.2 i hi
    unfold f_HBars_widthAt at this ⊢
    rw [clr_f c h (a := 31) (k := 11) (by decide), clr_f c h (a := 31) (k := 4) (by decide), clr_a c h (a := 32) (by decide)]
    exact this
theorem WM_fr {A : Nat} {F : List (Nat × Nat)} {M M' : im_M} {u : Nat → Nat} {n : Nat} (h : fr A F M M') (c : clr A F [103] [(96, 10)] [] = true) (q : WM M u n) : WM M' u n := by
  refine ⟨q.1, q.2.1, ?_, ?_⟩
  · rw [clr_f c h (a := 96) (k := 10) (by decide)]
    exact q.2.2.1
  · rw [clr_a c h (a := 103) (by decide)]
    exact q.2.2.2
/-- where the i-th figure begins -/
def gf (i : Nat) : Nat := if 7 ≤ i then 4 * i + 4 else 4 * i - 1
def rw4 (u : Nat → Nat) (i : Nat) : Nat → Nat := nr u (gf i) 7 (sm u (gf i) 4)
def figA (u : Nat → Nat) (i : Nat) : Option Nat := fdp (fun j => xa_6 (nI j) = pv (rw4 u i) 4) 10
def figB (u : Nat → Nat) (i : Nat) : Option Nat := fdp (fun j => xa_5 (nI j) = pv (rw4 u i) 4) 10
def fig (u : Nat → Nat) (i : Nat) : Option Nat := match figA u i with
  | some j => some j
  | none => if 7 ≤ i then none else figB u i
/-- which of them are turned, as a number -/
def tR (u : Nat → Nat) : Nat → Nat
  | 0 => 0
  | i + 1 => 2 * tR u i + (if 1 ≤ i ∧ figA u i = none then 1 else 0)
theorem tR_1 {u : Nat → Nat} : tR u 1 = 0 := by
  show 2 * 0 + (if 1 ≤ 0 ∧ _ then 1 else 0) = 0
  rw [if_neg (by omega)]
theorem tR_lt {u : Nat → Nat} : ∀ i, tR u (i + 1) < 2 ^ i := by
  intro i
  induction i with
  | zero => rw [tR_1]; decide
  | succ i ih =>
    show 2 * tR u (i + 1) + _ < 2 ^ (i + 1)
    rw [Nat.pow_succ]
    split <;> omega
def cap7 (i : Nat) : Nat := if 7 ≤ i then 7 else i
def guardI (i : Nat) : Bool := decide (i < 3) || (decide (26 < i) && decide (i < 32)) || decide (55 < i)
def grd (u : Nat → Nat) : Prop := ∀ i, i < 59 → guardI i = true → nr u 0 95 (sm u 0 59) i = 1
def wgt (i : Nat) : Nat := if i % 2 = 0 then 1 else 3
def ckS (g : Nat → Nat) : Nat → Nat
  | 0 => 0
  | n + 1 => ckS g n + wgt n * g n
/-- the strip tells the thirteen figures g -/
def TH (u g : Nat → Nat) : Prop := grd u ∧ (∀ i, 1 ≤ i → i ≤ 12 → fig u i = some (g i)) ∧ fdp (fun j => xa_4 (nI j) = nI (tR u 7)) 10 = some (g 0) ∧ ckS g 13 % 10 = 0
theorem TH_one {u g g' : Nat → Nat} (h : TH u g) (h' : TH u g') : ∀ k, k < 13 → g k = g' k := by
  intro k hk
  by_cases c : k = 0
  · subst c
    have := h.2.2.1.symm.trans h'.2.2.1
    exact Option.some.inj this
  · have := (h.2.1 k (by omega) (by omega)).symm.trans (h'.2.1 k (by omega) (by omega))
    exact Option.some.inj this
theorem fig_lt {u : Nat → Nat} {i j : Nat} (h : fig u i = some j) : j < 10 := by
  unfold fig at h
  cases e : figA u i with
  | some k =>
    rw [e] at h
    cases h
    exact (fdp_some 10 _ e).1
  | none =>
    rw [e] at h
    by_cases c : 7 ≤ i
    · simp only [if_pos c] at h
      cases h
    · simp only [if_neg c] at h
      exact (fdp_some 10 _ h).1
theorem tz_or : ∀ i : Fin 7, ∀ t : Fin 64, t.val % 2 ^ (7 - i.val) = 0 → nI t.val ||| ((1 : Int32) <<< (((6 : Int32) - nI i.val) &&& 31)) = nI (t.val + 2 ^ (6 - i.val)) := by decide +kernel
theorem gf_n {i : Nat} (h1 : 1 ≤ i) (h2 : i ≤ 12) : ((if 7 ≤ nI i then (((4 : Int32) * nI i) + 4) else (((4 : Int32) * nI i) - 1)) : Int32) = nI (gf i) ∧ gf i + 4 ≤ 59 := by
  unfold gf
  have e4 : (4 : Int32) = nI 4 := rfl
  by_cases c : 7 ≤ i
  · have z : (7 : Int32) ≤ nI i := nI_le (a := 7) c (by omega)
    rw [if_pos c, if_pos z, e4, nI_mul, nI_add]
    exact ⟨rfl, by omega⟩
  · have z : ¬ (7 : Int32) ≤ nI i := nI_ge (b := 7) (by omega) (by omega)
    rw [if_neg c, if_neg z]
    refine ⟨?_, by omega⟩
    have e1 : (1 : Int32) = iZ 1 := rfl
    rw [e4, nI_mul, iZ_nI, e1, iZ_sub, iZ_nI]
    congr 1
    omega
/-- the class: one figure -/
theorem s_fig1 {M : im_M} {u : Nat → Nat} (q : WH M u 59) {i : Nat} (h1 : 1 ≤ i) (h2 : i ≤ 12) : ed (f_HBars_readFigures_L13 (nI (tR u (cap7 i) * 2 ^ (7 - i))) (nI i) M) (fun r => match r with
    | .inl s => ∃ j, fig u i = some j ∧ s.1 = nI (tR u (cap7 (i + 1)) * 2 ^ (7 - (i + 1))) ∧ s.2.1 = nI (i + 1) ∧ im_i s.2.2 37 i = nI j ∧ (∀ k, ¬ k = i → im_i s.2.2 37 k = im_i M 37 k) ∧ fr (2 ^ 37) [] M s.2.2
    | .inr (.inl _) => False
    | .inr (.inr s) => s.1 = 0 ∧ fig u i = none ∧ fr (2 ^ 37) [] M s.2) := by
  unfold f_HBars_readFigures_L13
  obtain ⟨e1, e2⟩ := gf_n h1 h2
  have z13 : ¬ (13 : Int32) ≤ nI i := nI_ge (b := 13) (by omega) (by omega)
  have e4 : (4 : Int32) = nI 4 := rfl
  have e7 : (7 : Int32) = nI 7 := rfl
  have pat : f_HBars_patternAt (nI (gf i)) 4 7 M = some (pv (rw4 u i) 4) := s_patH q (a := gf i) (c := 4) (m := 7) e2 (by omega) (by omega) (by omega)
  have eI : f_HBars_indexOf (pv (rw4 u i) 4) M = some (oI (figA u i)) := s_idx
  have eJ : ∀ N, f_HBars_indexOf_1 (pv (rw4 u i) 4) N = some (oI (figB u i)) := fun N => s_idx1
  rw [if_neg z13, e1, pat, bd1_s, eI, bd1_s]
  have ig : inb (nI i) 13 := by rw [inb_nI (by omega)]; omega
  rw [gd_pos ig, gd_pos ig]
  simp only [nI_clamp (show i < 2147483648 by omega)]
  have rd : ∀ v : Int32, im_i (im_setI M 37 i v) 37 i = v := fun v => by simp [mi_I]
  have rd2 : ∀ v v' : Int32, im_i (im_setI (im_setI M 37 i v) 37 i v') 37 i = v' := fun v v' => by simp [mi_I]
  show ed (bd2 (if ¬ im_i (im_setI M 37 i (oI (figA u i))) 37 i = -1 then _ else _) _) _
  rw [rd]
  have nj : ∀ {j : Nat}, j < 10 → ¬ nI j = -1 := fun {j} hj z => absurd (show nI j < 0 by rw [z]; decide) (nI_pos (by omega))
  have ho : ∀ (N : im_M) (v v' : Int32), N = im_setI M 37 i v ∨ N = im_setI (im_setI M 37 i v) 37 i v' → (∀ k, ¬ k = i → im_i N 37 k = im_i M 37 k) ∧ fr (2 ^ 37) [] M N := by
    intro N v v' hN
    rcases hN with rfl | rfl
    · exact ⟨fun k hk => by simp [mi_I, hk], fr_I (by decide) fr_refl⟩
    · exact ⟨fun k hk => by simp [mi_I, hk], fr_I (by decide) (fr_I (by decide) fr_refl)⟩
  have hpow : ∀ {x : Nat}, 7 ≤ i → x * 2 ^ (7 - i) = x * 2 ^ (7 - (i + 1)) := by
    intro x h7
    rw [show 7 - i = 0 by omega, show 7 - (i + 1) = 0 by omega]
  cases eA : figA u i with
  | some j =>
    have hj : j < 10 := (fdp_some 10 _ eA).1
    rw [if_pos (show ¬ oI (some j) = -1 from nj hj), bd2_s, gd_pos ig, rd, if_pos (show ¬ oI (some j) = -1 from nj hj), nI_1]
    refine ed_mk ⟨j, by unfold fig; rw [eA], ?_, rfl, rd _, (ho _ _ 0 (Or.inl rfl)).1, (ho _ _ 0 (Or.inl rfl)).2⟩
    show nI _ = nI _
    congr 1
    by_cases c : 7 ≤ i
    · unfold cap7
      rw [if_pos c, if_pos (by omega), hpow c]
    · unfold cap7
      rw [if_neg c]
      have : tR u (i + 1) = 2 * tR u i := by
        show 2 * tR u i + (if 1 ≤ i ∧ figA u i = none then 1 else 0) = _
        rw [if_neg (fun z => by rw [eA] at z; exact absurd z.2 (by simp))]
        rfl
      have e7' : (if 7 ≤ i + 1 then 7 else i + 1) = i + 1 := by split <;> omega
      rw [e7', this, show 7 - i = (7 - (i + 1)) + 1 by omega, Nat.pow_succ]
      rw [Nat.mul_comm (2 ^ _) 2, ← Nat.mul_assoc, Nat.mul_comm _ 2]
  | none =>
    rw [if_neg (show ¬ ¬ oI none = -1 from fun z => z rfl)]
    by_cases c : 7 ≤ i
    · have z7 : (7 : Int32) ≤ nI i := nI_le (a := 7) c (by omega)
      rw [if_pos z7, bd2_s, gd_pos ig, rd, if_neg (show ¬ ¬ oI none = -1 from fun z => z rfl)]
      refine ed_mk ⟨rfl, ?_, (ho _ _ 0 (Or.inl rfl)).2⟩
      unfold fig
      rw [eA]
      simp only [if_pos c]
    · have z7 : ¬ (7 : Int32) ≤ nI i := nI_ge (b := 7) (by omega) (by omega)
      rw [if_neg z7, eJ, bd1_s, gd_pos ig, bd2_s, gd_pos ig, rd2]
      have ef : fig u i = figB u i := by
        unfold fig
        rw [eA]
        simp only [if_neg c]
      show ed (if ¬ oI (figB u i) = -1 then _ else _) _
      cases eB : figB u i with
      | none =>
        rw [if_neg (show ¬ ¬ oI none = -1 from fun z => z rfl)]
        exact ed_mk ⟨rfl, by rw [ef, eB], (ho _ _ _ (Or.inr rfl)).2⟩
      | some j =>
        have hj : j < 10 := (fdp_some 10 _ eB).1
        rw [if_pos (show ¬ oI (some j) = -1 from nj hj), nI_1]
        refine ed_mk ⟨j, by rw [ef, eB], ?_, rfl, ?_, (ho _ _ _ (Or.inr rfl)).1, (ho _ _ _ (Or.inr rfl)).2⟩
        · show nI _ ||| _ = nI _
          have hc7 : cap7 i = i := by unfold cap7; rw [if_neg c]
          have hc8 : cap7 (i + 1) = i + 1 := by unfold cap7; split <;> omega
          have hlt : tR u i * 2 ^ (7 - i) < 64 := by
            have := tR_lt (u := u) (i - 1)
            rw [show i - 1 + 1 = i by omega] at this
            calc tR u i * 2 ^ (7 - i) < 2 ^ (i - 1) * 2 ^ (7 - i) := Nat.mul_lt_mul_of_pos_right this (Nat.two_pow_pos _)
              _ = 64 := by rw [← Nat.pow_add, show i - 1 + (7 - i) = 6 by omega]
          have := tz_or ⟨i, by omega⟩ ⟨tR u i * 2 ^ (7 - i), hlt⟩ (Nat.mul_mod_left _ _)
          rw [hc7, hc8]
          refine this.trans ?_
          congr 1
          have e : tR u (i + 1) = 2 * tR u i + 1 := by
            show 2 * tR u i + (if 1 ≤ i ∧ figA u i = none then 1 else 0) = _
            rw [if_pos ⟨h1, eA⟩]
          show tR u i * 2 ^ (7 - i) + 2 ^ (6 - i) = tR u (i + 1) * 2 ^ (7 - (i + 1))
          rw [e, show 7 - (i + 1) = 6 - i by omega, show 7 - i = (6 - i) + 1 by omega, Nat.pow_succ, Nat.add_mul, Nat.one_mul, Nat.mul_comm (2 ^ _) 2, ← Nat.mul_assoc, Nat.mul_comm _ 2]
        · exact rd2 _ _
