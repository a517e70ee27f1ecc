/-- e is the least (mx: the greatest) f of the dots of E; -1 where there are none -/
def exE (mx : Bool) (f : Nat → Nat → Nat) (E : Nat → Nat → Bool) (e : Int32) : Prop := ((∀ a b, E a b = false) ∧ e = -1) ∨ ∃ m : Nat, m < 512 ∧ e = nI m ∧ (∃ a b, E a b = true ∧ f a b = m) ∧ ∀ a b, E a b = true → (if mx = true then f a b ≤ m else m ≤ f a b)
theorem exE_one {mx : Bool} {f : Nat → Nat → Nat} {E : Nat → Nat → Bool} {e e' : Int32} (h : exE mx f E e) (h' : exE mx f E e') : e = e' := by
  rcases h with ⟨h1, h2⟩ | ⟨m, h1, h2, ⟨a, b, h3, h4⟩, h5⟩
  · rcases h' with ⟨k1, k2⟩ | ⟨m', k1, k2, ⟨a', b', k3, k4⟩, k5⟩
    · rw [h2, k2]
    · rw [h1] at k3
      cases k3
  · rcases h' with ⟨k1, k2⟩ | ⟨m', k1, k2, ⟨a', b', k3, k4⟩, k5⟩
    · rw [k1] at h3
      cases h3
    · have x1 := h5 a' b' k3
      have x2 := k5 a b h3
      have : m = m' := by
        cases mx
        · simp only [Bool.false_eq_true, if_false] at x1 x2
          omega
        · simp only [if_true] at x1 x2
          omega
      rw [h2, k2, this]
/-- one dot more -/
theorem exE_more {mx : Bool} {f : Nat → Nat → Nat} {E E' : Nat → Nat → Bool} {e : Int32} {x y : Nat} (hf : f x y < 512) (h : exE mx f E e) (hE : ∀ a b, E' a b = true ↔ (E a b = true ∨ (a = x ∧ b = y))) : exE mx f E' (if e < 0 then nI (f x y) else (if mx = true then (if nI (f x y) ≤ e then e else nI (f x y)) else (if e ≤ nI (f x y) then e else nI (f x y)))) := by
  rcases h with ⟨h1, h2⟩ | ⟨m, h1, h2, ⟨a, b, h3, h4⟩, h5⟩
  · subst h2
    rw [if_pos (by decide)]
    refine Or.inr ⟨f x y, hf, rfl, ⟨x, y, (hE x y).mpr (Or.inr ⟨rfl, rfl⟩), rfl⟩, ?_⟩
    intro a b hab
    rcases (hE a b).mp hab with z | ⟨rfl, rfl⟩
    · rw [h1] at z
      cases z
    · split <;> exact Nat.le_refl _
  · subst h2
    rw [if_neg (nI_pos (by omega))]
    have c1 : (nI (f x y) ≤ nI m) = (f x y ≤ m) := propext (nI_leI (by omega) (by omega))
    have c2 : (nI m ≤ nI (f x y)) = (m ≤ f x y) := propext (nI_leI (by omega) (by omega))
    simp only [c1, c2]
    cases mx
    · simp only [Bool.false_eq_true, if_false] at h5 ⊢
      by_cases c : m ≤ f x y
      · rw [if_pos c]
        refine Or.inr ⟨m, h1, rfl, ⟨a, b, (hE a b).mpr (Or.inl h3), h4⟩, ?_⟩
        intro a' b' hab
        simp only [Bool.false_eq_true, if_false]
        rcases (hE a' b').mp hab with z | ⟨rfl, rfl⟩
        · exact h5 a' b' z
        · exact c
      · rw [if_neg c]
        refine Or.inr ⟨f x y, hf, rfl, ⟨x, y, (hE x y).mpr (Or.inr ⟨rfl, rfl⟩), rfl⟩, ?_⟩
        intro a' b' hab
        simp only [Bool.false_eq_true, if_false]
        rcases (hE a' b').mp hab with z | ⟨rfl, rfl⟩
        · have := h5 a' b' z
          omega
        · exact Nat.le_refl _
    · simp only [if_true] at h5 ⊢
      by_cases c : f x y ≤ m
      · rw [if_pos c]
        refine Or.inr ⟨m, h1, rfl, ⟨a, b, (hE a b).mpr (Or.inl h3), h4⟩, ?_⟩
        intro a' b' hab
        simp only [if_true]
        rcases (hE a' b').mp hab with z | ⟨rfl, rfl⟩
        · exact h5 a' b' z
        · exact c
      · rw [if_neg c]
        refine Or.inr ⟨f x y, hf, rfl, ⟨x, y, (hE x y).mpr (Or.inr ⟨rfl, rfl⟩), rfl⟩, ?_⟩
        intro a' b' hab
        simp only [if_true]
        rcases (hE a' b').mp hab with z | ⟨rfl, rfl⟩
        · have := h5 a' b' z
          omega
        · exact Nat.le_refl _
theorem exE_eq {mx : Bool} {f : Nat → Nat → Nat} {E E' : Nat → Nat → Bool} {e : Int32} (h : exE mx f E e) (hE : ∀ a b, E a b = E' a b) : exE mx f E' e := by
  have : E = E' := funext fun a => funext fun b => hE a b
  rw [← this]
  exact h
/-- which of the two: x for an even question, y for an odd one -/
def tof (k a b : Nat) : Nat := if k % 2 = 0 then a else b
def tdI (D : Nat → Nat → Bool) (W H k : Nat) (n : Nat) (s : Int32 × Int32 × Int32) : Prop := ∃ y : Nat, y + n = H ∧ s.2.2 = nI y ∧ s.1 = nI (allB D W y) ∧ exE (decide (4 ≤ k)) (tof k) (foD D y 0) s.2.1
def teI (D : Nat → Nat → Bool) (W k y : Nat) (n : Nat) (s : Int32 × Int32 × Int32) : Prop := ∃ x : Nat, x + n = W ∧ s.2.2 = nI x ∧ s.1 = nI (allB D W y + rowB D y x) ∧ exE (decide (4 ≤ k)) (tof k) (foD D y x) s.2.1
theorem s_toldL {M : im_M} {W H : Nat} {D : Nat → Nat → Bool} (q : DR M W H D) {k : Nat} (hk : k ≤ 6) : ed (lp (uc3 (f_MDotRows_told_L65 (nI k) M)) (0, -1, 0)) (fun r => r.1 = nI (allB D W H) ∧ exE (decide (4 ≤ k)) (tof k) D r.2) := by
  have hW := q.1
  have d1 := q.2.2.1
  refine lp_inv (tdI D W H k) ?_ (k := H) ⟨0, by omega, rfl, rfl, Or.inl ⟨fun a b => by unfold foD; rw [if_neg (by omega)], rfl⟩⟩
  rintro n ⟨c, e, i⟩ ⟨y, hy, e1, e2, e3⟩
  replace e1 : i = nI y := e1
  replace e2 : c = nI (allB D W y) := e2
  replace e3 : exE (decide (4 ≤ k)) (tof k) (foD D y 0) e := e3
  subst e1 e2
  show ed (f_MDotRows_told_L65 (nI k) M _ e (nI y)) _
  unfold f_MDotRows_told_L65
  rw [q.2.1.2]
  by_cases h : H ≤ y
  · have hyH : y = H := by omega
    subst hyH
    rw [if_pos (nI_le (Nat.le_refl y) (by omega))]
    refine lpo_r ⟨rfl, exE_eq e3 ?_⟩
    intro a b
    unfold foD
    by_cases z : b < y ∨ (b = y ∧ a < 0)
    · rw [if_pos z]
    · rw [if_neg z]
      cases hd : D a b with
      | false => rfl
      | true =>
        have := d1 a b hd
        omega
  · have hy2 : y < H := by omega
    rw [if_neg (nI_ge hy2 (by omega))]
    apply bd2_mk
    refine ed_mono (lp_inv (teI D W k y) (Q := fun (r : Int32 × Int32) => r.1 = nI (allB D W y + rowB D y W) ∧ exE (decide (4 ≤ k)) (tof k) (foD D (y + 1) 0) r.2) ?_ (k := W) ⟨0, by omega, rfl, rfl, e3⟩) ?_
    · rintro n2 ⟨c2, e', i2⟩ ⟨x, hx, g1, g2, g3⟩
      replace g1 : i2 = nI x := g1
      replace g2 : c2 = nI (allB D W y + rowB D y x) := g2
      replace g3 : exE (decide (4 ≤ k)) (tof k) (foD D y x) e' := g3
      subst g1 g2
      show ed (f_MDotRows_told_L77 (nI k) (nI y) M _ e' (nI x)) _
      unfold f_MDotRows_told_L77
      rw [q.2.1.1]
      by_cases hxx : W ≤ x
      · have hxW : x = W := by omega
        subst hxW
        rw [if_pos (nI_le (Nat.le_refl x) (by omega))]
        refine lpo_r ⟨rfl, exE_eq g3 ?_⟩
        intro a b
        unfold foD
        by_cases z : b < y ∨ (b = y ∧ a < x)
        · rw [if_pos z, if_pos (by omega)]
        · rw [if_neg z]
          by_cases z2 : b < y + 1 ∨ (b = y + 1 ∧ a < 0)
          · rw [if_pos z2]
            cases hd : D a b with
            | false => rfl
            | true =>
              have := d1 a b hd
              omega
          · rw [if_neg z2]
      · have hx2 : x < W := by omega
        have ek : f_MDotRows_isDark (nI x) (nI y) M = some (if D x y = true then 1 else 0) := by
          rw [iZ_nI, iZ_nI, e_isDark q (by omega) (by omega), Dz_nn]
        have ev : ((if ¬ (nI k - nI k / 2 * 2) = 0 then nI y else nI x) : Int32) = nI (tof k x y) := by
          unfold tof
          rcases (show k = 0 ∨ k = 1 ∨ k = 2 ∨ k = 3 ∨ k = 4 ∨ k = 5 ∨ k = 6 by omega) with rfl | rfl | rfl | rfl | rfl | rfl | rfl <;> rfl
        have e4 : ((4 : Int32) ≤ nI k) = (decide (4 ≤ k) = true) := by
          have : ((4 : Int32) ≤ nI k) = (4 ≤ k) := propext (nI_leI (a := 4) (by decide) (by omega))
          rw [this]
          simp
        rw [if_neg (nI_ge hx2 (by omega)), ek, bd1_s]
        by_cases hd : D x y = true
        · rw [if_pos hd, if_neg (by decide), bd2_s, ev, nI_1]
          simp only [e4]
          refine lpo_l (W - (x + 1)) (by omega) ⟨x + 1, by omega, nI_1 x, ?_, exE_more ?_ g3 ?_⟩
          · show nI (allB D W y + rowB D y x + 1) = nI (allB D W y + (rowB D y x + (if D x y = true then 1 else 0)))
            rw [if_pos hd, Nat.add_assoc]
          · unfold tof
            split <;> omega
          · intro a b
            unfold foD
            by_cases z : b < y ∨ (b = y ∧ a < x)
            · rw [if_pos z, if_pos (by omega)]
              exact ⟨Or.inl, fun z2 => z2.elim id (fun z3 => absurd z (by omega))⟩
            · rw [if_neg z]
              by_cases z2 : b < y ∨ (b = y ∧ a < x + 1)
              · have z3 : a = x ∧ b = y := by omega
                obtain ⟨rfl, rfl⟩ := z3
                rw [if_pos z2]
                exact ⟨fun _ => Or.inr ⟨rfl, rfl⟩, fun _ => hd⟩
              · rw [if_neg z2]
                constructor
                · intro z3
                  cases z3
                · intro z3
                  rcases z3 with z4 | z4
                  · cases z4
                  · exact absurd (show b < y ∨ (b = y ∧ a < x + 1) by omega) z2
        · rw [if_neg hd, if_pos rfl, bd2_s]
          refine lpo_l (W - (x + 1)) (by omega) ⟨x + 1, by omega, nI_1 x, ?_, exE_eq g3 ?_⟩
          · show nI (allB D W y + rowB D y x) = nI (allB D W y + (rowB D y x + (if D x y = true then 1 else 0)))
            rw [if_neg hd]
            rfl
          · intro a b
            unfold foD
            by_cases z : b < y ∨ (b = y ∧ a < x)
            · rw [if_pos z, if_pos (by omega)]
            · rw [if_neg z]
              by_cases z2 : b < y ∨ (b = y ∧ a < x + 1)
              · have z3 : a = x ∧ b = y := by omega
                obtain ⟨rfl, rfl⟩ := z3
                rw [if_pos z2]
                simp at hd
                rw [hd]
              · rw [if_neg z2]
    · rintro ⟨c3, e'⟩ ⟨h1, h2⟩
      replace h1 : c3 = nI (allB D W y + rowB D y W) := h1
      subst h1
      exact lpo_l (H - (y + 1)) (by omega) ⟨y + 1, by omega, nI_1 y, rfl, h2⟩
