/-! THE LEAST NEXT SYMBOL -/
def ech (s : Nat) : Nat := if s = 2 then 2 else 1
abbrev lsA (t : Nat → Nat) (n i s : Nat) : Prop := (syT t n i s).isSome = true ∧ 1 + FW t n (i + ech s) s = FW t n i s
abbrev lsB (t : Nat → Nat) (n i s : Nat) : Prop := (¬ s = 2 ∧ (syT t n i (1 - s)).isSome = true) ∧ 2 + FW t n (i + 1) s = FW t n i s
abbrev lsG (t : Nat → Nat) (n i s r : Nat) : Prop := ¬ s = r ∧ 1 + FW t n i r = FW t n i s
def lsT (t : Nat → Nat) (n i s : Nat) : Nat := if lsA t n i s then (syT t n i s).getD 0 else if lsB t n i s then 98 else if lsG t n i s 2 then 99 else if lsG t n i s 1 then 100 else if lsG t n i s 0 then 101 else 102
theorem wV_ne {t : Nat → Nat} {n i s c : Nat} (h9 : FW t n i s < 9999) (hc : c ≠ 102) (hA : syT t n i s = some c → 1 + FW t n (i + ech s) s ≠ FW t n i s) (hB : c = 98 → ¬ lsB t n i s) (hG : ∀ r, goV s c = some r → ¬ lsG t n i s r) : wV t n (FW t n) i s c ≠ FW t n i s := by
  unfold wV
  have te : tel t n i s c = if syT t n i s = some c then ech s else 0 := by
    unfold tel ech
    rw [if_neg hc]
  rw [te]
  by_cases a : syT t n i s = some c
  · have e0 : 0 < ech s := by unfold ech; split <;> omega
    rw [if_pos a, if_pos e0]
    exact hA a
  · rw [if_neg a, if_neg (by omega)]
    cases g : goV s c with
    | some r =>
      show 1 + FW t n i r ≠ FW t n i s
      exact fun z => hG r g ⟨fun e => (goV_lt g).2.1 e.symm, z⟩
    | none =>
      show (if c = 98 ∧ ¬ s = 2 ∧ (syT t n i (1 - s)).isSome = true then 2 + FW t n (i + 1) s else 9999) ≠ _
      by_cases b : c = 98 ∧ ¬ s = 2 ∧ (syT t n i (1 - s)).isSome = true
      · rw [if_pos b]
        exact fun z => hB b.1 ⟨b.2, z⟩
      · rw [if_neg b]
        omega
/-- what the least next symbol is -/
theorem ls_case {t : Nat → Nat} {n i s : Nat} (hn : n ≤ 64) (ht : ∀ i, i < n → t i ≤ 128) (hi : i < n) (hs : s < 3) : (∃ c, lsT t n i s = c ∧ syT t n i s = some c ∧ FW t n i s = 1 + FW t n (i + ech s) s) ∨ (lsT t n i s = 98 ∧ ¬ s = 2 ∧ (syT t n i (1 - s)).isSome = true ∧ FW t n i s = 2 + FW t n (i + 1) s ∧ ¬ lsA t n i s) ∨ (lsT t n i s = 102 ∧ t i = 128 ∧ FW t n i s = 1 + FW t n (i + 1) s ∧ ∀ q, q < 3 → ¬ lsG t n i s q) ∨ (∃ r, r < 3 ∧ r ≠ s ∧ lsT t n i s = 101 - r ∧ FW t n i s = 1 + FW t n i r ∧ ¬ lsA t n i s ∧ ¬ lsB t n i s ∧ ∀ q, r < q → q < 3 → ¬ lsG t n i s q) := by
  have b2 := FW_2 ht (n - i) i s rfl hs
  unfold lsT
  by_cases A : lsA t n i s
  · left
    rw [if_pos A]
    obtain ⟨c, hc⟩ := Option.isSome_iff_exists.mp A.1
    exact ⟨c, by rw [hc]; rfl, hc, A.2.symm⟩
  · rw [if_neg A]
    right
    by_cases B : lsB t n i s
    · left
      rw [if_pos B]
      exact ⟨rfl, B.1.1, B.1.2, B.2.symm, A⟩
    · rw [if_neg B]
      right
      by_cases G2 : lsG t n i s 2
      · right
        rw [if_pos G2]
        exact ⟨2, by omega, fun e => G2.1 e.symm, rfl, G2.2.symm, A, B, fun q h1 h2 => absurd h1 (by omega)⟩
      · rw [if_neg G2]
        by_cases G1 : lsG t n i s 1
        · right
          rw [if_pos G1]
          refine ⟨1, by omega, fun e => G1.1 e.symm, rfl, G1.2.symm, A, B, fun q h1 h2 => ?_⟩
          obtain rfl : q = 2 := by omega
          exact G2
        · rw [if_neg G1]
          by_cases G0 : lsG t n i s 0
          · right
            rw [if_pos G0]
            refine ⟨0, by omega, fun e => G0.1 e.symm, rfl, G0.2.symm, A, B, fun q h1 h2 => ?_⟩
            have : q = 1 ∨ q = 2 := by omega
            rcases this with rfl | rfl
            · exact G1
            · exact G2
          · left
            rw [if_neg G0]
            have own : FW t n i s = BY t n i s := by
              rcases FW_at (t := t) hi hs with h | ⟨r, hr, hrs, h⟩
              · exact h
              · exfalso
                have h1 := (FW_by (t := t) hi hr hr).1
                have h2 := FW_go (t := t) hi hs hr
                have g : lsG t n i s r := ⟨fun e => hrs e.symm, by omega⟩
                have : r = 0 ∨ r = 1 ∨ r = 2 := by omega
                rcases this with rfl | rfl | rfl
                · exact G0 g
                · exact G1 g
                · exact G2 g
            unfold BY byV at own
            by_cases c : t i = 128
            · rw [if_pos c] at own
              refine ⟨rfl, c, own, fun q hq => ?_⟩
              have : q = 0 ∨ q = 1 ∨ q = 2 := by omega
              rcases this with rfl | rfl | rfl
              · exact G0
              · exact G1
              · exact G2
            · exfalso
              rw [if_neg c] at own
              by_cases d1 : (syT t n i s).isSome = true
              · rw [if_pos d1] at own
                have nA : ¬ 1 + FW t n (i + ech s) s = FW t n i s := fun z => A ⟨d1, z⟩
                have e1 : (if s = 2 then FW t n (i + 2) s else FW t n (i + 1) s) = FW t n (i + ech s) s := by unfold ech; split <;> rfl
                rw [e1] at own
                by_cases d2 : ¬ s = 2 ∧ (syT t n i (1 - s)).isSome = true
                · rw [if_pos d2] at own
                  have nB : ¬ 2 + FW t n (i + 1) s = FW t n i s := fun z => B ⟨d2, z⟩
                  omega
                · rw [if_neg d2] at own
                  omega
              · rw [if_neg d1] at own
                by_cases d2 : ¬ s = 2 ∧ (syT t n i (1 - s)).isSome = true
                · rw [if_pos d2] at own
                  have nB : ¬ 2 + FW t n (i + 1) s = FW t n i s := fun z => B ⟨d2, z⟩
                  omega
                · rw [if_neg d2] at own
                  omega
