/-! THE FEWEST SYMBOLS: WHAT THEY ARE -/
def BY (t : Nat → Nat) (n i s : Nat) : Nat := byV t n i s (FW t n (i + 1)) (FW t n (i + 2))
theorem FW_by {t : Nat → Nat} {n i s r : Nat} (hi : i < n) (hs : s < 3) (hr : r < 3) : FW t n i s ≤ BY t n i s ∧ FW t n i s ≤ 1 + BY t n i r := by
  rw [FW_s hi]
  show stepF (BY t n i) s ≤ _ ∧ stepF (BY t n i) s ≤ _
  generalize BY t n i = x
  have e0 : stepF x 0 = min (x 0) (1 + min (x 1) (x 2)) := rfl
  have e1 : stepF x 1 = min (x 1) (1 + min (x 0) (x 2)) := rfl
  have e2 : stepF x 2 = min (x 2) (1 + min (x 0) (x 1)) := rfl
  have c1 : s = 0 ∨ s = 1 ∨ s = 2 := by omega
  have c2 : r = 0 ∨ r = 1 ∨ r = 2 := by omega
  rcases c1 with rfl | rfl | rfl <;> rcases c2 with rfl | rfl | rfl <;> omega
theorem FW_at {t : Nat → Nat} {n i s : Nat} (hi : i < n) (hs : s < 3) : FW t n i s = BY t n i s ∨ ∃ r, r < 3 ∧ r ≠ s ∧ FW t n i s = 1 + BY t n i r := by
  rw [FW_s hi]
  show stepF (BY t n i) s = _ ∨ ∃ r, r < 3 ∧ r ≠ s ∧ stepF (BY t n i) s = _
  unfold stepF
  have c1 : s = 0 ∨ s = 1 ∨ s = 2 := by omega
  have mn : ∀ a b c : Nat, min a (1 + min b c) = a ∨ min a (1 + min b c) = 1 + b ∨ min a (1 + min b c) = 1 + c := fun a b c => by omega
  rcases c1 with rfl | rfl | rfl
  · rcases mn (BY t n i 0) (BY t n i 1) (BY t n i 2) with h | h | h
    · exact Or.inl h
    · exact Or.inr ⟨1, by omega, by omega, h⟩
    · exact Or.inr ⟨2, by omega, by omega, h⟩
  · rcases mn (BY t n i 1) (BY t n i 0) (BY t n i 2) with h | h | h
    · exact Or.inl h
    · exact Or.inr ⟨0, by omega, by omega, h⟩
    · exact Or.inr ⟨2, by omega, by omega, h⟩
  · rcases mn (BY t n i 2) (BY t n i 0) (BY t n i 1) with h | h | h
    · exact Or.inl h
    · exact Or.inr ⟨0, by omega, by omega, h⟩
    · exact Or.inr ⟨1, by omega, by omega, h⟩
theorem FW_go {t : Nat → Nat} {n i s r : Nat} (hi : i < n) (hs : s < 3) (hr : r < 3) : FW t n i s ≤ 1 + FW t n i r := by
  rcases FW_at (t := t) hi hr with h | ⟨q, hq, _, h⟩
  · rw [h]; exact (FW_by hi hs hr).2
  · have := (FW_by (t := t) hi hs hq).2
    omega
/-- a sign can be told in some set -/
theorem BY_some {t : Nat → Nat} {n i : Nat} (hi : i < n) (ht : t i ≤ 128) : ∃ s, s < 2 ∧ BY t n i s ≤ 1 + FW t n (i + 1) s := by
  have core : ∀ s, s < 2 → (t i = 128 ∨ (syT t n i s).isSome = true) → BY t n i s ≤ 1 + FW t n (i + 1) s := fun s hs h => by
    unfold BY byV
    by_cases c : t i = 128
    · rw [if_pos c]; exact Nat.le_refl _
    · rw [if_neg c]
      have h2 : (syT t n i s).isSome = true := by
        rcases h with h | h
        · exact absurd h c
        · exact h
      refine Nat.le_trans (Nat.min_le_left _ _) ?_
      rw [if_pos h2, if_neg (by omega)]
      exact Nat.le_refl _
  by_cases c : t i = 128
  · exact ⟨0, by omega, core 0 (by omega) (Or.inl c)⟩
  · by_cases d : t i < 96
    · refine ⟨0, by omega, core 0 (by omega) (Or.inr ?_)⟩
      unfold syT
      rw [if_neg (by omega)]
      by_cases e : t i < 32
      · rw [if_pos e, if_pos rfl]; rfl
      · rw [if_neg e, if_pos rfl, if_pos d]; rfl
    · refine ⟨1, by omega, core 1 (by omega) (Or.inr ?_)⟩
      unfold syT
      rw [if_neg (by omega), if_neg (by omega), show (if (1 : Nat) = 0 then 96 else 128) = 128 from rfl, if_pos (by omega)]; rfl
theorem FW_2 {t : Nat → Nat} {n : Nat} (ht : ∀ i, i < n → t i ≤ 128) : ∀ m i s, n - i = m → s < 3 → FW t n i s ≤ 2 * m + 1 := by
  intro m
  induction m with
  | zero =>
    intro i s hm _
    unfold FW
    rw [hm]
    exact Nat.zero_le _
  | succ m ih =>
    intro i s hm hs
    obtain ⟨r, hr, h⟩ := BY_some (t := t) (n := n) (i := i) (by omega) (ht i (by omega))
    have h1 := (FW_by (t := t) (n := n) (i := i) (by omega) hs (show r < 3 by omega)).2
    have h2 := ih (i + 1) r (by omega) (by omega)
    omega
/-- which sign or signs the symbol c tells -/
def tel (t : Nat → Nat) (n i s c : Nat) : Nat := if c = 102 then (if t i = 128 then 1 else 0) else if syT t n i s = some c then (if s = 2 then 2 else 1) else 0
def goV (s c : Nat) : Option Nat := if c = 99 ∧ ¬ s = 2 then some 2 else if c = 100 ∧ ¬ s = 1 then some 1 else if c = 101 ∧ ¬ s = 0 then some 0 else none
def wV (t : Nat → Nat) (n : Nat) (a : Nat → Nat → Nat) (i s c : Nat) : Nat := if 0 < tel t n i s c then 1 + a (i + tel t n i s c) s else match goV s c with
  | some r => 1 + a i r
  | none => if c = 98 ∧ ¬ s = 2 ∧ (syT t n i (1 - s)).isSome = true then 2 + a (i + 1) s else 9999
theorem goV_lt {s c r : Nat} (h : goV s c = some r) : r < 3 ∧ r ≠ s ∧ c + r = 101 := by
  unfold goV at h
  by_cases a : c = 99 ∧ ¬ s = 2
  · rw [if_pos a] at h; injection h with h; omega
  · rw [if_neg a] at h
    by_cases b : c = 100 ∧ ¬ s = 1
    · rw [if_pos b] at h; injection h with h; omega
    · rw [if_neg b] at h
      by_cases d : c = 101 ∧ ¬ s = 0
      · rw [if_pos d] at h; injection h with h; omega
      · rw [if_neg d] at h; cases h
theorem goV_of {s r : Nat} (hr : r < 3) (h : r ≠ s) : goV s (101 - r) = some r := by
  unfold goV
  have : r = 0 ∨ r = 1 ∨ r = 2 := by omega
  rcases this with rfl | rfl | rfl
  · rw [if_neg (by omega), if_neg (by omega), if_pos (by omega)]
  · rw [if_neg (by omega), if_pos (by omega)]
  · rw [if_pos (by omega)]
theorem tel_le {t : Nat → Nat} {n i s c : Nat} (hi : i < n) : i + tel t n i s c ≤ n := by
  unfold tel
  split
  · split <;> omega
  · split
    · rename_i h
      have := (syT_lt h).2.2.1
      split
      · have := this (by assumption)
        omega
      · omega
    · omega
theorem st_le {t : Nat → Nat} {n i s c : Nat} (h : syT t n i s = some c) : BY t n i s ≤ 1 + FW t n (i + (if s = 2 then 2 else 1)) s := by
  unfold BY byV
  have l := syT_lt h
  rw [if_neg (by omega)]
  refine Nat.le_trans (Nat.min_le_left _ _) ?_
  rw [h, if_pos (show (some c).isSome = true from rfl)]
  split <;> exact Nat.le_refl _
/-- nothing is shorter -/
theorem FW_w {t : Nat → Nat} {n i s c : Nat} {a : Nat → Nat → Nat} (hn : n ≤ 64) (hi : i < n) (hs : s < 3) (ha : ∀ i s, i ≤ n → s < 3 → FW t n i s ≤ a i s) : FW t n i s ≤ wV t n a i s c := by
  have b0 := (FW_by (t := t) hi hs hs).1
  have bn := FW_b (t := t) (n := n) (n - i) i s rfl hs
  unfold wV
  by_cases c1 : 0 < tel t n i s c
  · rw [if_pos c1]
    have tl := tel_le (t := t) (s := s) (c := c) hi
    have g := ha (i + tel t n i s c) s tl hs
    refine Nat.le_trans b0 (Nat.le_trans ?_ (Nat.add_le_add_left g 1))
    unfold tel at c1 ⊢
    by_cases c2 : c = 102
    · rw [if_pos c2] at c1 ⊢
      by_cases c3 : t i = 128
      · rw [if_pos c3]
        unfold BY byV
        rw [if_pos c3]
        exact Nat.le_refl _
      · rw [if_neg c3] at c1; omega
    · rw [if_neg c2] at c1 ⊢
      by_cases c3 : syT t n i s = some c
      · rw [if_pos c3]
        exact st_le c3
      · rw [if_neg c3] at c1; omega
  · rw [if_neg c1]
    cases e : goV s c with
    | some r =>
      have l := goV_lt e
      have := FW_go (t := t) hi hs l.1
      have := ha i r (by omega) l.1
      show _ ≤ 1 + a i r
      omega
    | none =>
      show _ ≤ (if _ then _ else _)
      by_cases c2 : c = 98 ∧ ¬ s = 2 ∧ (syT t n i (1 - s)).isSome = true
      · rw [if_pos c2]
        refine Nat.le_trans b0 (Nat.le_trans ?_ (Nat.add_le_add_left (ha (i + 1) s (by omega) hs) 2))
        unfold BY byV
        have tn : ¬ t i = 128 := by
          cases e2 : syT t n i (1 - s) with
          | none => rw [e2] at c2; exact absurd c2.2.2 (by decide)
          | some d => have := (syT_lt e2).2.2.2; omega
        rw [if_neg tn]
        refine Nat.le_trans (Nat.min_le_right _ _) ?_
        rw [if_pos c2.2]
        exact Nat.le_refl _
      · rw [if_neg c2]; omega
/-- what cannot be made shorter is the fewest -/
theorem FW_fix {t : Nat → Nat} {n : Nat} {a : Nat → Nat → Nat} (hn : n ≤ 64) (ht : ∀ i, i < n → t i ≤ 128) (ha : ∀ i s, i ≤ n → s < 3 → FW t n i s ≤ a i s) (h0 : ∀ s, s < 3 → a n s = 0) (hw : ∀ i s c, i < n → s < 3 → c < 103 → a i s ≤ wV t n a i s c) : ∀ m i s, n - i = m → i ≤ n → s < 3 → a i s = FW t n i s := by
  intro m
  induction m using Nat.strongRecOn with
  | ind m ih =>
    intro i s hm hi hs
    by_cases c : i < n
    · have nx : ∀ j s, i < j → j ≤ n → s < 3 → a j s = FW t n j s := fun j s h1 h2 h3 => ih (n - j) (by omega) j s rfl h2 h3
      -- told in its own set
      have own : ∀ s, s < 3 → BY t n i s < 1000 → a i s ≤ BY t n i s := fun s hs hb => by
        unfold BY byV at hb ⊢
        by_cases c1 : t i = 128
        · rw [if_pos c1] at hb ⊢
          have w := hw i s 102 c hs (by omega)
          have e : tel t n i s 102 = 1 := by unfold tel; rw [if_pos rfl, if_pos c1]
          unfold wV at w
          rw [e, if_pos (by omega), nx (i + 1) s (by omega) (by omega) hs] at w
          exact w
        · rw [if_neg c1] at hb ⊢
          have st : (syT t n i s).isSome = true → a i s ≤ 1 + (if s = 2 then FW t n (i + 2) s else FW t n (i + 1) s) := fun h => by
            obtain ⟨d, hd⟩ := Option.isSome_iff_exists.mp h
            have l := syT_lt hd
            have w := hw i s d c hs (by omega)
            have e : tel t n i s d = (if s = 2 then 2 else 1) := by unfold tel; rw [if_neg (by omega), if_pos hd]
            unfold wV at w
            rw [e] at w
            by_cases s2 : s = 2
            · have := l.2.2.1 s2
              rw [if_pos s2, if_pos (by omega), nx (i + 2) s (by omega) (by omega) hs] at w
              rw [if_pos s2]; exact w
            · rw [if_neg s2, if_pos (by omega), nx (i + 1) s (by omega) (by omega) hs] at w
              rw [if_neg s2]; exact w
          have sh : (¬ s = 2 ∧ (syT t n i (1 - s)).isSome = true) → a i s ≤ 2 + FW t n (i + 1) s := fun h => by
            have w := hw i s 98 c hs (by omega)
            have e : tel t n i s 98 = 0 := by
              unfold tel
              rw [if_neg (by omega), if_neg]
              intro z
              have := (syT_lt z).2.1 h.1
              omega
            have eg : goV s 98 = none := by unfold goV; rw [if_neg (by omega), if_neg (by omega), if_neg (by omega)]
            unfold wV at w
            rw [e, if_neg (by omega), eg] at w
            replace w : a i s ≤ (if 98 = 98 ∧ ¬ s = 2 ∧ (syT t n i (1 - s)).isSome = true then 2 + a (i + 1) s else 9999) := w
            rw [if_pos ⟨rfl, h⟩, nx (i + 1) s (by omega) (by omega) hs] at w
            exact w
          by_cases d1 : (syT t n i s).isSome = true
          · rw [if_pos d1] at hb ⊢
            have w1 := st d1
            by_cases d2 : ¬ s = 2 ∧ (syT t n i (1 - s)).isSome = true
            · rw [if_pos d2] at hb ⊢
              exact Nat.le_min.mpr ⟨w1, sh d2⟩
            · rw [if_neg d2] at hb ⊢
              exact Nat.le_min.mpr ⟨w1, by omega⟩
          · rw [if_neg d1] at hb ⊢
            by_cases d2 : ¬ s = 2 ∧ (syT t n i (1 - s)).isSome = true
            · rw [if_pos d2] at hb ⊢
              have := sh d2
              exact Nat.le_min.mpr ⟨by omega, this⟩
            · rw [if_neg d2] at hb
              omega
      have b := FW_2 ht (n - i) i s rfl hs
      have lo := ha i s hi hs
      rcases FW_at (t := t) c hs with h | ⟨r, hr, hrs, h⟩
      · have := own s hs (by omega)
        omega
      · have o := own r hr (by omega)
        have w := hw i s (101 - r) c hs (by omega)
        have e : tel t n i s (101 - r) = 0 := by
          unfold tel
          rw [if_neg (by omega), if_neg]
          intro z
          have l := syT_lt z
          by_cases s2 : s = 2
          · omega
          · have := l.2.1 s2
            omega
        unfold wV at w
        rw [e, if_neg (by omega), goV_of hr hrs] at w
        replace w : a i s ≤ 1 + a i r := w
        omega
    · obtain rfl : i = n := by omega
      rw [h0 s hs, FW_n]
