/-! WHERE A ROW BEGINS -/
def s0F (t : Nat → Nat) (n : Nat) : Nat := if FW t n 0 1 < FW t n 0 0 then (if FW t n 0 2 < FW t n 0 1 then 2 else 1) else (if FW t n 0 2 < FW t n 0 0 then 2 else 0)
theorem s0_lt {t : Nat → Nat} {n : Nat} : s0F t n < 3 := by
  unfold s0F
  split
  · split <;> omega
  · split <;> omega
theorem s0_min {t : Nat → Nat} {n s : Nat} (hs : s < 3) : FW t n 0 (s0F t n) ≤ FW t n 0 s := by
  have c : s = 0 ∨ s = 1 ∨ s = 2 := by omega
  unfold s0F
  by_cases a : FW t n 0 1 < FW t n 0 0
  · rw [if_pos a]
    by_cases b : FW t n 0 2 < FW t n 0 1
    · rw [if_pos b]
      rcases c with rfl | rfl | rfl <;> omega
    · rw [if_neg b]
      rcases c with rfl | rfl | rfl <;> omega
  · rw [if_neg a]
    by_cases b : FW t n 0 2 < FW t n 0 0
    · rw [if_pos b]
      rcases c with rfl | rfl | rfl <;> omega
    · rw [if_neg b]
      rcases c with rfl | rfl | rfl <;> omega
theorem s0_128 {t : Nat → Nat} {n : Nat} (hn : n ≤ 64) (ht : ∀ i, i < n → t i ≤ 128) : FW t n 0 (s0F t n) ≤ 128 := by
  by_cases c : 0 < n
  · obtain ⟨r, hr, h⟩ := BY_some (t := t) (n := n) (i := 0) c (ht 0 c)
    have h1 := (FW_by (t := t) c (show r < 3 by omega) (show r < 3 by omega)).1
    have h2 := FW_2 ht (n - 1) 1 r rfl (by omega)
    have h3 := s0_min (t := t) (n := n) (show r < 3 by omega)
    have h4 : FW t n (0 + 1) r = FW t n 1 r := rfl
    omega
  · obtain rfl : n = 0 := by omega
    rw [FW_n]
    exact Nat.zero_le _
theorem s_startC {M : im_M} {t : Nat → Nat} {n : Nat} (hn : n ≤ 64) (ht : ∀ i, i < n → t i ≤ 128) (hc : CFW M n t 0) : lp (uc2 (f_HBars_chooseSymbols_L4 M)) (0, 1) = some (nI (s0F t n)) := by
  have v : ∀ s, s < 3 → im_i M 35 s = nI (FW t n 0 s) := fun s hs => by
    have := hc 0 s (Nat.le_refl _) (Nat.zero_le _) hs
    rw [show 3 * 0 + s = s by omega] at this
    exact this
  have b : ∀ s, s < 3 → FW t n 0 s < 1000 := fun s hs => by
    have := FW_2 ht (n - 0) 0 s rfl hs
    omega
  have stp : ∀ a c : Nat, a < 3 → c < 3 → f_HBars_chooseSymbols_L4 M (nI a) (nI c) = some (Sum.inl (nI (if FW t n 0 c < FW t n 0 a then c else a), nI (c + 1))) := fun a c ha hc3 => by
    unfold f_HBars_chooseSymbols_L4
    have k : ¬ (3 : Int32) ≤ nI c := by rw [show (3 : Int32) = nI 3 from rfl, nIl (by omega) (by omega)]; omega
    have b1 := b a ha
    have b2 := b c hc3
    rw [if_neg k, gd_pos (by rw [inb_nI (by omega)]; omega), gd_pos (by rw [inb_nI (by omega)]; omega), nI_clamp (by omega), nI_clamp (by omega), v a ha, v c hc3, if_nIl (by omega) (by omega)]
    by_cases z : FW t n 0 c < FW t n 0 a
    · rw [if_neg (by omega), if_pos z]
      exact congrArg (fun y => some (Sum.inl (nI c, y))) (nI_add c 1)
    · rw [if_pos (by omega), if_neg z]
      exact congrArg (fun y => some (Sum.inl (nI a, y))) (nI_add c 1)
  obtain ⟨a1, ha1⟩ : ∃ a1 : Nat, a1 = if FW t n 0 1 < FW t n 0 0 then 1 else 0 := ⟨_, rfl⟩
  have la : a1 < 3 := by rw [ha1]; split <;> omega
  have es : s0F t n = (if FW t n 0 2 < FW t n 0 a1 then 2 else a1) := by
    rw [ha1]
    unfold s0F
    by_cases z : FW t n 0 1 < FW t n 0 0
    · rw [if_pos z, if_pos z]
    · rw [if_neg z, if_neg z]
  have e1 := stp 0 1 (by omega) (by omega)
  rw [← ha1, show 1 + 1 = 2 from rfl] at e1
  have e2 := stp a1 2 la (by omega)
  rw [← es, show 2 + 1 = 3 from rfl] at e2
  generalize s0F t n = z0 at e2 ⊢
  have e3 : f_HBars_chooseSymbols_L4 M (nI z0) (nI 3) = some (Sum.inr (nI z0)) := by
    unfold f_HBars_chooseSymbols_L4
    rw [if_pos (by decide)]
  generalize nI 3 = w3 at e2 e3
  generalize nI 2 = w2 at e1 e2
  show lp (uc2 (f_HBars_chooseSymbols_L4 M)) (nI 0, nI 1) = _
  exact lp_l (s' := (nI a1, w2)) e1 (lp_l (s' := (nI z0, w3)) e2 (lp_r e3))
theorem app_lt {q U : Nat → Nat} {k : Nat} {B : Nat} (h : ∀ l, l < k → q l < B) (hU : U 0 < B) : ∀ l, l < k + 1 → app q k U l < B := fun l hl => by
  unfold app
  by_cases c : l < k
  · rw [if_pos c]; exact h l c
  · rw [if_neg c, show l - k = 0 by omega]; exact hU
/-- every symbol of the row is one -/
theorem itS_b {t : Nat → Nat} {n s0 : Nat} {q0 : Nat → Nat} (hn : n ≤ 64) (ht : ∀ i, i < n → t i ≤ 128) (hs : s0 < 3) (h0 : q0 0 < 106) : ∀ j, (itS t n (q0, 1, 0, s0) j).2.2.1 ≤ n ∧ (itS t n (q0, 1, 0, s0) j).2.2.2 < 3 ∧ ∀ l, l < (itS t n (q0, 1, 0, s0) j).2.1 → (itS t n (q0, 1, 0, s0) j).1 l < 106 := by
  intro j
  induction j with
  | zero =>
    refine ⟨Nat.zero_le _, hs, fun l hl => ?_⟩
    replace hl : l < 1 := hl
    obtain rfl : l = 0 := by omega
    exact h0
  | succ j ih =>
    show (pst t n (itS t n (q0, 1, 0, s0) j)).2.2.1 ≤ n ∧ (pst t n (itS t n (q0, 1, 0, s0) j)).2.2.2 < 3 ∧ ∀ l, l < (pst t n (itS t n (q0, 1, 0, s0) j)).2.1 → (pst t n (itS t n (q0, 1, 0, s0) j)).1 l < 106
    generalize itS t n (q0, 1, 0, s0) j = x at ih ⊢
    obtain ⟨q, k, i, s⟩ := x
    obtain ⟨i1, i2, i3⟩ := ih
    replace i1 : i ≤ n := i1
    replace i2 : s < 3 := i2
    replace i3 : ∀ l, l < k → q l < 106 := i3
    by_cases c : n ≤ i
    · have : pst t n (q, k, i, s) = (q, k, i, s) := by
        unfold pst
        exact if_pos c
      rw [this]
      exact ⟨i1, i2, i3⟩
    · rcases pst_case (q := q) (k := k) hn ht (show i < n by omega) i2 with ⟨d, hd, _, _, _, hle, hp⟩ | ⟨d, hd, _, _, _, _, _, hp⟩ | ⟨_, _, _, _, hp⟩ | ⟨r, hr, _, _, _, _, hp⟩
      · rw [hp]
        exact ⟨hle, i2, app_lt (U := fun _ => d) i3 (show d < 106 by omega)⟩
      · rw [hp]
        exact ⟨(show i + 1 ≤ n by omega), i2, app_lt (k := k + 1) (U := fun _ => d) (app_lt (U := fun _ => 98) i3 (show 98 < 106 by omega)) (show d < 106 by omega)⟩
      · rw [hp]
        exact ⟨(show i + 1 ≤ n by omega), i2, app_lt (U := fun _ => 102) i3 (show 102 < 106 by omega)⟩
      · rw [hp]
        exact ⟨i1, hr, app_lt (U := fun _ => 101 - r) i3 (show 101 - r < 106 by omega)⟩
