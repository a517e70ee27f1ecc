/-! WHERE A ROW BEGINS, BY THE REFERENCE -/
def s0c (t : Nat → Nat) (n c : Nat) : Nat := if c ≤ 1 then 0 else if c ≤ 2 then (if FW t n 0 1 < FW t n 0 0 then 1 else 0) else s0F t n
theorem s0c_lt {t : Nat → Nat} {n c : Nat} : s0c t n c < 3 := by
  unfold s0c
  split
  · omega
  · split
    · split <;> omega
    · exact s0_lt
theorem s0c_s {t : Nat → Nat} {n c : Nat} (h : 1 ≤ c ∧ c < 3) : s0c t n (c + 1) = if FW t n 0 c < FW t n 0 (s0c t n c) then c else s0c t n c := by
  have : c = 1 ∨ c = 2 := by omega
  rcases this with rfl | rfl
  · rfl
  · show s0F t n = if FW t n 0 2 < FW t n 0 (if FW t n 0 1 < FW t n 0 0 then 1 else 0) then 2 else (if FW t n 0 1 < FW t n 0 0 then 1 else 0)
    unfold s0F
    by_cases z : FW t n 0 1 < FW t n 0 0
    · rw [if_pos z, if_pos z]
    · rw [if_neg z, if_neg z]
theorem s_startM {M : im_M} {t : Nat → Nat} {n : Nat} (hn : n ≤ 64) (ht : ∀ i, i < n → t i ≤ 128) (hl : LA M n t) (ha : ∀ i s, i ≤ n → s < 3 → aM M i s = FW t n i s) : lp (uc2 (f_MLineRows_pack_L13 M)) (0, 1) = some (nI (s0F t n)) := by
  have b : ∀ s, s < 3 → FW t n 0 s < 1000 := fun s hs => by
    have := FW_2 ht (n - 0) 0 s rfl hs
    omega
  have v : ∀ s, s < 3 → f_MLineRows_leastAt 0 (nI s) M = some (nI (FW t n 0 s)) := fun s hs => by
    rw [show (0 : Int32) = nI 0 from rfl, s_leastAt hl hn (Nat.zero_le _) hs, ha 0 s (Nat.zero_le _) hs]
  have run : ed (lp (uc2 (f_MLineRows_pack_L13 M)) (0, 1)) (fun r => r = nI (s0F t n)) := by
    refine lp_inv (fun m (y : Int32 × Int32) => ∃ c : Nat, c + m = 3 ∧ 1 ≤ c ∧ y.1 = nI (s0c t n c) ∧ y.2 = nI c) ?_ (k := 2) ⟨1, by omega, by omega, rfl, rfl⟩
    rintro m ⟨x3, x4⟩ ⟨c, hc, c1, e1, e2⟩
    replace e1 : x3 = nI (s0c t n c) := e1
    replace e2 : x4 = nI c := e2
    subst e1 e2
    show ed (f_MLineRows_pack_L13 M (nI (s0c t n c)) (nI c)) _
    unfold f_MLineRows_pack_L13
    have k0 : ((2 : Int32) < nI c) = (2 < c) := nIlt (x := 2) (by omega) (by omega)
    simp only [k0]
    by_cases z : 2 < c
    · rw [if_pos z]
      refine lpo_r ?_
      unfold s0c
      rw [if_neg (by omega), if_neg (by omega)]
    · have l := s0c_lt (t := t) (n := n) (c := c)
      have b1 := b _ l
      have b2 := b c (by omega)
      rw [if_neg z, v c (by omega), bd1_s, v _ l, bd1_s, if_nIl (by omega) (by omega)]
      refine lpo_l (m - 1) (by omega) ⟨c + 1, by omega, by omega, ?_, nI_add c 1⟩
      show (if FW t n 0 (s0c t n c) ≤ FW t n 0 c then nI (s0c t n c) else nI c) = nI (s0c t n (c + 1))
      rw [s0c_s (by omega)]
      by_cases w : FW t n 0 c < FW t n 0 (s0c t n c)
      · rw [if_neg (by omega), if_pos w]
      · rw [if_pos (by omega), if_neg w]
  obtain ⟨r, hr, e⟩ := run
  rw [hr, e]
