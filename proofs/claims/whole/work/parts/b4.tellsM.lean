theorem s_goes {M : im_M} {t x : Nat} (ht : t ≤ 2) (hx : x < 106) : f_MLineRows_goes (nI t) (nI x) M = some (if 99 ≤ x ∧ x ≤ 101 ∧ ¬ 101 - x = t then nI (101 - x) else -1) := by
  have all : ∀ t : Fin 3, ∀ x : Fin 106, f_MLineRows_goes (nI t.val) (nI x.val) mm_341 = some (if 99 ≤ x.val ∧ x.val ≤ 101 ∧ ¬ 101 - x.val = t.val then nI (101 - x.val) else -1) := by decide +kernel
  exact all ⟨t, by omega⟩ ⟨x, hx⟩
theorem nI_m1 {n : Nat} (h : 1 ≤ n) : nI n - 1 = nI (n - 1) := by
  have e : (1 : Int32) = iZ 1 := rfl
  rw [iZ_nI, e, iZ_sub, iZ_nI]
  congr 1
  omega
theorem s_tell1M {M : im_M} {s : Nat → Nat} {n t i : Nat} {L : List Nat} (hs : ∀ k, s k < 106) (q : SY (im_i M 105) s n) (hn : n ≤ 140) (ht : t ≤ 2) (hi : i < n - 1) (o : OUM M L) (hL : L.length ≤ 290) : ed (f_MLineRows_isRow_L137 (nI n) (nI t) (nI i) M) (fun r => match stx s (n - 1) t i with
    | none => ∃ N, r = .inr (.inr (0, N)) ∧ fr (2 ^ 107) [(96, 17)] M N
    | some a => ∃ N, r = .inl (nI a.1, nI a.2.1, N) ∧ OUM N (L ++ a.2.2) ∧ fr (2 ^ 107) [(96, 17)] M N) := by
  unfold f_MLineRows_isRow_L137
  rw [nI_m1 (by omega), if_neg (nI_ge hi (by omega)), gd_pos (by rw [inb_nI (by omega)]; omega)]
  simp only [nI_clamp (show i < 2147483648 by omega), q i (by omega)]
  have hx := hs i
  generalize hX : s i = x at *
  have c102 : (nI x = 102) = (x = 102) := nIe (c := 102) (by omega) (by omega)
  have c98 : (nI x = 98) = (x = 98) := nIe (c := 98) (by omega) (by omega)
  have c95 : (nI x ≤ 95) = (x ≤ 95) := nIl (c := 95) (by omega) (by omega)
  have c99 : (nI x ≤ 99) = (x ≤ 99) := nIl (c := 99) (by omega) (by omega)
  have ct : (nI t = 2) = (t = 2) := nIe (c := 2) (by omega) (by omega)
  simp only [jn0, jn1, jn3, nI_1, c102, c98, c95, c99, ct, s_goes ht hx, bd1_s]
  unfold stx
  rw [hX]
  by_cases h1 : x = 102
  · rw [if_neg (fun z => z h1)]
    simp only [if_pos h1]
    apply bd1_mk
    have e128 : (128 : Int32) = nI 128 := rfl
    rw [e128]
    exact ed_mono (s_tellN o (by omega)) (fun N hN => ed_mk ⟨N, rfl, hN.1, hN.2⟩)
  · rw [if_pos h1]
    simp only [if_neg h1]
    -- what is told where the set stays
    have stay : ¬ (99 ≤ x ∧ x ≤ 101 ∧ ¬ 101 - x = t) → ∀ (a : Option ((Int32 × Int32 × im_M) ⊕ ((im_M) ⊕ (Int32 × im_M)))), a = (if ¬ t = 2 then if ¬ x = 98 then if x ≤ 95 then bd1 (f_MLineRows_signOf (nI t) (nI x) M) fun x33 => bd1 (f_MLineRows_tell x33 M) fun M34 => some (Sum.inl (nI t, nI (i + 1), M34)) else some (Sum.inr (Sum.inr (0, M))) else if nI (i + 1) = nI (n - 1) then some (Sum.inr (Sum.inr (0, M))) else gd (inb (nI (i + 1)) 140) <| if im_i M 105 (Int32.toNatClampNeg (nI (i + 1))) ≤ 95 then gd (inb (nI (i + 1)) 140) <| bd1 (f_MLineRows_signOf ((1 : Int32) - nI t) (im_i M 105 (Int32.toNatClampNeg (nI (i + 1)))) M) fun x35 => bd1 (f_MLineRows_tell x35 M) fun M36 => some (Sum.inl (nI t, nI (i + 1 + 1), M36)) else some (Sum.inr (Sum.inr (0, M))) else if x ≤ 99 then bd1 (f_MLineRows_tell ((48 : Int32) + (nI x / 10)) M) fun M37 => bd1 (f_MLineRows_tell ((48 : Int32) + (nI x - nI x / 10 * 10)) M37) fun M38 => some (Sum.inl (nI t, nI (i + 1), M38)) else some (Sum.inr (Sum.inr (0, M)))) → ed a (fun r => match (if 99 ≤ x ∧ x ≤ 101 ∧ (t = 2 → 100 ≤ x) then (if 101 - x = t then none else some (101 - x, i + 1, [])) else if t = 2 ∧ x < 100 then some (t, i + 1, [48 + x / 10, 48 + x % 10]) else if x = 98 ∧ i + 1 < n - 1 ∧ s (i + 1) < 96 then some (t, i + 2, [sgn (1 - t) (s (i + 1))]) else if x < 96 then some (t, i + 1, [sgn t x]) else none : Option (Nat × Nat × List Nat)) with
        | none => ∃ N, r = .inr (.inr (0, N)) ∧ fr (2 ^ 107) [(96, 17)] M N
        | some a => ∃ N, r = .inl (nI a.1, nI a.2.1, N) ∧ OUM N (L ++ a.2.2) ∧ fr (2 ^ 107) [(96, 17)] M N) := by
      intro hst a ha
      rw [ha]
      by_cases c2 : t = 2
      · rw [if_neg (fun z => z c2)]
        by_cases c : x ≤ 99
        · have e2 : ¬ (99 ≤ x ∧ x ≤ 101 ∧ (t = 2 → 100 ≤ x)) := fun z => by have := z.2.2 c2; omega
          rw [if_pos c]
          simp only [if_neg e2, if_pos (show t = 2 ∧ x < 100 from ⟨c2, by omega⟩)]
          have e48 : (48 : Int32) = nI 48 := rfl
          have d1 : nI x / 10 = nI (x / 10) := nI_div (b := 10) (by omega) (by omega) (by omega)
          have d2 : nI x - nI x / 10 * 10 = nI (x % 10) := nI_rem (b := 10) (by omega) (by omega) (by omega)
          rw [d2, d1, e48, nI_add, nI_add]
          apply bd1_mk
          refine ed_mono (s_tellN o (by omega)) (fun N hN => ?_)
          apply bd1_mk
          refine ed_mono (s_tellN hN.1 (by rw [List.length_append]; show L.length + 1 < 300; omega)) (fun N2 hN2 => ed_mk ⟨N2, rfl, ?_, fr_tr hN2.2 hN.2⟩)
          have := hN2.1
          rw [List.append_assoc] at this
          exact this
        · rw [if_neg c]
          by_cases e2 : 99 ≤ x ∧ x ≤ 101 ∧ (t = 2 → 100 ≤ x)
          · have e3 : 101 - x = t := by
              apply Decidable.byContradiction
              intro z
              exact hst ⟨e2.1, e2.2.1, z⟩
            simp only [if_pos e2, if_pos e3]
            exact ed_mk ⟨M, rfl, fr_refl⟩
          · simp only [if_neg e2, if_neg (show ¬ (t = 2 ∧ x < 100) by omega), if_neg (show ¬ (x = 98 ∧ i + 1 < n - 1 ∧ s (i + 1) < 96) by omega), if_neg (show ¬ x < 96 by omega)]
            exact ed_mk ⟨M, rfl, fr_refl⟩
      · have tl : t ≤ 1 := by omega
        rw [if_pos c2]
        by_cases c : x = 98
        · have e2 : ¬ (99 ≤ x ∧ x ≤ 101 ∧ (t = 2 → 100 ≤ x)) := by omega
          rw [if_neg (fun z => z c)]
          simp only [if_neg e2, if_neg (show ¬ (t = 2 ∧ x < 100) by omega)]
          have ce : (nI (i + 1) = nI (n - 1)) = (i + 1 = n - 1) := nIe (by omega) (by omega)
          simp only [ce]
          by_cases h5 : i + 1 = n - 1
          · rw [if_pos h5]
            simp only [if_neg (show ¬ (x = 98 ∧ i + 1 < n - 1 ∧ s (i + 1) < 96) by omega), if_neg (show ¬ x < 96 by omega)]
            exact ed_mk ⟨M, rfl, fr_refl⟩
          · rw [if_neg h5, gd_pos (by rw [inb_nI (by omega)]; omega), nI_clamp (by omega), q (i + 1) (by omega), gd_pos (by rw [inb_nI (by omega)]; omega)]
            have hy := hs (i + 1)
            have cy : (nI (s (i + 1)) ≤ 95) = (s (i + 1) ≤ 95) := nIl (c := 95) (by omega) (by omega)
            simp only [cy]
            by_cases h6 : s (i + 1) ≤ 95
            · rw [if_pos h6, t_1m tl, s_signM (by omega) (by omega), bd1_s]
              simp only [if_pos (show x = 98 ∧ i + 1 < n - 1 ∧ s (i + 1) < 96 from ⟨c, by omega, by omega⟩)]
              apply bd1_mk
              exact ed_mono (s_tellN o (by omega)) (fun N hN => ed_mk ⟨N, rfl, hN.1, hN.2⟩)
            · rw [if_neg h6]
              simp only [if_neg (show ¬ (x = 98 ∧ i + 1 < n - 1 ∧ s (i + 1) < 96) by omega), if_neg (show ¬ x < 96 by omega)]
              exact ed_mk ⟨M, rfl, fr_refl⟩
        · rw [if_pos c]
          by_cases h5 : x ≤ 95
          · have e2 : ¬ (99 ≤ x ∧ x ≤ 101 ∧ (t = 2 → 100 ≤ x)) := by omega
            rw [if_pos h5, s_signM (by omega) tl, bd1_s]
            simp only [if_neg e2, if_neg (show ¬ (t = 2 ∧ x < 100) by omega), if_neg (show ¬ (x = 98 ∧ i + 1 < n - 1 ∧ s (i + 1) < 96) by omega), if_pos (show x < 96 by omega)]
            apply bd1_mk
            exact ed_mono (s_tellN o (by omega)) (fun N hN => ed_mk ⟨N, rfl, hN.1, hN.2⟩)
          · rw [if_neg h5]
            by_cases e2 : 99 ≤ x ∧ x ≤ 101 ∧ (t = 2 → 100 ≤ x)
            · have e3 : 101 - x = t := by
                apply Decidable.byContradiction
                intro z
                exact hst ⟨e2.1, e2.2.1, z⟩
              simp only [if_pos e2, if_pos e3]
              exact ed_mk ⟨M, rfl, fr_refl⟩
            · simp only [if_neg e2, if_neg (show ¬ (t = 2 ∧ x < 100) by omega), if_neg (show ¬ (x = 98 ∧ i + 1 < n - 1 ∧ s (i + 1) < 96) by omega), if_neg (show ¬ x < 96 by omega)]
              exact ed_mk ⟨M, rfl, fr_refl⟩
    by_cases h2 : 99 ≤ x ∧ x ≤ 101 ∧ ¬ 101 - x = t
    · simp only [if_pos h2]
      have hp : ¬ nI (101 - x) < 0 := nI_pos (by omega)
      rw [if_neg hp]
      have e2 : 99 ≤ x ∧ x ≤ 101 ∧ (t = 2 → 100 ≤ x) := ⟨h2.1, h2.2.1, fun z => by omega⟩
      simp only [if_pos e2, if_neg h2.2.2]
      have fin : ed (some (Sum.inl (nI (101 - x), nI (i + 1), M) : (Int32 × Int32 × im_M) ⊕ ((im_M) ⊕ (Int32 × im_M)))) (fun r => ∃ N, r = .inl (nI (101 - x), nI (i + 1), N) ∧ OUM N (L ++ []) ∧ fr (2 ^ 107) [(96, 17)] M N) := by
        refine ed_mk ⟨M, rfl, ?_, fr_refl⟩
        rw [List.append_nil]
        exact o
      by_cases c : t = 2
      · rw [if_neg (fun z => z c), if_neg (by omega)]
        exact fin
      · rw [if_pos c]
        exact fin
    · simp only [if_neg h2]
      rw [if_pos (show (-1 : Int32) < 0 by decide)]
      exact stay h2 _ rfl
