/-! WHETHER A FIELD FITS, BOTH SIDES -/
theorem rg_int {x lo hi : Int32} (h1 : ¬ x < lo) (h2 : x ≤ hi) : ∃ z : Int, x = iZ z ∧ lo.toInt ≤ z ∧ z ≤ hi.toInt := by
  refine ⟨x.toInt, (Int32.ofInt_toInt x).symm, ?_, ?_⟩
  · rw [Int32.lt_iff_toInt_lt] at h1
    omega
  · rw [Int32.le_iff_toInt_le] at h2
    exact h2
theorem s_isPicture {Mc Mr : im_M} {n P : Nat} (h : FB Mc Mr n) (hP : im_i Mc 24 0 = nI P) (hP1 : 1 ≤ P) (hP2 : P ≤ 1024) : (f_HField_isPicture Mc = some 1 ∧ (aHx Mc n ∧ n % 2 = 0 ∧ n / 2 % ((P + 7) / 8) = 0)) ∨ (f_HField_isPicture Mc = some 0 ∧ ¬ (aHx Mc n ∧ n % 2 = 0 ∧ n / 2 % ((P + 7) / 8) = 0)) := by
  have h8 := h.2.1
  have hn := h.1
  unfold f_HField_isPicture
  rcases s_picLoop h with ⟨e, ha⟩ | ⟨e, ha⟩
  · rw [e]
    show (gd (inb 0 4) (if ¬ im_i Mc 23 8 - im_i Mc 23 8 / 2 * 2 = 0 then some (0 : Int32) else gd (¬ (im_i Mc 24 0 + 7) / 8 = (0 : Int32)) (if ¬ im_i Mc 23 8 / 2 - im_i Mc 23 8 / 2 / ((im_i Mc 24 0 + 7) / 8) * ((im_i Mc 24 0 + 7) / 8) = 0 then some 0 else some 1)) = _ ∧ _) ∨ (gd (inb 0 4) (if ¬ im_i Mc 23 8 - im_i Mc 23 8 / 2 * 2 = 0 then some (0 : Int32) else gd (¬ (im_i Mc 24 0 + 7) / 8 = (0 : Int32)) (if ¬ im_i Mc 23 8 / 2 - im_i Mc 23 8 / 2 / ((im_i Mc 24 0 + 7) / 8) * ((im_i Mc 24 0 + 7) / 8) = 0 then some 0 else some 1)) = _ ∧ _)
    have e8 : (nI P + 7) / 8 = nI ((P + 7) / 8) := by
      rw [show nI P + 7 = nI (P + 7) from nI_add _ 7, show (8 : Int32) = nI 8 from rfl, nI_div (by omega) (by omega) (by omega)]
    have e2 : nI n / 2 = nI (n / 2) := by rw [show (2 : Int32) = nI 2 from rfl, nI_div (by omega) (by omega) (by omega)]
    have c0 : ∀ z : Nat, z < 100000 → (nI z = 0) = (z = 0) := fun z hz => nIe (c := 0) (by omega) (by omega)
    rw [gd_pos (by decide), h8, hP, e8, nI_odd (by omega), e2, nI_rem (by omega) (by omega) (by omega)]
    simp only [c0 (n % 2) (by omega), c0 ((P + 7) / 8) (by omega), c0 (n / 2 % ((P + 7) / 8)) (by have := Nat.mod_lt (n / 2) (show 0 < (P + 7) / 8 by omega); omega)]
    rw [gd_pos (by omega)]
    by_cases d1 : n % 2 = 0
    · rw [if_neg (fun z => z d1)]
      by_cases d2 : n / 2 % ((P + 7) / 8) = 0
      · rw [if_neg (fun z => z d2)]
        exact Or.inl ⟨rfl, ha, d1, d2⟩
      · rw [if_pos d2]
        exact Or.inr ⟨rfl, fun z => d2 z.2.2⟩
    · rw [if_pos d1]
      exact Or.inr ⟨rfl, fun z => d1 z.2.1⟩
  · rw [e]
    exact Or.inr ⟨rfl, fun z => ha z.1⟩
theorem P_t : xa_0 (((12 : Int32) * nI 21 + (3 : Int32) * nI 0) + 1) = 1 ∧ xa_0 (((12 : Int32) * nI 21 + (3 : Int32) * nI 0) + 2) = 1024 ∧ hs 21 = 1 := by decide +kernel
theorem two_fits {Mc Mr : im_M} {n w : Nat} (hB : FB Mc Mr n) (hG : FG Mc Mr) (hK : FK Mc Mr w) : ∃ P : Nat, (kdW w = 7 → im_i Mc 24 0 = nI P ∧ 1 ≤ P ∧ P ≤ 1024) ∧ ((f_HField_hasItsData Mc = some 1 ∧ f_MScriptRows_fits Mr = some 1 ∧ fitK Mc (kdW w) n P) ∨ (f_HField_hasItsData Mc = some 0 ∧ f_MScriptRows_fits Mr = some 0)) := by
  obtain ⟨k1, k2, k3⟩ := FK_k hK
  have hn := hB.1
  have h8 := hB.2.1
  have h10 := hB.2.2.1
  have hP : ∃ P : Nat, kdW w = 7 → (im_i Mc 24 0 = nI P ∧ im_i Mr 81 1 = nI P ∧ 1 ≤ P ∧ P ≤ 1024) := by
    by_cases c : kdW w = 7
    · have ew : w = 21 := by
        have := hK.1
        have := hK.2.1
        unfold kdW at c
        (repeat' split at c) <;> omega
      subst ew
      have t := hK.2.2.2.2 0 (by rw [P_t.2.2]; omega)
      rw [P_t.1, P_t.2.1] at t
      obtain ⟨z, e, z1, z2⟩ := rg_int t.2.1 t.2.2
      replace z1 : (1 : Int) ≤ z := z1
      replace z2 : z ≤ 1024 := z2
      refine ⟨z.toNat, fun _ => ⟨?_, ?_, by omega, by omega⟩⟩
      · rw [e, z_nI (by omega)]
      · rw [show (1 : Nat) = 1 + 0 from rfl, t.1, e, z_nI (by omega)]
    · exact ⟨0, fun z => absurd z c⟩
  obtain ⟨P, hP⟩ := hP
  refine ⟨P, fun c => ⟨(hP c).1, (hP c).2.2⟩, ?_⟩
  generalize kdW w = kd at k1 k2 k3 hP ⊢
  -- the parts
  have lastd : 1 ≤ n → dgB (im_i Mc 25 (n - 1)) = dgB (im_i Mr 83 (n - 1)) := fun z => by
    obtain ⟨u, _, _, h, _⟩ := isB_u (hB.2.2.2 (n - 1) (by omega)).2 (hB.2.2.2 (n - 1) (by omega)).1
    exact h
  have c0 : ∀ z : Nat, z < 100000 → (nI z = 0) = (z = 0) := fun z hz => nIe (c := 0) (by omega) (by omega)
  have q2 : (nI kd = 2) = (kd = 2) := nIe (c := 2) (by omega) (by omega)
  have q7 : (nI kd = 7) = (kd = 7) := nIe (c := 7) (by omega) (by omega)
  have q3 : (nI kd ≤ 3) = (kd ≤ 3) := nIl (c := 3) (by omega) (by omega)
  have q7l : ((7 : Int32) ≤ nI kd) = (7 ≤ kd) := nIl (x := 7) (by omega) (by omega)
  have q12 : (nI n = 12) = (n = 12) := nIe (c := 12) (by omega) (by omega)
  have q4 : (nI kd < 4) = (kd < 4) := nIlt (c := 4) (by omega) (by omega)
  have q6 : ((6 : Int32) < nI kd) = (6 < kd) := nIlt (x := 6) (by omega) (by omega)
  -- what follows the counting, class
  have CL : (1 ≤ n ∨ (4 ≤ kd ∧ kd ≤ 6)) → ((∀ x : Option Int32, x = (if nI kd ≤ 3 then (if nI n = 0 then some (0 : Int32) else if ¬ nI kd = 2 then (if ¬ nI kd = 7 then some 1 else bd1 (f_HField_isPicture Mc) fun (x10 : Int32) => if x10 = 0 then some 0 else some 1) else if ¬ nI n = 12 then some 0 else bd1 (f_HField_allDigits Mc) fun (x7 : Int32) => if ¬ x7 = 0 then (if ¬ nI kd = 7 then some 1 else bd1 (f_HField_isPicture Mc) fun (x10 : Int32) => if x10 = 0 then some 0 else some 1) else some 0) else if 7 ≤ nI kd then (if nI n = 0 then some (0 : Int32) else if ¬ nI kd = 2 then (if ¬ nI kd = 7 then some 1 else bd1 (f_HField_isPicture Mc) fun (x10 : Int32) => if x10 = 0 then some 0 else some 1) else if ¬ nI n = 12 then some 0 else bd1 (f_HField_allDigits Mc) fun (x7 : Int32) => if ¬ x7 = 0 then (if ¬ nI kd = 7 then some 1 else bd1 (f_HField_isPicture Mc) fun (x10 : Int32) => if x10 = 0 then some 0 else some 1) else some 0) else some 1) → (x = some 1 ∧ (kd = 2 → n = 12 ∧ aDg Mc n) ∧ (kd = 7 → aHx Mc n ∧ n % 2 = 0 ∧ n / 2 % ((P + 7) / 8) = 0)) ∨ (x = some 0 ∧ ¬ ((kd = 2 → n = 12 ∧ aDg Mc n) ∧ (kd = 7 → aHx Mc n ∧ n % 2 = 0 ∧ n / 2 % ((P + 7) / 8) = 0))))) := by
    intro hn1 x hx
    simp only [q3, q7l, c0 n (by omega), q2, q7, q12] at hx
    by_cases d7 : kd = 7
    · rw [if_neg (by omega), if_pos (by omega), if_neg (by omega), if_pos (by omega), if_neg (fun z => z d7)] at hx
      rcases s_isPicture hB (hP d7).1 (hP d7).2.2.1 (hP d7).2.2.2 with ⟨e, h⟩ | ⟨e, h⟩
      · rw [e, bd1_s, if_neg (by decide)] at hx
        exact Or.inl ⟨hx, fun z => by omega, fun _ => h⟩
      · rw [e, bd1_s, if_pos rfl] at hx
        exact Or.inr ⟨hx, fun z => h (z.2 d7)⟩
    · by_cases d2 : kd = 2
      · rw [if_pos (by omega), if_neg (by omega), if_neg (fun z => z d2)] at hx
        by_cases d12 : n = 12
        · rw [if_neg (fun z => z d12)] at hx
          rcases s_allDigits hB with ⟨e, h⟩ | ⟨e, h⟩
          · rw [e, bd1_s, if_pos (by decide), if_pos d7] at hx
            exact Or.inl ⟨hx, fun _ => ⟨d12, h⟩, fun z => absurd z d7⟩
          · rw [e, bd1_s, if_neg (fun z => z rfl)] at hx
            exact Or.inr ⟨hx, fun z => h (z.1 d2).2⟩
        · rw [if_pos d12] at hx
          exact Or.inr ⟨hx, fun z => d12 (z.1 d2).1⟩
      · refine Or.inl ⟨?_, fun z => absurd z d2, fun z => absurd z d7⟩
        by_cases d3 : kd ≤ 3
        · rw [if_pos d3, if_neg (by omega), if_pos d2, if_pos d7] at hx
          exact hx
        · rw [if_neg d3] at hx
          by_cases d8 : 7 ≤ kd
          · rw [if_pos d8, if_neg (by omega), if_pos d2, if_pos d7] at hx
            exact hx
          · rw [if_neg d8] at hx
            exact hx
  -- the same, reference
  have RF : ∀ x : Option Int32, x = (bs0 (lp (uc1 (f_MScriptRows_fits_L76 (nI kd) (nI n) Mr)) 0) (fun (_ : Unit) => if ¬ nI kd = 7 then (if ¬ nI kd = 2 then some (1 : Int32) else if ¬ nI n = 12 then some 0 else some 1) else if ¬ (nI n - nI n / 2 * 2) = 0 then some 0 else gd (inb 1 16) <| gd (¬ ((im_i Mr 81 1 + 7) / 8) = (0 : Int32)) <| if ¬ ((nI n / 2) - (nI n / 2) / ((im_i Mr 81 1 + 7) / 8) * ((im_i Mr 81 1 + 7) / 8)) = 0 then some 0 else some 1) (fun t => some t)) → (x = some 1 ∧ (kd = 2 → n = 12 ∧ aDg Mc n) ∧ (kd = 7 → aHx Mc n ∧ n % 2 = 0 ∧ n / 2 % ((P + 7) / 8) = 0)) ∨ (x = some 0 ∧ ¬ ((kd = 2 → n = 12 ∧ aDg Mc n) ∧ (kd = 7 → aHx Mc n ∧ n % 2 = 0 ∧ n / 2 % ((P + 7) / 8) = 0))) := by
    intro x hx
    rcases s_fitsLoop hB k3 with ⟨e, g2, g7⟩ | ⟨e, g⟩
    · rw [e] at hx
      replace hx : x = (if ¬ nI kd = 7 then (if ¬ nI kd = 2 then some (1 : Int32) else if ¬ nI n = 12 then some 0 else some 1) else if ¬ (nI n - nI n / 2 * 2) = 0 then some 0 else gd (inb 1 16) <| gd (¬ ((im_i Mr 81 1 + 7) / 8) = (0 : Int32)) <| if ¬ ((nI n / 2) - (nI n / 2) / ((im_i Mr 81 1 + 7) / 8) * ((im_i Mr 81 1 + 7) / 8)) = 0 then some 0 else some 1) := hx
      simp only [q2, q7, q12] at hx
      by_cases d7 : kd = 7
      · obtain ⟨_, p2, p3, p4⟩ := hP d7
        have e8 : (nI P + 7) / 8 = nI ((P + 7) / 8) := by
          rw [show nI P + 7 = nI (P + 7) from nI_add _ 7, show (8 : Int32) = nI 8 from rfl, nI_div (by omega) (by omega) (by omega)]
        have e2 : nI n / 2 = nI (n / 2) := by rw [show (2 : Int32) = nI 2 from rfl, nI_div (by omega) (by omega) (by omega)]
        rw [if_neg (fun z => z d7), p2, e8, nI_odd (by omega), e2, nI_rem (by omega) (by omega) (by omega), gd_pos (by decide)] at hx
        simp only [c0 (n % 2) (by omega), c0 ((P + 7) / 8) (by omega), c0 (n / 2 % ((P + 7) / 8)) (by have := Nat.mod_lt (n / 2) (show 0 < (P + 7) / 8 by omega); omega)] at hx
        rw [gd_pos (show ¬ (P + 7) / 8 = 0 by omega)] at hx
        by_cases d1 : n % 2 = 0
        · rw [if_neg (fun z => z d1)] at hx
          by_cases d2 : n / 2 % ((P + 7) / 8) = 0
          · rw [if_neg (fun z => z d2)] at hx
            exact Or.inl ⟨hx, fun z => by omega, fun _ => ⟨g7 d7, d1, d2⟩⟩
          · rw [if_pos d2] at hx
            exact Or.inr ⟨hx, fun z => d2 (z.2 d7).2.2⟩
        · rw [if_pos d1] at hx
          exact Or.inr ⟨hx, fun z => d1 (z.2 d7).2.1⟩
      · rw [if_pos d7] at hx
        by_cases d2 : kd = 2
        · rw [if_neg (fun z => z d2)] at hx
          by_cases d12 : n = 12
          · rw [if_neg (fun z => z d12)] at hx
            exact Or.inl ⟨hx, fun _ => ⟨d12, g2 d2⟩, fun z => absurd z d7⟩
          · rw [if_pos d12] at hx
            exact Or.inr ⟨hx, fun z => d12 (z.1 d2).1⟩
        · rw [if_pos d2] at hx
          exact Or.inl ⟨hx, fun z => absurd z d2, fun z => absurd z d7⟩
    · rw [e] at hx
      refine Or.inr ⟨hx, fun z => ?_⟩
      rcases g with ⟨a, b⟩ | ⟨a, b⟩
      · exact b (z.1 a).2
      · exact b (z.2 a).1
  obtain ⟨X, hX⟩ : ∃ X : Option Int32, X = (if nI kd ≤ 3 then (if nI n = 0 then some (0 : Int32) else if ¬ nI kd = 2 then (if ¬ nI kd = 7 then some 1 else bd1 (f_HField_isPicture Mc) fun (x10 : Int32) => if x10 = 0 then some 0 else some 1) else if ¬ nI n = 12 then some 0 else bd1 (f_HField_allDigits Mc) fun (x7 : Int32) => if ¬ x7 = 0 then (if ¬ nI kd = 7 then some 1 else bd1 (f_HField_isPicture Mc) fun (x10 : Int32) => if x10 = 0 then some 0 else some 1) else some 0) else if 7 ≤ nI kd then (if nI n = 0 then some (0 : Int32) else if ¬ nI kd = 2 then (if ¬ nI kd = 7 then some 1 else bd1 (f_HField_isPicture Mc) fun (x10 : Int32) => if x10 = 0 then some 0 else some 1) else if ¬ nI n = 12 then some 0 else bd1 (f_HField_allDigits Mc) fun (x7 : Int32) => if ¬ x7 = 0 then (if ¬ nI kd = 7 then some 1 else bd1 (f_HField_isPicture Mc) fun (x10 : Int32) => if x10 = 0 then some 0 else some 1) else some 0) else some 1) := ⟨_, rfl⟩
  obtain ⟨Y, hY⟩ : ∃ Y : Option Int32, Y = (bs0 (lp (uc1 (f_MScriptRows_fits_L76 (nI kd) (nI n) Mr)) 0) (fun (_ : Unit) => if ¬ nI kd = 7 then (if ¬ nI kd = 2 then some (1 : Int32) else if ¬ nI n = 12 then some 0 else some 1) else if ¬ (nI n - nI n / 2 * 2) = 0 then some 0 else gd (inb 1 16) <| gd (¬ ((im_i Mr 81 1 + 7) / 8) = (0 : Int32)) <| if ¬ ((nI n / 2) - (nI n / 2) / ((im_i Mr 81 1 + 7) / 8) * ((im_i Mr 81 1 + 7) / 8)) = 0 then some 0 else some 1) (fun t => some t)) := ⟨_, rfl⟩
  have vC : f_HField_hasItsData Mc = (if im_i Mc 23 5 = 0 then X else if nI n = 0 then some 0 else gd (inb (nI n - 1) 200) <| bd1 (f_HTape_isDigit (im_i Mc 25 (Int32.toNatClampNeg (nI n - 1))) Mc) fun (x2 : Int32) => if ¬ x2 = 0 then X else some 0) := by
    rw [hX]
    unfold f_HField_hasItsData
    simp only [jn0, k1, h8]
  have vM : f_MScriptRows_fits Mr = (if ¬ ((if nI kd < 4 then 0 else (if 6 < nI kd then 0 else 1)) : Int32) = 0 then (if ¬ im_i Mr 81 8 = 1 then Y else if nI n = 0 then some 0 else gd (inb (nI n - 1) 200) <| bd1 (f_MScriptRows_isDigit (im_i Mr 83 (Int32.toNatClampNeg (nI n - 1))) Mr) fun (x7 : Int32) => if ¬ x7 = 0 then Y else some 0) else if ¬ nI n = 0 then (if ¬ im_i Mr 81 8 = 1 then Y else if nI n = 0 then some 0 else gd (inb (nI n - 1) 200) <| bd1 (f_MScriptRows_isDigit (im_i Mr 83 (Int32.toNatClampNeg (nI n - 1))) Mr) fun (x7 : Int32) => if ¬ x7 = 0 then Y else some 0) else some 0) := by
    rw [hY]
    unfold f_MScriptRows_fits
    rw [gd_pos (by decide), gd_pos (by decide)]
    have z0 : Int32.toNatClampNeg 0 = 0 := rfl
    have z1 : Int32.toNatClampNeg 1 = 1 := rfl
    have z8 : Int32.toNatClampNeg 8 = 8 := rfl
    have z10 : Int32.toNatClampNeg 10 = 10 := rfl
    have g8 : ∀ {Z : Type} (o : Option Z), gd (inb 8 16) o = o := fun o => gd_pos (by decide)
    simp only [jn0, k2, h10, z0, z1, z8, z10, g8]
  have lin : ((if nI kd < 4 then (0 : Int32) else (if 6 < nI kd then 0 else 1)) = 0) = ¬ (4 ≤ kd ∧ kd ≤ 6) := by
    simp only [q4, q6]
    apply propext
    by_cases a : kd < 4
    · rw [if_pos a]; exact ⟨fun _ => by omega, fun _ => rfl⟩
    · rw [if_neg a]
      by_cases b : 6 < kd
      · rw [if_pos b]; exact ⟨fun _ => by omega, fun _ => rfl⟩
      · rw [if_neg b]; exact ⟨fun z => absurd z (by decide), fun z => absurd (by omega) z⟩
  simp only [lin, c0 n (by omega)] at vC vM
  have hXY : (1 ≤ n ∨ (4 ≤ kd ∧ kd ≤ 6)) → (X = some 1 ∧ Y = some 1 ∧ (kd = 2 → n = 12 ∧ aDg Mc n) ∧ (kd = 7 → aHx Mc n ∧ n % 2 = 0 ∧ n / 2 % ((P + 7) / 8) = 0)) ∨ (X = some 0 ∧ Y = some 0) := by
    intro h
    rcases CL h X hX with ⟨a, b⟩ | ⟨a, b⟩ <;> rcases RF Y hY with ⟨c, d⟩ | ⟨c, d⟩
    · exact Or.inl ⟨a, c, b⟩
    · exact absurd b d
    · exact absurd d b
    · exact Or.inr ⟨a, c⟩
  by_cases n0 : n = 0
  · by_cases hl : 4 ≤ kd ∧ kd ≤ 6
    · rw [if_pos (fun z => z hl)] at vM
      rcases hG.2.1 with ⟨a, b⟩ | ⟨a, b⟩
      · rw [if_pos a] at vC
        rw [if_pos (by rw [b]; decide)] at vM
        rcases hXY (Or.inr hl) with ⟨x1, y1, h2, h7⟩ | ⟨x1, y1⟩
        · exact Or.inl ⟨vC.trans x1, vM.trans y1, fun z => by rw [a] at z; exact absurd z (by decide), fun z => absurd hl z, h2, h7⟩
        · exact Or.inr ⟨vC.trans x1, vM.trans y1⟩
      · rw [if_neg (by rw [a]; decide), if_pos n0] at vC
        rw [if_neg (by rw [b]; decide), if_pos n0] at vM
        exact Or.inr ⟨vC, vM⟩
    · rw [if_neg (fun z => z hl), if_neg (fun z => z n0)] at vM
      refine Or.inr ⟨?_, vM⟩
      by_cases c5 : im_i Mc 23 5 = 0
      · rw [if_pos c5, hX] at vC
        simp only [q3, q7l, c0 n (by omega), if_pos n0] at vC
        by_cases d3 : kd ≤ 3
        · rw [if_pos d3] at vC; exact vC
        · rw [if_neg d3, if_pos (by omega)] at vC; exact vC
      · rw [if_neg c5, if_pos n0] at vC
        exact vC
  · have en : nI n - 1 = nI (n - 1) := nI_m1 (by omega)
    have vM2 : f_MScriptRows_fits Mr = (if ¬ im_i Mr 81 8 = 1 then Y else if ¬ dgB (im_i Mr 83 (n - 1)) = 0 then Y else some 0) := by
      rw [vM]
      have inner : (if ¬ im_i Mr 81 8 = 1 then Y else if n = 0 then some 0 else gd (inb (nI n - 1) 200) <| bd1 (f_MScriptRows_isDigit (im_i Mr 83 (Int32.toNatClampNeg (nI n - 1))) Mr) fun (x7 : Int32) => if ¬ x7 = 0 then Y else some 0) = (if ¬ im_i Mr 81 8 = 1 then Y else if ¬ dgB (im_i Mr 83 (n - 1)) = 0 then Y else some 0) := by
        rw [if_neg n0, en, gd_pos (by rw [inb_nI (by omega)]; omega), nI_clamp (by omega), s_dgM, bd1_s]
      rw [inner, if_pos n0]
      split <;> rfl
    rw [if_neg n0, en, gd_pos (by rw [inb_nI (by omega)]; omega), nI_clamp (by omega), s_dgC, bd1_s] at vC
    have hd := lastd (by omega)
    rcases hG.2.1 with ⟨a, b⟩ | ⟨a, b⟩
    · rw [if_pos a] at vC
      rw [if_pos (by rw [b]; decide)] at vM2
      rcases hXY (Or.inl (by omega)) with ⟨x1, y1, h2, h7⟩ | ⟨x1, y1⟩
      · exact Or.inl ⟨vC.trans x1, vM2.trans y1, fun z => by rw [a] at z; exact absurd z (by decide), fun _ => by omega, h2, h7⟩
      · exact Or.inr ⟨vC.trans x1, vM2.trans y1⟩
    · rw [if_neg (by rw [a]; decide)] at vC
      rw [if_neg (by rw [b]; decide), ← hd] at vM2
      by_cases dz : dgB (im_i Mc 25 (n - 1)) = 0
      · rw [if_neg (fun z => z dz)] at vC vM2
        exact Or.inr ⟨vC, vM2⟩
      · rw [if_pos dz] at vC vM2
        rcases hXY (Or.inl (by omega)) with ⟨x1, y1, h2, h7⟩ | ⟨x1, y1⟩
        · exact Or.inl ⟨vC.trans x1, vM2.trans y1, fun _ => ⟨by omega, dz⟩, fun _ => by omega, h2, h7⟩
        · exact Or.inr ⟨vC.trans x1, vM2.trans y1⟩
