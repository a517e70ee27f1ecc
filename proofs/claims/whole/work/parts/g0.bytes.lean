/-! BYTES WITH AND WITHOUT SIGN; WHETHER A FIELD HAS ITS DATA -/
def byR (t : Nat) : Int32 := iZ ((t : Int) - 128)
def byU (t : Nat) : Nat := (t + 128) % 256
theorem byT : ∀ t : Fin 256, byR t.val &&& 255 = nI (byU t.val) ∧ dgB (byR t.val) = dgB (nI (byU t.val)) := by decide +kernel
theorem byH {M : im_M} (t : Fin 256) : f_HTape_hexValue (byR t.val) M = some (hvN (byU t.val)) := by
  unfold f_HTape_hexValue
  simp only [jn0]
  revert t
  decide +kernel
theorem isB_t {x : Int32} (h : isB x) : ∃ t, t < 256 ∧ x = byR t := by
  obtain ⟨z, z1, z2, rfl⟩ := h
  refine ⟨(z + 128).toNat, by omega, ?_⟩
  unfold byR
  congr 1
  omega
/-- a byte held raw on one side, without sign on the other -/
theorem isB_u {x y : Int32} (h : isB x) (e : y = x &&& 255) : ∃ u, u < 256 ∧ y = nI u ∧ dgB x = dgB y ∧ (∀ M : im_M, f_HTape_hexValue x M = some (hvN u)) ∧ (∀ M : im_M, f_MScriptRows_hex y M = some (hvN u)) ∧ ∀ c, c < 128 → (x = nI c ↔ y = nI c) := by
  have hx := h
  obtain ⟨t, ht, rfl⟩ := isB_t h
  have b := byT ⟨t, ht⟩
  have hu : byU t < 256 := by unfold byU; omega
  replace b : byR t &&& 255 = nI (byU t) ∧ dgB (byR t) = dgB (nI (byU t)) := b
  refine ⟨byU t, hu, by rw [e, b.1], by rw [e, b.1]; exact b.2, fun M => byH ⟨t, ht⟩, fun M => by rw [e, b.1]; exact hex_M ⟨byU t, hu⟩, fun c hc => ?_⟩
  rw [e]
  exact iff_of_eq (isB_eq hx hc)
/-- what is in the field -/
def FB (Mc Mr : im_M) (n : Nat) : Prop := n ≤ 200 ∧ im_i Mc 23 8 = nI n ∧ im_i Mr 81 10 = nI n ∧ ∀ i, i < n → im_i Mr 83 i = im_i Mc 25 i &&& 255 ∧ isB (im_i Mc 25 i)
def FG (Mc Mr : im_M) : Prop := ((im_i Mc 23 4 = 0 ∧ im_i Mr 81 7 = 0) ∨ (im_i Mc 23 4 = 1 ∧ im_i Mr 81 7 = 2)) ∧ ((im_i Mc 23 5 = 0 ∧ im_i Mr 81 8 = 0) ∨ (im_i Mc 23 5 = 1 ∧ im_i Mr 81 8 = 1)) ∧ im_i Mr 81 9 = im_i Mc 23 6 ∧ im_i Mr 81 5 = im_i Mc 23 0 ∧ im_i Mr 81 6 = im_i Mc 23 1
/-- the kind of letter w, its numbers -/
def FK (Mc Mr : im_M) (w : Nat) : Prop := 13 ≤ w ∧ w < 22 ∧ im_i Mc 23 2 = xa_2 (nI (w - 13)) ∧ im_i Mr 81 0 = xa_2 (nI (w - 13)) ∧ ∀ k, k < hs w → im_i Mr 81 (1 + k) = im_i Mc 24 k ∧ ¬ im_i Mc 24 k < xa_0 (((12 : Int32) * nI w + (3 : Int32) * nI k) + 1) ∧ im_i Mc 24 k ≤ xa_0 (((12 : Int32) * nI w + (3 : Int32) * nI k) + 2)
theorem kd_t : ∀ t : Fin 9, xa_2 (nI t.val) = nI (if t.val = 0 then 0 else if t.val = 1 then 8 else t.val - 1) := by decide +kernel
/-- the kind as a number -/
def kdW (w : Nat) : Nat := if w = 13 then 0 else if w = 14 then 8 else w - 14
theorem FK_k {Mc Mr : im_M} {w : Nat} (h : FK Mc Mr w) : im_i Mc 23 2 = nI (kdW w) ∧ im_i Mr 81 0 = nI (kdW w) ∧ kdW w ≤ 8 := by
  have t := kd_t ⟨w - 13, by have := h.2.1; omega⟩
  have e : (if w - 13 = 0 then 0 else if w - 13 = 1 then 8 else w - 13 - 1) = kdW w := by
    unfold kdW
    have := h.1
    repeat' split
    all_goals omega
  replace t : xa_2 (nI (w - 13)) = nI (if w - 13 = 0 then 0 else if w - 13 = 1 then 8 else w - 13 - 1) := t
  rw [e] at t
  refine ⟨h.2.2.1.trans t, h.2.2.2.1.trans t, ?_⟩
  have := h.2.1
  unfold kdW
  repeat' split
  all_goals omega
/-- all bytes are digits; all are hexadecimal -/
def aDg (M : im_M) (n : Nat) : Prop := ∀ i, i < n → ¬ dgB (im_i M 25 i) = 0
def aHx (M : im_M) (n : Nat) : Prop := ∀ i, i < n → ¬ f_HTape_hexValue (im_i M 25 i) M = some (-1)
theorem s_allDigits {Mc Mr : im_M} {n : Nat} (h : FB Mc Mr n) : (f_HField_allDigits Mc = some 1 ∧ aDg Mc n) ∨ (f_HField_allDigits Mc = some 0 ∧ ¬ aDg Mc n) := by
  obtain ⟨hn, h8, _, _⟩ := h
  have L : ed (lp (uc1 (f_HField_allDigits_L2 Mc)) 0) (sQ (fun _ => aDg Mc n) (fun t => t = 0 ∧ ¬ aDg Mc n)) := by
    refine lp_inv (fun k (s : Int32) => ∃ i : Nat, i + k = n ∧ s = nI i ∧ aDg Mc i) ?_ (k := n) ⟨0, by omega, rfl, fun i hi => absurd hi (by omega)⟩
    rintro k x2 ⟨i, hi, rfl, ha⟩
    show ed (f_HField_allDigits_L2 Mc (nI i)) _
    unfold f_HField_allDigits_L2
    rw [h8, if_nIl (by omega) (by omega)]
    by_cases c : n ≤ i
    · rw [if_pos c]
      obtain rfl : i = n := by omega
      exact lpo_r ha
    · rw [if_neg c, gd_pos (by rw [inb_nI (by omega)]; omega), nI_clamp (by omega), s_dgC, bd1_s]
      by_cases z : dgB (im_i Mc 25 i) = 0
      · rw [if_neg (fun y => y z)]
        exact lpo_r ⟨rfl, fun y => y i (by omega) z⟩
      · rw [if_pos z]
        refine lpo_l (k - 1) (by omega) ⟨i + 1, by omega, nI_add i 1, fun j hj => ?_⟩
        by_cases e : j = i
        · rw [e]; exact z
        · exact ha j (by omega)
  obtain ⟨u, eu, hu⟩ := L
  unfold f_HField_allDigits
  rw [eu]
  cases u with
  | inl t => exact Or.inl ⟨rfl, hu⟩
  | inr t =>
    obtain ⟨rfl, hh⟩ := hu
    exact Or.inr ⟨rfl, hh⟩
theorem s_picLoop {Mc Mr : im_M} {n : Nat} (h : FB Mc Mr n) : (lp (uc1 (f_HField_isPicture_L2 Mc)) 0 = some (.inl ()) ∧ aHx Mc n) ∨ (lp (uc1 (f_HField_isPicture_L2 Mc)) 0 = some (.inr 0) ∧ ¬ aHx Mc n) := by
  obtain ⟨hn, h8, _, hb⟩ := h
  have L : ed (lp (uc1 (f_HField_isPicture_L2 Mc)) 0) (sQ (fun _ => aHx Mc n) (fun t => t = 0 ∧ ¬ aHx Mc n)) := by
    refine lp_inv (fun k (s : Int32) => ∃ i : Nat, i + k = n ∧ s = nI i ∧ aHx Mc i) ?_ (k := n) ⟨0, by omega, rfl, fun i hi => absurd hi (by omega)⟩
    rintro k x2 ⟨i, hi, rfl, ha⟩
    show ed (f_HField_isPicture_L2 Mc (nI i)) _
    unfold f_HField_isPicture_L2
    rw [h8, if_nIl (by omega) (by omega)]
    by_cases c : n ≤ i
    · rw [if_pos c]
      obtain rfl : i = n := by omega
      exact lpo_r ha
    · obtain ⟨u, hu, _, _, hx, _, _⟩ := isB_u (hb i (by omega)).2 rfl
      rw [if_neg c, gd_pos (by rw [inb_nI (by omega)]; omega), nI_clamp (by omega), hx Mc, bd1_s]
      by_cases z : hvN u = -1
      · rw [if_neg (fun y => y z)]
        exact lpo_r ⟨rfl, fun y => y i (by omega) (by rw [hx Mc, z])⟩
      · rw [if_pos z]
        refine lpo_l (k - 1) (by omega) ⟨i + 1, by omega, nI_add i 1, fun j hj => ?_⟩
        by_cases e : j = i
        · rw [e, hx Mc]; exact fun y => z (Option.some.inj y)
        · exact ha j (by omega)
  obtain ⟨u, eu, hu⟩ := L
  cases u with
  | inl t => exact Or.inl ⟨eu, hu⟩
  | inr t =>
    obtain ⟨rfl, hh⟩ := hu
    exact Or.inr ⟨eu, hh⟩
/-- the reference's look at all bytes -/
theorem s_fitsLoop {Mc Mr : im_M} {n kd : Nat} (h : FB Mc Mr n) (hk : kd ≤ 8) : (lp (uc1 (f_MScriptRows_fits_L76 (nI kd) (nI n) Mr)) 0 = some (.inl ()) ∧ (kd = 2 → aDg Mc n) ∧ (kd = 7 → aHx Mc n)) ∨ (lp (uc1 (f_MScriptRows_fits_L76 (nI kd) (nI n) Mr)) 0 = some (.inr 0) ∧ ((kd = 2 ∧ ¬ aDg Mc n) ∨ (kd = 7 ∧ ¬ aHx Mc n))) := by
  obtain ⟨hn, h8, _, hb⟩ := h
  have c2 : (nI kd = 2) = (kd = 2) := nIe (c := 2) (by omega) (by omega)
  have c7 : (nI kd = 7) = (kd = 7) := nIe (c := 7) (by omega) (by omega)
  have L : ed (lp (uc1 (f_MScriptRows_fits_L76 (nI kd) (nI n) Mr)) 0) (sQ (fun _ => (kd = 2 → aDg Mc n) ∧ (kd = 7 → aHx Mc n)) (fun t => t = 0 ∧ ((kd = 2 ∧ ¬ aDg Mc n) ∨ (kd = 7 ∧ ¬ aHx Mc n)))) := by
    refine lp_inv (fun k (s : Int32) => ∃ i : Nat, i + k = n ∧ s = nI i ∧ (kd = 2 → aDg Mc i) ∧ (kd = 7 → aHx Mc i)) ?_ (k := n) ⟨0, by omega, rfl, fun _ i hi => absurd hi (by omega), fun _ i hi => absurd hi (by omega)⟩
    rintro k x14 ⟨i, hi, rfl, h2, h7⟩
    show ed (f_MScriptRows_fits_L76 (nI kd) (nI n) Mr (nI i)) _
    unfold f_MScriptRows_fits_L76
    simp only [jn0, c2, c7]
    rw [if_nIl (by omega) (by omega)]
    by_cases c : n ≤ i
    · rw [if_pos c]
      obtain rfl : i = n := by omega
      exact lpo_r ⟨h2, h7⟩
    · obtain ⟨u, hu, eu, hdg, hx, hxm, _⟩ := isB_u (hb i (by omega)).2 (hb i (by omega)).1
      rw [if_neg c, gd_pos (by rw [inb_nI (by omega)]; omega), gd_pos (by rw [inb_nI (by omega)]; omega), nI_clamp (by omega), s_dgM, bd1_s, hxm Mr, bd1_s]
      have nx : (kd = 2 → ¬ dgB (im_i Mc 25 i) = 0) → (kd = 7 → ¬ f_HTape_hexValue (im_i Mc 25 i) Mc = some (-1)) → ed (some (Sum.inl (nI i + 1))) (lpo (fun k (s : Int32) => ∃ i : Nat, i + k = n ∧ s = nI i ∧ (kd = 2 → aDg Mc i) ∧ (kd = 7 → aHx Mc i)) (sQ (fun _ : Unit => (kd = 2 → aDg Mc n) ∧ (kd = 7 → aHx Mc n)) (fun t : Int32 => t = 0 ∧ ((kd = 2 ∧ ¬ aDg Mc n) ∨ (kd = 7 ∧ ¬ aHx Mc n)))) k) := fun z2 z7 => lpo_l (k - 1) (by omega) ⟨i + 1, by omega, nI_add i 1, fun q j hj => by
        by_cases e : j = i
        · rw [e]; exact z2 q
        · exact h2 q j (by omega), fun q j hj => by
        by_cases e : j = i
        · rw [e]; exact z7 q
        · exact h7 q j (by omega)⟩
      by_cases k2 : kd = 2
      · rw [if_neg (fun z => z k2)]
        rw [if_pos (show ¬ kd = 7 by omega)]
        by_cases z : dgB (im_i Mr 83 i) = 0
        · rw [if_pos z]
          exact lpo_r ⟨rfl, Or.inl ⟨k2, fun y => y i (by omega) (by rw [hdg]; exact z)⟩⟩
        · rw [if_neg z]
          exact nx (fun _ => by rw [hdg]; exact z) (fun q => absurd q (by omega))
      · rw [if_pos k2]
        by_cases k7 : kd = 7
        · rw [if_neg (fun z => z k7)]
          rcases hv_b (n := u) with hb' | ⟨a, ha, hb'⟩
          · rw [hb', if_neg (show ¬ (0 : Int32) ≤ -1 by decide)]
            exact lpo_r ⟨rfl, Or.inr ⟨k7, fun y => y i (by omega) (by rw [hx Mc, hb'])⟩⟩
          · have z0 : (0 : Int32) ≤ nI a := by
              have : ((0 : Int32) ≤ nI a) = (0 ≤ a) := nIl (x := 0) (by omega) (by omega)
              rw [this]; omega
            rw [hb', if_pos z0]
            exact nx (fun q => absurd q k2) (fun _ => by rw [hx Mc, hb']; exact fun y => nI_nm1 (n := a) (by omega) (Option.some.inj y))
        · rw [if_pos k7]
          exact nx (fun q => absurd q k2) (fun q => absurd q k7)
  obtain ⟨u, eu, hu⟩ := L
  cases u with
  | inl t => exact Or.inl ⟨eu, hu⟩
  | inr t =>
    obtain ⟨rfl, hh⟩ := hu
    exact Or.inr ⟨eu, hh⟩
/-- a field has its data -/
def fitK (Mc : im_M) (kd n P : Nat) : Prop := (im_i Mc 23 5 = 1 → 1 ≤ n ∧ ¬ dgB (im_i Mc 25 (n - 1)) = 0) ∧ (¬ (4 ≤ kd ∧ kd ≤ 6) → 1 ≤ n) ∧ (kd = 2 → n = 12 ∧ aDg Mc n) ∧ (kd = 7 → aHx Mc n ∧ n % 2 = 0 ∧ n / 2 % ((P + 7) / 8) = 0)
