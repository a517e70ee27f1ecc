/-! ROWS OF SYMBOLS: WHAT THEY TELL -/
theorem nIe {x c : Nat} (hx : x < 2147483648) (hc : c < 2147483648) : (nI x = nI c) = (x = c) := propext (nI_eq hx hc)
theorem nIl {x c : Nat} (hx : x < 2147483648) (hc : c < 2147483648) : (nI x ≤ nI c) = (x ≤ c) := propext (nI_leI hx hc)
theorem nIlt {x c : Nat} (hx : x < 2147483648) (hc : c < 2147483648) : (nI x < nI c) = (x < c) := by
  rw [iZ_nI, iZ_nI, iZ_lt (by omega) (by omega)]
  exact propext ⟨fun z => by omega, fun z => by omega⟩
def sgn (t x : Nat) : Nat := if t = 0 ∧ 63 < x then x - 64 else x + 32
/-- one step: the set, the next symbol, the signs -/
def stx (s : Nat → Nat) (e t i : Nat) : Option (Nat × Nat × List Nat) :=
  if s i = 102 then some (t, i + 1, [128])
  else if 99 ≤ s i ∧ s i ≤ 101 ∧ (t = 2 → 100 ≤ s i) then (if 101 - s i = t then none else some (101 - s i, i + 1, []))
  else if t = 2 ∧ s i < 100 then some (t, i + 1, [48 + s i / 10, 48 + s i % 10])
  else if s i = 98 ∧ i + 1 < e ∧ s (i + 1) < 96 then some (t, i + 2, [sgn (1 - t) (s (i + 1))])
  else if s i < 96 then some (t, i + 1, [sgn t (s i)])
  else none
def tsr (s : Nat → Nat) (e : Nat) : Nat → Nat → Nat → List Nat → Option (List Nat)
  | 0, _, _, L => some L
  | f + 1, t, i, L => if e ≤ i then some L else match stx s e t i with
    | none => none
    | some a => tsr s e f a.1 a.2.1 (L ++ a.2.2)
theorem stx_b {s : Nat → Nat} {e t i : Nat} {a : Nat × Nat × List Nat} (ht : t ≤ 2) (hs : ∀ k, s k < 106) (h : stx s e t i = some a) (hi : i < e) : a.1 ≤ 2 ∧ i < a.2.1 ∧ a.2.1 ≤ e ∧ i + a.2.2.length ≤ a.2.1 + 1 ∧ a.2.2.length ≤ 2 := by
  unfold stx at h
  split at h
  · cases h
    exact ⟨ht, Nat.lt_succ_self _, hi, by show i + 1 ≤ i + 1 + 1; omega, by show 1 ≤ 2; omega⟩
  · split at h
    · split at h
      · cases h
      · cases h
        refine ⟨?_, Nat.lt_succ_self _, hi, ?_, by show 0 ≤ 2; omega⟩
        · show 101 - s i ≤ 2
          omega
        · show i + 0 ≤ i + 1 + 1
          omega
    · split at h
      · cases h
        exact ⟨ht, Nat.lt_succ_self _, hi, by show i + 2 ≤ i + 1 + 1; omega, by show 2 ≤ 2; omega⟩
      · split at h
        · cases h
          refine ⟨ht, ?_, ?_, ?_, by show 1 ≤ 2; omega⟩
          · show i < i + 2
            omega
          · show i + 2 ≤ e
            omega
          · show i + 1 ≤ i + 2 + 1
            omega
        · split at h
          · cases h
            exact ⟨ht, Nat.lt_succ_self _, hi, by show i + 1 ≤ i + 1 + 1; omega, by show 1 ≤ 2; omega⟩
          · cases h
/-- what is written: the class -/
def OUT (M : im_M) (L : List Nat) : Prop := im_i M 31 12 = nI L.length ∧ ∀ k, k < L.length → im_i M 68 k &&& 255 = nI (L.getD k 0)
/-- and the reference -/
def OUM (M : im_M) (L : List Nat) : Prop := im_i M 96 17 = nI L.length ∧ ∀ k, k < L.length → im_i M 107 k = nI (L.getD k 0)
theorem gL {L : List Nat} {a k : Nat} : (L ++ [a]).getD k 0 = if k < L.length then L.getD k 0 else if k = L.length then a else 0 := by
  rw [List.getD_eq_getElem?_getD, List.getD_eq_getElem?_getD]
  by_cases h : k < L.length
  · rw [if_pos h, List.getElem?_append_left h]
  · rw [if_neg h, List.getElem?_append_right (by omega)]
    by_cases c : k = L.length
    · rw [if_pos c, c, Nat.sub_self]
      rfl
    · rw [if_neg c]
      obtain ⟨m, hm⟩ : ∃ m, k - L.length = m + 1 := ⟨k - L.length - 1, by omega⟩
      rw [hm]
      rfl
theorem bt_255 : ∀ x : Fin 256, vp_nar .byte ((Int32.toInt8 (nI x.val)).toInt32) &&& 255 = nI x.val := by decide +kernel
theorem s_write {M : im_M} {L : List Nat} {v : Nat} (q : OUT M L) (hL : L.length < 3000) (hv : v < 256) : ed (f_HBars_write (nI v) M) (fun N => OUT N (L ++ [v]) ∧ fr (2 ^ 68) [(31, 12)] M N) := by
  unfold f_HBars_write
  rw [q.1, gd_pos (by rw [inb_nI (by omega)]; exact hL), nI_clamp (by omega)]
  refine ed_mk ⟨⟨?_, ?_⟩, fr_F (by decide) (fr_I (by decide) fr_refl)⟩
  · have e : im_i (im_setI M 68 L.length (vp_nar .byte ((Int32.toInt8 (nI v)).toInt32))) 31 12 = nI L.length := by rw [← q.1]; rfl
    rw [e, nI_1, List.length_append]
    simp [mi_I]
  · intro k hk
    rw [List.length_append] at hk
    replace hk : k < L.length + 1 := hk
    show im_i (im_setI M 68 L.length (vp_nar .byte ((Int32.toInt8 (nI v)).toInt32))) 68 k &&& 255 = _
    rw [gL]
    by_cases c : k = L.length
    · subst c
      rw [if_neg (by omega), if_pos rfl]
      simp only [mi_I, if_pos]
      exact bt_255 ⟨v, hv⟩
    · rw [if_pos (by omega), ← q.2 k (by omega)]
      simp [mi_I, c]
theorem s_tellN {M : im_M} {L : List Nat} {v : Nat} (q : OUM M L) (hL : L.length < 300) : ed (f_MLineRows_tell (nI v) M) (fun N => OUM N (L ++ [v]) ∧ fr (2 ^ 107) [(96, 17)] M N) := by
  rw [s_tellM hL q.1]
  refine ed_mk ⟨⟨?_, ?_⟩, fr_F (by decide) (fr_I (by decide) fr_refl)⟩
  · rw [List.length_append]
    simp [mi_I]
  · intro k hk
    rw [List.length_append] at hk
    replace hk : k < L.length + 1 := hk
    show im_i (im_setI M 107 L.length (nI v)) 107 k = _
    rw [gL]
    by_cases c : k = L.length
    · subst c
      rw [if_neg (by omega), if_pos rfl]
      simp [mi_I]
    · rw [if_pos (by omega), ← q.2 k (by omega)]
      simp [mi_I, c]
theorem s_signH {M : im_M} {x t : Nat} (hx : x < 96) (ht : t ≤ 1) : f_HBars_signOf (nI x) (nI t) M = some (nI (sgn t x)) ∧ sgn t x < 256 := by
  have all : ∀ t : Fin 2, ∀ x : Fin 96, f_HBars_signOf (nI x.val) (nI t.val) mm_341 = some (nI (sgn t.val x.val)) ∧ sgn t.val x.val < 256 := by decide +kernel
  exact all ⟨t, by omega⟩ ⟨x, hx⟩
theorem s_signM {M : im_M} {x t : Nat} (hx : x < 96) (ht : t ≤ 1) : f_MLineRows_signOf (nI t) (nI x) M = some (nI (sgn t x)) := by
  have all : ∀ t : Fin 2, ∀ x : Fin 96, f_MLineRows_signOf (nI t.val) (nI x.val) mm_341 = some (nI (sgn t.val x.val)) := by decide +kernel
  exact all ⟨t, by omega⟩ ⟨x, hx⟩
theorem t_1m {t : Nat} (h : t ≤ 1) : (1 : Int32) - nI t = nI (1 - t) := by
  have : ∀ t : Fin 2, (1 : Int32) - nI t.val = nI (1 - t.val) := by decide
  exact this ⟨t, by omega⟩
theorem t_101 {x : Nat} (h : x ≤ 101) : (101 : Int32) - nI x = nI (101 - x) := by
  have e : (101 : Int32) = iZ 101 := rfl
  rw [iZ_nI, e, iZ_sub, iZ_nI]
  congr 1
  omega
/-- the symbols in a row of the memory -/
def SY (v : Nat → Int32) (s : Nat → Nat) (e : Nat) : Prop := ∀ k, k < e → v k = nI (s k)
theorem s_tell1 {M : im_M} {s : Nat → Nat} {e t i : Nat} {L : List Nat} (hs : ∀ k, s k < 106) (q : SY (im_i M 36) s e) (he : e ≤ 139) (ht : t ≤ 2) (hi : i < e) (o : OUT M L) (hL : L.length ≤ 300) : ed (f_HBars_tell_L18 (nI e) (nI t) (nI i) M) (fun r => match stx s e t i with
    | none => ∃ N, r = .inr (.inr (0, N)) ∧ fr (2 ^ 68) [(31, 12)] M N
    | some a => ∃ N, r = .inl (nI a.1, nI a.2.1, N) ∧ OUT N (L ++ a.2.2) ∧ fr (2 ^ 68) [(31, 12)] M N) := by
  unfold f_HBars_tell_L18
  rw [if_neg (nI_ge hi (by omega)), gd_pos (by rw [inb_nI (by omega)]; omega)]
  simp only [nI_clamp (show i < 2147483648 by omega), q i hi, nI_1]
  have hx := hs i
  generalize hX : s i = x at *
  have c102 : (nI x = 102) = (x = 102) := nIe (c := 102) (by omega) (by omega)
  have c98 : (nI x = 98) = (x = 98) := nIe (c := 98) (by omega) (by omega)
  have c101 : ((101 : Int32) < nI x) = (101 < x) := nIlt (x := 101) (by omega) (by omega)
  have c99 : (nI x < 99) = (x < 99) := nIlt (c := 99) (by omega) (by omega)
  have c100 : (nI x < 100) = (x < 100) := nIlt (c := 100) (by omega) (by omega)
  have c100' : ((100 : Int32) ≤ nI x) = (100 ≤ x) := nIl (x := 100) (by omega) (by omega)
  have c96 : ((96 : Int32) ≤ nI x) = (96 ≤ x) := nIl (x := 96) (by omega) (by omega)
  have ct : (nI t = 2) = (t = 2) := nIe (c := 2) (by omega) (by omega)
  simp only [jn1, jn2, jn3, nI_1, c102, c98, c101, c99, c100, c100', c96, ct]
  unfold stx
  rw [hX]
  by_cases h1 : x = 102
  · rw [if_neg (fun z => z h1)]
    simp only [if_pos h1]
    apply bd1_mk
    have e128 : (128 : Int32) = nI 128 := rfl
    rw [e128]
    exact ed_mono (s_write o (by omega) (by omega)) (fun N hN => ed_mk ⟨N, rfl, hN.1, hN.2⟩)
  · rw [if_pos h1]
    simp only [if_neg h1]
    by_cases h2 : 99 ≤ x ∧ x ≤ 101 ∧ (t = 2 → 100 ≤ x)
    · have z : ¬ ((if 101 < x then 0 else (if ¬ t = 2 then (if x < 99 then 0 else 1) else (if x < 100 then 0 else 1))) : Int32) = 0 := by
        rw [if_neg (by omega)]
        by_cases c : t = 2
        · rw [if_neg (fun z => z c), if_neg (by have := h2.2.2 c; omega)]
          decide
        · rw [if_pos c, if_neg (by omega)]
          decide
      rw [if_neg z, t_101 h2.2.1]
      simp only [if_pos h2]
      have ce : (nI (101 - x) = nI t) = (101 - x = t) := nIe (by omega) (by omega)
      simp only [ce]
      by_cases h3 : 101 - x = t
      · rw [if_neg (fun z => z h3)]
        simp only [if_pos h3]
        exact ed_mk ⟨M, rfl, fr_refl⟩
      · rw [if_pos h3]
        simp only [if_neg h3]
        refine ed_mk ⟨M, rfl, ?_, fr_refl⟩
        rw [List.append_nil]
        exact o
    · have z : ((if 101 < x then 0 else (if ¬ t = 2 then (if x < 99 then 0 else 1) else (if x < 100 then 0 else 1))) : Int32) = 0 := by
        by_cases c1 : 101 < x
        · rw [if_pos c1]
        · rw [if_neg c1]
          by_cases c : t = 2
          · rw [if_neg (fun z => z c), if_pos (by
              apply Decidable.byContradiction
              intro z
              exact h2 ⟨by omega, by omega, fun _ => by omega⟩)]
          · rw [if_pos c, if_pos (by
              apply Decidable.byContradiction
              intro z
              exact h2 ⟨by omega, by omega, fun z => absurd z c⟩)]
      rw [if_pos z]
      simp only [if_neg h2]
      by_cases h3 : t = 2 ∧ x < 100
      · rw [if_neg (fun z => z h3.1), if_neg (by omega)]
        simp only [if_pos h3]
        have e48 : (48 : Int32) = nI 48 := rfl
        have d1 : nI x / 10 = nI (x / 10) := nI_div (b := 10) (by omega) (by omega) (by omega)
        have d2 : nI x - nI x / 10 * 10 = nI (x % 10) := nI_rem (b := 10) (by omega) (by omega) (by omega)
        rw [d2, d1, e48, nI_add, nI_add]
        apply bd1_mk
        refine ed_mono (s_write o (by omega) (by omega)) (fun N hN => ?_)
        apply bd1_mk
        refine ed_mono (s_write hN.1 (by rw [List.length_append]; show L.length + 1 < 3000; omega) (by omega)) (fun N2 hN2 => ed_mk ⟨N2, rfl, ?_, fr_tr hN2.2 hN.2⟩)
        have := hN2.1
        rw [List.append_assoc] at this
        exact this
      · have z8 : ∀ (a b : Option ((Int32 × Int32 × im_M) ⊕ ((im_M) ⊕ (Int32 × im_M)))), (if ¬ t = 2 then a else if 100 ≤ x then a else b) = a := by
          intro a b
          by_cases c : t = 2
          · rw [if_neg (fun z => z c), if_pos (by
              apply Decidable.byContradiction
              intro z
              exact h3 ⟨c, by omega⟩)]
          · rw [if_pos c]
        rw [z8]
        simp only [if_neg h3]
        have tail : ∀ (a : Option ((Int32 × Int32 × im_M) ⊕ ((im_M) ⊕ (Int32 × im_M)))), a = (if 96 ≤ x then some (Sum.inr (Sum.inr (0, M))) else bd1 (f_HBars_signOf (nI x) (nI t) M) fun x29 => bd1 (f_HBars_write x29 M) fun M30 => some (Sum.inl (nI t, nI (i + 1), M30))) → ed a (fun r => match (if x < 96 then some (t, i + 1, [sgn t x]) else none : Option (Nat × Nat × List Nat)) with
            | none => ∃ N, r = .inr (.inr (0, N)) ∧ fr (2 ^ 68) [(31, 12)] M N
            | some a => ∃ N, r = .inl (nI a.1, nI a.2.1, N) ∧ OUT N (L ++ a.2.2) ∧ fr (2 ^ 68) [(31, 12)] M N) := by
          intro a ha
          rw [ha]
          by_cases c : 96 ≤ x
          · rw [if_pos c]
            simp only [if_neg (show ¬ x < 96 by omega)]
            exact ed_mk ⟨M, rfl, fr_refl⟩
          · have tl : t ≤ 1 := by omega
            rw [if_neg c, (s_signH (by omega) tl).1, bd1_s]
            simp only [if_pos (show x < 96 by omega)]
            apply bd1_mk
            exact ed_mono (s_write o (by omega) (s_signH (M := M) (by omega) tl).2) (fun N hN => ed_mk ⟨N, rfl, hN.1, hN.2⟩)
        by_cases h4 : x = 98
        · rw [if_neg (fun z => z h4)]
          by_cases h5 : i + 1 < e
          · rw [if_neg (nI_ge h5 (by omega)), gd_pos (by rw [inb_nI (by omega)]; omega), nI_clamp (by omega), q (i + 1) h5, gd_pos (by rw [inb_nI (by omega)]; omega)]
            have hy := hs (i + 1)
            have cy : ((96 : Int32) ≤ nI (s (i + 1))) = (96 ≤ s (i + 1)) := nIl (x := 96) (by omega) (by omega)
            simp only [cy]
            by_cases h6 : s (i + 1) < 96
            · have tl : t ≤ 1 := by omega
              rw [if_neg (by omega), t_1m tl, (s_signH h6 (by omega)).1, bd1_s]
              simp only [if_pos (show x = 98 ∧ i + 1 < e ∧ s (i + 1) < 96 from ⟨h4, h5, h6⟩)]
              apply bd1_mk
              exact ed_mono (s_write o (by omega) (s_signH (M := M) h6 (by omega)).2) (fun N hN => ed_mk ⟨N, rfl, hN.1, hN.2⟩)
            · rw [if_pos (show 96 ≤ s (i + 1) by omega)]
              simp only [if_neg (show ¬ (x = 98 ∧ i + 1 < e ∧ s (i + 1) < 96) from fun z => h6 z.2.2)]
              exact tail _ rfl
          · rw [if_pos (nI_le (by omega) (by omega))]
            simp only [if_neg (show ¬ (x = 98 ∧ i + 1 < e ∧ s (i + 1) < 96) from fun z => h5 z.2.1)]
            exact tail _ rfl
        · rw [if_pos h4]
          simp only [if_neg (show ¬ (x = 98 ∧ i + 1 < e ∧ s (i + 1) < 96) from fun z => h4 z.1)]
          exact tail _ rfl
