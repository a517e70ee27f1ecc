/-! THIRTEEN FIGURES: THE REFERENCE -/
def rv4 (t : Nat) : Nat := t % 10 * 1000 + t / 10 % 10 * 100 + t / 100 % 10 * 10 + t / 1000
theorem rv4_all : ∀ a b c d : Fin 10, rv4 (rv4 (1000 * a.val + 100 * b.val + 10 * c.val + d.val)) = 1000 * a.val + 100 * b.val + 10 * c.val + d.val ∧ rv4 (1000 * a.val + 100 * b.val + 10 * c.val + d.val) < 10000 := by decide +kernel
theorem rv4_rv4 {t : Nat} (h : t < 10000) : rv4 (rv4 t) = t ∧ rv4 t < 10000 := by
  have := rv4_all ⟨t / 1000, by omega⟩ ⟨t / 100 % 10, by omega⟩ ⟨t / 10 % 10, by omega⟩ ⟨t % 10, by omega⟩
  have e : 1000 * (t / 1000) + 100 * (t / 100 % 10) + 10 * (t / 10 % 10) + t % 10 = t := by omega
  simp only [e] at this
  exact this
theorem s_rev {M : im_M} {t : Nat} (h : t < 10000000) : f_MLineRows_reversed (nI t) M = some (nI (rv4 t)) := by
  unfold f_MLineRows_reversed rv4
  have e10 : (10 : Int32) = nI 10 := rfl
  have e100 : (100 : Int32) = nI 100 := rfl
  have e1000 : (1000 : Int32) = nI 1000 := rfl
  have r1 : nI t - nI t / nI 10 * nI 10 = nI (t % 10) := nI_rem (by omega) (by omega) (by omega)
  have d1 : nI t / nI 10 = nI (t / 10) := nI_div (by omega) (by omega) (by omega)
  have d2 : nI t / nI 100 = nI (t / 100) := nI_div (by omega) (by omega) (by omega)
  have d3 : nI t / nI 1000 = nI (t / 1000) := nI_div (by omega) (by omega) (by omega)
  have r2 : nI (t / 10) - nI (t / 10) / nI 10 * nI 10 = nI (t / 10 % 10) := nI_rem (by omega) (by omega) (by omega)
  have r3 : nI (t / 100) - nI (t / 100) / nI 10 * nI 10 = nI (t / 100 % 10) := nI_rem (by omega) (by omega) (by omega)
  rw [e10, e100, e1000, r1, d1, d2, d3, r2, r3, nI_mul, nI_mul, nI_mul, nI_add, nI_add, nI_add]
theorem tab_f : ∀ j : Fin 10, im_i mm_341 98 j.val = xa_6 (nI j.val) ∧ im_i mm_341 99 j.val = xa_4 (nI j.val) ∧ nI (xa_6 (nI j.val)).toNatClampNeg = xa_6 (nI j.val) ∧ okt 4 (xa_6 (nI j.val)).toNatClampNeg = true ∧ nI (xa_5 (nI j.val)).toNatClampNeg = xa_5 (nI j.val) ∧ okt 4 (xa_5 (nI j.val)).toNatClampNeg = true ∧ rv4 (xa_6 (nI j.val)).toNatClampNeg = (xa_5 (nI j.val)).toNatClampNeg ∧ rv4 (xa_5 (nI j.val)).toNatClampNeg = (xa_6 (nI j.val)).toNatClampNeg := by decide +kernel
theorem okt_lt {c t : Nat} (h : okt c t = true) : t < 10 ^ c := by
  obtain ⟨h1, h2⟩ := okt_1 h
  have := nm_lt (f := dig c t) c (fun k hk => by have := h2 k hk; omega)
  rw [h1] at this
  exact this
/-- the pattern as the reference counts it -/
def cn4 (u : Nat → Nat) (i : Nat) : Nat := nm (mn9 (rw4 u i)) 4
theorem cn4_lt {u : Nat → Nat} {i : Nat} : cn4 u i < 10000 := nm_lt 4 (fun k _ => mn9_le)
theorem plA {M : im_M} {u : Nat → Nat} {i : Nat} (t98 : im_i M 98 = im_i mm_341 98) : f_MLineRows_place_1 (nI (cn4 u i)) M = some (oI (figA u i)) := by
  rw [s_plc1]
  congr 2
  unfold figA
  apply fdp_congr
  intro j hj
  obtain ⟨a1, a2, a3, a4, a5, a6, a7, a8⟩ := tab_f ⟨j, hj⟩
  show im_i M 98 j = nI (cn4 u i) ↔ xa_6 (nI j) = pv (rw4 u i) 4
  rw [t98, a1]
  have := pv_eq (f := rw4 u i) (c := 4) (by omega) a4
  rw [a3] at this
  rw [this]
  rfl
theorem plB {M : im_M} {u : Nat → Nat} {i : Nat} (t98 : im_i M 98 = im_i mm_341 98) : f_MLineRows_place_1 (nI (rv4 (cn4 u i))) M = some (oI (figB u i)) := by
  rw [s_plc1]
  congr 2
  unfold figB
  apply fdp_congr
  intro j hj
  obtain ⟨a1, a2, a3, a4, a5, a6, a7, a8⟩ := tab_f ⟨j, hj⟩
  show im_i M 98 j = nI (rv4 (cn4 u i)) ↔ xa_5 (nI j) = pv (rw4 u i) 4
  replace a1 : im_i mm_341 98 j = xa_6 (nI j) := a1
  replace a3 : nI (xa_6 (nI j)).toNatClampNeg = xa_6 (nI j) := a3
  replace a4 : okt 4 (xa_6 (nI j)).toNatClampNeg = true := a4
  replace a5 : nI (xa_5 (nI j)).toNatClampNeg = xa_5 (nI j) := a5
  replace a6 : okt 4 (xa_5 (nI j)).toNatClampNeg = true := a6
  replace a7 : rv4 (xa_6 (nI j)).toNatClampNeg = (xa_5 (nI j)).toNatClampNeg := a7
  replace a8 : rv4 (xa_5 (nI j)).toNatClampNeg = (xa_6 (nI j)).toNatClampNeg := a8
  have e := pv_eq (f := rw4 u i) (c := 4) (by omega) a6
  rw [t98, a1, ← a5, e, ← a3]
  have l6 := okt_lt a4
  have l5 := okt_lt a6
  have lc := cn4_lt (u := u) (i := i)
  have lr := rv4_rv4 lc
  have e4 : 10 ^ 4 = 10000 := rfl
  rw [e4] at l5 l6
  show nI _ = nI _ ↔ nI _ = nI (cn4 u i)
  constructor
  · intro z
    have := (nI_eq (by omega) (by omega)).mp z
    rw [← a7, this, lr.1]
  · intro z
    have := (nI_eq (by omega) (by omega)).mp z
    rw [← a8, this]
theorem gf_m {i : Nat} (h1 : 1 ≤ i) (h2 : i ≤ 12) : ((if 8 ≤ nI (i + 1) then ((32 : Int32) + ((4 : Int32) * (nI (i + 1) - 8))) else ((3 : Int32) + ((4 : Int32) * (nI (i + 1) - 2)))) : Int32) = nI (gf i) := by
  have : ∀ i : Fin 13, 1 ≤ i.val → ((if 8 ≤ nI (i.val + 1) then ((32 : Int32) + ((4 : Int32) * (nI (i.val + 1) - 8))) else ((3 : Int32) + ((4 : Int32) * (nI (i.val + 1) - 2)))) : Int32) = nI (gf i.val) := by decide +kernel
  exact this ⟨i, by omega⟩ h1
theorem oI_neg {o : Option Nat} (h : ∀ j, o = some j → j < 1000) : (0 ≤ oI o ↔ ¬ o = none) := by
  cases o with
  | none => exact ⟨fun z => absurd z (by decide), fun z => absurd rfl z⟩
  | some j =>
    have := h j rfl
    exact ⟨fun _ z => (by cases z), fun _ => Int32.not_lt.mp (nI_pos (by omega))⟩
theorem s_fig1M {M : im_M} {u : Nat → Nat} (q : WM M u 59) (t98 : im_i M 98 = im_i mm_341 98) {i : Nat} (h1 : 1 ≤ i) (h2 : i ≤ 12) : f_MLineRows_isThirteen_L59 (nI (tR u (cap7 i))) (nI (i + 1)) M = some (match fig u i with
    | some j => .inl (nI (tR u (cap7 (i + 1))), nI (i + 2), im_setI M 105 (i + 1) (nI j))
    | none => .inr (.inr (0, M))) := by
  unfold f_MLineRows_isThirteen_L59
  have z13 : ¬ (13 : Int32) < nI (i + 1) := Int32.not_lt.mpr (nI_le (b := 13) (by omega) (by omega))
  have hg := (gf_n h1 h2).2
  have e4 : (4 : Int32) = nI 4 := rfl
  have e7 : (7 : Int32) = nI 7 := rfl
  have s1 : 4 ≤ sm u (gf i) 4 := sm_ge 4 (fun k hk => (q.2.1 (gf i + k) (by omega)).1)
  have s2 : sm u (gf i) 4 ≤ 512 * 4 := sm_le 4 (fun k hk => (q.2.1 (gf i + k) (by omega)).2)
  have sS : f_MLineRows_sumOf (nI (gf i)) 4 M = some (nI (sm u (gf i) 4)) := s_sumM q (a := gf i) (c := 4) hg
  have sC : f_MLineRows_counts (nI (gf i)) 4 (nI (sm u (gf i) 4)) 7 M = some (nI (cn4 u i)) := s_cntM q (a := gf i) (c := 4) (m := 7) hg (by omega) (by omega) (by omega)
  have lc := cn4_lt (u := u) (i := i)
  rw [if_neg z13, gf_m h1 h2, sS, bd1_s, sC, bd1_s, plA t98, bd1_s]
  have oA : (0 ≤ oI (figA u i) ↔ ¬ figA u i = none) := oI_neg (fun j hj => by have := (fdp_some 10 j hj).1; omega)
  have oB : (0 ≤ oI (figB u i) ↔ ¬ figB u i = none) := oI_neg (fun j hj => by have := (fdp_some 10 j hj).1; omega)
  have ig : inb (nI (i + 1)) 140 := by rw [inb_nI (by omega)]; omega
  simp only [jn0, nI_clamp (show i + 1 < 2147483648 by omega)]
  have n2 : nI (i + 1) + 1 = nI (i + 2) := nI_1 (i + 1)
  have e2 : (2 : Int32) = nI 2 := rfl
  have z8 : (8 ≤ nI (i + 1)) = (7 ≤ i) := by
    apply propext
    exact ⟨fun z => by
      by_cases c : 7 ≤ i
      · exact c
      · exact absurd z (nI_ge (b := 8) (by omega) (by omega)), fun z => nI_le (a := 8) (by omega) (by omega)⟩
  have z7 : ((7 : Int32) < nI (i + 1)) = (7 ≤ i) := by
    apply propext
    exact ⟨fun z => by
      by_cases c : 7 ≤ i
      · exact c
      · exact absurd z (Int32.not_lt.mpr (nI_le (b := 7) (by omega) (by omega))), fun z => nI_lt (a := 7) (by omega) (by omega)⟩
  have cap : ¬ 7 ≤ i → cap7 i = i ∧ cap7 (i + 1) = i + 1 := fun c => by
    unfold cap7
    rw [if_neg c]
    refine ⟨rfl, ?_⟩
    split <;> omega
  have capb : 7 ≤ i → cap7 i = 7 ∧ cap7 (i + 1) = 7 := fun c => by
    unfold cap7
    rw [if_pos c, if_pos (by omega)]
    exact ⟨rfl, rfl⟩
  cases eA : figA u i with
  | some j =>
    have ef : fig u i = some j := by unfold fig; rw [eA]
    have h0 : (0 : Int32) ≤ oI (some j) := by rw [← eA]; exact oA.mpr (by rw [eA]; simp)
    rw [if_pos h0, if_pos rfl, if_pos rfl, bd1_s, plA t98, bd1_s, gd_pos ig, eA, ef, n2]
    simp only [z8]
    congr 3
    by_cases c : 7 ≤ i
    · rw [if_pos c, (capb c).1, (capb c).2]
    · have : tR u (i + 1) = 2 * tR u i := by
        show 2 * tR u i + (if 1 ≤ i ∧ figA u i = none then 1 else 0) = _
        rw [if_neg (fun z => by rw [eA] at z; exact absurd z.2 (by simp))]
        rfl
      rw [if_neg c, (cap c).1, (cap c).2, e2, nI_mul, this]
      exact nI_add _ 0
  | none =>
    have h0 : ¬ (0 : Int32) ≤ oI none := by decide
    rw [if_neg h0]
    simp only [if_neg (show ¬ (1 : Int32) = 0 by decide), z7]
    by_cases c : 7 ≤ i
    · have ef : fig u i = none := by
        unfold fig
        rw [eA]
        simp only [if_pos c]
      rw [if_pos c, ef]
    · have ef : fig u i = figB u i := by
        unfold fig
        rw [eA]
        simp only [if_neg c]
      rw [if_neg c, s_rev (by omega), bd1_s, plB t98, bd1_s, ef]
      cases eB : figB u i with
      | none => rw [if_neg (by decide)]
      | some j =>
        have h0 : (0 : Int32) ≤ oI (some j) := by rw [← eB]; exact oB.mpr (by rw [eB]; simp)
        have : tR u (i + 1) = 2 * tR u i + 1 := by
          show 2 * tR u i + (if 1 ≤ i ∧ figA u i = none then 1 else 0) = _
          rw [if_pos ⟨h1, eA⟩]
        rw [if_pos h0, bd1_s, bd1_s, plB t98, bd1_s, gd_pos ig, eB, n2]
        simp only [z8, if_neg c, if_neg (show ¬ (1 : Int32) = 0 by decide)]
        congr 3
        rw [(cap c).1, (cap c).2, e2, nI_mul, this]
        exact nI_add _ 1
