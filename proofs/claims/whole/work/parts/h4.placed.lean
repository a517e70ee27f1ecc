/-! THE REFERENCE LAYS A FIELD AND COUNTS ITS ORDERS -/
def qL (M : im_M) (j : Nat) : Int32 := if j = 5 then im_i M 81 5 + im_i M 71 22 else if j = 6 then im_i M 81 6 + im_i M 71 23 else if 11 ≤ j ∧ j ≤ 14 then im_i M 80 (j - 11) else im_i M 81 j
theorem s_layR {M : im_M} {f : Nat} (h25 : im_i M 71 25 = nI f) (hf : f ≤ 120) : ed (f_MScriptRows_lay M) (fun R => fr (2 ^ 81 ||| 2 ^ 82 ||| 2 ^ 84) [] M R ∧ im_i R 81 0 = im_i M 81 0 ∧ (∀ p, im_i R 82 p = if 16 * f ≤ p ∧ p < 16 * f + 16 then qL M (p - 16 * f) else im_i M 82 p) ∧ ∀ p, im_i R 84 p = if 200 * f ≤ p ∧ p < 200 * f + 200 then im_i M 83 (p - 200 * f) else im_i M 84 p) := by
  have c5 : Int32.toNatClampNeg 5 = 5 := rfl
  have c6 : Int32.toNatClampNeg 6 = 6 := rfl
  unfold f_MScriptRows_lay
  rw [gd_pos (by decide), gd_pos (by decide), gd_pos (by decide), gd_pos (by decide), c5, c6]
  obtain ⟨M1, h1⟩ : ∃ N, N = (im_setI (im_setI M 81 5 ((im_i M 81 5) + (im_i M 71 22))) 81 6 ((im_i (im_setI M 81 5 ((im_i M 81 5) + (im_i M 71 22))) 81 6) + (im_i (im_setI M 81 5 ((im_i M 81 5) + (im_i M 71 22))) 71 23))) := ⟨_, rfl⟩
  have f1 : fr (2 ^ 81) [] M M1 := by rw [h1]; exact fr_I (by decide) (fr_I (by decide) fr_refl)
  have v1 : ∀ j, im_i M1 81 j = if j = 6 then im_i M 81 6 + im_i M 71 23 else if j = 5 then im_i M 81 5 + im_i M 71 22 else im_i M 81 j := fun j => by rw [h1]; rfl
  rw [← h1]
  clear h1
  have L1 : ed (lp (uc2 f_MScriptRows_lay_L38) (0, M1)) (fun R => fr (2 ^ 81) [] M1 R ∧ ∀ j, im_i R 81 j = if 11 ≤ j ∧ j < 15 then im_i M 80 (j - 11) else im_i M1 81 j) := by
    refine lp_inv (fun k (s : Int32 × im_M) => ∃ i : Nat, i + k = 4 ∧ s.1 = nI i ∧ fr (2 ^ 81) [] M1 s.2 ∧ ∀ j, im_i s.2 81 j = if 11 ≤ j ∧ j < 11 + i then im_i M 80 (j - 11) else im_i M1 81 j) ?_ (k := 4) ⟨0, by omega, rfl, fr_refl, fun j => by rw [if_neg (by omega)]⟩
    rintro k ⟨x2, M3⟩ ⟨i, hi, e1, f3, h⟩
    replace e1 : x2 = nI i := e1
    replace f3 : fr (2 ^ 81) [] M1 M3 := f3
    replace h : ∀ j, im_i M3 81 j = if 11 ≤ j ∧ j < 11 + i then im_i M 80 (j - 11) else im_i M1 81 j := h
    subst e1
    show ed (f_MScriptRows_lay_L38 (nI i) M3) _
    unfold f_MScriptRows_lay_L38
    have t4 : ((4 : Int32) ≤ nI i) = (4 ≤ i) := nIl (x := 4) (by omega) (by omega)
    simp only [t4]
    by_cases c : 4 ≤ i
    · rw [if_pos c]
      obtain rfl : i = 4 := by omega
      exact lpo_r ⟨f3, h⟩
    · have e11 : (11 : Int32) + nI i = nI (11 + i) := by rw [show (11 : Int32) = nI 11 from rfl, nI_add]
      have e80 : im_i M3 80 = im_i M 80 := (fr_c f3 80 (by decide) (by decide)).trans (fr_c f1 80 (by decide) (by decide))
      rw [if_neg c, e11, gd_pos (by rw [inb_nI (by omega)]; omega), gd_pos (by rw [inb_nI (by omega)]; omega), nI_clamp (by omega), nI_clamp (by omega), e80]
      refine lpo_l (k - 1) (by omega) ⟨i + 1, by omega, nI_add i 1, fr_I (by decide) f3, fun j => ?_⟩
      show (if j = 11 + i then im_i M 80 i else im_i M3 81 j) = _
      by_cases e : j = 11 + i
      · subst e
        rw [if_pos rfl, if_pos (by omega), Nat.add_sub_cancel_left]
      · rw [if_neg e, h]
        by_cases d : 11 ≤ j ∧ j < 11 + i
        · rw [if_pos d, if_pos (by omega)]
        · rw [if_neg d, if_neg (by omega)]
  apply bd1_mk
  refine ed_mono L1 ?_
  rintro M4 ⟨f4, v4⟩
  have g4 : fr (2 ^ 81) [] M M4 := fr_tr f4 f1
  have q4 : ∀ j, j < 16 → im_i M4 81 j = qL M j := fun j hj => by
    rw [v4, v1]
    unfold qL
    by_cases d : 11 ≤ j ∧ j < 15
    · rw [if_pos d, if_neg (by omega), if_neg (by omega), if_pos (by omega)]
    · rw [if_neg d]
      by_cases d6 : j = 6
      · rw [if_pos d6, if_neg (by omega), if_pos d6]
      · rw [if_neg d6]
        by_cases d5 : j = 5
        · rw [if_pos d5, if_pos d5]
        · rw [if_neg d5, if_neg d5, if_neg d6, if_neg (by omega)]
  have L2 : ed (lp (uc2 f_MScriptRows_lay_L66) (0, M4)) (fun R => fr (2 ^ 82) [] M4 R ∧ ∀ p, im_i R 82 p = if 16 * f ≤ p ∧ p < 16 * f + 16 then qL M (p - 16 * f) else im_i M 82 p) := by
    refine lp_inv (fun k (s : Int32 × im_M) => ∃ i : Nat, i + k = 16 ∧ s.1 = nI i ∧ fr (2 ^ 82) [] M4 s.2 ∧ ∀ p, im_i s.2 82 p = if 16 * f ≤ p ∧ p < 16 * f + i then qL M (p - 16 * f) else im_i M 82 p) ?_ (k := 16) ⟨0, by omega, rfl, fr_refl, fun p => by rw [if_neg (by omega)]; exact g4.1 82 p (by decide) (by simp)⟩
    rintro k ⟨x6, M7⟩ ⟨i, hi, e1, f7, h⟩
    replace e1 : x6 = nI i := e1
    replace f7 : fr (2 ^ 82) [] M4 M7 := f7
    replace h : ∀ p, im_i M7 82 p = if 16 * f ≤ p ∧ p < 16 * f + i then qL M (p - 16 * f) else im_i M 82 p := h
    subst e1
    show ed (f_MScriptRows_lay_L66 (nI i) M7) _
    unfold f_MScriptRows_lay_L66
    have t4 : ((16 : Int32) ≤ nI i) = (16 ≤ i) := nIl (x := 16) (by omega) (by omega)
    simp only [t4]
    by_cases c : 16 ≤ i
    · rw [if_pos c]
      obtain rfl : i = 16 := by omega
      exact lpo_r ⟨f7, h⟩
    · have e25 : im_i M7 71 25 = nI f := ((f7.1 71 25 (by decide) (by decide)).trans (g4.1 71 25 (by decide) (by decide))).trans h25
      have e81 : im_i M7 81 = im_i M4 81 := fr_c f7 81 (by decide) (by decide)
      have e11 : (16 : Int32) * nI f + nI i = nI (16 * f + i) := by rw [nI_m, nI_add]
      rw [if_neg c, e25, e11, gd_pos (by rw [inb_nI (by omega)]; omega), gd_pos (by rw [inb_nI (by omega)]; omega), nI_clamp (by omega), nI_clamp (by omega), e81, q4 i (by omega)]
      refine lpo_l (k - 1) (by omega) ⟨i + 1, by omega, nI_add i 1, fr_I (by decide) f7, fun p => ?_⟩
      show (if p = 16 * f + i then qL M i else im_i M7 82 p) = _
      by_cases e : p = 16 * f + i
      · subst e
        rw [if_pos rfl, if_pos (by omega), Nat.add_sub_cancel_left]
      · rw [if_neg e, h]
        by_cases d : 16 * f ≤ p ∧ p < 16 * f + i
        · rw [if_pos d, if_pos (by omega)]
        · rw [if_neg d, if_neg (by omega)]
  apply bd1_mk
  refine ed_mono L2 ?_
  rintro M8 ⟨f8, v8⟩
  have g8 : fr (2 ^ 81 ||| 2 ^ 82) [] M M8 := fr_tr (fr_mono (by decide) (by decide) f8) (fr_mono (by decide) (by decide) g4)
  have L3 : ed (lp (uc2 f_MScriptRows_lay_L100) (0, M8)) (fun R => fr (2 ^ 84) [] M8 R ∧ ∀ p, im_i R 84 p = if 200 * f ≤ p ∧ p < 200 * f + 200 then im_i M 83 (p - 200 * f) else im_i M 84 p) := by
    refine lp_inv (fun k (s : Int32 × im_M) => ∃ i : Nat, i + k = 200 ∧ s.1 = nI i ∧ fr (2 ^ 84) [] M8 s.2 ∧ ∀ p, im_i s.2 84 p = if 200 * f ≤ p ∧ p < 200 * f + i then im_i M 83 (p - 200 * f) else im_i M 84 p) ?_ (k := 200) ⟨0, by omega, rfl, fr_refl, fun p => by rw [if_neg (by omega)]; exact g8.1 84 p (by decide) (by simp)⟩
    rintro k ⟨x6, M7⟩ ⟨i, hi, e1, f7, h⟩
    replace e1 : x6 = nI i := e1
    replace f7 : fr (2 ^ 84) [] M8 M7 := f7
    replace h : ∀ p, im_i M7 84 p = if 200 * f ≤ p ∧ p < 200 * f + i then im_i M 83 (p - 200 * f) else im_i M 84 p := h
    subst e1
    show ed (f_MScriptRows_lay_L100 (nI i) M7) _
    unfold f_MScriptRows_lay_L100
    have t4 : ((200 : Int32) ≤ nI i) = (200 ≤ i) := nIl (x := 200) (by omega) (by omega)
    simp only [t4]
    by_cases c : 200 ≤ i
    · rw [if_pos c]
      obtain rfl : i = 200 := by omega
      exact lpo_r ⟨f7, h⟩
    · have e25 : im_i M7 71 25 = nI f := ((f7.1 71 25 (by decide) (by decide)).trans (g8.1 71 25 (by decide) (by decide))).trans h25
      have e83 : im_i M7 83 = im_i M 83 := (fr_c f7 83 (by decide) (by decide)).trans (fr_c g8 83 (by decide) (by decide))
      have e11 : (200 : Int32) * nI f + nI i = nI (200 * f + i) := by rw [nI_m, nI_add]
      rw [if_neg c, e25, e11, gd_pos (by rw [inb_nI (by omega)]; omega), gd_pos (by rw [inb_nI (by omega)]; omega), nI_clamp (by omega), nI_clamp (by omega), e83]
      refine lpo_l (k - 1) (by omega) ⟨i + 1, by omega, nI_add i 1, fr_I (by decide) f7, fun p => ?_⟩
      show (if p = 200 * f + i then im_i M 83 i else im_i M7 84 p) = _
      by_cases e : p = 200 * f + i
      · subst e
        rw [if_pos rfl, if_pos (by omega), Nat.add_sub_cancel_left]
      · rw [if_neg e, h]
        by_cases d : 200 * f ≤ p ∧ p < 200 * f + i
        · rw [if_pos d, if_pos (by omega)]
        · rw [if_neg d, if_neg (by omega)]
  apply bd1_mk
  refine ed_mono L3 ?_
  rintro M12 ⟨f12, v12⟩
  have g12 : fr (2 ^ 81 ||| 2 ^ 82 ||| 2 ^ 84) [] M M12 := fr_tr (fr_mono (by decide) (by decide) f12) (fr_mono (by decide) (by decide) g8)
  refine ed_mk ⟨g12, ?_, fun p => ?_, v12⟩
  · rw [f12.1 81 0 (by decide) (by decide), f8.1 81 0 (by decide) (by decide), q4 0 (by omega)]
    rfl
  · rw [f12.1 82 p (by decide) (by simp)]
    exact v8 p
/-- some order lies too far -/
def farL (q : Nat → Int32) : List OD → Bool
  | [] => false
  | o :: T => farI (sxI (q 5) o.1.2.2.1 o.1.2.2.2 o.1.2.1) || farI (syI (q 6) o.1.2.2.1 o.1.2.2.2 o.1.2.1) || farL q T
theorem farL_app {q : Nat → Int32} {o : OD} : ∀ {l : List OD}, farL q (l ++ [o]) = (farL q l || (farI (sxI (q 5) o.1.2.2.1 o.1.2.2.2 o.1.2.1) || farI (syI (q 6) o.1.2.2.1 o.1.2.2.2 o.1.2.1))) := by
  intro l
  induction l with
  | nil => show (_ || _ || false) = (false || _); simp
  | cons a l ih => show (_ || _ || farL q (l ++ [o])) = (_ || _ || farL q l || _); rw [ih]; simp [Bool.or_assoc]
theorem farL_iff {q : Nat → Int32} : ∀ {l : List OD}, farL q l = false ↔ ∀ o ∈ l, nrO q o := by
  intro l
  induction l with
  | nil => exact ⟨fun _ o ho => by simp at ho, fun _ => rfl⟩
  | cons a l ih =>
    constructor
    · intro h o ho
      have h : (farI (sxI (q 5) a.1.2.2.1 a.1.2.2.2 a.1.2.1) || farI (syI (q 6) a.1.2.2.1 a.1.2.2.2 a.1.2.1) || farL q l) = false := h
      rw [Bool.or_eq_false_iff, Bool.or_eq_false_iff] at h
      rcases List.mem_cons.mp ho with rfl | ho
      · exact h.1
      · exact ih.mp h.2 o ho
    · intro h
      show (farI (sxI (q 5) a.1.2.2.1 a.1.2.2.2 a.1.2.1) || farI (syI (q 6) a.1.2.2.1 a.1.2.2.2 a.1.2.1) || farL q l) = false
      rw [Bool.or_eq_false_iff, Bool.or_eq_false_iff]
      exact ⟨h a (List.mem_cons_self ..), ih.mpr (fun o ho => h o (List.mem_cons_of_mem _ ho))⟩
