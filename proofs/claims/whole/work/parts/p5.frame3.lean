/-! THE WHOLE FRAME, BY BOTH -/
def vsS (n : Nat) (w : Int32) (i : Nat) (s : GS) : GS := fx n ((i / 3 : Nat) : Int) ((n - 11 + i % 3 : Nat) : Int) (ib w i) (fx n ((n - 11 + i % 3 : Nat) : Int) ((i / 3 : Nat) : Int) (ib w i) s)
def vsF (n : Nat) (w : Int32) (s : GS) : GS := itN (fun i s => vsS n w i s) s 18
theorem s_versionC {M0 M : im_M} {n v : Nat} {s : GS} (h : CG M0 M n v s) (hn : 21 ≤ n ∧ n ≤ 177) : ed (f_HGrid_fixVersion M) (fun R => CG M0 R n v (vsF n (vsW v) s)) := by
  unfold f_HGrid_fixVersion
  have e : f_HGrid_rest (nI v <<< (12 &&& 31 : Int32) : Int32) 7973 12 18 M = some (rsW (nI v <<< (12 &&& 31 : Int32) : Int32) 7973 12 17 6) := s_rest (dg := 12) (t := 17) (by omega)
  rw [h.2.1, e, bd1_s]
  show ed (bd1 (lp (uc2 (f_HGrid_fixVersion_L28 (vsW v))) (0, M)) _) _
  generalize vsW v = w
  apply bd1_mk
  refine ed_mono (lp_for (S := GS) (fun a s (t : Int32 × im_M) => t.1 = nI a ∧ CG M0 t.2 n v s) (Q := fun s R => CG M0 R n v s) 18 (fun i s => vsS n w i s) ?_ ?_ ⟨rfl, h⟩) (fun R h => ed_mk h)
  · rintro i s ⟨x4, M5⟩ hi ⟨e1, h5⟩
    replace e1 : x4 = nI i := e1
    replace h5 : CG M0 M5 n v s := h5
    subst e1
    show ed (f_HGrid_fixVersion_L28 w (nI i) M5) _
    unfold f_HGrid_fixVersion_L28
    have k18 : ((18 : Int32) ≤ nI i) = (18 ≤ i) := nIl (x := 18) (by omega) (by omega)
    have d3 : nI i / 3 = nI (i / 3) := nI_div (b := 3) (by omega) (by omega) (by omega)
    have r3 : nI i - nI (i / 3) * 3 = nI (i % 3) := by rw [← d3]; exact nI_rem (b := 3) (by omega) (by omega) (by omega)
    have en : nI n - 11 + nI (i % 3) = nI (n - 11 + i % 3) := by rw [show (11 : Int32) = nI 11 from rfl, nI_sb (by omega), nI_add]
    have hb := bt_c (w := w) (i := i) (by omega)
    simp only [k18]
    rw [if_neg (by omega), h5.1, d3, r3, en, iZ_nI (n := n - 11 + i % 3), iZ_nI (n := i / 3)]
    apply bd1_mk
    refine ed_mono (s_fixC h5 hn.2 (by omega) (by omega) hb) ?_
    intro M7 h7
    rw [h7.1, en, iZ_nI (n := n - 11 + i % 3)]
    apply bd1_mk
    exact ed_mono (s_fixC h7 hn.2 (by omega) (by omega) hb) (fun R hR => ed_mk ⟨_, rfl, nI_add i 1, hR⟩)
  · rintro s ⟨x4, M5⟩ ⟨e1, h5⟩
    replace e1 : x4 = nI 18 := e1
    subst e1
    show ed (f_HGrid_fixVersion_L28 w (nI 18) M5) _
    unfold f_HGrid_fixVersion_L28
    rw [if_pos (by decide)]
    exact ed_mk ⟨_, rfl, h5⟩
theorem s_versionR {M0 M : im_M} {n v : Nat} {w : Int32} {s : GS} (h : RGs M0 M n s) (hn : 21 ≤ n ∧ n ≤ 177) (hv : v ≤ 40) : ed (lp (uc2 (f_MSquareRows_frame_L255 (nI v) w)) (0, M)) (fun R => RGs M0 R n (if v ≤ 6 then s else vsF n w s)) := by
  have kv : (nI v ≤ 6) = (v ≤ 6) := nIl (c := 6) (by omega) (by omega)
  by_cases c1 : v ≤ 6
  · rw [if_pos c1]
    refine ⟨M, lp_r ?_, h⟩
    show f_MSquareRows_frame_L255 (nI v) w 0 M = _
    unfold f_MSquareRows_frame_L255
    simp only [kv]
    rw [if_neg (show ¬ (18 : Int32) ≤ 0 by decide), if_pos c1]
  · rw [if_neg c1]
    refine lp_for (S := GS) (fun a s (t : Int32 × im_M) => t.1 = nI a ∧ RGs M0 t.2 n s) (Q := fun s R => RGs M0 R n s) 18 (fun i s => vsS n w i s) ?_ ?_ ⟨rfl, h⟩
    · rintro i s ⟨x4, M5⟩ hi ⟨e1, h5⟩
      replace e1 : x4 = nI i := e1
      replace h5 : RGs M0 M5 n s := h5
      subst e1
      show ed (f_MSquareRows_frame_L255 (nI v) w (nI i) M5) _
      unfold f_MSquareRows_frame_L255
      have k18 : ((18 : Int32) ≤ nI i) = (18 ≤ i) := nIl (x := 18) (by omega) (by omega)
      have d3 : nI i / 3 = nI (i / 3) := nI_div (b := 3) (by omega) (by omega) (by omega)
      have r3 : nI i - nI (i / 3) * 3 = nI (i % 3) := by rw [← d3]; exact nI_rem (b := 3) (by omega) (by omega) (by omega)
      have en : nI n - 11 + nI (i % 3) = nI (n - 11 + i % 3) := by rw [show (11 : Int32) = nI 11 from rfl, nI_sb (by omega), nI_add]
      have hb := bt_r (w := w) (i := i) (by omega)
      simp only [k18, kv]
      rw [if_neg (show ¬ 18 ≤ i by omega), if_neg c1, h5.1, d3, r3, en, iZ_nI (n := n - 11 + i % 3), iZ_nI (n := i / 3)]
      apply bd1_mk
      refine ed_mono (s_fixR h5 hn.2 (by omega) (by omega) hb) ?_
      intro M7 h7
      rw [h7.1, en, iZ_nI (n := n - 11 + i % 3)]
      apply bd1_mk
      exact ed_mono (s_fixR h7 hn.2 (by omega) (by omega) hb) (fun R hR => ed_mk ⟨_, rfl, nI_add i 1, hR⟩)
    · rintro s ⟨x4, M5⟩ ⟨e1, h5⟩
      replace e1 : x4 = nI 18 := e1
      subst e1
      show ed (f_MSquareRows_frame_L255 (nI v) w (nI 18) M5) _
      unfold f_MSquareRows_frame_L255
      rw [if_pos (show (18 : Int32) ≤ nI 18 by decide)]
      exact ed_mk ⟨_, rfl, h5⟩
/-- rows and columns that alternate -/
def tmS (n i : Nat) (s : GS) : GS := fx n 6 (i : Int) (decide (i % 2 = 0)) (fx n (i : Int) 6 (decide (i % 2 = 0)) s)
/-- all that a version has fixed, with the form word w -/
def frmA (n : Nat) (s : GS) : GS := sqF n 3 ((n - 4 : Nat) : Int) 4 2 (sqF n ((n - 4 : Nat) : Int) 3 4 2 (sqF n 3 3 4 2 (itN (fun i s => tmS n i s) s n)))
def frmB (n v : Nat) (s : GS) : GS := if v ≤ 1 then s else smF n v s
def frmD (n : Nat) (w : Int32) (s : GS) : GS := fx n 8 ((n - 8 : Nat) : Int) true (fmF n w s)
def frmE (n v : Nat) (s : GS) : GS := if v ≤ 6 then s else vsF n (vsW v) s
def frmG (n v : Nat) (w : Int32) (s : GS) : GS := frmE n v (frmD n w (frmB n v (frmA n s)))
theorem ev_b {i : Nat} (hi : i < 1000) : ((if ¬ (nI i - nI i / 2 * 2) = 0 then (0 : Int32) else 1) = 0) = (decide (i % 2 = 0) = false) := by
  have k : (nI (i % 2) = 0) = (i % 2 = 0) := nIe (c := 0) (by omega) (by omega)
  rw [nI_odd hi]
  simp only [k]
  by_cases c : i % 2 = 0
  · rw [if_neg (fun z => z c), decide_eq_true c]
    exact propext ⟨fun z => absurd z (by decide), fun z => by cases z⟩
  · rw [if_pos c, decide_eq_false c]
    exact propext ⟨fun _ => rfl, fun _ => rfl⟩
theorem s_fill31 {M : im_M} {f t : Nat} (hf : f ≤ t) (ht : t ≤ 31329) : ed (f_Arrays_fill3_1 (nI f) (nI t) 0 M) (fun R => (∀ j, im_i R 55 j = if f ≤ j ∧ j < t then 0 else im_i M 55 j) ∧ fr (2 ^ 55) [] M R) := by
  unfold f_Arrays_fill3_1 f_Arrays_rangeCheck
  have c1 : nI f ≤ nI t := by rw [nIl (by omega) (by omega)]; omega
  have c2 : (0 : Int32) ≤ nI f := by rw [show (0 : Int32) = nI 0 from rfl, nIl (by omega) (by omega)]; omega
  have c3 : nI t ≤ 31329 := by rw [show (31329 : Int32) = nI 31329 from rfl, nIl (by omega) (by omega)]; omega
  rw [if_pos c1, if_pos c2, if_pos c3]
  show ed (bd1 (lp (uc2 (f_Arrays_fill3_1_L10 (nI t) 0)) (nI f, M)) fun (M7 : im_M) => some M7) _
  apply bd1_mk
  refine ed_mono (lp_inv (fun m (s : Int32 × im_M) => ∃ k : Nat, k + m = t ∧ f ≤ k ∧ s.1 = nI k ∧ (∀ j, im_i s.2 55 j = if f ≤ j ∧ j < k then 0 else im_i M 55 j) ∧ fr (2 ^ 55) [] M s.2) (Q := fun R => (∀ j, im_i R 55 j = if f ≤ j ∧ j < t then 0 else im_i M 55 j) ∧ fr (2 ^ 55) [] M R) ?_ (k := t - f) ⟨f, by omega, Nat.le_refl _, rfl, fun j => by rw [if_neg (by omega)], fr_refl⟩) (fun R h => ed_mk h)
  rintro m ⟨x5, M6⟩ ⟨k, hk, fk, e1, e2, hf6⟩
  replace e1 : x5 = nI k := e1
  replace e2 : ∀ j, im_i M6 55 j = if f ≤ j ∧ j < k then 0 else im_i M 55 j := e2
  replace hf6 : fr (2 ^ 55) [] M M6 := hf6
  subst e1
  show ed (f_Arrays_fill3_1_L10 (nI t) 0 (nI k) M6) _
  unfold f_Arrays_fill3_1_L10
  rw [if_nIl (by omega) (by omega)]
  by_cases c : t ≤ k
  · rw [if_pos c]
    obtain rfl : k = t := by omega
    exact lpo_r ⟨e2, hf6⟩
  · rw [if_neg c, gd_pos (by rw [inb_nI (by omega)]; omega), nI_clamp (by omega)]
    refine lpo_l (m - 1) (by omega) ⟨k + 1, by omega, by omega, nI_add k 1, fun j => ?_, fr_I (by decide) hf6⟩
    show im_i (im_setI M6 55 k _) 55 j = _
    by_cases e : j = k
    · subst e
      rw [hit, if_pos (by omega)]
      rfl
    · rw [sk1 (fun z => e z.2), e2 j]
      by_cases y : f ≤ j ∧ j < k
      · rw [if_pos y, if_pos (by omega)]
      · rw [if_neg y, if_neg (by omega)]
theorem s_fill32 {M : im_M} {f t : Nat} (hf : f ≤ t) (ht : t ≤ 31329) : ed (f_Arrays_fill3_2 (nI f) (nI t) 0 M) (fun R => (∀ j, im_i R 54 j = if f ≤ j ∧ j < t then 0 else im_i M 54 j) ∧ fr (2 ^ 54) [] M R) := by
  unfold f_Arrays_fill3_2 f_Arrays_rangeCheck
  have c1 : nI f ≤ nI t := by rw [nIl (by omega) (by omega)]; omega
  have c2 : (0 : Int32) ≤ nI f := by rw [show (0 : Int32) = nI 0 from rfl, nIl (by omega) (by omega)]; omega
  have c3 : nI t ≤ 31329 := by rw [show (31329 : Int32) = nI 31329 from rfl, nIl (by omega) (by omega)]; omega
  rw [if_pos c1, if_pos c2, if_pos c3]
  show ed (bd1 (lp (uc2 (f_Arrays_fill3_2_L10 (nI t) 0)) (nI f, M)) fun (M7 : im_M) => some M7) _
  apply bd1_mk
  refine ed_mono (lp_inv (fun m (s : Int32 × im_M) => ∃ k : Nat, k + m = t ∧ f ≤ k ∧ s.1 = nI k ∧ (∀ j, im_i s.2 54 j = if f ≤ j ∧ j < k then 0 else im_i M 54 j) ∧ fr (2 ^ 54) [] M s.2) (Q := fun R => (∀ j, im_i R 54 j = if f ≤ j ∧ j < t then 0 else im_i M 54 j) ∧ fr (2 ^ 54) [] M R) ?_ (k := t - f) ⟨f, by omega, Nat.le_refl _, rfl, fun j => by rw [if_neg (by omega)], fr_refl⟩) (fun R h => ed_mk h)
  rintro m ⟨x5, M6⟩ ⟨k, hk, fk, e1, e2, hf6⟩
  replace e1 : x5 = nI k := e1
  replace e2 : ∀ j, im_i M6 54 j = if f ≤ j ∧ j < k then 0 else im_i M 54 j := e2
  replace hf6 : fr (2 ^ 54) [] M M6 := hf6
  subst e1
  show ed (f_Arrays_fill3_2_L10 (nI t) 0 (nI k) M6) _
  unfold f_Arrays_fill3_2_L10
  rw [if_nIl (by omega) (by omega)]
  by_cases c : t ≤ k
  · rw [if_pos c]
    obtain rfl : k = t := by omega
    exact lpo_r ⟨e2, hf6⟩
  · rw [if_neg c, gd_pos (by rw [inb_nI (by omega)]; omega), nI_clamp (by omega)]
    refine lpo_l (m - 1) (by omega) ⟨k + 1, by omega, by omega, nI_add k 1, fun j => ?_, fr_I (by decide) hf6⟩
    show im_i (im_setI M6 54 k _) 54 j = _
    by_cases e : j = k
    · subst e
      rw [hit, if_pos (by omega)]
      rfl
    · rw [sk1 (fun z => e z.2), e2 j]
      by_cases y : f ≤ j ∧ j < k
      · rw [if_pos y, if_pos (by omega)]
      · rw [if_neg y, if_neg (by omega)]
/-- nothing is dark and nothing fixed in the square -/
def zG (n : Nat) (s : GS) : Prop := ∀ x y, x < n → y < n → s.1 (177 * y + x) = 0 ∧ s.2 (177 * y + x) = 0
theorem s_beginG {M : im_M} {v : Nat} (hv : 1 ≤ v ∧ v ≤ 40) : ed (f_HGrid_begin (nI v) M) (fun R => ∃ s0, zG (17 + 4 * v) s0 ∧ CG (im_setI (im_setI M 38 6 (nI v)) 38 1 (nI (17 + 4 * v))) R (17 + 4 * v) v (frmG (17 + 4 * v) v (fmW 8) s0)) := by
  obtain ⟨n, hn⟩ : ∃ n, n = 17 + 4 * v := ⟨_, rfl⟩
  have nb : 21 ≤ n ∧ n ≤ 177 := by omega
  unfold f_HGrid_begin
  have e4 : (17 : Int32) + (4 : Int32) * nI v = nI n := by rw [nI_m, show (17 : Int32) = nI 17 from rfl, nI_add, hn]
  rw [hit, e4]
  rw [← hn]
  obtain ⟨N, hN⟩ : ∃ N, N = im_setI (im_setI M 38 6 (nI v)) 38 1 (nI n) := ⟨_, rfl⟩
  have n1 : im_i N 38 1 = nI n := by rw [hN]; exact hit
  have n6 : im_i N 38 6 = nI v := by rw [hN, sk1 (by omega)]; exact hit
  rw [← hN]
  clear hN
  apply bd1_mk
  refine ed_mono (lp_inv (fun m (s : Int32 × im_M) => ∃ y : Nat, y + m = n ∧ s.1 = nI y ∧ (∀ x j, x < n → j < y → im_i s.2 54 (177 * j + x) = 0 ∧ im_i s.2 55 (177 * j + x) = 0) ∧ fr (2 ^ 54 ||| 2 ^ 55) [] N s.2) (Q := fun R => (∀ x j, x < n → j < n → im_i R 54 (177 * j + x) = 0 ∧ im_i R 55 (177 * j + x) = 0) ∧ fr (2 ^ 54 ||| 2 ^ 55) [] N R) ?_ (k := n) ⟨0, by omega, rfl, fun x j _ hj => absurd hj (Nat.not_lt_zero _), fr_refl⟩) ?_
  · rintro m ⟨x2, M3⟩ ⟨y, hy, e1, z3, f3⟩
    replace e1 : x2 = nI y := e1
    replace z3 : ∀ x j, x < n → j < y → im_i M3 54 (177 * j + x) = 0 ∧ im_i M3 55 (177 * j + x) = 0 := z3
    replace f3 : fr (2 ^ 54 ||| 2 ^ 55) [] N M3 := f3
    subst e1
    show ed (f_HGrid_begin_L20 (nI y) M3) _
    unfold f_HGrid_begin_L20
    have e7 : nI y * 177 = nI (177 * y) := by rw [show (177 : Int32) = nI 177 from rfl, nI_mul, Nat.mul_comm]
    have w3 : im_i M3 38 1 = nI n := (f3.1 38 1 (by decide) (by simp)).trans n1
    rw [w3, if_nIl (by omega) (by omega)]
    by_cases c : n ≤ y
    · rw [if_pos c]
      obtain rfl : y = n := by omega
      exact lpo_r ⟨z3, f3⟩
    · rw [if_neg c, e7, nI_add]
      apply bd1_mk
      refine ed_mono (s_fill31 (by omega) (by omega)) ?_
      rintro M4 ⟨a4, f4⟩
      have w4 : im_i M4 38 1 = nI n := (f4.1 38 1 (by decide) (by simp)).trans w3
      rw [w4, nI_add]
      apply bd1_mk
      refine ed_mono (s_fill32 (by omega) (by omega)) ?_
      rintro M5 ⟨a5, f5⟩
      refine lpo_l (m - 1) (by omega) ⟨y + 1, by omega, nI_add y 1, fun x j hx hj => ?_, fr_tr (fr_mono (by decide) (by simp) f5) (fr_tr (fr_mono (by decide) (by simp) f4) f3)⟩
      show im_i M5 54 (177 * j + x) = 0 ∧ im_i M5 55 (177 * j + x) = 0
      rw [a5, fr_c f5 55 (by decide) (by simp), a4, fr_c f4 54 (by decide) (by simp)]
      by_cases e : j = y
      · subst e
        rw [if_pos (by omega), if_pos (by omega)]
        exact ⟨rfl, rfl⟩
      · rw [if_neg (by omega), if_neg (by omega)]
        exact z3 x j hx (by omega)
  · rintro M6 ⟨z6, f6⟩
    have w6 : im_i M6 38 1 = nI n := (f6.1 38 1 (by decide) (by simp)).trans n1
    have v6 : im_i M6 38 6 = nI v := (f6.1 38 6 (by decide) (by simp)).trans n6
    have g6 : CG N M6 n v (im_i M6 54, im_i M6 55) := ⟨w6, v6, rfl, rfl, f6⟩
    have zz : zG n (im_i M6 54, im_i M6 55) := fun x y hx hy => z6 x y hx hy
    generalize (im_i M6 54, im_i M6 55) = s0 at g6 zz
    apply bd1_mk
    refine ed_mono (lp_for (S := GS) (fun a s (t : Int32 × im_M) => t.1 = nI a ∧ CG N t.2 n v s) (Q := fun s R => CG N R n v s) n (fun i s => tmS n i s) ?_ ?_ ⟨rfl, g6⟩) ?_
    · rintro i s ⟨x8, M9⟩ hi ⟨e1, h9⟩
      replace e1 : x8 = nI i := e1
      replace h9 : CG N M9 n v s := h9
      subst e1
      show ed (f_HGrid_begin_L82 (nI i) M9) _
      unfold f_HGrid_begin_L82
      have hb := ev_b (i := i) (by omega)
      rw [h9.1, if_nIl (by omega) (by omega), if_neg (by omega)]
      apply bd1_mk
      have q1 := s_fixC (x := (i : Int)) (y := 6) h9 nb.2 (by omega) (by omega) hb
      rw [← iZ_nI] at q1
      refine ed_mono q1 ?_
      intro M11 h11
      apply bd1_mk
      have q2 := s_fixC (x := 6) (y := (i : Int)) h11 nb.2 (by omega) (by omega) hb
      rw [← iZ_nI (n := i)] at q2
      exact ed_mono q2 (fun R hR => ed_mk ⟨_, rfl, nI_add i 1, hR⟩)
    · rintro s ⟨x8, M9⟩ ⟨e1, h9⟩
      replace e1 : x8 = nI n := e1
      replace h9 : CG N M9 n v s := h9
      subst e1
      show ed (f_HGrid_begin_L82 (nI n) M9) _
      unfold f_HGrid_begin_L82
      rw [h9.1, if_pos (by rw [nIl (by omega) (by omega)]; omega)]
      exact ed_mk ⟨_, rfl, h9⟩
    · intro M14 h14
      have e4 : nI n - 4 = iZ ((n - 4 : Nat) : Int) := by rw [show (4 : Int32) = nI 4 from rfl, nI_sb (by omega), iZ_nI]
      have e8 : nI n - 8 = iZ ((n - 8 : Nat) : Int) := by rw [show (8 : Int32) = nI 8 from rfl, nI_sb (by omega), iZ_nI]
      have k1 : (nI v ≤ 1) = (v ≤ 1) := nIl (c := 1) (by omega) (by omega)
      have k6 : (nI v ≤ 6) = (v ≤ 6) := nIl (c := 6) (by omega) (by omega)
      apply bd1_mk
      refine ed_mono (s_squaresC (x := 3) (y := 3) (k := 4) (li := 2) h14 nb.2 (by omega) (by omega) (by omega) (by omega)) ?_
      intro M15 h15
      rw [h15.1, e4]
      apply bd1_mk
      refine ed_mono (s_squaresC (x := ((n - 4 : Nat) : Int)) (y := 3) (k := 4) (li := 2) h15 nb.2 (by omega) (by omega) (by omega) (by omega)) ?_
      intro M16 h16
      rw [h16.1, e4]
      apply bd1_mk
      refine ed_mono (s_squaresC (x := 3) (y := ((n - 4 : Nat) : Int)) (k := 4) (li := 2) h16 nb.2 (by omega) (by omega) (by omega) (by omega)) ?_
      intro M17 h17
      replace h17 : CG N M17 n v (frmA n s0) := h17
      rw [h17.2.1]
      simp only [k1]
      generalize hs17 : frmA n s0 = s17 at h17
      apply bd1_mk
      refine ed_mono (P := fun R => CG N R n v (frmB n v s17)) ?_ ?_
      · unfold frmB
        by_cases c : v ≤ 1
        · rw [if_pos c, if_pos c]
          exact ed_mk h17
        · rw [if_neg c, if_neg c]
          apply bd1_mk
          rw [hn] at h17 ⊢
          exact ed_mono (s_smallC h17 hv) (fun R hR => ed_mk hR)
      · intro M20 h20
        generalize hs20 : frmB n v s17 = s20 at h20
        apply bd1_mk
        refine ed_mono (s_formC (l := 0) (k := 0) h20 nb (by omega)) ?_
        intro M22 h22
        replace h22 : CG N M22 n v (fmF n (fmW 8) s20) := h22
        rw [h22.1, e8]
        apply bd1_mk
        have q2 := s_fixC (x := 8) (y := ((n - 8 : Nat) : Int)) (p := 1) (b := true) h22 nb.2 (by omega) (by omega) (propext ⟨fun z => absurd z (by decide), fun z => by cases z⟩)
        refine ed_mono q2 ?_
        intro M23 h23
        replace h23 : CG N M23 n v (frmD n (fmW 8) s20) := h23
        generalize hs23 : frmD n (fmW 8) s20 = s23 at h23
        have fin : frmG n v (fmW 8) s0 = frmE n v s23 := by
          unfold frmG
          rw [hs17, hs20, hs23]
        rw [h23.2.1]
        simp only [k6]
        by_cases c : v ≤ 6
        · rw [if_pos c]
          refine ed_mk ⟨s0, zz, ?_⟩
          rw [fin]
          unfold frmE
          rw [if_pos c]
          exact h23
        · rw [if_neg c]
          apply bd1_mk
          refine ed_mono (s_versionC h23 nb) (fun R hR => ed_mk ⟨s0, zz, ?_⟩)
          rw [fin]
          unfold frmE
          rw [if_neg c]
          exact hR
theorem s_frameG {M : im_M} {v : Nat} (hv : 1 ≤ v ∧ v ≤ 40) : ed (f_MSquareRows_frame (nI v) M) (fun R => ∃ s0, zG (17 + 4 * v) s0 ∧ RGs (im_setI M 108 8 (nI (17 + 4 * v))) R (17 + 4 * v) (frmG (17 + 4 * v) v (fmW 0) s0)) := by
  obtain ⟨n, hn⟩ : ∃ n, n = 17 + 4 * v := ⟨_, rfl⟩
  have nb : 21 ≤ n ∧ n ≤ 177 := by omega
  have e4 : (17 : Int32) + (4 : Int32) * nI v = nI n := by rw [nI_m, show (17 : Int32) = nI 17 from rfl, nI_add, hn]
  unfold f_MSquareRows_frame f_MSquareRows_sideOf
  rw [bd1_s, e4]
  rw [← hn]
  obtain ⟨N, hN⟩ : ∃ N, N = im_setI M 108 8 (nI n) := ⟨_, rfl⟩
  have n1 : im_i N 108 8 = nI n := by rw [hN]; exact hit
  rw [← hN]
  clear hN
  apply bd1_mk
  refine ed_mono (lp_inv (fun m (s : Int32 × im_M) => ∃ k : Nat, k + m = 31329 ∧ s.1 = nI k ∧ (∀ j, j < k → im_i s.2 112 j = 0 ∧ im_i s.2 113 j = 0) ∧ fr (2 ^ 112 ||| 2 ^ 113) [] N s.2) (Q := fun R => (∀ j, j < 31329 → im_i R 112 j = 0 ∧ im_i R 113 j = 0) ∧ fr (2 ^ 112 ||| 2 ^ 113) [] N R) ?_ (k := 31329) ⟨0, by omega, rfl, fun j hj => absurd hj (Nat.not_lt_zero _), fr_refl⟩) ?_
  · rintro m ⟨x4, M5⟩ ⟨k, hk, e1, z5, f5⟩
    replace e1 : x4 = nI k := e1
    replace z5 : ∀ j, j < k → im_i M5 112 j = 0 ∧ im_i M5 113 j = 0 := z5
    replace f5 : fr (2 ^ 112 ||| 2 ^ 113) [] N M5 := f5
    subst e1
    show ed (f_MSquareRows_frame_L10 (nI v) (nI k) M5) _
    unfold f_MSquareRows_frame_L10
    have k0 : ((31329 : Int32) ≤ nI k) = (31329 ≤ k) := nIl (x := 31329) (by omega) (by omega)
    simp only [k0]
    by_cases c : 31329 ≤ k
    · rw [if_pos c]
      exact lpo_r ⟨fun j hj => z5 j (by omega), f5⟩
    · rw [if_neg c, gd_pos (by rw [inb_nI (by omega)]; omega), gd_pos (by rw [inb_nI (by omega)]; omega), nI_clamp (by omega)]
      refine lpo_l (m - 1) (by omega) ⟨k + 1, by omega, nI_add k 1, fun j hj => ?_, fr_I (by decide) (fr_I (by decide) f5)⟩
      show im_i (im_setI (im_setI M5 112 k 0) 113 k 0) 112 j = 0 ∧ im_i (im_setI (im_setI M5 112 k 0) 113 k 0) 113 j = 0
      by_cases e : j = k
      · subst e
        exact ⟨by rw [sk1 (by omega)]; exact hit, hit⟩
      · rw [sk1 (by omega), sk1 (fun z => e z.2), sk1 (fun z => e z.2), sk1 (by omega)]
        exact z5 j (by omega)
  · rintro M6 ⟨z6, f6⟩
    have w6 : im_i M6 108 8 = nI n := (f6.1 108 8 (by decide) (by simp)).trans n1
    have g6 : RGs N M6 n (im_i M6 112, im_i M6 113) := ⟨w6, rfl, rfl, f6⟩
    have zz : zG n (im_i M6 112, im_i M6 113) := fun x y hx hy => z6 _ (by omega)
    generalize (im_i M6 112, im_i M6 113) = s0 at g6 zz
    apply bd1_mk
    refine ed_mono (lp_for (S := GS) (fun a s (t : Int32 × im_M) => t.1 = nI a ∧ RGs N t.2 n s) (Q := fun s R => RGs N R n s) n (fun i s => tmS n i s) ?_ ?_ ⟨rfl, g6⟩) ?_
    · rintro i s ⟨x8, M9⟩ hi ⟨e1, h9⟩
      replace e1 : x8 = nI i := e1
      replace h9 : RGs N M9 n s := h9
      subst e1
      show ed (f_MSquareRows_frame_L41 (nI v) (nI i) M9) _
      unfold f_MSquareRows_frame_L41
      have hb := ev_b (i := i) (by omega)
      rw [h9.1, if_nIl (by omega) (by omega), if_neg (by omega)]
      apply bd1_mk
      have q1 := s_fixR (x := (i : Int)) (y := 6) h9 nb.2 (by omega) (by omega) hb
      rw [← iZ_nI] at q1
      refine ed_mono q1 ?_
      intro M11 h11
      apply bd1_mk
      have q2 := s_fixR (x := 6) (y := (i : Int)) h11 nb.2 (by omega) (by omega) hb
      rw [← iZ_nI (n := i)] at q2
      exact ed_mono q2 (fun R hR => ed_mk ⟨_, rfl, nI_add i 1, hR⟩)
    · rintro s ⟨x8, M9⟩ ⟨e1, h9⟩
      replace e1 : x8 = nI n := e1
      replace h9 : RGs N M9 n s := h9
      subst e1
      show ed (f_MSquareRows_frame_L41 (nI v) (nI n) M9) _
      unfold f_MSquareRows_frame_L41
      rw [h9.1, if_pos (by rw [nIl (by omega) (by omega)]; omega)]
      exact ed_mk ⟨_, rfl, h9⟩
    · intro M14 h14
      have e4 : nI n - 4 = iZ ((n - 4 : Nat) : Int) := by rw [show (4 : Int32) = nI 4 from rfl, nI_sb (by omega), iZ_nI]
      have e8 : nI n - 8 = iZ ((n - 8 : Nat) : Int) := by rw [show (8 : Int32) = nI 8 from rfl, nI_sb (by omega), iZ_nI]
      have d7 : nI v / 7 + 2 = nI (v / 7 + 2) := by
        have : nI v / 7 = nI (v / 7) := nI_div (b := 7) (by omega) (by omega) (by omega)
        rw [this]
        exact nI_add (v / 7) 2
      apply bd1_mk
      refine ed_mono (s_squaresR (x := 3) (y := 3) (k := 4) (li := 2) (fi := 1) h14 nb.2 (Or.inl ⟨rfl, rfl, rfl⟩) (by omega) (by omega)) ?_
      intro M15 h15
      rw [h15.1, e4]
      apply bd1_mk
      refine ed_mono (s_squaresR (x := ((n - 4 : Nat) : Int)) (y := 3) (k := 4) (li := 2) (fi := 1) h15 nb.2 (Or.inl ⟨rfl, rfl, rfl⟩) (by omega) (by omega)) ?_
      intro M16 h16
      rw [h16.1, e4]
      apply bd1_mk
      refine ed_mono (s_squaresR (x := 3) (y := ((n - 4 : Nat) : Int)) (k := 4) (li := 2) (fi := 1) h16 nb.2 (Or.inl ⟨rfl, rfl, rfl⟩) (by omega) (by omega)) ?_
      intro M17 h17
      replace h17 : RGs N M17 n (frmA n s0) := h17
      rw [d7]
      generalize hs17 : frmA n s0 = s17 at h17
      apply bd1_mk
      have q17 := s_smallR (M0 := N) (M := M17) (s := s17) (v := v) (by rw [← hn]; exact h17) hv
      rw [← hn] at q17
      refine ed_mono q17 ?_
      intro M42 h42
      replace h42 : RGs N M42 n (frmB n v s17) := h42
      generalize hs20 : frmB n v s17 = s20 at h42
      apply bd1_mk
      refine ed_mono (s_formR (k := 0) h42 nb (by omega)) ?_
      intro M43 h43
      rw [h43.1, e8]
      apply bd1_mk
      have q2 := s_fixR (x := 8) (y := ((n - 8 : Nat) : Int)) (p := 1) (b := true) h43 nb.2 (by omega) (by omega) (propext ⟨fun z => absurd z (by decide), fun z => by cases z⟩)
      refine ed_mono q2 ?_
      intro M44 h44
      replace h44 : RGs N M44 n (frmD n (fmW 0) s20) := h44
      generalize hs23 : frmD n (fmW 0) s20 = s23 at h44
      have fin : frmG n v (fmW 0) s0 = frmE n v s23 := by
        unfold frmG
        rw [hs17, hs20, hs23]
      have sw : f_MSquareRows_shortWord (nI v) 12 7973 M44 = some (vsW v) := s_short (dg := 12) (by omega)
      rw [sw, bd1_s]
      apply bd1_mk
      refine ed_mono (s_versionR h44 nb hv.2) (fun R hR => ed_mk ⟨s0, zz, ?_⟩)
      rw [fin]
      unfold frmE
      exact hR
