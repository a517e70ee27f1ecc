/-! THE CLASS LOOKS AT THE PLACES FROM A DOT ON -/
def bK (x y m v k : Nat) : Prop := kx k = x ∧ ky k = y ∧ km k = m ∧ kv k = v
theorem bK_key {x y m v q : Nat} (b1 : x < 512) (b3 : m < 32) (b4 : v < 64) (b5 : q < 4) : bK x y m v (key x y m v q) ∧ kq (key x y m v q) = q := by
  have := key_p (y := y) b1 b3 b4 b5
  exact ⟨⟨this.1, this.2.1, this.2.2.1, this.2.2.2.1⟩, this.2.2.2.2⟩
theorem bK_is {x y m v k : Nat} (h : bK x y m v k) : k = key x y m v (kq k) := by
  obtain ⟨rfl, rfl, rfl, rfl⟩ := h
  exact key_of.symm
theorem bK_eW {D : Nat → Nat → Bool} {x y m v k : Nat} (h : bK x y m v k) : eW D k = EE (17 + 4 * v) (kq k) m (BB D m x y) := by
  obtain ⟨rfl, rfl, rfl, rfl⟩ := h
  rfl
/-- corner i as the class has it -/
def CC (D : Nat → Nat → Bool) (m lim v x y i : Nat) : Int := ewE D m lim (x + m * oX v (cnR i)) (y + m * oX v (cnD i)) i
theorem CC_i {D : Nat → Nat → Bool} {m lim v x y : Nat} (i : Nat) : CC D m lim v x y i = eC D m v x y i ∨ ((lim : Int) < eC D m v x y i ∧ CC D m lim v x y i = (lim : Int) + 1) := by
  unfold CC ewE
  by_cases h : rgE D m (x + m * oX v (cnR i)) (y + m * oX v (cnD i)) ≤ (lim : Int)
  · rw [if_pos h]; exact Or.inl eC_eg.symm
  · rw [if_neg h]
    refine Or.inr ⟨?_, rfl⟩
    have := edg_nn (D := D) (m := m) (x := x) (y := y) (v := v) (c := i)
    unfold eC rC
    omega
theorem CC_q {D : Nat → Nat → Bool} {m lim v x y i : Nat} : qC D lim m v x y i = true ↔ CC D m lim v x y i ≤ ((lim / 3 : Nat) : Int) := by
  unfold qC
  rw [decide_eq_true_eq]
  rcases CC_i (D := D) (m := m) (lim := lim) (v := v) (x := x) (y := y) i with b | ⟨a, b⟩ <;> rw [b]
  constructor <;> intro h <;> omega
theorem CC_3 {D : Nat → Nat → Bool} {m lim v x y q : Nat} (hq : q < 4) : (sm3 q (CC D m lim v x y) ≤ (lim : Int) ∨ sm3 q (eC D m v x y) ≤ (lim : Int)) → sm3 q (CC D m lim v x y) = sm3 q (eC D m v x y) := by
  have r : ∀ i, 0 ≤ eC D m v x y i := fun i => eC_nn
  have r0 := r 0
  have r1 := r 1
  have r2 := r 2
  have r3 := r 3
  have hq4 : q = 0 ∨ q = 1 ∨ q = 2 ∨ q = 3 := by omega
  unfold sm3
  intro hh
  rcases CC_i (D := D) (m := m) (lim := lim) (v := v) (x := x) (y := y) 0 with b0 | ⟨a0, b0⟩ <;> rcases CC_i (D := D) (m := m) (lim := lim) (v := v) (x := x) (y := y) 1 with b1 | ⟨a1, b1⟩ <;> rcases CC_i (D := D) (m := m) (lim := lim) (v := v) (x := x) (y := y) 2 with b2 | ⟨a2, b2⟩ <;> rcases CC_i (D := D) (m := m) (lim := lim) (v := v) (x := x) (y := y) 3 with b3 | ⟨a3, b3⟩ <;> rw [b0, b1, b2, b3] at hh ⊢ <;> rcases hq4 with rfl | rfl | rfl | rfl <;> simp only [Nat.reduceAdd, Nat.reduceEqDiff, if_true, if_false] at hh ⊢ <;> omega
theorem CC_sum {f : Nat → Int} {q : Nat} (hq : q < 4) : iS f 4 - f (3 - q) = sm3 q f := by
  unfold sm3
  show 0 + f 0 + f 1 + f 2 + f 3 - f (3 - q) = _
  have hq4 : q = 0 ∨ q = 1 ∨ q = 2 ∨ q = 3 := by omega
  rcases hq4 with rfl | rfl | rfl | rfl <;> simp only [Nat.reduceAdd, Nat.reduceEqDiff, if_true, if_false, Nat.reduceSub] <;> omega
theorem s_cc {M : im_M} {W H m lim v x y c : Nat} {D : Nat → Nat → Bool} (hs : SUMS (im_i M 60) W H D) (g : MLW M m lim W H) (hw : CWS (im_i M 61) W D m lim (H - 7 * m + 1)) (hv : 1 ≤ v ∧ v ≤ 40) (hx : x + m * (17 + 4 * v) ≤ W) (hy : y + m * (17 + 4 * v) ≤ H) (hc : c < 4) : ed (lp (uc3 (f_HFinder_lookAt_L84 (nI x) (nI y) (nI v) (nI c) (nI (17 + 4 * v)) (nI ((10 + 4 * v) * m)))) (0, 0, M)) (sQ (fun t => t.1 = iZ (iS (CC D m lim v x y) 4) ∧ fr (2 ^ 65) [] M t.2 ∧ (∀ j, j < 4 → im_i t.2 65 j = iZ (CC D m lim v x y j)) ∧ ∀ j, j < c → qC D lim m v x y j = false) (fun t => t.1 = 1 ∧ fr (2 ^ 65) [] M t.2 ∧ ∃ j, j < c ∧ qC D lim m v x y j = true)) := by
  obtain ⟨⟨g1, g2, _, _⟩, hm1, hm, hl, hW, hH⟩ := id g
  refine lp_inv (fun n s => ∃ i : Nat, i + n = 4 ∧ s.1 = iZ (iS (CC D m lim v x y) i) ∧ s.2.1 = nI i ∧ fr (2 ^ 65) [] M s.2.2 ∧ (∀ j, j < i → im_i s.2.2 65 j = iZ (CC D m lim v x y j)) ∧ ∀ j, j < i → j < c → qC D lim m v x y j = false) ?_ (k := 4) ⟨0, by omega, rfl, rfl, fr_refl, fun j hj => absurd hj (by omega), fun j hj => absurd hj (by omega)⟩
  rintro n ⟨x8, x9, M10⟩ ⟨i, hi, e1, e2, f, h, h2⟩
  replace e1 : x8 = iZ (iS (CC D m lim v x y) i) := e1
  replace e2 : x9 = nI i := e2
  replace f : fr (2 ^ 65) [] M M10 := f
  replace h : ∀ j, j < i → im_i M10 65 j = iZ (CC D m lim v x y j) := h
  subst e1 e2
  show ed (f_HFinder_lookAt_L84 (nI x) (nI y) (nI v) (nI c) (nI (17 + 4 * v)) (nI ((10 + 4 * v) * m)) _ (nI i) M10) _
  unfold f_HFinder_lookAt_L84
  have c4 : ((4 : Int32) ≤ nI i) = (4 ≤ i) := nIl (x := 4) (by omega) (by omega)
  simp only [c4]
  by_cases h4 : 4 ≤ i
  · rw [if_pos h4]
    obtain rfl : i = 4 := by omega
    exact lpo_r ⟨rfl, f, h, fun j hj => h2 j (by omega) hj⟩
  · have t : xa_13 (nI i) = nI (if cnR i = true then 1 else 0) ∧ xa_14 (nI i) = nI (if cnD i = true then 1 else 0) := xR_t ⟨i, by omega⟩
    have he : hEd W H m (x + m * oX v (cnR i)) (y + m * oX v (cnD i)) i := hEd_of hx hy
    have s10 : SUMS (im_i M10 60) W H D := SUMS_fr f (by decide +kernel) hs
    have g10 : MLW M10 m lim W H := MLW_fr f (by decide +kernel) g
    have w10 : CWS (im_i M10 61) W D m lim (H - 7 * m + 1) := by
      rw [show im_i M10 61 = im_i M 61 from fr_c f 61 (by decide) (by decide)]
      exact hw
    have c0 : 0 ≤ CC D m lim v x y i ∧ CC D m lim v x y i ≤ 20000 := ewE_b he hm hl
    have vv : f_HFinder_edgedWrong (nI (x + m * oX v (cnR i))) (nI (y + m * oX v (cnD i))) (nI i) M10 = some (iZ (CC D m lim v x y i)) := s_edged s10 g10 w10 (by omega) he
    rw [if_neg h4, gd_pos (by rw [inb_nI (by omega)]; omega), gd_pos (by rw [inb_nI (by omega)]; omega), t.1, t.2, far_1, far_1, vv, bd1_s, gd_pos (by rw [inb_nI (by omega)]; omega), gd_pos (by rw [inb_nI (by omega)]; omega), nI_clamp (show i < 2147483648 by omega)]
    have v65 : im_i (im_setI M10 65 i (iZ (CC D m lim v x y i))) 65 i = iZ (CC D m lim v x y i) := by rw [mi_I, if_pos rfl, if_pos rfl]
    have f2 : fr (2 ^ 65) [] M (im_setI M10 65 i (iZ (CC D m lim v x y i))) := fr_I (by decide) f
    have g12 : MLW (im_setI M10 65 i (iZ (CC D m lim v x y i))) m lim W H := MLW_fr f2 (by decide +kernel) g
    rw [v65]
    have nx : (i < c → qC D lim m v x y i = false) → ed (some (Sum.inl (iZ (iS (CC D m lim v x y) i) + iZ (CC D m lim v x y i), nI i + 1, im_setI M10 65 i (iZ (CC D m lim v x y i))))) (lpo (fun n s => ∃ i : Nat, i + n = 4 ∧ s.1 = iZ (iS (CC D m lim v x y) i) ∧ s.2.1 = nI i ∧ fr (2 ^ 65) [] M s.2.2 ∧ (∀ j, j < i → im_i s.2.2 65 j = iZ (CC D m lim v x y j)) ∧ ∀ j, j < i → j < c → qC D lim m v x y j = false) (sQ (fun t : Int32 × im_M => t.1 = iZ (iS (CC D m lim v x y) 4) ∧ fr (2 ^ 65) [] M t.2 ∧ (∀ j, j < 4 → im_i t.2 65 j = iZ (CC D m lim v x y j)) ∧ ∀ j, j < c → qC D lim m v x y j = false) (fun t : Int32 × im_M => t.1 = 1 ∧ fr (2 ^ 65) [] M t.2 ∧ ∃ j, j < c ∧ qC D lim m v x y j = true)) n) := by
      intro hq
      refine lpo_l (n - 1) (by omega) ⟨i + 1, by omega, iZ_add, nI_add i 1, f2, fun j hj => ?_, fun j hj hjc => ?_⟩
      · show im_i (im_setI M10 65 i _) 65 j = _
        rw [mi_I, if_pos rfl]
        by_cases e : j = i
        · rw [if_pos e, e]
        · rw [if_neg e]; exact h j (by omega)
      · by_cases e : j = i
        · rw [e]; exact hq (by omega)
        · exact h2 j (by omega) hjc
    show ed (if nI c ≤ nI i then _ else _) _
    rw [if_nIl (by omega) (by omega)]
    by_cases c5 : c ≤ i
    · rw [if_pos c5]
      exact nx (fun z => absurd z (by omega))
    · rw [if_neg c5, gd_pos (by rw [inb_nI (by omega)]; omega), s_leadsOn g12 (by omega), bd1_s]
      by_cases c6 : CC D m lim v x y i ≤ ((lim / 3 : Nat) : Int)
      · rw [if_pos c6, if_neg (by decide)]
        exact lpo_r ⟨rfl, f2, i, by omega, CC_q.mpr c6⟩
      · rw [if_neg c6, if_pos rfl]
        refine nx (fun _ => ?_)
        cases hh : qC D lim m v x y i with
        | false => rfl
        | true => exact absurd (CC_q.mp hh) c6
theorem s_lookAt {M : im_M} {W H m lim v x y c : Nat} {D : Nat → Nat → Bool} {S : Nat → Prop} (hs : SUMS (im_i M 60) W H D) (g : MLW M m lim W H) (hw : CWS (im_i M 61) W D m lim (H - 7 * m + 1)) (hF : FS M D S) (hv : 1 ≤ v ∧ v ≤ 40) (hx : x + m * (17 + 4 * v) ≤ W) (hy : y + m * (17 + 4 * v) ≤ H) (hc : c < 4) (hqc : qC D lim m v x y c = true) (hS : fcn (qC D lim m v x y) = c → ∀ q, q < 4 → ¬ S (key x y m v q)) : ed (f_HFinder_lookAt (nI x) (nI y) (nI v) (nI c) M) (fun r => fr (2 ^ 62 ||| 2 ^ 63 ||| 2 ^ 65) [(59, 8)] M r.2 ∧ ((r.1 = 1 ∧ FS r.2 D (fun k => S k ∨ (fcn (qC D lim m v x y) = c ∧ bK x y m v k ∧ eW D k ≤ (lim : Int)))) ∨ (r.1 = 0 ∧ OV (fun k => S k ∨ (bK x y m v k ∧ eW D k ≤ (lim : Int)))))) := by
  obtain ⟨⟨g1, g2, gw, gh⟩, hm1, hm, hl, hW, hH⟩ := id g
  have hms : m * 21 ≤ m * (17 + 4 * v) := Nat.mul_le_mul_left m (by omega)
  have e17 : (17 : Int32) + (4 : Int32) * nI v = nI (17 + 4 * v) := by rw [nI_m, nI_n, nI_add]
  have e7 : nI (17 + 4 * v) - 7 = nI (10 + 4 * v) := by rw [nI_sm 7 (by show 7 ≤ _; omega)]; congr 1; show 17 + 4 * v - 7 = _; omega
  unfold f_HFinder_lookAt
  have c0 : ∀ z : Nat, z < 2147483648 → (nI z < 0) = (z < 0) := fun z hz => nIlt (c := 0) hz (by omega)
  rw [e17, g1, gw, gh, nI_mul, nI_add, nI_add, e7, nI_mul, Nat.mul_comm (17 + 4 * v) m, if_nIlt (by omega) (by omega), if_nIlt (by omega) (by omega)]
  simp only [c0 x (by omega), c0 y (by omega)]
  rw [if_neg (by omega), if_neg (by omega), if_neg (by omega), if_neg (by omega)]
  obtain ⟨b, eb, hb⟩ := s_shades (D := D) hs g hv hx hy
  rw [eb, bd1_s]
  by_cases b0 : b = 0
  · have hn : ∀ q, q < 4 → (lim : Int) < EE (17 + 4 * v) q m (BB D m x y) := by
      rcases hb with ⟨_, hb⟩ | hb
      · exact hb
      · rw [b0] at hb; exact absurd hb (by decide)
    rw [if_neg (fun z => z b0)]
    refine ed_mk ⟨fr_refl, Or.inl ⟨rfl, FS_S (fun k => ?_) hF⟩⟩
    constructor
    · exact Or.inl
    · rintro (a | ⟨_, a, d⟩)
      · exact a
      · rw [bK_eW a] at d
        have := hn (kq k) kq_lt
        omega
  rw [if_pos b0]
  refine bs2_q (s_cc hs g hw hv hx hy hc) ?_ ?_
  · rintro ⟨y21, M22⟩ ⟨e1, f1, h65, hq0⟩
    replace e1 : y21 = iZ (iS (CC D m lim v x y) 4) := e1
    replace f1 : fr (2 ^ 65) [] M M22 := f1
    replace h65 : ∀ j, j < 4 → im_i M22 65 j = iZ (CC D m lim v x y j) := h65
    subst e1
    have hfc : fcn (qC D lim m v x y) = c := (fcn_is hc hqc).mpr hq0
    have cb : ∀ i, 0 ≤ CC D m lim v x y i ∧ CC D m lim v x y i ≤ 20000 := fun i => ewE_b (hEd_of hx hy) hm hl
    refine bs1_q (P := fun M3 => fr (2 ^ 62 ||| 2 ^ 63 ||| 2 ^ 65) [(59, 8)] M M3 ∧ FS M3 D (fun k => S k ∨ (bK x y m v k ∧ kq k < 4 ∧ eW D k ≤ (lim : Int)))) (R := fun t => t.1 = 0 ∧ fr (2 ^ 62 ||| 2 ^ 63 ||| 2 ^ 65) [(59, 8)] M t.2 ∧ OV (fun k => S k ∨ (bK x y m v k ∧ eW D k ≤ (lim : Int)))) (lp_inv (fun n s => ∃ q : Nat, q + n = 4 ∧ s.1 = nI q ∧ fr (2 ^ 62 ||| 2 ^ 63 ||| 2 ^ 65) [(59, 8)] M s.2 ∧ (∀ j, j < 4 → im_i s.2 65 j = iZ (CC D m lim v x y j)) ∧ FS s.2 D (fun k => S k ∨ (bK x y m v k ∧ kq k < q ∧ eW D k ≤ (lim : Int)))) ?_ (k := 4) ⟨0, by omega, rfl, fr_mono (by decide) (by decide) f1, h65, ?_⟩) ?_ ?_
    · rintro n ⟨x29, M30⟩ ⟨q, hq, e1, f, h65, hF⟩
      replace e1 : x29 = nI q := e1
      replace f : fr (2 ^ 62 ||| 2 ^ 63 ||| 2 ^ 65) [(59, 8)] M M30 := f
      replace h65 : ∀ j, j < 4 → im_i M30 65 j = iZ (CC D m lim v x y j) := h65
      subst e1
      show ed (f_HFinder_lookAt_L169 (nI x) (nI y) (nI v) (nI (17 + 4 * v)) _ (nI q) M30) _
      unfold f_HFinder_lookAt_L169
      have c4 : ((4 : Int32) ≤ nI q) = (4 ≤ q) := nIl (x := 4) (by omega) (by omega)
      simp only [c4]
      by_cases h4 : 4 ≤ q
      · rw [if_pos h4]
        obtain rfl : q = 4 := by omega
        exact lpo_r ⟨f, hF⟩
      · have e3 : (3 : Int32) - nI q = nI (3 - q) := by rw [nI_n]; exact nI_sb (by omega)
        have g10 : im_i M30 59 10 = iZ (lim : Int) := (f.1 59 10 (by decide) (by decide)).trans (g2.trans iZ_nI)
        have g9 : im_i M30 59 9 = nI m := (f.1 59 9 (by decide) (by decide)).trans g1
        have gM : MLW M30 m lim W H := MLW_fr f (by decide +kernel) g
        have gS : SUMS (im_i M30 60) W H D := SUMS_fr f (by decide +kernel) hs
        have hsum : iS (CC D m lim v x y) 4 - CC D m lim v x y (3 - q) = sm3 q (CC D m lim v x y) := CC_sum (by omega)
        have s4b : 0 ≤ sm3 q (CC D m lim v x y) ∧ sm3 q (CC D m lim v x y) ≤ 80000 := by
          rw [← hsum]
          show 0 ≤ 0 + _ + _ + _ + _ - _ ∧ 0 + _ + _ + _ + _ - _ ≤ 80000
          have := cb 0
          have := cb 1
          have := cb 2
          have := cb 3
          have : q = 0 ∨ q = 1 ∨ q = 2 ∨ q = 3 := by omega
          rcases this with rfl | rfl | rfl | rfl <;> simp only [Nat.reduceSub] <;> omega
        rw [if_neg h4, e3, gd_pos (by rw [inb_nI (by omega)]; omega), nI_clamp (by omega), h65 (3 - q) (by omega), iZ_sub, hsum, g10, if_iZlt (by omega) (by omega)]
        obtain ⟨kb, kk⟩ := bK_key (x := x) (y := y) (m := m) (v := v) (q := q) (by omega) (by omega) (by omega) (by omega)
        have hE : eW D (key x y m v q) = sm3 q (eC D m v x y) + oth D m v x y q := by
          rw [bK_eW kb, kk, EE_parts hv.1 (by omega)]
        have ho := oth_nn (D := D) (m := m) (v := v) (x := x) (y := y) (q := q)
        have hCC := CC_3 (D := D) (m := m) (lim := lim) (v := v) (x := x) (y := y) (q := q) (by omega)
        have nx : ∀ u : Int, (u ≤ (lim : Int) → u = eW D (key x y m v q)) → (eW D (key x y m v q) ≤ (lim : Int) → u ≤ (lim : Int)) → -2147483648 ≤ u ∧ u < 2147483648 → ed (bd1 (some (iZ u)) fun (y33 : Int32) => jn1 (fun (M44 : im_M) => some (Sum.inl ((nI q + 1), M44))) fun k42 => if iZ (lim : Int) < y33 then k42 M30 else bd2 (f_HFinder_add (nI x) (nI y) (nI v) (nI q) y33 M30) fun (x43 : Int32) (M43 : im_M) => if ¬ x43 = 0 then k42 M43 else some (Sum.inr (Sum.inr ((0 : Int32), M43)))) (lpo (fun n s => ∃ q : Nat, q + n = 4 ∧ s.1 = nI q ∧ fr (2 ^ 62 ||| 2 ^ 63 ||| 2 ^ 65) [(59, 8)] M s.2 ∧ (∀ j, j < 4 → im_i s.2 65 j = iZ (CC D m lim v x y j)) ∧ FS s.2 D (fun k => S k ∨ (bK x y m v k ∧ kq k < q ∧ eW D k ≤ (lim : Int)))) (sQ (fun M3 => fr (2 ^ 62 ||| 2 ^ 63 ||| 2 ^ 65) [(59, 8)] M M3 ∧ FS M3 D (fun k => S k ∨ (bK x y m v k ∧ kq k < 4 ∧ eW D k ≤ (lim : Int)))) (fun t => t.1 = 0 ∧ fr (2 ^ 62 ||| 2 ^ 63 ||| 2 ^ 65) [(59, 8)] M t.2 ∧ OV (fun k => S k ∨ (bK x y m v k ∧ eW D k ≤ (lim : Int))))) n) := by
          intro u u1 u2 u3
          rw [bd1_s]
          show ed (if iZ (lim : Int) < iZ u then _ else _) _
          rw [if_iZlt (by omega) u3]
          by_cases c5 : (lim : Int) < u
          · rw [if_pos c5]
            refine lpo_l (n - 1) (by omega) ⟨q + 1, by omega, nI_add q 1, f, h65, FS_S (fun k => ?_) hF⟩
            constructor
            · rintro (a | ⟨a, b, d⟩)
              · exact Or.inl a
              · exact Or.inr ⟨a, by omega, d⟩
            · rintro (a | ⟨a, b, d⟩)
              · exact Or.inl a
              · refine Or.inr ⟨a, ?_, d⟩
                rcases Nat.lt_or_ge (kq k) q with z | z
                · exact z
                · have e : kq k = q := by omega
                  have := bK_is a
                  rw [e] at this
                  rw [this] at d
                  have := u2 d
                  omega
          · rw [if_neg c5, u1 (by omega)]
            apply bd2_mk
            have nS : ¬ (S (key x y m v q) ∨ (bK x y m v (key x y m v q) ∧ kq (key x y m v q) < q ∧ eW D (key x y m v q) ≤ (lim : Int))) := by
              rintro (a | ⟨_, b, _⟩)
              · exact hS hfc q (by omega) a
              · omega
            have hEl : eW D (key x y m v q) ≤ (lim : Int) := by have := u1 (by omega); omega
            refine ed_mono (s_add hF g9 (by omega) (by omega) (by omega) (by omega) (by omega) nS) ?_
            rintro ⟨x43, M43⟩ ⟨f3, h3⟩
            replace f3 : fr (2 ^ 62 ||| 2 ^ 63) [(59, 8)] M30 M43 := f3
            have f4 : fr (2 ^ 62 ||| 2 ^ 63 ||| 2 ^ 65) [(59, 8)] M M43 := fr_tr (fr_mono (by decide) (by decide) f3) f
            rcases h3 with ⟨e, h3⟩ | ⟨e, h3⟩
            · replace e : x43 = 1 := e
              subst e
              show ed (if ¬ (1 : Int32) = 0 then _ else _) _
              rw [if_pos (by decide)]
              refine lpo_l (n - 1) (by omega) ⟨q + 1, by omega, nI_add q 1, f4, fun j hj => ?_, FS_S (fun k => ?_) h3⟩
              · show im_i M43 65 j = _
                rw [f3.1 65 j (by decide) (by simp)]
                exact h65 j hj
              · constructor
                · rintro ((a | ⟨a, b, d⟩) | a)
                  · exact Or.inl a
                  · exact Or.inr ⟨a, by omega, d⟩
                  · subst a
                    exact Or.inr ⟨kb, by omega, hEl⟩
                · rintro (a | ⟨a, b, d⟩)
                  · exact Or.inl (Or.inl a)
                  · rcases Nat.lt_or_ge (kq k) q with z | z
                    · exact Or.inl (Or.inr ⟨a, z, d⟩)
                    · have e : kq k = q := by omega
                      have := bK_is a
                      rw [e] at this
                      exact Or.inr this
            · replace e : x43 = 0 := e
              subst e
              show ed (if ¬ (0 : Int32) = 0 then _ else _) _
              rw [if_neg (fun z => z rfl)]
              refine lpo_r ⟨rfl, f4, OV_S (fun k => ?_) h3⟩
              rintro ((a | ⟨a, b, d⟩) | a)
              · exact Or.inl a
              · exact Or.inr ⟨a, d⟩
              · subst a
                exact Or.inr ⟨kb, hEl⟩
        by_cases c5 : (lim : Int) < sm3 q (CC D m lim v x y)
        · rw [if_pos c5]
          refine nx _ (fun z => absurd z (by omega)) (fun z => ?_) (by omega)
          have := hCC (Or.inr (by omega))
          omega
        · rw [if_neg c5]
          obtain ⟨r, er, u, rfl, hu, u0, u1⟩ := s_wrongAt (q := q) (z := sm3 q (CC D m lim v x y)) gS gM hv (by omega) hx hy ⟨s4b.1, by omega⟩
          rw [er, bd1_s]
          have e9 := hCC (Or.inl (by omega))
          rw [e9] at hu
          refine nx u (fun z => ?_) (fun z => ?_) (by omega)
          · rcases hu with a | ⟨a, _⟩ <;> omega
          · rcases hu with a | ⟨a, b⟩ <;> omega
    · refine FS_S (fun k => ?_) (FS_fr f1 (by decide +kernel) hF)
      constructor
      · exact Or.inl
      · rintro (a | ⟨_, b, _⟩)
        · exact a
        · omega
    · rintro M3 ⟨f, h⟩
      refine ed_mk ⟨f, Or.inl ⟨rfl, FS_S (fun k => ?_) h⟩⟩
      constructor
      · rintro (a | ⟨a, b, d⟩)
        · exact Or.inl a
        · exact Or.inr ⟨hfc, a, d⟩
      · rintro (a | ⟨_, a, d⟩)
        · exact Or.inl a
        · exact Or.inr ⟨a, kq_lt, d⟩
    · rintro ⟨t, M3⟩ ⟨e, f, h⟩
      exact ed_mk ⟨f, Or.inr ⟨e, h⟩⟩
  · rintro ⟨t, M3⟩ ⟨e, f, j, hj, h⟩
    refine ed_mk ⟨fr_mono (by decide) (by decide) f, Or.inl ⟨e, FS_S (fun k => ?_) (FS_fr f (by decide +kernel) hF)⟩⟩
    constructor
    · exact Or.inl
    · rintro (a | ⟨a, _⟩)
      · exact a
      · have := (fcn_is hc hqc).mp a j hj
        rw [h] at this
        cases this
