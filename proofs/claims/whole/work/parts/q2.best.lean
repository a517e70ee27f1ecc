/-! THE BEST MASK, BY BOTH -/
theorem fm_allU {n : Nat} {w : Int32} {s t : GS} {U : Nat → Nat → Prop} (hn : n ≤ 177) (h : EQg n (fun x y => isF n 0 x y ∨ U x y) s t) : EQg n U (fmF n w s) (fmF n w t) := by
  have k := itN_rel (R := fun i s t => EQg n (fun x y => isF n i x y ∨ U x y) s t) (f := fun i s => fmS n w i s) (g := fun i s => fmS n w i s) h 15 (fun i a b hi q x y hx hy => by
    have q2 : EQg n (fun x y => isF n i x y ∨ U x y) (fmS n w i a) (fmS n w i b) := fx_eq hn (fx_eq hn q)
    obtain ⟨h1, h2⟩ := q2 x y hx hy
    refine ⟨h1, fun z => ?_⟩
    by_cases e : ∃ c, c < 2 ∧ x = fmX n i c ∧ y = fmY n i c
    · obtain ⟨c, hc, ex, ey⟩ := e
      show (fx n _ _ (ib w i) (fx n _ _ (ib w i) a)).1 (177 * y + x) = (fx n _ _ (ib w i) (fx n _ _ (ib w i) b)).1 (177 * y + x)
      rw [(fx_at hn hx hy).1, (fx_at hn hx hy).1, (fx_at hn hx hy).1, (fx_at hn hx hy).1]
      have d : c = 0 ∨ c = 1 := by omega
      by_cases u1 : ((fmX n i 1 : Nat) : Int) = (x : Int) ∧ ((fmY n i 1 : Nat) : Int) = (y : Int)
      · rw [if_pos u1, if_pos u1]
      · rw [if_neg u1, if_neg u1]
        rcases d with rfl | rfl
        · have u0 : ((fmX n i 0 : Nat) : Int) = (x : Int) ∧ ((fmY n i 0 : Nat) : Int) = (y : Int) := ⟨by omega, by omega⟩
          rw [if_pos u0, if_pos u0]
        · exact absurd ⟨by omega, by omega⟩ u1
    · refine h2 (fun hz => hz.elim ?_ (fun u => z (Or.inr u)))
      rintro ⟨j, c, j1, j2, j3, j4, j5⟩
      by_cases ej : j = i
      · subst ej
        exact e ⟨c, j3, j4, j5⟩
      · exact z (Or.inl ⟨j, c, by omega, j2, j3, j4, j5⟩))
  intro x y hx hy
  obtain ⟨h1, h2⟩ := k x y hx hy
  refine ⟨h1, fun z => h2 (fun hz => hz.elim ?_ z)⟩
  rintro ⟨j, c, j1, j2, _⟩
  omega
theorem fm_2 {n : Nat} {w : Int32} {s : GS} (hn : 21 ≤ n ∧ n ≤ 177) (hF : FFx n s) : (fmF n w s).2 = s.2 := by
  refine itN_inv (R := fun _ (t : GS) => t.2 = s.2) (f := fun i s => fmS n w i s) (s := s) rfl 15 (fun i a hi q => ?_)
  have one : ∀ (c : Nat) (a : GS), c < 2 → a.2 = s.2 → (fx n ((fmX n i c : Nat) : Int) ((fmY n i c : Nat) : Int) (ib w i) a).2 = s.2 := fun c a hc q => by
    have l := fm_lt (n := n) hn.1 hi hc
    unfold fx
    rw [if_pos ⟨by omega, by omega, by omega, by omega⟩]
    show upI a.2 (177 * ((fmY n i c : Nat) : Int).toNat + ((fmX n i c : Nat) : Int).toNat) 1 = s.2
    rw [q, Int.toNat_natCast, Int.toNat_natCast]
    funext j
    unfold upI
    split
    · rename_i e
      rw [e]
      exact (hF _ _ l.1 l.2 ⟨i, c, Nat.zero_le _, hi, hc, rfl, rfl⟩).symm
    · rfl
  exact one 1 _ (by omega) (one 0 a (by omega) q)
theorem fm_ok {n : Nat} {w : Int32} {s : GS} (hn : n ≤ 177) (h : okG n s) : okG n (fmF n w s) := fmF_kp (fun _ _ _ _ q => fx_ok hn q) h
/-- the modules under mask k with the form word w -/
noncomputable def gK (n : Nat) (s : GS) (G4 : Nat → Int32) (w : Int32) (k x y : Nat) : Bool := if s.2 (177 * y + x) = 0 then Bool.xor (decide (G4 (177 * y + x) = 1)) (tnB k x y) else decide ((fmF n w s).1 (177 * y + x) = 1)
/-- where the class stands between two masks -/
def CMI (M0 M : im_M) (n v : Nat) (s : GS) (G4 : Nat → Int32) : Prop := im_i M 38 1 = nI n ∧ im_i M 38 6 = nI v ∧ im_i M 55 = s.2 ∧ (∀ x y, x < n → y < n → s.2 (177 * y + x) = 0 → im_i M 54 (177 * y + x) = bI (decide (G4 (177 * y + x) = 1))) ∧ (∀ x y, x < n → y < n → ¬ s.2 (177 * y + x) = 0 → ¬ isF n 0 x y → im_i M 54 (177 * y + x) = s.1 (177 * y + x)) ∧ fr (2 ^ 54 ||| 2 ^ 55) [] M0 M
theorem bI_d {x : Int32} (h : x = 0 ∨ x = 1) : x = bI (decide (x = 1)) := by
  rcases h with rfl | rfl
  · rfl
  · rfl
theorem s_maskC {M0 M : im_M} {n v l k : Nat} {s : GS} {G4 : Nat → Int32} (h : CMI M0 M n v s G4) (hn : 21 ≤ n ∧ n ≤ 177) (hF : FFx n s) (ho : okG n s) (hl : l < 4) : ed (bd1 (f_HGrid_turnMask (nI k) M) fun M7 => f_HGrid_fixForm (nI l) (nI k) M7) (fun R => im_i R 38 1 = nI n ∧ im_i R 38 6 = nI v ∧ im_i R 55 = s.2 ∧ (∀ x y, x < n → y < n → im_i R 54 (177 * y + x) = bI (gK n s G4 (fmW (8 * (l ^^^ 1) + k)) k x y)) ∧ (∀ x y, x < n → y < n → ¬ s.2 (177 * y + x) = 0 → ¬ isF n 0 x y → im_i R 54 (177 * y + x) = s.1 (177 * y + x)) ∧ fr (2 ^ 54 ||| 2 ^ 55) [] M0 R) := by
  obtain ⟨h1, h2, h3, h4, h5, h6⟩ := h
  apply bd1_mk
  refine ed_mono (s_turnC (M0 := M) h1 hn.2 h3 h4) ?_
  rintro M7 ⟨t1, t2, f7⟩
  have a55 : im_i M7 55 = s.2 := (fr_c f7 55 (by decide) (by simp)).trans h3
  have f7a : fr (2 ^ 54 ||| 2 ^ 55) [] M0 M7 := fr_tr (fr_mono (by decide) (by simp) f7) h6
  have g7 : CG M0 M7 n v (im_i M7 54, im_i M7 55) := ⟨(f7.1 38 1 (by decide) (by simp)).trans h1, (f7.1 38 6 (by decide) (by simp)).trans h2, rfl, rfl, f7a⟩
  refine ed_mono (s_formC (l := l) (k := k) g7 hn hl) ?_
  rintro R ⟨r1, r2, r3, r4, r5⟩
  have eq7 : EQg n (fun x y => isF n 0 x y ∨ s.2 (177 * y + x) = 0) (im_i M7 54, im_i M7 55) s := fun x y hx hy => by
    refine ⟨by show im_i M7 55 _ = _; rw [a55], fun z => ?_⟩
    show im_i M7 54 (177 * y + x) = _
    have z1 : ¬ s.2 (177 * y + x) = 0 := fun u => z (Or.inr u)
    rw [t2 _ z1]
    exact h5 x y hx hy z1 (fun u => z (Or.inl u))
  have F7 : FFx n (im_i M7 54, im_i M7 55) := fun x y hx hy hf => by
    show im_i M7 55 _ = 1
    rw [a55]
    exact hF x y hx hy hf
  have eqR := fm_allU (w := fmW (8 * (l ^^^ 1) + k)) hn.2 eq7
  generalize fmW (8 * (l ^^^ 1) + k) = w at *
  have ok := fm_ok (w := w) hn.2 ho
  refine ⟨r1, r2, ?_, fun x y hx hy => ?_, fun x y hx hy z1 z2 => ?_, r5⟩
  · rw [r4, fm_2 hn F7]
    exact a55
  · rw [r3]
    unfold gK
    by_cases z : s.2 (177 * y + x) = 0
    · rw [if_pos z]
      have nf : ¬ isF n 0 x y := fun f => by
        have := hF x y hx hy f
        rw [z] at this
        exact absurd this (by decide)
      rw [(fm_o hn.2 F7 hx hy).2 nf]
      exact t1 x y hx hy z
    · rw [if_neg z, (eqR x y hx hy).2 z]
      exact bI_d (ok x y hx hy).1
  · rw [r3, (fm_o hn.2 F7 hx hy).2 z2]
    show im_i M7 54 _ = _
    rw [t2 _ z1]
    exact h5 x y hx hy z1 z2
noncomputable def pnK (n l : Nat) (s : GS) (G4 : Nat → Int32) (k : Nat) : Nat := penP (fun x y => (gK n s G4 (fmW (8 * (l ^^^ 1) + k)) k x y).toNat) n
theorem bI_n {b : Bool} : bI b = nI b.toNat := by
  cases b with
  | false => rfl
  | true => rfl
theorem pnK_b {n l k : Nat} {s : GS} {G4 : Nat → Int32} (hn : 21 ≤ n ∧ n ≤ 177) : pnK n l s G4 k < 100000000 := penP_b (fun x y => by have := tn_1 (gK n s G4 (fmW (8 * (l ^^^ 1) + k)) k x y); omega) ⟨by omega, hn.2⟩
/-- the best mask of the first k, and its penalty -/
def bmF (P : Nat → Nat) : Nat → Nat × Nat
  | 0 => (0, 1073741824)
  | k + 1 => if P k < (bmF P k).2 then (k, P k) else bmF P k
theorem bmF_b {P : Nat → Nat} (hP : ∀ k, P k < 100000000) : ∀ k, (bmF P k).1 ≤ k ∧ (bmF P k).2 ≤ 1073741824 ∧ (1 ≤ k → (bmF P k).2 < 100000000 ∧ (bmF P k).1 < k) := by
  intro k
  induction k with
  | zero => exact ⟨Nat.le_refl _, Nat.le_refl _, fun z => absurd z (by omega)⟩
  | succ k ih =>
    have := hP k
    have un : bmF P (k + 1) = if P k < (bmF P k).2 then (k, P k) else bmF P k := rfl
    rw [un]
    by_cases c : P k < (bmF P k).2
    · rw [if_pos c]
      exact ⟨Nat.le_succ _, (show P k ≤ 1073741824 by omega), fun _ => ⟨this, Nat.lt_succ_self k⟩⟩
    · rw [if_neg c]
      obtain ⟨i1, i2, i3⟩ := ih
      refine ⟨by omega, i2, fun _ => ?_⟩
      by_cases z : 1 ≤ k
      · have := i3 z
        exact ⟨this.1, by omega⟩
      · obtain rfl : k = 0 := by omega
        exfalso
        apply c
        show P 0 < 1073741824
        omega
theorem s_bestC {M0 M : im_M} {n v l : Nat} {s : GS} {G4 : Nat → Int32} (h : CMI M0 M n v s G4) (hn : 21 ≤ n ∧ n ≤ 177) (hF : FFx n s) (ho : okG n s) (hl : l < 4) : ed (f_HGrid_bestMask (nI l) M) (fun r => r.1 = nI (bmF (pnK n l s G4) 8).1 ∧ CMI M0 r.2 n v s G4) := by
  unfold f_HGrid_bestMask
  have pb : ∀ k, pnK n l s G4 k < 100000000 := fun k => pnK_b hn
  apply bd2_mk
  refine ed_mono (lp_for (S := Nat × Nat) (fun k q (t : Int32 × Int32 × Int32 × im_M) => q = bmF (pnK n l s G4) k ∧ t.1 = nI q.1 ∧ t.2.1 = nI q.2 ∧ t.2.2.1 = nI k ∧ CMI M0 t.2.2.2 n v s G4) (Q := fun q (r : Int32 × im_M) => q = bmF (pnK n l s G4) 8 ∧ r.1 = nI q.1 ∧ CMI M0 r.2 n v s G4) 8 (fun k q => if pnK n l s G4 k < q.2 then (k, pnK n l s G4 k) else q) ?_ ?_ (s := (0, 1073741824)) ⟨rfl, rfl, rfl, rfl, h⟩) ?_
  · rintro k q ⟨x3, x4, x5, M6⟩ hk ⟨e0, e1, e2, e3, h6⟩
    replace e1 : x3 = nI q.1 := e1
    replace e2 : x4 = nI q.2 := e2
    replace e3 : x5 = nI k := e3
    replace h6 : CMI M0 M6 n v s G4 := h6
    subst e1 e2 e3
    show ed (f_HGrid_bestMask_L8 (nI l) (nI q.1) (nI q.2) (nI k) M6) _
    unfold f_HGrid_bestMask_L8
    have k8 : ((8 : Int32) ≤ nI k) = (8 ≤ k) := nIl (x := 8) (by omega) (by omega)
    simp only [k8]
    rw [if_neg (by omega)]
    have mc := s_maskC (l := l) (k := k) h6 hn hF ho hl
    obtain ⟨R, hR, r1, r2, r3, r4, r5, r6⟩ := mc
    obtain ⟨M7, hM7, hM8⟩ : ∃ M7, f_HGrid_turnMask (nI k) M6 = some M7 ∧ f_HGrid_fixForm (nI l) (nI k) M7 = some R := by
      cases z : f_HGrid_turnMask (nI k) M6 with
      | none => rw [z] at hR; cases hR
      | some M7 => rw [z] at hR; exact ⟨M7, rfl, hR⟩
    have og : ofG (fun x y => (gK n s G4 (fmW (8 * (l ^^^ 1) + k)) k x y).toNat) R 54 n := fun x y hx hy => by rw [r4 x y hx hy, bI_n]
    have pen := s_penC r1 og (fun x y => by have := tn_1 (gK n s G4 (fmW (8 * (l ^^^ 1) + k)) k x y); omega) ⟨by omega, hn.2⟩
    replace pen : f_HGrid_penalty R = some (nI (pnK n l s G4 k)) := pen
    rw [hM7, bd1_s, hM8, bd1_s, pen, bd1_s]
    have gu : ∀ x y, x < n → y < n → s.2 (177 * y + x) = 0 → im_i R 54 (177 * y + x) = bI (Bool.xor (decide (G4 (177 * y + x) = 1)) (tnB k x y)) := fun x y hx hy hz => by
      rw [r4 x y hx hy]
      unfold gK
      rw [if_pos hz]
    apply bd1_mk
    refine ed_mono (s_turnC (M0 := R) (k := k) r1 hn.2 r3 gu) ?_
    rintro M11 ⟨t1, t2, f11⟩
    have b := bmF_b pb k
    rw [← e0] at b
    have pk := pb k
    rw [if_nIl (by omega) (by omega), if_nIl (by omega) (by omega)]
    refine ed_mk ⟨_, rfl, ?_, ?_, ?_, nI_add k 1, ?_⟩
    · rw [e0]
      rfl
    · show (if q.2 ≤ pnK n l s G4 k then nI q.1 else nI k) = nI (if pnK n l s G4 k < q.2 then (k, pnK n l s G4 k) else q).1
      by_cases c : pnK n l s G4 k < q.2
      · rw [if_pos c, if_neg (by omega)]
      · rw [if_neg c, if_pos (by omega)]
    · show (if q.2 ≤ pnK n l s G4 k then nI q.2 else nI (pnK n l s G4 k)) = nI (if pnK n l s G4 k < q.2 then (k, pnK n l s G4 k) else q).2
      by_cases c : pnK n l s G4 k < q.2
      · rw [if_pos c, if_neg (by omega)]
      · rw [if_neg c, if_pos (by omega)]
    · refine ⟨(f11.1 38 1 (by decide) (by simp)).trans r1, (f11.1 38 6 (by decide) (by simp)).trans r2, (fr_c f11 55 (by decide) (by simp)).trans r3, fun x y hx hy hz => ?_, fun x y hx hy z1 z2 => ?_, fr_tr (fr_mono (by decide) (by simp) f11) r6⟩
      · show im_i M11 54 _ = _
        rw [t1 x y hx hy hz, Bool.xor_assoc, Bool.xor_self, Bool.xor_false]
      · show im_i M11 54 _ = _
        rw [t2 _ z1]
        exact r5 x y hx hy z1 z2
  · rintro q ⟨x3, x4, x5, M6⟩ ⟨e0, e1, e2, e3, h6⟩
    replace e3 : x5 = nI 8 := e3
    subst e3
    show ed (f_HGrid_bestMask_L8 (nI l) x3 x4 (nI 8) M6) _
    unfold f_HGrid_bestMask_L8
    rw [if_pos (by decide)]
    exact ed_mk ⟨_, rfl, e0, e1, h6⟩
  · rintro ⟨y12, M13⟩ ⟨q0, q1, q2⟩
    rw [q0] at q1
    exact ed_mk ⟨q1, q2⟩
