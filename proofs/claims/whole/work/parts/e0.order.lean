/-! THE REFERENCE'S SEARCH -/
def ENF (M : im_M) (D : Nat → Nat → Bool) (i k : Nat) : Prop := im_i M 135 (6 * i) = nI (kx k) ∧ im_i M 135 (6 * i + 1) = nI (ky k) ∧ im_i M 135 (6 * i + 2) = nI (km k) ∧ im_i M 135 (6 * i + 3) = nI (kv k) ∧ im_i M 135 (6 * i + 4) = nI (kq k) ∧ im_i M 135 (6 * i + 5) = iZ (eW D k)
def FDM (M : im_M) (D : Nat → Nat → Bool) (S : Nat → Prop) : Prop := ∃ (n : Nat) (f : Nat → Nat), n ≤ 300 ∧ im_i M 130 10 = nI n ∧ inc f n ∧ (∀ k, S k ↔ ∃ i, i < n ∧ f i = k) ∧ ∀ i, i < n → ENF M D i (f i)
/-- a place before which none is, or place p -/
def PV (f : Nat → Nat) (n : Nat) (x : Int32) (pv : Int) : Prop := (x = -1 ∧ pv = -1) ∨ ∃ p, p < n ∧ x = nI p ∧ pv = ((f p : Nat) : Int)
theorem SN_fr {A : Nat} {F : List (Nat × Nat)} {M M' : im_M} {W H lo hi lim n : Nat} {D : Nat → Nat → Bool} {f : Nat → Nat} (h : fr A F M M') (c : clr A F [134] [(130, 8)] [] = true) (q : SN M W H D lo hi lim n f) : SN M' W H D lo hi lim n f := by
  unfold SN EN at q ⊢
  rw [clr_f c h (a := 130) (k := 8) (by decide), clr_a c h (a := 134) (by decide)]
  exact q
theorem m1_lt {a : Nat} (h : a < 1000) : ¬ (nI a < 0) := by
  have : (nI a < 0) = (a < 0) := nIlt (c := 0) (by omega) (by omega)
  rw [this]
  omega
/-- the least leader beyond pv -/
theorem s_next {M : im_M} {W H lo hi lim n : Nat} {D : Nat → Nat → Bool} {f : Nat → Nat} {x2 : Int32} {pv : Int} (h : SN M W H D lo hi lim n f) (hp : PV f n x2 pv) : ed (lp (uc2 (f_MPlaceRows_order_L13 x2 M)) ((-1), 0)) (fun r => (r = -1 ∧ ∀ i, i < n → ¬ (pv < ((f i : Nat) : Int) ∧ ld D (StP W H D lo hi lim) (f i))) ∨ ∃ b, b < n ∧ r = nI b ∧ (pv < ((f b : Nat) : Int) ∧ ld D (StP W H D lo hi lim) (f b)) ∧ ∀ i, i < n → pv < ((f i : Nat) : Int) ∧ ld D (StP W H D lo hi lim) (f i) → f b ≤ f i) := by
  obtain ⟨⟨hW, hH, hlo, hlim⟩, hn, h8, hf, hS, hE⟩ := id h
  have hSi : ∀ i, i < n → StP W H D lo hi lim (f i) := fun i hi => (hS _).mpr ⟨i, hi, rfl⟩
  have hB : ∀ i j, i < n → j < n → f_MPlaceRows_isBefore (nI i) (nI j) M = some (if f i < f j then 1 else 0) := fun i j hi hj => s_before (by omega) (by omega) (StP_y (hSi i hi) hH hlo) (StP_y (hSi j hj) hH hlo) (hE i hi) (hE j hj)
  refine lp_inv (fun k (s : Int32 × Int32) => ∃ i : Nat, i + k = n ∧ s.2 = nI i ∧ ((s.1 = -1 ∧ ∀ a, a < i → ¬ (pv < ((f a : Nat) : Int) ∧ ld D (StP W H D lo hi lim) (f a))) ∨ ∃ b, b < i ∧ s.1 = nI b ∧ (pv < ((f b : Nat) : Int) ∧ ld D (StP W H D lo hi lim) (f b)) ∧ ∀ a, a < i → pv < ((f a : Nat) : Int) ∧ ld D (StP W H D lo hi lim) (f a) → f b ≤ f a)) ?_ (k := n) ⟨0, by omega, rfl, Or.inl ⟨rfl, fun a ha => absurd ha (by omega)⟩⟩
  rintro k ⟨x7, x8⟩ ⟨i, hik, e1, hs⟩
  replace e1 : x8 = nI i := e1
  replace hs : (x7 = -1 ∧ ∀ a, a < i → ¬ (pv < ((f a : Nat) : Int) ∧ ld D (StP W H D lo hi lim) (f a))) ∨ ∃ b, b < i ∧ x7 = nI b ∧ (pv < ((f b : Nat) : Int) ∧ ld D (StP W H D lo hi lim) (f b)) ∧ ∀ a, a < i → pv < ((f a : Nat) : Int) ∧ ld D (StP W H D lo hi lim) (f a) → f b ≤ f a := hs
  subst e1
  show ed (f_MPlaceRows_order_L13 x2 M x7 (nI i)) _
  unfold f_MPlaceRows_order_L13
  rw [h8, if_nIl (by omega) (by omega)]
  by_cases c : n ≤ i
  · rw [if_pos c]
    obtain rfl : i = n := by omega
    exact lpo_r hs
  · rw [if_neg c]
    have y17 : (jn0 (fun (_ : Unit) => some (1 : Int32)) fun k11 => if x2 < 0 then k11 () else bd1 (f_MPlaceRows_isBefore x2 (nI i) M) fun (x12 : Int32) => if x12 = 0 then some 0 else k11 ()) = some (if pv < ((f i : Nat) : Int) then 1 else 0) := by
      rcases hp with ⟨a, b⟩ | ⟨p, hpn, a, b⟩
      · subst a b
        simp only [jn0]
        rw [if_pos (show (-1 : Int32) < 0 by decide), if_pos (by omega)]
      · subst a b
        simp only [jn0]
        rw [if_neg (m1_lt (a := p) (by omega)), hB p i hpn (by omega), bd1_s]
        by_cases d : f p < f i
        · rw [if_pos d, if_neg (by decide), if_pos (by omega)]
        · rw [if_neg d, if_pos rfl, if_neg (by omega)]
    rw [y17, bd1_s]
    have keep : ¬ (pv < ((f i : Nat) : Int) ∧ ld D (StP W H D lo hi lim) (f i)) → ed (some (Sum.inl (x7, nI i + 1))) (lpo (fun k (s : Int32 × Int32) => ∃ i : Nat, i + k = n ∧ s.2 = nI i ∧ ((s.1 = -1 ∧ ∀ a, a < i → ¬ (pv < ((f a : Nat) : Int) ∧ ld D (StP W H D lo hi lim) (f a))) ∨ ∃ b, b < i ∧ s.1 = nI b ∧ (pv < ((f b : Nat) : Int) ∧ ld D (StP W H D lo hi lim) (f b)) ∧ ∀ a, a < i → pv < ((f a : Nat) : Int) ∧ ld D (StP W H D lo hi lim) (f a) → f b ≤ f a)) (fun r : Int32 => (r = -1 ∧ ∀ i, i < n → ¬ (pv < ((f i : Nat) : Int) ∧ ld D (StP W H D lo hi lim) (f i))) ∨ ∃ b, b < n ∧ r = nI b ∧ (pv < ((f b : Nat) : Int) ∧ ld D (StP W H D lo hi lim) (f b)) ∧ ∀ i, i < n → pv < ((f i : Nat) : Int) ∧ ld D (StP W H D lo hi lim) (f i) → f b ≤ f i) k) := by
      intro z
      refine lpo_l (k - 1) (by omega) ⟨i + 1, by omega, nI_add i 1, ?_⟩
      rcases hs with ⟨a, b⟩ | ⟨b, hb, a, d, e⟩
      · refine Or.inl ⟨a, fun a' ha' => ?_⟩
        by_cases q : a' = i
        · rw [q]; exact z
        · exact b a' (by omega)
      · refine Or.inr ⟨b, by omega, a, d, fun a' ha' q => ?_⟩
        by_cases q2 : a' = i
        · rw [q2] at q; exact absurd q z
        · exact e a' (by omega) q
    have take : (pv < ((f i : Nat) : Int) ∧ ld D (StP W H D lo hi lim) (f i)) → (∀ a, a < i → pv < ((f a : Nat) : Int) ∧ ld D (StP W H D lo hi lim) (f a) → f i ≤ f a) → ed (some (Sum.inl (nI i, nI i + 1))) (lpo (fun k (s : Int32 × Int32) => ∃ i : Nat, i + k = n ∧ s.2 = nI i ∧ ((s.1 = -1 ∧ ∀ a, a < i → ¬ (pv < ((f a : Nat) : Int) ∧ ld D (StP W H D lo hi lim) (f a))) ∨ ∃ b, b < i ∧ s.1 = nI b ∧ (pv < ((f b : Nat) : Int) ∧ ld D (StP W H D lo hi lim) (f b)) ∧ ∀ a, a < i → pv < ((f a : Nat) : Int) ∧ ld D (StP W H D lo hi lim) (f a) → f b ≤ f a)) (fun r : Int32 => (r = -1 ∧ ∀ i, i < n → ¬ (pv < ((f i : Nat) : Int) ∧ ld D (StP W H D lo hi lim) (f i))) ∨ ∃ b, b < n ∧ r = nI b ∧ (pv < ((f b : Nat) : Int) ∧ ld D (StP W H D lo hi lim) (f b)) ∧ ∀ i, i < n → pv < ((f i : Nat) : Int) ∧ ld D (StP W H D lo hi lim) (f i) → f b ≤ f i) k) := by
      intro z z2
      refine lpo_l (k - 1) (by omega) ⟨i + 1, by omega, nI_add i 1, Or.inr ⟨i, by omega, rfl, z, fun a ha q => ?_⟩⟩
      by_cases q2 : a = i
      · rw [q2]; exact Nat.le_refl _
      · exact z2 a (by omega) q
    by_cases d1 : pv < ((f i : Nat) : Int)
    · rw [if_pos d1, if_neg (by decide)]
      obtain ⟨b, eb1, eb2⟩ := s_leadsM h (show i < n by omega)
      rw [eb1, bd1_s]
      by_cases d2 : b = 0
      · rw [if_pos d2, bd1_s]
        exact keep (fun z => eb2.mpr z.2 d2)
      · have hld := eb2.mp d2
        rw [if_neg d2]
        rcases hs with ⟨a, b'⟩ | ⟨b', hb, a, d, e⟩
        · subst a
          simp only [jn0]
          rw [if_pos (show (-1 : Int32) < 0 by decide), bd1_s]
          exact take ⟨d1, hld⟩ (fun a ha q => absurd q (b' a ha))
        · subst a
          simp only [jn0]
          rw [if_neg (m1_lt (a := b') (by omega)), hB i b' (by omega) (by omega), bd1_s]
          by_cases d3 : f i < f b'
          · rw [if_pos d3, if_neg (by decide), bd1_s]
            exact take ⟨d1, hld⟩ (fun a ha q => by have := e a ha q; omega)
          · rw [if_neg d3, if_pos rfl, bd1_s]
            refine lpo_l (k - 1) (by omega) ⟨i + 1, by omega, nI_add i 1, Or.inr ⟨b', by omega, rfl, d, fun a ha q => ?_⟩⟩
            by_cases q2 : a = i
            · rw [q2]; omega
            · exact e a (by omega) q
    · rw [if_neg d1, if_pos rfl, bd1_s]
      exact keep (fun z => d1 z.1)
def frO (M M' : im_M) : Prop := fr (2 ^ 135) [(130, 10)] M M'
theorem frO_refl {M : im_M} : fr (2 ^ 135) [(130, 10)] M M := fr_refl
theorem s_copy6 {M : im_M} {b c : Nat} (hb : b < 300) (hc : c < 300) (h10 : im_i M 130 10 = nI c) : ed (lp (uc2 (f_MPlaceRows_order_L93 1 (nI b))) (0, M)) (fun r => fr (2 ^ 135) [] M r ∧ ∀ p, im_i r 135 p = if 6 * c ≤ p ∧ p < 6 * c + 6 then im_i M 134 (6 * b + (p - 6 * c)) else im_i M 135 p) := by
  refine lp_inv (fun k (s : Int32 × im_M) => ∃ t : Nat, t + k = 6 ∧ s.1 = nI t ∧ fr (2 ^ 135) [] M s.2 ∧ ∀ p, im_i s.2 135 p = if 6 * c ≤ p ∧ p < 6 * c + t then im_i M 134 (6 * b + (p - 6 * c)) else im_i M 135 p) ?_ (k := 6) ⟨0, by omega, rfl, fr_refl, fun p => by rw [if_neg (by omega)]⟩
  rintro k ⟨x39, M40⟩ ⟨t, ht, e1, f, h⟩
  replace e1 : x39 = nI t := e1
  replace f : fr (2 ^ 135) [] M M40 := f
  replace h : ∀ p, im_i M40 135 p = if 6 * c ≤ p ∧ p < 6 * c + t then im_i M 134 (6 * b + (p - 6 * c)) else im_i M 135 p := h
  subst e1
  have e10 : im_i M40 130 10 = nI c := (f.1 130 10 (by decide) (by decide)).trans h10
  have e134 : im_i M40 134 = im_i M 134 := fr_c f 134 (by decide) (by decide)
  show ed (f_MPlaceRows_order_L93 1 (nI b) (nI t) M40) _
  unfold f_MPlaceRows_order_L93
  have c6 : ((6 : Int32) ≤ nI t) = (6 ≤ t) := nIl (x := 6) (by omega) (by omega)
  simp only [c6]
  by_cases h6 : 6 ≤ t
  · rw [if_pos h6]
    obtain rfl : t = 6 := by omega
    exact lpo_r ⟨f, h⟩
  · have q : ∀ a t : Nat, (6 : Int32) * nI a + nI t = nI (6 * a + t) := fun a t => by rw [nI_m, nI_add]
    rw [if_neg h6, if_neg (by decide), e10, q, q, gd_pos (by rw [inb_nI (by omega)]; omega), gd_pos (by rw [inb_nI (by omega)]; omega), nI_clamp (by omega), nI_clamp (by omega), e134]
    refine lpo_l (k - 1) (by omega) ⟨t + 1, by omega, nI_add t 1, fr_I (by decide) f, fun p => ?_⟩
    rw [mi_I, if_pos rfl, h]
    by_cases e : p = 6 * c + t
    · rw [if_pos e, if_pos (by omega)]
      congr 1
      omega
    · rw [if_neg e]
      by_cases e2 : 6 * c ≤ p ∧ p < 6 * c + t
      · rw [if_pos e2, if_pos (by omega)]
      · rw [if_neg e2, if_neg (by omega)]
theorem s_order {M : im_M} {W H lo hi lim n : Nat} {D : Nat → Nat → Bool} {f : Nat → Nat} (h : SN M W H D lo hi lim n f) (h10 : im_i M 130 10 = 0) : ed (f_MPlaceRows_order M) (fun r => frO M r ∧ FDM r D (ld D (StP W H D lo hi lim))) := by
  obtain ⟨⟨hW, hH, hlo, hlim⟩, hn, h8, hf, hS, hE⟩ := id h
  unfold f_MPlaceRows_order
  apply bd1_mk
  refine ed_mono (lp_inv (fun k (s : Int32 × Int32 × im_M) => frO M s.2.2 ∧ ∃ (c : Nat) (g : Nat → Nat), c ≤ n ∧ im_i s.2.2 130 10 = nI c ∧ inc g c ∧ (∀ i, i < c → ENF s.2.2 D i (g i)) ∧ ((s.2.1 = 1 ∧ k = n - c + 1 ∧ ∃ pv : Int, PV f n s.1 pv ∧ ∀ a, (∃ i, i < c ∧ g i = a) ↔ (ld D (StP W H D lo hi lim) a ∧ ((a : Nat) : Int) ≤ pv)) ∨ (s.2.1 = 0 ∧ ∀ a, (∃ i, i < c ∧ g i = a) ↔ ld D (StP W H D lo hi lim) a))) (Q := fun r => frO M r ∧ FDM r D (ld D (StP W H D lo hi lim))) ?_ (k := n - 0 + 1) ⟨frO_refl, 0, f, by omega, h10, fun i j _ hj => absurd hj (by omega), fun i hi => absurd hi (by omega), Or.inl ⟨rfl, rfl, -1, Or.inl ⟨rfl, rfl⟩, fun a => ⟨fun ⟨i, hi, _⟩ => absurd hi (by omega), fun z => by have := z.2; omega⟩⟩⟩) (fun r h => ed_mk h)
  rintro k ⟨x2, x3, M4⟩ ⟨f1, c, g, hc, e10, hg, hEg, hs⟩
  replace f1 : frO M M4 := f1
  replace e10 : im_i M4 130 10 = nI c := e10
  replace hEg : ∀ i, i < c → ENF M4 D i (g i) := hEg
  show ed (f_MPlaceRows_order_L4 x2 x3 M4) _
  unfold f_MPlaceRows_order_L4
  rcases hs with ⟨a1, a2, pv, hp, ha⟩ | ⟨a1, ha⟩
  · replace a1 : x3 = 1 := a1
    replace hp : PV f n x2 pv := hp
    subst a1
    have h4 : SN M4 W H D lo hi lim n f := SN_fr f1 (by decide +kernel) h
    rw [if_neg (by decide)]
    apply bd1_mk
    refine ed_mono (s_next h4 hp) ?_
    rintro y34 (⟨e, hno⟩ | ⟨b, hb, e, hbc, hbm⟩)
    · subst e
      rw [show (if (-1 : Int32) < 0 then (0 : Int32) else 1) = 0 from rfl]
      have hl : lp (uc2 (f_MPlaceRows_order_L93 0 (-1))) (0, M4) = some M4 := by
        refine lp_row (fun _ => ((0 : Int32), M4)) 0 (fun k hk => absurd hk (by omega)) ?_
        show f_MPlaceRows_order_L93 0 (-1) 0 M4 = _
        unfold f_MPlaceRows_order_L93
        rw [if_neg (by decide), if_pos rfl]
      rw [hl, bd1_s, if_pos rfl]
      refine lpo_l 0 (by omega) ⟨fr_F (by decide) f1, c, g, hc, e10, hg, hEg, Or.inr ⟨rfl, fun a => ?_⟩⟩
      rw [ha]
      constructor
      · exact fun z => z.1
      · intro z
        refine ⟨z, ?_⟩
        apply Classical.byContradiction
        intro z2
        obtain ⟨i, hi, e⟩ := (hS a).mp z.1
        subst e
        exact hno i hi ⟨by omega, z⟩
    · subst e
      have hflag : (if nI b < 0 then (0 : Int32) else 1) = 1 := if_neg (m1_lt (by omega))
      rw [hflag]
      have hcn : c < n := by
        have hin : c + 1 ≤ n := by
          refine fn_le (f := upN g c (f b)) (g := f) (fun i j hij hj => ?_) (fun i hi => ?_)
          · by_cases q : j = c
            · subst q
              rw [upN_s, upN_n (by omega)]
              intro z
              have := (ha (f b)).mp ⟨i, hij, z⟩
              omega
            · rw [upN_n q, upN_n (by omega)]
              exact Nat.ne_of_lt (hg i j hij (by omega))
          · by_cases q : i = c
            · rw [q, upN_s]; exact ⟨b, hb, rfl⟩
            · rw [upN_n q]
              exact (hS _).mp (((ha (g i)).mp ⟨i, by omega, rfl⟩).1.1)
        omega
      apply bd1_mk
      refine ed_mono (s_copy6 (show b < 300 by omega) (show c < 300 by omega) e10) ?_
      rintro M41 ⟨f2, h2⟩
      have e41 : im_i M41 130 10 = nI c := (f2.1 130 10 (by decide) (by decide)).trans e10
      rw [if_neg (by decide), e41]
      have f3 : frO M M41 := fr_tr (fr_mono (by decide) (by decide) f2) f1
      have h134 : ∀ t, im_i M4 134 t = im_i M 134 t := fun t => by rw [show im_i M4 134 = im_i M 134 from fr_c f1 134 (by decide) (by decide)]
      have hEb := hE b hb
      refine lpo_l (n - (c + 1) + 1) (by omega) ⟨fr_F (by decide) f3, c + 1, upN g c (f b), by omega, nI_add c 1, fun i j hij hj => ?_, fun i hi => ?_, Or.inl ⟨rfl, rfl, ((f b : Nat) : Int), Or.inr ⟨b, hb, rfl, rfl⟩, fun a => ?_⟩⟩
      · by_cases q : j = c
        · subst q
          rw [upN_s, upN_n (by omega)]
          have := (ha (g i)).mp ⟨i, hij, rfl⟩
          omega
        · rw [upN_n q, upN_n (by omega)]
          exact hg i j hij (by omega)
      · have hw : ∀ p, im_i (im_setI M41 130 10 (nI c + 1)) 135 p = if 6 * c ≤ p ∧ p < 6 * c + 6 then im_i M 134 (6 * b + (p - 6 * c)) else im_i M4 135 p := fun p => by
          rw [← h134]
          exact h2 p
        show ENF (im_setI M41 130 10 (nI c + 1)) D i (upN g c (f b) i)
        unfold ENF
        rw [hw, hw, hw, hw, hw, hw]
        by_cases q : i = c
        · subst q
          obtain ⟨r0, r1, r2, r3, r4, r5⟩ := hEb
          rw [upN_s, if_pos (by omega), if_pos (by omega), if_pos (by omega), if_pos (by omega), if_pos (by omega), if_pos (by omega)]
          rw [Nat.sub_self, Nat.add_sub_cancel_left, Nat.add_sub_cancel_left, Nat.add_sub_cancel_left, Nat.add_sub_cancel_left, Nat.add_sub_cancel_left]
          exact ⟨r0, r1, r2, r3, r4, r5⟩
        · rw [upN_n q, if_neg (by omega), if_neg (by omega), if_neg (by omega), if_neg (by omega), if_neg (by omega), if_neg (by omega)]
          exact hEg i (by omega)
      · constructor
        · rintro ⟨i, hi, e⟩
          by_cases q : i = c
          · rw [q, upN_s] at e
            subst e
            exact ⟨hbc.2, by omega⟩
          · rw [upN_n q] at e
            have := (ha a).mp ⟨i, by omega, e⟩
            exact ⟨this.1, by omega⟩
        · rintro ⟨z, z2⟩
          by_cases q : ((a : Nat) : Int) ≤ pv
          · obtain ⟨i, hi, e⟩ := (ha a).mpr ⟨z, q⟩
            exact ⟨i, by omega, by rw [upN_n (by omega)]; exact e⟩
          · obtain ⟨i, hi, e⟩ := (hS a).mp z.1
            subst e
            have := hbm i hi ⟨by omega, z⟩
            exact ⟨c, by omega, by rw [upN_s]; omega⟩
  · replace a1 : x3 = 0 := a1
    subst a1
    rw [if_pos rfl]
    exact lpo_r ⟨f1, c, g, by omega, e10, hg, fun a => (ha a).symm, hEg⟩
