/-! RUNS OF EQUAL MODULES -/
def Gm (s : Nat) (F : Nat → Nat → Nat → Int) (i j : Nat) : Int := if mo0 (cl s i) (cl s j) = -1 then 0 else F (mo0 (cl s i) (cl s j)).toNat i j
def Gsum (s : Nat) (F : Nat → Nat → Nat → Int) (j i : Nat) : Int := iS (fun b => iS (fun a => Gm s F a b) s) j + iS (fun a => Gm s F a j) i
def Rsum (n : Nat) (a b l c : Nat → Nat) (F : Nat → Nat → Nat → Int) : Int := iS (fun k => iS (fun t => F (c k) (a k + t) (b k)) (l k)) n
theorem mo_3 {s a b : Nat} (ha : a < s) (hb : b < s) : mo0 (cl s a) (cl s b) = 1 ∨ mo0 (cl s a) (cl s b) = 0 ∨ mo0 (cl s a) (cl s b) = -1 := mo_t 0 ⟨_, cl_lt ha⟩ ⟨_, cl_lt hb⟩
theorem tm_one {v : Nat} : iS (fun a => 2 * tmE v 1 (fun _ => 0) a + tmE v 0 (fun _ => 1) a) (17 + 4 * v) = 1 + 4 * v := by
  have e := iS_ind (f := fun _ => (1 : Int)) (p := fun a => decide (8 ≤ a ∧ a < 9 + 4 * v)) (a0 := 8) (w := 1 + 4 * v) (s := 17 + 4 * v) (by omega) (fun a ha => by rw [decide_eq_true_eq]; omega)
  rw [iS_k, Int.mul_one] at e
  rw [show (1 + 4 * (v : Int)) = ((1 + 4 * v : Nat) : Int) by omega, ← e]
  refine iS_c _ (fun a ha => ?_)
  unfold tmE
  by_cases h : 8 ≤ a ∧ a < 9 + 4 * v
  · rw [if_pos h, if_pos h, if_pos (decide_eq_true h)]
    by_cases o : a % 2 = 1
    · rw [if_pos o, if_pos o]; rfl
    · rw [if_neg o, if_neg o]; rfl
  · rw [if_neg h, if_neg h, if_neg (by rw [decide_eq_true_eq]; exact h)]; rfl
theorem fixed_n {v : Nat} (hv : 1 ≤ v) : iS (fun b => iS (fun a => Gm (17 + 4 * v) (fun _ _ _ => 1) a b) (17 + 4 * v)) (17 + 4 * v) = 195 + 8 * v := by
  have h1 := EE_class (v := v) (q := 0) (m := 1) (B := fun _ _ => 0) hv (by omega)
  have h2 := EE_class (v := v) (q := 0) (m := 0) (B := fun _ _ => 1) hv (by omega)
  have e : iS (fun b => iS (fun a => Gm (17 + 4 * v) (fun _ _ _ => 1) a b) (17 + 4 * v)) (17 + 4 * v) = 2 * EE (17 + 4 * v) 0 1 (fun _ _ => 0) + EE (17 + 4 * v) 0 0 (fun _ _ => 1) := by
    unfold EE
    rw [← iS_mul, ← iS_add]
    refine iS_c _ (fun b hb => ?_)
    rw [← iS_mul, ← iS_add]
    refine iS_c _ (fun a ha => ?_)
    show Gm (17 + 4 * v) (fun _ _ _ => 1) a b = 2 * ce 1 (mo0 (cl (17 + 4 * v) a) (cl (17 + 4 * v) b)) 0 + ce 0 (mo0 (cl (17 + 4 * v) a) (cl (17 + 4 * v) b)) 1
    unfold Gm
    rcases mo_3 ha hb with h | h | h <;> rw [h] <;> rfl
  have t := tm_one (v := v)
  rw [iS_add, iS_mul] at t
  rw [e, h1, h2]
  unfold ringE edgE
  simp only [bS_k, Nat.reduceAdd, Nat.reduceEqDiff, if_true, if_false, Nat.reduceMul]
  omega
theorem Gm_nn {s i j : Nat} : 0 ≤ Gm s (fun _ _ _ => 1) i j := by
  unfold Gm
  split
  · omega
  · show (0 : Int) ≤ 1
    decide
theorem Gsum_le {v i j : Nat} (hv : 1 ≤ v) (hi : i ≤ 17 + 4 * v) (hj : j < 17 + 4 * v) : Gsum (17 + 4 * v) (fun _ _ _ => 1) j i ≤ 195 + 8 * v := by
  rw [← fixed_n hv]
  have h1 := iS_up (f := fun a => Gm (17 + 4 * v) (fun _ _ _ => 1) a j) hi (fun _ _ => Gm_nn)
  have h2 := iS_up (f := fun b => iS (fun a => Gm (17 + 4 * v) (fun _ _ _ => 1) a b) (17 + 4 * v)) (show j + 1 ≤ 17 + 4 * v by omega) (fun _ _ => iS_nn _ (fun _ _ => Gm_nn))
  have h3 : iS (fun b => iS (fun a => Gm (17 + 4 * v) (fun _ _ _ => 1) a b) (17 + 4 * v)) (j + 1) = iS (fun b => iS (fun a => Gm (17 + 4 * v) (fun _ _ _ => 1) a b) (17 + 4 * v)) j + iS (fun a => Gm (17 + 4 * v) (fun _ _ _ => 1) a j) (17 + 4 * v) := rfl
  unfold Gsum
  omega
def RN (M : im_M) (s n : Nat) (a b l c : Nat → Nat) : Prop := im_i M 130 6 = nI n ∧ ∀ k, k < n → (im_i M 133 (4 * k) = nI (a k) ∧ im_i M 133 (4 * k + 1) = nI (b k) ∧ im_i M 133 (4 * k + 2) = nI (l k) ∧ im_i M 133 (4 * k + 3) = nI (c k)) ∧ a k + l k ≤ s ∧ b k < s ∧ 1 ≤ l k ∧ c k ≤ 1
/-- the runs, once the modules before (i, j) are listed -/
def RI (M : im_M) (s j i : Nat) : Prop := ∃ (n : Nat) (a b l c : Nat → Nat), RN M s n a b l c ∧ (∀ F, Rsum n a b l c F = Gsum s F j i) ∧ (n : Int) ≤ Gsum s (fun _ _ _ => 1) j i ∧ (0 < i → ¬ mo0 (cl s (i - 1)) (cl s j) = -1 → 0 < n ∧ a (n - 1) + l (n - 1) = i ∧ b (n - 1) = j ∧ ((c (n - 1) : Nat) : Int) = mo0 (cl s (i - 1)) (cl s j))
def upN (f : Nat → Nat) (n x k : Nat) : Nat := if k = n then x else f k
theorem upN_s {f : Nat → Nat} {n x : Nat} : upN f n x n = x := if_pos rfl
theorem upN_n {f : Nat → Nat} {n x k : Nat} (h : ¬ k = n) : upN f n x k = f k := if_neg h
theorem RI_new {M M' : im_M} {s i j n z : Nat} {a b l c : Nat → Nat} (hi : i < s) (hj : j < s) (hz : mo0 (cl s i) (cl s j) = (z : Int)) (hz1 : z ≤ 1) (h : RN M s n a b l c) (hF : ∀ F, Rsum n a b l c F = Gsum s F j i) (hn : (n : Int) ≤ Gsum s (fun _ _ _ => 1) j i) (e6 : im_i M' 130 6 = nI (n + 1)) (e : ∀ p, im_i M' 133 p = if p = 4 * n + 3 then nI z else if p = 4 * n + 2 then nI 1 else if p = 4 * n + 1 then nI j else if p = 4 * n then nI i else im_i M 133 p) : RI M' s j (i + 1) := by
  have gm : ∀ F, Gm s F i j = F z i j := fun F => by
    unfold Gm
    rw [hz, if_neg (by omega)]
    rfl
  have gs : ∀ F, Gsum s F j (i + 1) = Gsum s F j i + F z i j := fun F => by
    unfold Gsum
    rw [← gm F]
    show _ + (iS _ i + Gm s F i j) = _
    omega
  refine ⟨n + 1, upN a n i, upN b n j, upN l n 1, upN c n z, ⟨e6, fun k hk => ?_⟩, fun F => ?_, ?_, fun _ _ => ?_⟩
  · by_cases q : k = n
    · subst q
      rw [upN_s, upN_s, upN_s, upN_s, e, e, e, e]
      refine ⟨⟨?_, ?_, ?_, ?_⟩, by omega, hj, by omega, hz1⟩
      · rw [if_neg (by omega), if_neg (by omega), if_neg (by omega), if_pos rfl]
      · rw [if_neg (by omega), if_neg (by omega), if_pos rfl]
      · rw [if_neg (by omega), if_pos rfl]
      · rw [if_pos rfl]
    · rw [upN_n q, upN_n q, upN_n q, upN_n q, e, e, e, e]
      have := h.2 k (by omega)
      refine ⟨⟨?_, ?_, ?_, ?_⟩, this.2⟩
      · rw [if_neg (by omega), if_neg (by omega), if_neg (by omega), if_neg (by omega)]; exact this.1.1
      · rw [if_neg (by omega), if_neg (by omega), if_neg (by omega), if_neg (by omega)]; exact this.1.2.1
      · rw [if_neg (by omega), if_neg (by omega), if_neg (by omega), if_neg (by omega)]; exact this.1.2.2.1
      · rw [if_neg (by omega), if_neg (by omega), if_neg (by omega), if_neg (by omega)]; exact this.1.2.2.2
  · rw [gs, ← hF]
    unfold Rsum
    show iS _ n + iS (fun t => F (upN c n z n) (upN a n i n + t) (upN b n j n)) (upN l n 1 n) = _
    rw [upN_s, upN_s, upN_s, upN_s]
    show iS _ n + (0 + F z (i + 0) j) = _
    rw [Int.zero_add, Nat.add_zero]
    congr 1
    refine iS_c n (fun k hk => ?_)
    rw [upN_n (by omega), upN_n (by omega), upN_n (by omega), upN_n (by omega)]
  · rw [gs]
    omega
  · rw [Nat.add_sub_cancel, Nat.add_sub_cancel, upN_s, upN_s, upN_s, upN_s]
    exact ⟨by omega, rfl, rfl, hz.symm⟩
theorem RI_more {M M' : im_M} {s i j n z : Nat} {a b l c : Nat → Nat} (hi : i < s) (hz : mo0 (cl s i) (cl s j) = (z : Int)) (h : RN M s (n + 1) a b l c) (hF : ∀ F, Rsum (n + 1) a b l c F = Gsum s F j i) (hn : ((n + 1 : Nat) : Int) ≤ Gsum s (fun _ _ _ => 1) j i) (h1 : a n + l n = i) (h2 : b n = j) (h3 : c n = z) (e6 : im_i M' 130 6 = im_i M 130 6) (e : ∀ p, im_i M' 133 p = if p = 4 * n + 2 then nI (l n + 1) else im_i M 133 p) : RI M' s j (i + 1) := by
  have gm : ∀ F, Gm s F i j = F z i j := fun F => by
    unfold Gm
    rw [hz, if_neg (by omega)]
    rfl
  have gs : ∀ F, Gsum s F j (i + 1) = Gsum s F j i + F z i j := fun F => by
    unfold Gsum
    rw [← gm F]
    show _ + (iS _ i + Gm s F i j) = _
    omega
  refine ⟨n + 1, a, b, upN l n (l n + 1), c, ⟨e6.trans h.1, fun k hk => ?_⟩, fun F => ?_, ?_, fun _ _ => ?_⟩
  · have := h.2 k hk
    rw [e, e, e, e]
    refine ⟨⟨?_, ?_, ?_, ?_⟩, ?_⟩
    · rw [if_neg (by omega)]; exact this.1.1
    · rw [if_neg (by omega)]; exact this.1.2.1
    · by_cases q : k = n
      · subst q
        rw [if_pos rfl, upN_s]
      · rw [if_neg (by omega), upN_n q]; exact this.1.2.2.1
    · rw [if_neg (by omega)]; exact this.1.2.2.2
    · by_cases q : k = n
      · subst q
        rw [upN_s]
        omega
      · rw [upN_n q]; exact this.2
  · rw [gs, ← hF]
    unfold Rsum
    show iS _ n + iS (fun t => F (c n) (a n + t) (b n)) (upN l n (l n + 1) n) = iS _ n + iS (fun t => F (c n) (a n + t) (b n)) (l n) + F z i j
    rw [upN_s]
    show iS _ n + (iS (fun t => F (c n) (a n + t) (b n)) (l n) + F (c n) (a n + l n) (b n)) = _
    rw [h1, h2, h3, iS_c n (fun k hk => show iS (fun t => F (c k) (a k + t) (b k)) (upN l n (l n + 1) k) = iS (fun t => F (c k) (a k + t) (b k)) (l k) by rw [upN_n (by omega)])]
    omega
  · rw [gs]
    omega
  · rw [Nat.add_sub_cancel, Nat.add_sub_cancel, upN_s, h3]
    exact ⟨by omega, by omega, h2, hz.symm⟩
theorem RI_same {M : im_M} {s i j : Nat} (hz : mo0 (cl s i) (cl s j) = -1) (h : RI M s j i) : RI M s j (i + 1) := by
  obtain ⟨n, a, b, l, c, h1, h2, h3, h4⟩ := h
  have gs : ∀ F, Gsum s F j (i + 1) = Gsum s F j i := fun F => by
    have : Gm s F i j = 0 := by unfold Gm; rw [if_pos hz]
    unfold Gsum
    show _ + (iS _ i + Gm s F i j) = _
    rw [this]
    omega
  refine ⟨n, a, b, l, c, h1, fun F => (h2 F).trans (gs F).symm, by rw [gs]; exact h3, fun _ z => ?_⟩
  rw [Nat.add_sub_cancel] at z
  exact absurd hz z
theorem RI_row {M : im_M} {s j : Nat} (h : RI M s j s) : RI M s (j + 1) 0 := by
  obtain ⟨n, a, b, l, c, h1, h2, h3, _⟩ := h
  have gs : ∀ F, Gsum s F (j + 1) 0 = Gsum s F j s := fun F => by
    unfold Gsum
    show iS _ j + iS (fun a => Gm s F a j) s + 0 = _
    rw [Int.add_zero]
  exact ⟨n, a, b, l, c, h1, fun F => (h2 F).trans (gs F).symm, by rw [gs]; exact h3, fun z => absurd z (by omega)⟩
def frR (M M' : im_M) : Prop := fr (2 ^ 133) [(130, 6)] M M'
theorem s_list {M : im_M} {v : Nat} (hv : 1 ≤ v ∧ v ≤ 40) : ed (f_MPlaceRows_list (nI v) M) (fun r => frR M r ∧ RI r (17 + 4 * v) (17 + 4 * v) 0) := by
  have e17 : (17 : Int32) + (4 : Int32) * nI v = nI (17 + 4 * v) := by rw [nI_m, nI_n, nI_add]
  unfold f_MPlaceRows_list f_MPlaceRows_side
  rw [e17, bd1_s]
  apply bd1_mk
  refine ed_mono (lp_inv (fun k (s : Int32 × im_M) => ∃ j : Nat, j + k = 17 + 4 * v ∧ s.1 = nI j ∧ frR M s.2 ∧ RI s.2 (17 + 4 * v) j 0) (Q := fun r => frR M r ∧ RI r (17 + 4 * v) (17 + 4 * v) 0) ?_ (k := 17 + 4 * v) ⟨0, by omega, rfl, fr_F (by decide) fr_refl, ?_⟩) (fun r h => ed_mk h)
  · rintro k ⟨x5, M6⟩ ⟨j, hj, e1, f, h⟩
    replace e1 : x5 = nI j := e1
    replace f : frR M M6 := f
    replace h : RI M6 (17 + 4 * v) j 0 := h
    subst e1
    show ed (f_MPlaceRows_list_L12 (nI v) (nI (17 + 4 * v)) (nI j) M6) _
    unfold f_MPlaceRows_list_L12
    rw [if_nIl (by omega) (by omega)]
    by_cases c : 17 + 4 * v ≤ j
    · rw [if_pos c]
      obtain rfl : j = 17 + 4 * v := by omega
      exact lpo_r ⟨f, h⟩
    · rw [if_neg c]
      apply bd1_mk
      refine ed_mono (lp_inv (fun k (s : Int32 × im_M) => ∃ i : Nat, i + k = 17 + 4 * v ∧ s.1 = nI i ∧ frR M s.2 ∧ RI s.2 (17 + 4 * v) j i) (Q := fun r => frR M r ∧ RI r (17 + 4 * v) j (17 + 4 * v)) ?_ (k := 17 + 4 * v) ⟨0, by omega, rfl, f, h⟩) ?_
      · rintro k ⟨x11, M12⟩ ⟨i, hi, e1, f, h⟩
        replace e1 : x11 = nI i := e1
        replace f : frR M M12 := f
        replace h : RI M12 (17 + 4 * v) j i := h
        subst e1
        show ed (f_MPlaceRows_list_L20 (nI v) (nI (17 + 4 * v)) (nI j) (nI i) M12) _
        unfold f_MPlaceRows_list_L20
        rw [if_nIl (by omega) (by omega)]
        by_cases c2 : 17 + 4 * v ≤ i
        · rw [if_pos c2]
          obtain rfl : i = 17 + 4 * v := by omega
          exact lpo_r ⟨f, h⟩
        · rw [if_neg c2, s_module hv (by omega) (by omega), bd1_s]
          have nx : ∀ M9 : im_M, frR M M9 → RI M9 (17 + 4 * v) j (i + 1) → ed (some (Sum.inl (nI i + 1, M9))) (lpo (fun k (s : Int32 × im_M) => ∃ i : Nat, i + k = 17 + 4 * v ∧ s.1 = nI i ∧ frR M s.2 ∧ RI s.2 (17 + 4 * v) j i) (fun r => frR M r ∧ RI r (17 + 4 * v) j (17 + 4 * v)) k) := fun M9 a b => lpo_l (k - 1) (by omega) ⟨i + 1, by omega, nI_add i 1, a, b⟩
          have i0 : (nI i ≤ 0) = (i ≤ 0) := nIl (c := 0) (by omega) (by omega)
          have zm : (-1 : Int32) = iZ (-1) := rfl
          have b3 := mo_3 (s := 17 + 4 * v) (a := i) (b := j) (by omega) (by omega)
          have zz : (iZ (mo0 (cl (17 + 4 * v) i) (cl (17 + 4 * v) j)) = -1) = (mo0 (cl (17 + 4 * v) i) (cl (17 + 4 * v) j) = -1) := by rw [zm]; exact iZ_eq (by omega) (by omega)
          simp only [jn1, i0, zz]
          by_cases c3 : mo0 (cl (17 + 4 * v) i) (cl (17 + 4 * v) j) = -1
          · simp only [if_pos c3]
            rw [bd1_s]
            exact nx M12 f (RI_same c3 h)
          · simp only [if_neg c3]
            obtain ⟨n, a, b, l, c', hR, hF, hn, hlast⟩ := h
            have hnb := Gsum_le (i := i) (j := j) hv.1 (by omega) (by omega)
            obtain ⟨z, hz, hz1⟩ : ∃ z : Nat, mo0 (cl (17 + 4 * v) i) (cl (17 + 4 * v) j) = (z : Int) ∧ z ≤ 1 := by
              rcases b3 with q | q | q
              · exact ⟨1, q, by omega⟩
              · exact ⟨0, q, by omega⟩
              · exact absurd q c3
            have s6 : ∀ (N : im_M) (p : Nat) (x : Int32), im_i (im_setI N 133 p x) 130 6 = im_i N 130 6 := fun _ _ _ => rfl
            have q0 : (4 : Int32) * nI n = nI (4 * n) := nI_m 4
            have q1 : nI (4 * n) + 1 = nI (4 * n + 1) := nI_add _ 1
            have q2 : nI (4 * n) + 2 = nI (4 * n + 2) := nI_add _ 2
            have q3 : nI (4 * n) + 3 = nI (4 * n + 3) := nI_add _ 3
            have k0 : Int32.toNatClampNeg (nI (4 * n)) = 4 * n := nI_clamp (by omega)
            have k1 : Int32.toNatClampNeg (nI (4 * n + 1)) = 4 * n + 1 := nI_clamp (by omega)
            have k2 : Int32.toNatClampNeg (nI (4 * n + 2)) = 4 * n + 2 := nI_clamp (by omega)
            have k3 : Int32.toNatClampNeg (nI (4 * n + 3)) = 4 * n + 3 := nI_clamp (by omega)
            have g0 : ∀ {Y : Type} (o : Option Y) (t : Nat), t < 4 → gd (inb (nI (4 * n + t)) 2100) o = o := fun o t ht => gd_pos (by rw [inb_nI (by omega)]; omega)
            have fresh : ed (bd1 (gd (inb ((4 : Int32) * (im_i M12 130 6)) 2100) <| gd (inb (((4 : Int32) * (im_i (im_setI M12 133 (Int32.toNatClampNeg ((4 : Int32) * (im_i M12 130 6))) (nI i)) 130 6)) + 1) 2100) <| gd (inb (((4 : Int32) * (im_i (im_setI (im_setI M12 133 (Int32.toNatClampNeg ((4 : Int32) * (im_i M12 130 6))) (nI i)) 133 (Int32.toNatClampNeg (((4 : Int32) * (im_i (im_setI M12 133 (Int32.toNatClampNeg ((4 : Int32) * (im_i M12 130 6))) (nI i)) 130 6)) + 1)) (nI j)) 130 6)) + 2) 2100) <| gd (inb (nI (4 * n + 3)) 2100) <| some (im_setI (im_setI (im_setI (im_setI (im_setI M12 133 (4 * n) (nI i)) 133 (4 * n + 1) (nI j)) 133 (4 * n + 2) 1) 133 (4 * n + 3) (iZ (mo0 (cl (17 + 4 * v) i) (cl (17 + 4 * v) j)))) 130 6 (nI n + 1))) fun (M24 : im_M) => some (Sum.inl ((nI i + 1), M24))) (lpo (fun k (s : Int32 × im_M) => ∃ i : Nat, i + k = 17 + 4 * v ∧ s.1 = nI i ∧ frR M s.2 ∧ RI s.2 (17 + 4 * v) j i) (fun r => frR M r ∧ RI r (17 + 4 * v) j (17 + 4 * v)) k) := by
              simp only [s6, hR.1, q0, q1, q2, k0, k1, k2]
              rw [show gd (inb (nI (4 * n)) 2100) = gd (inb (nI (4 * n + 0)) 2100) from rfl, g0 _ 0 (by omega), g0 _ 1 (by omega), g0 _ 2 (by omega), g0 _ 3 (by omega), bd1_s]
              refine nx _ (fr_F (by decide) (fr_I (by decide) (fr_I (by decide) (fr_I (by decide) (fr_I (by decide) f))))) (RI_new (by omega) (by omega) hz hz1 hR hF hn (nI_add n 1) (fun p => ?_))
              rw [hz, ← iZ_nI]
              rfl
            have new : ed (bd1 (gd (inb ((4 : Int32) * (im_i M12 130 6)) 2100) <| gd (inb (((4 : Int32) * (im_i (im_setI M12 133 (Int32.toNatClampNeg ((4 : Int32) * (im_i M12 130 6))) (nI i)) 130 6)) + 1) 2100) <| gd (inb (((4 : Int32) * (im_i (im_setI (im_setI M12 133 (Int32.toNatClampNeg ((4 : Int32) * (im_i M12 130 6))) (nI i)) 133 (Int32.toNatClampNeg (((4 : Int32) * (im_i (im_setI M12 133 (Int32.toNatClampNeg ((4 : Int32) * (im_i M12 130 6))) (nI i)) 130 6)) + 1)) (nI j)) 130 6)) + 2) 2100) <| gd (inb (nI (4 * n + 3)) 2100) <| some (im_setI (im_setI (im_setI (im_setI (im_setI M12 133 (4 * n) (nI i)) 133 (4 * n + 1) (nI j)) 133 (4 * n + 2) 1) 133 (4 * n + 3) (iZ (mo0 (cl (17 + 4 * v) i) (cl (17 + 4 * v) j)))) 130 6 (nI n + 1))) fun (M24 : im_M) => some (Sum.inl ((nI i + 1), M24))) (lpo (fun k (s : Int32 × im_M) => ∃ i : Nat, i + k = 17 + 4 * v ∧ s.1 = nI i ∧ frR M s.2 ∧ RI s.2 (17 + 4 * v) j i) (fun r => frR M r ∧ RI r (17 + 4 * v) j (17 + 4 * v)) k) := fresh
            simp only [s6, hR.1, q0, q1, q2, q3, k0, k1, k2, k3] at new ⊢
            by_cases c4 : i ≤ 0
            · simp only [if_pos c4]
              exact new
            · simp only [if_neg c4]
              have em : nI i - 1 = nI (i - 1) := nI_m1 (by omega)
              have b4 := mo_3 (s := 17 + 4 * v) (a := i - 1) (b := j) (by omega) (by omega)
              rw [em, s_module hv (by omega) (by omega), bd1_s]
              have ee : (iZ (mo0 (cl (17 + 4 * v) (i - 1)) (cl (17 + 4 * v) j)) = iZ (mo0 (cl (17 + 4 * v) i) (cl (17 + 4 * v) j))) = (mo0 (cl (17 + 4 * v) (i - 1)) (cl (17 + 4 * v) j) = mo0 (cl (17 + 4 * v) i) (cl (17 + 4 * v) j)) := iZ_eq (by omega) (by omega)
              simp only [ee]
              by_cases c5 : mo0 (cl (17 + 4 * v) (i - 1)) (cl (17 + 4 * v) j) = mo0 (cl (17 + 4 * v) i) (cl (17 + 4 * v) j)
              · rw [if_neg (fun z => z c5)]
                obtain ⟨l1, l2, l3, l4⟩ := hlast (by omega) (by rw [c5]; exact c3)
                obtain ⟨n', rfl⟩ : ∃ n', n = n' + 1 := ⟨n - 1, by omega⟩
                rw [Nat.add_sub_cancel] at l2 l3 l4
                have e2 : nI (4 * (n' + 1)) - 2 = nI (4 * n' + 2) := by
                  rw [nI_sm 2 (by show 2 ≤ _; omega)]
                  congr 1
                have hk := (hR.2 n' (by omega)).1.2.2.1
                rw [e2, gd_pos (by rw [inb_nI (by omega)]; omega), gd_pos (by rw [inb_nI (by omega)]; omega), nI_clamp (by omega), hk, bd1_s]
                refine nx _ (fr_I (by decide) f) (RI_more (by omega) hz hR hF hn l2 l3 (by rw [c5, hz] at l4; omega) rfl (fun p => ?_))
                rw [mi_I, if_pos rfl]
                split
                · exact nI_add _ 1
                · rfl
              · rw [if_pos c5]
                exact new
      · rintro r ⟨f, h⟩
        exact lpo_l (k - 1) (by omega) ⟨j + 1, by omega, nI_add j 1, f, RI_row h⟩
  · refine ⟨0, fun _ => 0, fun _ => 0, fun _ => 0, fun _ => 0, ⟨rfl, fun k hk => absurd hk (by omega)⟩, fun F => rfl, ?_, fun z => absurd z (by omega)⟩
    show (0 : Int) ≤ 0 + 0
    omega
