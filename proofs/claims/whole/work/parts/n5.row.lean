/-! A ROW OF SYMBOLS, BY BOTH -/
def rwZ (t : Nat → Nat) (n : Nat) : PS := ((fun _ => 103 + s0F t n), 1, 0, s0F t n)
def rwS (t : Nat → Nat) (n : Nat) : PS := itS t n (rwZ t n) 200
theorem rw_end {t : Nat → Nat} {n j : Nat} (hj : j ≤ 200) (h : n ≤ (itS t n (rwZ t n) j).2.2.1) : itS t n (rwZ t n) j = rwS t n := by
  have := itS_end h (200 - j)
  rw [show j + (200 - j) = 200 by omega] at this
  exact this.symm
/-- the row with its check symbol: rwK symbols -/
def rwK (t : Nat → Nat) (n : Nat) : Nat := (rwS t n).2.1 + 1
def rwQ (t : Nat → Nat) (n : Nat) : Nat → Nat := app (rwS t n).1 (rwS t n).2.1 (fun _ => cS (rwS t n).1 ((rwS t n).2.1 - 1) % 103)
theorem rwS_b {t : Nat → Nat} {n : Nat} (hn : n ≤ 64) (ht : ∀ i, i < n → t i ≤ 128) : ∀ l, l < (rwS t n).2.1 → (rwS t n).1 l < 106 := by
  have l := s0_lt (t := t) (n := n)
  exact (itS_b (q0 := fun _ => 103 + s0F t n) hn ht l (show 103 + s0F t n < 106 by omega) 200).2.2
theorem rwQ_b {t : Nat → Nat} {n : Nat} (hn : n ≤ 64) (ht : ∀ i, i < n → t i ≤ 128) : ∀ l, l < rwK t n → rwQ t n l < 106 := app_lt (U := fun _ => cS (rwS t n).1 ((rwS t n).2.1 - 1) % 103) (rwS_b hn ht) (show cS (rwS t n).1 ((rwS t n).2.1 - 1) % 103 < 106 by omega)
theorem pst_k {t : Nat → Nat} {n : Nat} {x : PS} : x.2.1 ≤ (pst t n x).2.1 := by
  unfold pst
  split
  · exact Nat.le_refl _
  · split
    · exact Nat.le_succ _
    · split
      · exact Nat.le_add_right _ 2
      · split
        · exact Nat.le_succ _
        · exact Nat.le_succ _
theorem itS_k {t : Nat → Nat} {n : Nat} {x : PS} : ∀ j, x.2.1 ≤ (itS t n x j).2.1 := by
  intro j
  induction j with
  | zero => exact Nat.le_refl _
  | succ j ih => exact Nat.le_trans ih pst_k
theorem rwS_1 {t : Nat → Nat} {n : Nat} : 1 ≤ (rwS t n).2.1 := itS_k (x := rwZ t n) 200
theorem s_choose {M : im_M} {t : Nat → Nat} {n : Nat} (h : SG M n t) (hc : CFW M n t 0) : ed (f_HBars_chooseSymbols M) (fun R => SYc R (rwK t n) (rwQ t n) ∧ rwK t n ≤ 130 ∧ fr (2 ^ 36) [(31, 9)] M R) := by
  have hn := h.2.1
  have ht : ∀ i, i < n → t i ≤ 128 := fun i hi => (h.2.2 i hi).1
  have sl := s0_lt (t := t) (n := n)
  unfold f_HBars_chooseSymbols
  rw [s_startC hn ht hc, bd1_s, gd_pos (by decide), show (103 : Int32) = nI 103 from rfl, nI_add]
  obtain ⟨N, hN⟩ : ∃ N, N = im_setI (im_setI M 36 (Int32.toNatClampNeg 0) (nI (103 + s0F t n))) 31 9 1 := ⟨_, rfl⟩
  have fN : fr (2 ^ 36) [(31, 9)] M N := by rw [hN]; exact fr_F (by decide) (fr_I (by decide) fr_refl)
  have sN : SYc N 1 (fun _ => 103 + s0F t n) := by
    refine ⟨by rw [hN, hit]; rfl, by omega, fun j hj => ?_⟩
    obtain rfl : j = 0 := by omega
    rw [hN, sk1 (by omega)]
    exact hit
  rw [← hN]
  clear hN
  apply bd1_mk
  refine ed_mono (s_chooseLoop (SG_fr fN (by decide +kernel) h) (fun a b h1 h2 h3 => (fN.1 35 _ (by decide) (by simp)).trans (hc a b h1 h2 h3)) sN sl (s0_128 hn ht)) ?_
  rintro M26 ⟨j, j1, j2, j3, j4, f26⟩
  have e := rw_end (t := t) (n := n) (j := j) (by omega) j2
  replace j3 : SYc M26 (itS t n (rwZ t n) j).2.1 (itS t n (rwZ t n) j).1 := j3
  replace j4 : (itS t n (rwZ t n) j).2.1 ≤ 129 := j4
  rw [e] at j3 j4
  have k1 := rwS_1 (t := t) (n := n)
  rw [j3.1, s_checkS j3 k1 (rwS_b hn ht), bd1_s]
  apply bd1_mk
  refine ed_mono (s_addSymbol j3 (by omega)) ?_
  rintro R ⟨sR, fR⟩
  exact ed_mk ⟨sR, (by unfold rwK; omega), fr_tr fR (fr_tr f26 fN)⟩
/-- the widths of a row's first k symbols, and of a whole row -/
def rwP (q : Nat → Nat) (l : Nat) : Nat := (xa_3 (nI (q l))).toNatClampNeg
def rwW (q : Nat → Nat) : Nat → Nat → Nat
  | 0 => fun _ => 0
  | l + 1 => app (rwW q l) (6 * l) (dig 6 (rwP q l))
def rwVv (q : Nat → Nat) (k : Nat) : Nat → Nat := app (rwW q k) (6 * k) (dig 7 2331112)
theorem rwP_ok {q : Nat → Nat} {l : Nat} (h : q l < 106) : xa_3 (nI (q l)) = nI (rwP q l) ∧ okt 6 (rwP q l) = true ∧ rwP q l < 1000000 ∧ im_i mm_341 97 (q l) = nI (rwP q l) := by
  obtain ⟨a1, a2, a3⟩ := tab_s ⟨q l, h⟩
  replace a1 : im_i mm_341 97 (q l) = xa_3 (nI (q l)) := a1
  replace a2 : nI (rwP q l) = xa_3 (nI (q l)) := a2
  replace a3 : okt 6 (rwP q l) = true := a3
  exact ⟨a2.symm, a3, okt_lt a3, a1.trans a2.symm⟩
theorem rwW_p {q : Nat → Nat} {k : Nat} (h : ∀ l, l < k → q l < 106) : ∀ l, l ≤ k → ∀ i, i < 6 * l → 1 ≤ rwW q l i ∧ rwW q l i ≤ 9 := by
  intro l
  induction l with
  | zero => intro _ i hi; omega
  | succ l ih =>
    intro hl
    have := app_p (n := 6 * l) (d := 6) (ih (by omega)) (ok_dig (rwP_ok (h l (by omega))).2.1)
    intro i hi
    exact this i (by omega)
theorem rwVv_p {q : Nat → Nat} {k : Nat} (h : ∀ l, l < k → q l < 106) : ∀ i, i < 6 * k + 7 → 1 ≤ rwVv q k i ∧ rwVv q k i ≤ 9 := app_p (n := 6 * k) (d := 7) (rwW_p h k (Nat.le_refl _)) (ok_dig (by decide))
theorem s_layWidths {M : im_M} {q : Nat → Nat} {k : Nat} (h : SYc M k q) (hk : k ≤ 130) (hq : ∀ l, l < k → q l < 106) : ed (f_HBars_layWidths M) (fun R => BRW R (6 * k + 7) (rwVv q k) ∧ fr (2 ^ 33) [(31, 2)] M R) := by
  obtain ⟨h0, h1, h2⟩ := h
  unfold f_HBars_layWidths
  apply bd1_mk
  refine ed_mono (lp_inv (fun m (s : Int32 × im_M) => ∃ l : Nat, l + m = k ∧ s.1 = nI l ∧ BRW s.2 (6 * l) (rwW q l) ∧ fr (2 ^ 33) [(31, 2)] M s.2) (Q := fun R => BRW R (6 * k) (rwW q k) ∧ fr (2 ^ 33) [(31, 2)] M R) ?_ (k := k) ⟨0, by omega, rfl, ⟨hit, by omega, fun i hi => by omega⟩, fr_F (by decide) fr_refl⟩) ?_
  · rintro m ⟨x2, M3⟩ ⟨l, hl, e1, bl3, f3⟩
    replace e1 : x2 = nI l := e1
    replace bl3 : BRW M3 (6 * l) (rwW q l) := bl3
    replace f3 : fr (2 ^ 33) [(31, 2)] M M3 := f3
    subst e1
    show ed (f_HBars_layWidths_L7 (nI l) M3) _
    unfold f_HBars_layWidths_L7
    rw [f3.1 31 9 (by decide) (by decide), h0, if_nIl (by omega) (by omega)]
    by_cases c : k ≤ l
    · rw [if_pos c]
      obtain rfl : l = k := by omega
      exact lpo_r ⟨bl3, f3⟩
    · have ql := hq l (by omega)
      obtain ⟨p1, p2, p3, p4⟩ := rwP_ok ql
      rw [if_neg c, gd_pos (by rw [inb_nI (by omega)]; omega), nI_clamp (by omega), fr_c f3 36 (by decide) (by decide), h2 l (by omega), gd_pos (by rw [inb_nI (by omega)]; omega), p1, show (100000 : Int32) = nI (un10 6 0) from rfl]
      apply bd1_mk
      refine ed_mono (s_addWidths (d := 6) bl3 (by omega) (by omega) (by omega)) ?_
      rintro R ⟨bR, fR⟩
      exact lpo_l (m - 1) (by omega) ⟨l + 1, by omega, nI_add l 1, (show BRW R (6 * (l + 1)) (rwW q (l + 1)) from bR), fr_tr fR f3⟩
  · rintro M5 ⟨b5, f5⟩
    rw [show (2331112 : Int32) = nI 2331112 from rfl, show (1000000 : Int32) = nI (un10 7 0) from rfl]
    apply bd1_mk
    refine ed_mono (s_addWidths (d := 7) b5 (by omega) (by omega) (by omega)) ?_
    rintro R ⟨bR, fR⟩
    exact ed_mk ⟨bR, fr_tr fR f5⟩
/-- the bytes of a text become signs: n is how many fit; a byte above 128 refuses -/
def rwG (s : Nat) (B : Nat → Nat) : Bool := decide (s ≤ 64) && (List.range s).all (fun i => decide (B i ≤ 128))
theorem rwG_t {s : Nat} {B : Nat → Nat} : rwG s B = true ↔ s ≤ 64 ∧ ∀ i, i < s → B i ≤ 128 := by
  unfold rwG
  rw [Bool.and_eq_true, decide_eq_true_eq, List.all_eq_true]
  refine and_congr_right fun _ => ⟨fun h i hi => of_decide_eq_true (h i (List.mem_range.mpr hi)), fun h i hi => decide_eq_true (h i (List.mem_range.mp hi))⟩
theorem s_layText {M : im_M} {k s : Nat} {B : Nat → Nat} (h : OCl M k s B) : ed (f_HBars_layText (nI (200 * k)) (nI s) M) (fun r => fr (2 ^ 33 ||| 2 ^ 34 ||| 2 ^ 35 ||| 2 ^ 36) [(31, 2), (31, 6), (31, 9)] M r.2 ∧ r.1 = (if rwG s B = true then 1 else 0) ∧ (rwG s B = true → rwK B s ≤ 130 ∧ BRW r.2 (6 * rwK B s + 7) (rwVv (rwQ B s) (rwK B s)))) := by
  obtain ⟨h0, h1, h2, h3⟩ := h
  unfold f_HBars_layText
  have k0 : (nI s ≤ (64 : Int32)) = (s ≤ 64) := nIl (c := 64) (by omega) (by omega)
  simp only [k0]
  by_cases c : s ≤ 64
  · rw [if_pos c]
    apply bs1_mk
    refine ed_mono (lp_inv (fun m (x : Int32 × im_M) => ∃ i : Nat, i + m = s ∧ x.1 = nI i ∧ (∀ j, j < i → B j ≤ 128 ∧ im_i x.2 34 j = nI (B j)) ∧ fr (2 ^ 34) [] M x.2) (Q := fun (u : im_M ⊕ (Int32 × im_M)) => match u with
      | .inl N => rwG s B = true ∧ (∀ j, j < s → B j ≤ 128 ∧ im_i N 34 j = nI (B j)) ∧ fr (2 ^ 34) [] M N
      | .inr r => rwG s B = false ∧ r.1 = 0 ∧ fr (2 ^ 34) [] M r.2) ?_ (k := s) ⟨0, by omega, rfl, fun j hj => absurd hj (Nat.not_lt_zero _), fr_refl⟩) ?_
    · rintro m ⟨x4, M5⟩ ⟨i, hi, e1, hb, f5⟩
      replace e1 : x4 = nI i := e1
      replace hb : ∀ j, j < i → B j ≤ 128 ∧ im_i M5 34 j = nI (B j) := hb
      replace f5 : fr (2 ^ 34) [] M M5 := f5
      subst e1
      show ed (f_HBars_layText_L11 (nI (200 * k)) (nI s) (nI i) M5) _
      unfold f_HBars_layText_L11
      rw [if_nIl (by omega) (by omega)]
      by_cases d : s ≤ i
      · rw [if_pos d]
        obtain rfl : i = s := by omega
        exact lpo_r ⟨rwG_t.mpr ⟨c, fun j hj => (hb j hj).1⟩, hb, f5⟩
      · obtain ⟨b1, b2⟩ := h3 i (by omega)
        rw [if_neg d, nI_add, gd_pos (by rw [inb_nI (by omega)]; omega), gd_pos (by rw [inb_nI (by omega)]; omega), gd_pos (by rw [inb_nI (by omega)]; omega), nI_clamp (by omega), nI_clamp (by omega), fr_c f5 14 (by decide) (by decide), b2, hit]
        have k1 : (nI (B i) ≤ (128 : Int32)) = (B i ≤ 128) := nIl (c := 128) (by omega) (by omega)
        simp only [k1]
        by_cases z : B i ≤ 128
        · rw [if_pos z]
          refine lpo_l (m - 1) (by omega) ⟨i + 1, by omega, nI_add i 1, fun j hj => ?_, fr_I (by decide) f5⟩
          show B j ≤ 128 ∧ im_i (im_setI M5 34 i (nI (B i))) 34 j = nI (B j)
          by_cases e : j = i
          · subst e
            exact ⟨z, hit⟩
          · rw [sk1 (fun y => e y.2)]
            exact hb j (by omega)
        · rw [if_neg z]
          refine lpo_r ⟨?_, rfl, fr_I (by decide) f5⟩
          cases g : rwG s B with
          | false => rfl
          | true => exact absurd ((rwG_t.mp g).2 i (by omega)) z
    · rintro (M6 | ⟨z, N⟩) hr
      · obtain ⟨g, hb, f6⟩ := hr
        have fa : fr (2 ^ 34) [(31, 6)] M (im_setI M6 31 6 (nI s)) := fr_F (by decide) (fr_mono (by decide) (by simp) f6)
        have sg : SG (im_setI M6 31 6 (nI s)) s B := ⟨hit, c, fun i hi => ⟨(hb i hi).1, by rw [sk1 (by omega)]; exact (hb i hi).2⟩⟩
        show ed (bd1 (f_HBars_countFewest (im_setI M6 31 6 (nI s))) _) _
        apply bd1_mk
        refine ed_mono (s_countFewest sg) ?_
        rintro M7 ⟨c7, f7⟩
        apply bd1_mk
        refine ed_mono (s_choose (SG_fr f7 (by decide +kernel) sg) c7) ?_
        rintro M8 ⟨y8, k8, f8⟩
        apply bd1_mk
        refine ed_mono (s_layWidths y8 k8 (rwQ_b c (rwG_t.mp g).2)) ?_
        rintro M9 ⟨b9, f9⟩
        refine ed_mk ⟨fr_tr (fr_mono (by decide) (by decide) f9) (fr_tr (fr_mono (by decide) (by decide) f8) (fr_tr (fr_mono (by decide) (by simp) f7) (fr_mono (by decide) (by decide) fa))), ?_, fun _ => ⟨k8, b9⟩⟩
        rw [if_pos g]
      · obtain ⟨g, hz, f6⟩ := hr
        replace hz : z = 0 := hz
        replace f6 : fr (2 ^ 34) [] M N := f6
        refine ed_mk ⟨fr_mono (by decide) (by simp) f6, ?_, fun y => ?_⟩
        · rw [g]; exact hz
        · rw [g] at y; cases y
  · rw [if_neg c]
    have g : rwG s B = false := by
      cases g : rwG s B with
      | false => rfl
      | true => exact absurd (rwG_t.mp g).1 c
    refine ed_mk ⟨fr_refl, ?_, fun y => ?_⟩
    · rw [g]; rfl
    · rw [g] at y; cases y
