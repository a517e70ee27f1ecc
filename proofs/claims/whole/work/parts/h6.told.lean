/-! A FIELD THAT IS TOLD, BOTH SIDES -/
/-- numbers, bytes, (kind, how many bytes, lines) -/
abbrev FDt : Type := (Nat → Int32) × (Nat → Nat) × (Nat × Nat × List (Nat × Nat))
def fO (F : FDt) : List OD := odsM F.1 F.2.2.1 F.2.2.2.1 F.2.2.2.2
def fct (F : FDt) : Nat := (F.1 8).toNatClampNeg
def fsp (F : FDt) : Int := (F.1 9).toInt
def NR (q : Nat → Int32) (w : Nat) : Prop := ∀ k, k < hs w → ¬ q (1 + k) < xa_0 (((12 : Int32) * nI w + (3 : Int32) * nI k) + 1) ∧ q (1 + k) ≤ xa_0 (((12 : Int32) * nI w + (3 : Int32) * nI k) + 2)
def TXR (t : Nat → Int32) : Prop := ∃ a b c d : Nat, t 0 = nI a ∧ a ≤ 3 ∧ t 1 = nI b ∧ 1 ≤ b ∧ b ≤ 10 ∧ t 2 = nI c ∧ 1 ≤ c ∧ c ≤ 10 ∧ t 3 = nI d ∧ d < 4
def DTK (B : Nat → Nat) (kd n : Nat) (q1 : Int32) : Prop := (¬ (4 ≤ kd ∧ kd ≤ 6) → 1 ≤ n) ∧ (kd = 2 → n = 12 ∧ ∀ i, i < 12 → 48 ≤ B i ∧ B i ≤ 57) ∧ (kd = 7 → (∀ i, i < n → ∃ h, h < 16 ∧ hvN (B i) = nI h) ∧ n % 2 = 0 ∧ ∃ P : Nat, q1 = nI P ∧ 1 ≤ P ∧ P ≤ 1024 ∧ n / 2 % ((P + 7) / 8) = 0)
/-- what is known of a field that is told -/
def FV (F : FDt) : Prop := (F.2.2.1 ≤ 8 ∧ F.1 0 = nI F.2.2.1 ∧ F.1 10 = nI F.2.2.2.1 ∧ F.2.2.2.1 ≤ 200) ∧ (F.1 8 = nI (fct F) ∧ fct F ≤ 1 ∧ -99 ≤ fsp F ∧ fsp F ≤ 99 ∧ (F.1 7 = 0 ∨ F.1 7 = 2)) ∧ (∀ i, i < F.2.2.2.1 → F.2.1 i < 256) ∧ (∃ (cc : Nat) (nl bk : Nat → Bool), (F.2.2.1 = 8 → F.1 1 = nI cc ∧ 1 ≤ cc ∧ cc ≤ 99) ∧ 1 ≤ cc ∧ (∀ p, p < F.2.2.2.1 → (nl p = true ↔ F.2.1 p = 10) ∧ (bk p = true ↔ F.2.1 p = 32)) ∧ F.2.2.2.2 = cutS nl bk F.2.2.2.1 cc 201 0) ∧ okF F.1 F.2.2.1 (fO F) ∧ (∃ w, 13 ≤ w ∧ w < 22 ∧ F.2.2.1 = kdW w ∧ NR F.1 w) ∧ TXR (fun k => F.1 (11 + k)) ∧ DTK F.2.1 F.2.2.1 F.2.2.2.1 (F.1 1)
theorem NR_n {q : Nat → Int32} {w k lo hi : Nat} (h : NR q w) (hk : k < hs w) (e1 : xa_0 (((12 : Int32) * nI w + (3 : Int32) * nI k) + 1) = nI lo) (e2 : xa_0 (((12 : Int32) * nI w + (3 : Int32) * nI k) + 2) = nI hi) (h1 : lo < 100000) (h2 : hi < 100000) : ∃ z : Nat, q (1 + k) = nI z ∧ lo ≤ z ∧ z ≤ hi := by
  obtain ⟨a, b⟩ := h k hk
  rw [e1] at a
  rw [e2] at b
  obtain ⟨z, e, l1, l2⟩ := rg_int a b
  rw [iZ_nI, iZ_toInt (by omega) (by omega)] at l1 l2
  refine ⟨z.toNat, ?_, by omega, by omega⟩
  rw [e, iZ_nI, Int.toNat_of_nonneg (by omega)]
theorem cutS_len {nl bk : Nat → Bool} {n c : Nat} : ∀ {k a : Nat}, (cutS nl bk n c k a).length ≤ k := by
  intro k
  induction k with
  | zero => intro a; exact Nat.le_refl _
  | succ k ih =>
    intro a
    unfold cutS
    split
    · show (0 : Nat) ≤ k + 1
      omega
    · show _ + 1 ≤ k + 1
      exact Nat.succ_le_succ ih
theorem cutS_one {nl bk : Nat → Bool} {n c : Nat} : 1 ≤ (cutS nl bk n c 201 0).length := by
  unfold cutS
  rw [if_neg (by omega)]
  show 1 ≤ _ + 1
  omega
theorem hs_kd : ∀ t : Fin 9, hs (t.val + 13) = hsK (kdW (t.val + 13)) := by decide +kernel
theorem R_t : (xa_0 (((12 : Int32) * nI 14 + (3 : Int32) * nI 0) + 1) = nI 1 ∧ xa_0 (((12 : Int32) * nI 14 + (3 : Int32) * nI 0) + 2) = nI 99 ∧ hs 14 = 4) ∧ (xa_0 (((12 : Int32) * nI 15 + (3 : Int32) * nI 3) + 1) = nI 0 ∧ xa_0 (((12 : Int32) * nI 15 + (3 : Int32) * nI 3) + 2) = nI 1 ∧ hs 15 = 4) := by decide +kernel
def TRY (Mc Mr : im_M) (g f : Nat) (y : Int32) (M12 : im_M) (r2 : Int32 × im_M) : Prop := fr (2 ^ 21 ||| 2 ^ 22 ||| 2 ^ 26 ||| 2 ^ 27) [(23, 9)] Mc M12 ∧ fr (2 ^ 81 ||| 2 ^ 82 ||| 2 ^ 84 ||| 2 ^ 85) [(71, 26), (71, 32), (71, 33), (71, 34)] Mr r2.2 ∧ ((y = -1 ∧ r2.1 = 8) ∨ ∃ F : FDt, FV F ∧ y = nI (fO F).length ∧ 1 ≤ (fO F).length ∧ im_i r2.2 71 34 = nI (fO F).length ∧ im_i r2.2 71 26 = nI g ∧ r2.1 = (if g + (fO F).length ≤ 120 then 0 else 10) ∧ DRf Mc M12 F.1 g F.2.2.2.1 (fO F) ∧ (∀ i, i < F.2.2.2.1 → im_i Mc 25 i &&& 255 = nI (F.2.1 i) ∧ isB (im_i Mc 25 i)) ∧ (∀ p, im_i r2.2 82 p = if 16 * f ≤ p ∧ p < 16 * f + 16 then F.1 (p - 16 * f) else im_i Mr 82 p) ∧ (∀ i, i < F.2.2.2.1 → im_i r2.2 84 (200 * f + i) = nI (F.2.1 i)) ∧ ∀ p, p < 200 * f → im_i r2.2 84 p = im_i Mr 84 p)
theorem two_try {Mc Mr : im_M} {n w g f : Nat} {st : Int} (hB : FB Mc Mr n) (hG : FG Mc Mr) (hK : FK Mc Mr w) (hT : ∀ k, k < 4 → im_i Mr 80 k = im_i Mc 18 k) (hTX : TXR (im_i Mc 18)) (hH0 : im_i Mr 71 22 = im_i Mc 17 0) (hH1 : im_i Mr 71 23 = im_i Mc 17 1) (hs9 : im_i Mc 23 6 = iZ st) (hst : -99 ≤ st ∧ st ≤ 99) (hg : im_i Mc 19 3 = nI g) (hg2 : g ≤ 120) (h26 : im_i Mr 71 26 = nI g) (h25 : im_i Mr 71 25 = nI f) (hf : f ≤ 120) : ∃ M7 x8 y M12, f_HField_cutLines Mc = some M7 ∧ f_HField_hasItsData M7 = some x8 ∧ (if x8 = 0 then some ((-1 : Int32), M7) else bd2 (f_HField_build M7) fun (x10 : Int32) (M10 : im_M) => some (x10, M10)) = some (y, M12) ∧ ed (f_MScriptRows_tryField Mr) (fun r2 => TRY Mc Mr g f y M12 r2) := by
  obtain ⟨kc, kr, hk8⟩ := FK_k hK
  obtain ⟨w1, w2, _, _, hKn⟩ := hK
  have hn := hB.1
  have hsw : hs w = hsK (kdW w) := by
    have := hs_kd ⟨w - 13, by omega⟩
    have e : w - 13 + 13 = w := by omega
    replace this : hs (w - 13 + 13) = hsK (kdW (w - 13 + 13)) := this
    rw [e] at this
    exact this
  have hs4 : hs w ≤ 4 := (hs_t ⟨w, by omega⟩).2
  -- the numbers
  have qk : ∀ k, k < hs w → qL Mr (1 + k) = im_i Mc 24 k := fun k hk => by
    unfold qL
    rw [if_neg (by omega), if_neg (by omega), if_neg (by omega)]
    exact (hKn k hk).1
  have hNR : NR (qL Mr) w := fun k hk => by
    rw [qk k hk]
    exact (hKn k hk).2
  have hcc : ∃ cc : Nat, 1 ≤ cc ∧ (kdW w = 8 → qL Mr 1 = nI cc ∧ 1 ≤ cc ∧ cc ≤ 99) := by
    by_cases c : w = 14
    · subst c
      obtain ⟨z, e, l1, l2⟩ := NR_n hNR (k := 0) (by rw [R_t.1.2.2]; omega) R_t.1.1 R_t.1.2.1 (by omega) (by omega)
      exact ⟨z, l1, fun _ => ⟨e, l1, l2⟩⟩
    · refine ⟨1, Nat.le_refl _, fun z => ?_⟩
      unfold kdW at z
      by_cases y : w = 13
      · rw [if_pos y] at z
        omega
      · rw [if_neg y, if_neg c] at z
        omega
  obtain ⟨cc, cc1, hcc⟩ := hcc
  have hb1 : kdW w = 1 → qL Mr 4 = 0 ∨ qL Mr 4 = 1 := fun z => by
    have e15 : w = 15 := by
      unfold kdW at z
      split at z
      · omega
      · split at z
        · omega
        · omega
    subst e15
    obtain ⟨y, e, l1, l2⟩ := NR_n hNR (k := 3) (by rw [R_t.2.2.2]; omega) R_t.2.1 R_t.2.2.1 (by omega) (by omega)
    have : y = 0 ∨ y = 1 := by omega
    rcases this with rfl | rfl
    · exact Or.inl e
    · exact Or.inr e
  -- the bytes
  have hBy : ∀ i, i < n → ∃ u, u < 256 ∧ im_i Mr 83 i = nI u ∧ im_i Mc 25 i &&& 255 = nI u ∧ isB (im_i Mc 25 i) ∧ dgB (im_i Mc 25 i) = dgB (nI u) ∧ (∀ M : im_M, f_HTape_hexValue (im_i Mc 25 i) M = some (hvN u)) ∧ ∀ c, c < 128 → (im_i Mc 25 i = nI c ↔ u = c) := fun i hi => by
    obtain ⟨e, b⟩ := hB.2.2.2 i hi
    obtain ⟨u, hu, eu, d, hx, _, hc⟩ := isB_u b e
    refine ⟨u, hu, eu, by rw [← e]; exact eu, b, by rw [d, eu], hx, fun c hc2 => ?_⟩
    rw [hc c hc2, eu]
    exact iff_of_eq (nIe (by omega) (by omega))
  let B : Nat → Nat := fun i => (im_i Mr 83 i).toNatClampNeg
  have hBu : ∀ i, i < n → B i < 256 ∧ im_i Mr 83 i = nI (B i) ∧ im_i Mc 25 i &&& 255 = nI (B i) ∧ isB (im_i Mc 25 i) ∧ dgB (im_i Mc 25 i) = dgB (nI (B i)) ∧ (∀ M : im_M, f_HTape_hexValue (im_i Mc 25 i) M = some (hvN (B i))) ∧ ∀ c, c < 128 → (im_i Mc 25 i = nI c ↔ B i = c) := fun i hi => by
    obtain ⟨u, hu, e, r⟩ := hBy i hi
    have eB : B i = u := by show (im_i Mr 83 i).toNatClampNeg = u; rw [e, nI_clamp (by omega)]
    rw [eB]
    exact ⟨hu, e, r⟩
  have hnb : ∀ p, p < n → (nlC Mc p = true ↔ B p = 10) ∧ (bkC Mc p = true ↔ B p = 32) := fun p hp => by
    have := (hBu p hp).2.2.2.2.2.2
    have t10 := this 10 (by omega)
    have t32 := this 32 (by omega)
    unfold nlC bkC
    rw [decide_eq_true_iff, decide_eq_true_iff]
    exact ⟨t10, t32⟩
  obtain ⟨M7, e7, f7, l7⟩ := s_cutLines (M := Mc) (n := n) (c := cc) (kd := kdW w) hB.2.1 hn kc hk8 (fun z => ⟨by rw [← qk 0 (by rw [hsw, z]; decide)]; exact (hcc z).1, (hcc z).2⟩)
  have e23 : ∀ j, ¬ j = 9 → im_i M7 23 j = im_i Mc 23 j := fun j hj => f7.1 23 j (by decide) (by simp; exact hj)
  have e24 : im_i M7 24 = im_i Mc 24 := fr_c f7 24 (by decide) (by decide)
  have e25 : im_i M7 25 = im_i Mc 25 := fr_c f7 25 (by decide) (by decide)
  have e18 : im_i M7 18 = im_i Mc 18 := fr_c f7 18 (by decide) (by decide)
  have e17 : im_i M7 17 = im_i Mc 17 := fr_c f7 17 (by decide) (by decide)
  have hB7 : FB M7 Mr n := ⟨hn, by rw [e23 8 (by omega)]; exact hB.2.1, hB.2.2.1, fun i hi => by rw [e25]; exact hB.2.2.2 i hi⟩
  have hG7 : FG M7 Mr := by
    unfold FG
    rw [e23 4 (by omega), e23 5 (by omega), e23 6 (by omega), e23 0 (by omega), e23 1 (by omega)]
    exact hG
  have hK7 : FK M7 Mr w := by
    unfold FK
    rw [e23 2 (by omega), e24]
    exact ⟨w1, w2, by assumption, by assumption, hKn⟩
  obtain ⟨P, hP, hfit⟩ := two_fits hB7 hG7 hK7
  unfold f_MScriptRows_tryField
  rcases hfit with ⟨x1, x2, hfit⟩ | ⟨x1, x2⟩
  · -- it has its data
    have q8 : qL Mr 8 = if im_i M7 23 5 = 0 then 0 else 1 := by
      rw [e23 5 (by omega)]
      show im_i Mr 81 8 = _
      rcases hG.2.1 with ⟨a, b⟩ | ⟨a, b⟩
      · rw [a, b, if_pos rfl]
      · rw [a, b, if_neg (by decide)]
    have q7 : qL Mr 7 = if im_i M7 23 4 = 0 then 0 else 2 := by
      rw [e23 4 (by omega)]
      show im_i Mr 81 7 = _
      rcases hG.1 with ⟨a, b⟩ | ⟨a, b⟩
      · rw [a, b, if_pos rfl]
      · rw [a, b, if_neg (by decide)]
    have q9 : im_i Mc 23 6 = qL Mr 9 := hG.2.2.1.symm
    have q10 : qL Mr 10 = nI n := hB.2.2.1
    have hq8 : ∃ ct, ct ≤ 1 ∧ qL Mr 8 = nI ct := by
      rcases hG.2.1 with ⟨a, b⟩ | ⟨a, b⟩
      · exact ⟨0, by omega, b⟩
      · exact ⟨1, by omega, b⟩
    obtain ⟨ct, hct, hq8⟩ := hq8
    have hC : CFq M7 (qL Mr) (kdW w) n := by
      refine ⟨by rw [e23 2 (by omega)]; exact kc, hk8, by rw [e23 8 (by omega)]; exact hB.2.1, hn, fun k hk => ?_, fun k hk => ?_⟩
      · rw [e24, qk k (by rw [hsw]; exact hk)]
      · rw [e18, ← hT k hk]
        unfold qL
        rw [if_neg (by omega), if_neg (by omega), if_pos (by omega), Nat.add_sub_cancel_left]
    have hlen : (odsM (qL Mr) (kdW w) n (cutS (nlC Mc) (bkC Mc) n cc 201 0)).length ≤ 300 ∧ 1 ≤ (odsM (qL Mr) (kdW w) n (cutS (nlC Mc) (bkC Mc) n cc 201 0)).length ∧ (¬ kdW w = 8 → (odsM (qL Mr) (kdW w) n (cutS (nlC Mc) (bkC Mc) n cc 201 0)).length ≤ 20) := by
      by_cases c : kdW w = 8
      · rw [c, ods_8, blkO_len]
        have := cutS_len (nl := nlC Mc) (bk := bkC Mc) (n := n) (c := cc) (k := 201) (a := 0)
        exact ⟨by omega, cutS_one, fun z => absurd rfl z⟩
      · have := ods_len (q := qL Mr) (n := n) (L := cutS (nlC Mc) (bkC Mc) n cc 201 0) (kd := kdW w) (by omega)
        exact ⟨by omega, this.1, fun _ => by omega⟩
    have bu := s_build (L := cutS (nlC Mc) (bkC Mc) n cc 201 0) hC (by rw [e17, e23 0 (by omega), ← hH0, ← hG.2.2.2.1, Int32.add_comm]; rfl) (by rw [e17, e23 1 (by omega), ← hH1, ← hG.2.2.2.2, Int32.add_comm]; rfl) hb1 (fun z => by rw [if_pos z] at l7; exact l7) (by have := cutS_len (nl := nlC Mc) (bk := bkC Mc) (n := n) (c := cc) (k := 201) (a := 0); omega) ((f7.1 19 3 (by decide) (by decide)).trans hg) hg2 q7 q8 (by rw [e23 6 (by omega)]; exact q9)
    have pl := s_isPlaced (M := Mr) (f := f) (n := n) (ct := ct) (kd := kdW w) (cc := cc) (g := g) (st := st) (B := B) (q := qL Mr) (nl := nlC Mc) (bk := bkC Mc) h25 hf hn (fun i hi => ⟨(hBu i hi).1, (hBu i hi).2.1⟩) (fun j _ => rfl) q10 hq8 hct (by rw [← q9]; exact hs9) hst kr hk8 hcc hnb h26 hg2 hlen.1 hlen.2.2
    obtain ⟨⟨y, M12⟩, eb, fb, hb⟩ := bu
    obtain ⟨⟨x3, M3⟩, ep, fp, hp, p34, p26, p82, p84⟩ := pl
    replace fb : fr (2 ^ 21 ||| 2 ^ 22) [] M7 M12 := fb
    replace p34 : im_i M3 71 34 = _ := p34
    replace p26 : im_i M3 71 26 = nI g := p26
    have fB : fr (2 ^ 21 ||| 2 ^ 22 ||| 2 ^ 26 ||| 2 ^ 27) [(23, 9)] Mc M12 := fr_tr (fr_mono (by decide) (by decide) fb) (fr_mono (by decide) (by decide) f7)
    refine ⟨M7, 1, y, M12, e7, x1, by rw [if_neg (by decide), eb]; rfl, ?_⟩
    rw [x2, bd1_s]
    simp only [jn1]
    rw [if_neg (show ¬ (1 : Int32) = 0 by decide), h25, ep, bd2_s]
    rcases hb with ⟨y1, ok, hD⟩ | ⟨y1, nok⟩
    · replace y1 : y = _ := y1
      replace hD : DRf M7 M12 _ _ _ _ := hD
      rcases hp with ⟨z1, _⟩ | ⟨_, nz⟩
      · replace z1 : x3 = 1 := z1
        have gl : nI g + nI (odsM (qL Mr) (kdW w) n (cutS (nlC Mc) (bkC Mc) n cc 201 0)).length = nI (g + (odsM (qL Mr) (kdW w) n (cutS (nlC Mc) (bkC Mc) n cc 201 0)).length) := nI_add _ _
        have l120 : (nI (g + (odsM (qL Mr) (kdW w) n (cutS (nlC Mc) (bkC Mc) n cc 201 0)).length) ≤ 120) = (g + (odsM (qL Mr) (kdW w) n (cutS (nlC Mc) (bkC Mc) n cc 201 0)).length ≤ 120) := nIl (c := 120) (by omega) (by omega)
        rw [z1, if_pos (show ¬ (1 : Int32) = 0 by decide), p26, p34, gl]
        simp only [l120]
        have fin : TRY Mc Mr g f y M12 ((if g + (odsM (qL Mr) (kdW w) n (cutS (nlC Mc) (bkC Mc) n cc 201 0)).length ≤ 120 then 0 else 10), M3) := by
          refine ⟨fB, fp, Or.inr ⟨(qL Mr, B, kdW w, n, cutS (nlC Mc) (bkC Mc) n cc 201 0), ?_, y1, hlen.2.1, p34, p26, rfl, ⟨fun p hp => ?_, hD.2.1, fun p hp => ?_, fun i hi => ?_⟩, fun i hi => ⟨(hBu i hi).2.2.1, (hBu i hi).2.2.2.1⟩, p82, fun i hi => ?_, fun p hp => ?_⟩⟩
          · refine ⟨⟨hk8, kr, q10, hn⟩, ⟨?_, ?_, ?_, ?_, ?_⟩, fun i hi => (hBu i hi).1, ⟨cc, nlC Mc, bkC Mc, hcc, cc1, hnb, rfl⟩, ok, ⟨w, w1, w2, rfl, hNR⟩, ?_, ?_⟩
            · show qL Mr 8 = nI (qL Mr 8).toNatClampNeg
              rw [hq8, nI_clamp (by omega)]
            · show (qL Mr 8).toNatClampNeg ≤ 1
              rw [hq8, nI_clamp (by omega)]
              exact hct
            · show -99 ≤ (qL Mr 9).toInt
              rw [← q9, hs9, iZ_toInt (by omega) (by omega)]
              exact hst.1
            · show (qL Mr 9).toInt ≤ 99
              rw [← q9, hs9, iZ_toInt (by omega) (by omega)]
              exact hst.2
            · show qL Mr 7 = 0 ∨ qL Mr 7 = 2
              rcases hG.1 with ⟨a, b⟩ | ⟨a, b⟩
              · exact Or.inl b
              · exact Or.inr b
            · obtain ⟨a, b, c, d, h⟩ := hTX
              refine ⟨a, b, c, d, ?_⟩
              have tt : ∀ k, k < 4 → qL Mr (11 + k) = im_i Mc 18 k := fun k hk => by
                unfold qL
                rw [if_neg (by omega), if_neg (by omega), if_pos (by omega), Nat.add_sub_cancel_left]
                exact hT k hk
              show qL Mr (11 + 0) = _ ∧ _ ∧ qL Mr (11 + 1) = _ ∧ _ ∧ _ ∧ qL Mr (11 + 2) = _ ∧ _ ∧ _ ∧ qL Mr (11 + 3) = _ ∧ _
              rw [tt 0 (by omega), tt 1 (by omega), tt 2 (by omega), tt 3 (by omega)]
              exact h
            · obtain ⟨_, k1, k2, k7⟩ := hfit
              refine ⟨k1, fun z => ?_, fun z => ?_⟩
              · obtain ⟨n12, ad⟩ := k2 z
                refine ⟨n12, fun i hi => ?_⟩
                have hi2 : i < n := by omega
                have := ad i hi2
                rw [e25, (hBu i hi2).2.2.2.2.1] at this
                rw [dgB_n (hBu i hi2).1] at this
                exact Classical.not_not.mp this
              · obtain ⟨ah, n2, nP⟩ := k7 z
                obtain ⟨eP, P1, P2⟩ := hP z
                refine ⟨fun i hi => ?_, n2, P, ?_, P1, P2, nP⟩
                · have := ah i hi
                  rw [e25, (hBu i hi).2.2.2.2.2.1 M7] at this
                  rcases hv_b (n := B i) with hb | ⟨a, ha, hb⟩
                  · exact absurd (congrArg some hb) this
                  · exact ⟨a, ha, hb⟩
                · show qL Mr 1 = nI P
                  rw [← eP, e24]
                  exact qk 0 (by rw [hsw]; exact hsK_pos)
          · rw [hD.1 p hp]
            exact f7.1 21 p (by decide) (by simp)
          · rw [hD.2.2.1 p hp]
            exact f7.1 22 p (by decide) (by simp)
          · rw [hD.2.2.2 i hi, e25]
          · show im_i M3 84 (200 * f + i) = nI (B i)
            replace p84 : ∀ p, im_i M3 84 p = _ := p84
            have hi : i < n := hi
            rw [p84, if_pos (by omega), Nat.add_sub_cancel_left]
            exact (hBu i hi).2.1
          · show im_i M3 84 p = _
            replace p84 : ∀ p, im_i M3 84 p = _ := p84
            rw [p84, if_neg (by omega)]
        by_cases c : g + (odsM (qL Mr) (kdW w) n (cutS (nlC Mc) (bkC Mc) n cc 201 0)).length ≤ 120
        · rw [if_pos c] at fin ⊢
          exact ed_mk fin
        · rw [if_neg c] at fin ⊢
          exact ed_mk fin
      · exact absurd ok nz
    · replace y1 : y = -1 := y1
      rcases hp with ⟨_, z⟩ | ⟨z1, _⟩
      · exact absurd z nok
      · replace z1 : x3 = 0 := z1
        rw [z1, if_neg (fun z => z rfl)]
        exact ed_mk ⟨fB, fp, Or.inl ⟨y1, rfl⟩⟩
  · refine ⟨M7, 0, -1, M7, e7, x1, by rw [if_pos rfl], ?_⟩
    rw [x2, bd1_s]
    simp only [jn1]
    rw [if_pos trivial]
    exact ed_mk ⟨fr_mono (by decide) (by decide) f7, fr_refl, Or.inl ⟨rfl, rfl⟩⟩
