/-! COMMANDS CARRIED OUT, BOTH SIDES -/
theorem lc_t : lc 0 = 83 ∧ lc 1 = 76 ∧ lc 2 = 75 ∧ lc 3 = 69 ∧ lc 4 = 72 ∧ lc 5 = 67 ∧ lc 6 = 68 ∧ lc 7 = 85 ∧ lc 8 = 79 ∧ lc 9 = 82 ∧ lc 10 = 88 ∧ lc 11 = 86 ∧ lc 12 = 35 ∧ lc 22 = 59 := by decide +kernel
theorem RG_n {M : im_M} {w k lo hi : Nat} (h : RG3 M w k) (e1 : xa_0 (((12 : Int32) * nI w + (3 : Int32) * nI k) + 1) = nI lo) (e2 : xa_0 (((12 : Int32) * nI w + (3 : Int32) * nI k) + 2) = nI hi) (h1 : lo < 100000) (h2 : hi < 100000) : ∃ z : Nat, im_i M 9 k = nI z ∧ lo ≤ z ∧ z ≤ hi := by
  obtain ⟨a, b⟩ := h
  rw [e1] at a
  rw [e2] at b
  obtain ⟨z, e, l1, l2⟩ := rg_int a b
  rw [iZ_nI, iZ_toInt (by omega) (by omega)] at l1 l2
  refine ⟨z.toNat, ?_, by omega, by omega⟩
  rw [e, iZ_nI, Int.toNat_of_nonneg (by omega)]
/-- a command carried out by both -/
def PO (Mc Mr : im_M) (w d : Nat) (b' : Bool) : Prop := ed (f_HSetter_perform (nI w) Mc) (fun R1 => ed (f_MScriptRows_obey (lc w) Mr) (fun R2 => ST R1 R2 b' ∧ ∃ d' T, d' ≤ d + 1 ∧ (b' = false → d' = 0) ∧ CS R1 d' T ∧ MS R2 T ∧ im_i R2 71 9 = nI d' ∧ im_i R2 71 10 = (if d = 0 ∧ d' = 1 then im_i Mr 71 12 else im_i Mr 71 10)))
theorem PO_mk {Mc Mr R1 R2 : im_M} {w d : Nat} {b' : Bool} {T : List Int32} {A1 A2 : Nat} {F1 F2 : List (Nat × Nat)} (e1 : f_HSetter_perform (nI w) Mc = some R1) (e2 : f_MScriptRows_obey (lc w) Mr = some R2) (h1 : fr A1 F1 Mc R1) (h2 : fr A2 F2 Mr R2) (hS : ST R1 R2 b') (hb : b' = false → d = 0) (hc : CS Mc d T) (hm : MS Mr T) (h9 : im_i Mr 71 9 = nI d) (c1 : clr A1 F1 [2, 3, 4, 7, 8] [(1, 1), (1, 6)] [] = true := by decide +kernel) (c2 : clr A2 F2 [77] [(71, 8)] [] = true := by decide +kernel) (c3 : clr A2 F2 [] [(71, 9), (71, 10)] [] = true := by decide +kernel) : PO Mc Mr w d b' := by
  refine ⟨R1, e1, R2, e2, hS, d, T, by omega, hb, CS_fr h1 c1 hc, MS_fr h2 c2 hm, (clr_f c3 h2 (a := 71) (k := 9) (by decide)).trans h9, ?_⟩
  rw [if_neg (by omega)]
  exact clr_f c3 h2 (a := 71) (k := 10) (by decide)
/-- only the label's state is another -/
theorem ST_lab {Mc Mr R1 R2 : im_M} {A1 A2 : Nat} {F1 F2 : List (Nat × Nat)} (h1 : fr A1 F1 Mc R1) (h2 : fr A2 F2 Mr R2) (q : ST Mc Mr true) (n : STl R1 R2) (c1 : clr A1 F1 [3, 4, 5, 6] [] [] = true := by decide +kernel) (c2 : clr A2 F2 [73, 74, 75, 76] [] [] = true := by decide +kernel) (c3 : clr A1 F1 [2] [(1, 1)] [] = true := by decide +kernel) (c4 : clr A1 F1 [13, 14, 16] [(11, 3), (15, 4)] [] = true := by decide +kernel) (c5 : clr A2 F2 [86, 87, 88] [(71, 35), (71, 37)] [] = true := by decide +kernel) (c6 : clr A1 F1 [] [(15, 8)] [] = true := by decide +kernel) (c7 : clr A2 F2 [] [(71, 18)] [] = true := by decide +kernel) : ST R1 R2 true := by
  obtain ⟨a1, a2, a3, a4, ⟨LL, A, a5⟩, _⟩ := q
  exact ⟨(clr_f c6 h1 (a := 15) (k := 8) (by decide)).trans a1, (clr_f c7 h2 (a := 71) (k := 18) (by decide)).trans a2, VV_fr h1 h2 c1 c2 a3, TB_fr h1 c3 a4, ⟨LL, A, STg_fr h1 h2 c4 c5 a5⟩, fun _ => n⟩
theorem po_H {Mc Mr : im_M} {d : Nat} {T : List Int32} (q : ST Mc Mr true) (hc : CS Mc d T) (hm : MS Mr T) (h9 : im_i Mr 71 9 = nI d) (hN : ∀ j, j < 2 → im_i Mr 78 j = im_i Mc 9 j) : PO Mc Mr 4 d true := by
  have h1 : fr (2 ^ 17) [] Mc (im_setI (im_setI Mc 17 0 (im_i Mc 9 0)) 17 1 (im_i Mc 9 1)) := fr_I (by decide) (fr_I (by decide) fr_refl)
  have h2 : fr 0 [(71, 22), (71, 23)] Mr (im_setI (im_setI Mr 71 22 (im_i Mr 78 0)) 71 23 (im_i Mr 78 1)) := fr_F (by decide) (fr_F (by decide) fr_refl)
  refine PO_mk (T := T) ?_ ?_ h1 h2 (ST_lab h1 h2 q ?_) (fun z => by cases z) hc hm h9
  · unfold f_HSetter_perform
    rw [gd_pos (by decide), if_neg (by decide), if_neg (by decide), if_neg (by decide), if_neg (by decide), if_pos (by decide), gd_pos (by decide), gd_pos (by decide), gd_pos (by decide)]
    rfl
  · rw [lc_t.2.2.2.2.1]
    unfold f_MScriptRows_obey f_MScriptRows_set
    rw [if_neg (by decide), if_neg (by decide), if_neg (by decide), if_neg (by decide), if_neg (by decide), if_neg (by decide), if_neg (by decide), gd_pos (by decide), gd_pos (by decide)]
    rfl
  · obtain ⟨Fs, W, H, C, n, wk, a, b, c, e⟩ := q.2.2.2.2.2 rfl
    refine ⟨Fs, W, H, C, n, wk, STd_fr h1 h2 (by decide +kernel) (by decide +kernel) a, STs_fr h1 h2 (by decide +kernel) (by decide +kernel) b, ⟨c.1, c.2.1, ?_, ?_⟩, STf_fr h1 h2 (by decide +kernel) (by decide +kernel) e⟩
    · show im_i Mr 78 0 = im_i Mc 9 0
      exact hN 0 (by omega)
    · show im_i Mr 78 1 = im_i Mc 9 1
      exact hN 1 (by omega)
theorem C_t : (xa_0 (((12 : Int32) * nI 5 + (3 : Int32) * nI 0) + 1) = nI 1 ∧ xa_0 (((12 : Int32) * nI 5 + (3 : Int32) * nI 0) + 2) = nI 12) ∧ (xa_0 (((12 : Int32) * nI 12 + (3 : Int32) * nI 0) + 1) = -99 ∧ xa_0 (((12 : Int32) * nI 12 + (3 : Int32) * nI 0) + 2) = 99) ∧ (xa_0 (((12 : Int32) * nI 6 + (3 : Int32) * nI 0) + 1) = nI 0 ∧ xa_0 (((12 : Int32) * nI 6 + (3 : Int32) * nI 0) + 2) = nI 3) ∧ (xa_0 (((12 : Int32) * nI 6 + (3 : Int32) * nI 1) + 1) = nI 1 ∧ xa_0 (((12 : Int32) * nI 6 + (3 : Int32) * nI 1) + 2) = nI 10) ∧ (xa_0 (((12 : Int32) * nI 6 + (3 : Int32) * nI 2) + 1) = nI 1 ∧ xa_0 (((12 : Int32) * nI 6 + (3 : Int32) * nI 2) + 2) = nI 10) ∧ (xa_0 (((12 : Int32) * nI 6 + (3 : Int32) * nI 3) + 1) = nI 0 ∧ xa_0 (((12 : Int32) * nI 6 + (3 : Int32) * nI 3) + 2) = nI 3) := by decide +kernel
theorem po_C {Mc Mr : im_M} {d : Nat} {T : List Int32} (q : ST Mc Mr true) (hc : CS Mc d T) (hm : MS Mr T) (h9 : im_i Mr 71 9 = nI d) (hN : im_i Mr 78 0 = im_i Mc 9 0) (hR : RG3 Mc 5 0) : PO Mc Mr 5 d true := by
  have h1 : fr 0 [(15, 12)] Mc (im_setI Mc 15 12 (im_i Mc 9 0)) := fr_F (by decide) fr_refl
  have h2 : fr 0 [(71, 21)] Mr (im_setI Mr 71 21 (im_i Mr 78 0)) := fr_F (by decide) fr_refl
  refine PO_mk (T := T) ?_ ?_ h1 h2 (ST_lab h1 h2 q ?_) (fun z => by cases z) hc hm h9
  · unfold f_HSetter_perform
    rw [gd_pos (by decide), if_neg (by decide), if_neg (by decide), if_neg (by decide), if_neg (by decide), if_neg (by decide), if_pos (by decide)]
    rfl
  · rw [lc_t.2.2.2.2.2.1]
    unfold f_MScriptRows_obey f_MScriptRows_set
    rw [if_neg (by decide), if_neg (by decide), if_neg (by decide), if_neg (by decide), if_neg (by decide), if_neg (by decide), if_pos (by decide), if_neg (by decide), gd_pos (by decide)]
    rfl
  · obtain ⟨Fs, W, H, C, n, wk, a, b, c, e⟩ := q.2.2.2.2.2 rfl
    obtain ⟨z, ez, z1, z2⟩ := RG_n hR C_t.1.1 C_t.1.2 (by omega) (by omega)
    exact ⟨Fs, W, H, z, n, wk, STd_fr h1 h2 (by decide +kernel) (by decide +kernel) a, ⟨b.1, b.2.1, ez, by show im_i Mr 78 0 = nI z; rw [hN, ez], z1, z2⟩, STt_fr h1 h2 (by decide +kernel) (by decide +kernel) c, STf_fr h1 h2 (by decide +kernel) (by decide +kernel) e⟩
/-- only the field is another -/
theorem ST_fld {Mc Mr R1 R2 : im_M} {A1 A2 : Nat} {F1 F2 : List (Nat × Nat)} (h1 : fr A1 F1 Mc R1) (h2 : fr A2 F2 Mr R2) (q : ST Mc Mr true) (n : ∀ wk n, STf Mc Mr wk n → ∃ wk' n', STf R1 R2 wk' n') (c1 : clr A1 F1 [3, 4, 5, 6] [] [] = true := by decide +kernel) (c2 : clr A2 F2 [73, 74, 75, 76] [] [] = true := by decide +kernel) (c3 : clr A1 F1 [2] [(1, 1)] [] = true := by decide +kernel) (c4 : clr A1 F1 [13, 14, 16] [(11, 3), (15, 4)] [] = true := by decide +kernel) (c5 : clr A2 F2 [86, 87, 88] [(71, 35), (71, 37)] [] = true := by decide +kernel) (c6 : clr A1 F1 [] [(15, 8)] [] = true := by decide +kernel) (c7 : clr A2 F2 [] [(71, 18)] [] = true := by decide +kernel) (d1 : clr A1 F1 [21, 22] [(19, 3)] [] = true := by decide +kernel) (d2 : clr A2 F2 [82, 84] [(71, 25), (71, 26)] [] = true := by decide +kernel) (d3 : clr A1 F1 [] [(15, 10), (15, 11), (15, 12)] [] = true := by decide +kernel) (d4 : clr A2 F2 [] [(71, 19), (71, 20), (71, 21)] [] = true := by decide +kernel) (d5 : clr A1 F1 [17, 18] [] [] = true := by decide +kernel) (d6 : clr A2 F2 [80] [(71, 22), (71, 23)] [] = true := by decide +kernel) : ST R1 R2 true := by
  refine ST_lab h1 h2 q ?_ c1 c2 c3 c4 c5 c6 c7
  obtain ⟨Fs, W, H, C, m, wk, a, b, c, e⟩ := q.2.2.2.2.2 rfl
  obtain ⟨wk', n', e'⟩ := n wk m e
  exact ⟨Fs, W, H, C, n', wk', STd_fr h1 h2 d1 d2 a, STs_fr h1 h2 d3 d4 b, STt_fr h1 h2 d5 d6 c, e'⟩
theorem KD_c {Mc Mr R1 R2 : im_M} {wk : Option Nat} (h2 : im_i R1 23 2 = im_i Mc 23 2) (h24 : im_i R1 24 = im_i Mc 24) (h81 : ∀ j, j < 5 → im_i R2 81 j = im_i Mr 81 j) (q : KD Mc Mr wk) : KD R1 R2 wk := by
  cases wk with
  | none =>
    show im_i R1 23 2 = -1 ∧ im_i R2 81 0 = -1
    rw [h2, h81 0 (by omega)]
    exact q
  | some w =>
    obtain ⟨w1, w2, a, b, c⟩ := q
    have h4 := (hs_t ⟨w, by omega⟩).2
    replace h4 : hs w ≤ 4 := h4
    refine ⟨w1, w2, by rw [h2]; exact a, by rw [h81 0 (by omega)]; exact b, fun k hk => ?_⟩
    rw [h81 (1 + k) (by omega), h24]
    exact c k hk
theorem po_O {Mc Mr : im_M} {d : Nat} {T : List Int32} (q : ST Mc Mr true) (hc : CS Mc d T) (hm : MS Mr T) (h9 : im_i Mr 71 9 = nI d) (hN : ∀ j, j < 2 → im_i Mr 78 j = im_i Mc 9 j) : PO Mc Mr 8 d true := by
  have h1 : fr 0 [(23, 0), (23, 1)] Mc (im_setI (im_setI Mc 23 0 (im_i Mc 9 0)) 23 1 (im_i Mc 9 1)) := fr_F (by decide) (fr_F (by decide) fr_refl)
  have h2 : fr (2 ^ 81) [] Mr (im_setI (im_setI Mr 81 5 (im_i Mr 78 0)) 81 6 (im_i Mr 78 1)) := fr_I (by decide) (fr_I (by decide) fr_refl)
  refine PO_mk (T := T) ?_ ?_ h1 h2 (ST_fld h1 h2 q (fun wk n e => ⟨wk, n, e.1, ⟨e.2.1.1, e.2.1.2.1, e.2.1.2.2.1, ?_, ?_⟩, ?_, e.2.2.2⟩)) (fun z => by cases z) hc hm h9
  · unfold f_HSetter_perform f_HSetter_performOfField
    rw [gd_pos (by decide), if_neg (by decide), if_neg (by decide), if_neg (by decide), if_neg (by decide), if_neg (by decide), if_neg (by decide), if_neg (by decide), if_neg (by decide), if_pos (by decide), gd_pos (by decide)]
    rfl
  · rw [lc_t.2.2.2.2.2.2.2.2.1]
    unfold f_MScriptRows_obey f_MScriptRows_set
    rw [if_neg (by decide), if_neg (by decide), if_neg (by decide), if_neg (by decide), if_neg (by decide), if_neg (by decide), if_pos (by decide), if_pos (by decide), if_neg (by decide), gd_pos (by decide), gd_pos (by decide), gd_pos (by decide), gd_pos (by decide)]
    rfl
  · show im_i Mr 78 0 = im_i Mc 9 0
    exact hN 0 (by omega)
  · show im_i Mr 78 1 = im_i Mc 9 1
    exact hN 1 (by omega)
  · exact KD_c (Mc := Mc) (Mr := Mr) rfl rfl (fun j hj => by
      show (if j = 6 then _ else if j = 5 then _ else im_i Mr 81 j) = _
      rw [if_neg (by omega), if_neg (by omega)]) e.2.2.1
theorem po_R {Mc Mr : im_M} {d : Nat} {T : List Int32} (q : ST Mc Mr true) (hc : CS Mc d T) (hm : MS Mr T) (h9 : im_i Mr 71 9 = nI d) : PO Mc Mr 9 d true := by
  have h1 : fr 0 [(23, 4)] Mc (im_setI Mc 23 4 1) := fr_F (by decide) fr_refl
  have h2 : fr (2 ^ 81) [] Mr (im_setI Mr 81 7 2) := fr_I (by decide) fr_refl
  refine PO_mk (T := T) ?_ ?_ h1 h2 (ST_fld h1 h2 q (fun wk n e => ⟨wk, n, e.1, ⟨Or.inr ⟨rfl, rfl⟩, e.2.1.2⟩, ?_, e.2.2.2⟩)) (fun z => by cases z) hc hm h9
  · unfold f_HSetter_perform f_HSetter_performOfField
    rw [gd_pos (by decide), if_neg (by decide), if_neg (by decide), if_neg (by decide), if_neg (by decide), if_neg (by decide), if_neg (by decide), if_neg (by decide), if_neg (by decide), if_neg (by decide), if_pos (by decide)]
    rfl
  · rw [lc_t.2.2.2.2.2.2.2.2.2.1]
    unfold f_MScriptRows_obey f_MScriptRows_set
    rw [if_neg (by decide), if_neg (by decide), if_neg (by decide), if_neg (by decide), if_neg (by decide), if_neg (by decide), if_pos (by decide), if_pos (by decide), if_pos (by decide), if_neg (by decide), gd_pos (by decide)]
    rfl
  · exact KD_c (Mc := Mc) (Mr := Mr) rfl rfl (fun j hj => by
      show (if j = 7 then _ else im_i Mr 81 j) = _
      rw [if_neg (by omega)]) e.2.2.1
theorem po_N {Mc Mr : im_M} {d : Nat} {T : List Int32} (q : ST Mc Mr true) (hc : CS Mc d T) (hm : MS Mr T) (h9 : im_i Mr 71 9 = nI d) (hN : im_i Mr 78 0 = im_i Mc 9 0) (hR : RG3 Mc 12 0) : PO Mc Mr 12 d true := by
  have h1 : fr 0 [(23, 5), (23, 6)] Mc (im_setI (im_setI Mc 23 5 1) 23 6 (im_i Mc 9 0)) := fr_F (by decide) (fr_F (by decide) fr_refl)
  have h2 : fr (2 ^ 81) [] Mr (im_setI (im_setI Mr 81 8 1) 81 9 (im_i Mr 78 0)) := fr_I (by decide) (fr_I (by decide) fr_refl)
  refine PO_mk (T := T) ?_ ?_ h1 h2 (ST_fld h1 h2 q (fun wk n e => ⟨wk, n, e.1, ⟨e.2.1.1, Or.inr ⟨rfl, rfl⟩, ?_, e.2.1.2.2.2⟩, ?_, ?_⟩)) (fun z => by cases z) hc hm h9
  · unfold f_HSetter_perform f_HSetter_performOfField
    rw [gd_pos (by decide), if_neg (by decide), if_neg (by decide), if_neg (by decide), if_neg (by decide), if_neg (by decide), if_neg (by decide), if_neg (by decide), if_neg (by decide), if_neg (by decide), if_neg (by decide), if_neg (by decide), if_neg (by decide), if_pos (by decide)]
    rfl
  · rw [lc_t.2.2.2.2.2.2.2.2.2.2.2.2.1]
    unfold f_MScriptRows_obey f_MScriptRows_set
    rw [if_neg (by decide), if_neg (by decide), if_neg (by decide), if_neg (by decide), if_neg (by decide), if_neg (by decide), if_pos (by decide), if_pos (by decide), if_pos (by decide), if_pos (by decide), if_neg (by decide), gd_pos (by decide), gd_pos (by decide), gd_pos (by decide)]
    rfl
  · show im_i Mr 78 0 = im_i Mc 9 0
    exact hN
  · exact KD_c (Mc := Mc) (Mr := Mr) rfl rfl (fun j hj => by
      show (if j = 9 then _ else if j = 8 then _ else im_i Mr 81 j) = _
      rw [if_neg (by omega), if_neg (by omega)]) e.2.2.1
  · obtain ⟨a, b⟩ := hR
    rw [C_t.2.1.1] at a
    rw [C_t.2.1.2] at b
    obtain ⟨z, ez, l1, l2⟩ := rg_int a b
    exact ⟨z, ez, by have : (-99 : Int32).toInt = -99 := by decide
                     omega, by have : (99 : Int32).toInt = 99 := by decide
                               omega⟩
