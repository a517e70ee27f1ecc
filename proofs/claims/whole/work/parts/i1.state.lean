/-! WHAT HOLDS WHILE A TAPE IS READ -/
def VV (Mc Mr : im_M) : Prop := RV 8 400 (im_i Mc 4) (im_i Mr 74) (im_i Mc 3) (im_i Mr 73) ∧ RV 10 200 (im_i Mc 6) (im_i Mr 76) (im_i Mc 5) (im_i Mr 75)
theorem VV_fr {A1 A2 : Nat} {F1 F2 : List (Nat × Nat)} {Mc Mc' Mr Mr' : im_M} (h1 : fr A1 F1 Mc Mc') (h2 : fr A2 F2 Mr Mr') (c1 : clr A1 F1 [3, 4, 5, 6] [] [] = true) (c2 : clr A2 F2 [73, 74, 75, 76] [] [] = true) (q : VV Mc Mr) : VV Mc' Mr' := by
  unfold VV at q ⊢
  rw [clr_a c1 h1 (a := 3) (by decide), clr_a c1 h1 (a := 4) (by decide), clr_a c1 h1 (a := 5) (by decide), clr_a c1 h1 (a := 6) (by decide), clr_a c2 h2 (a := 73) (by decide), clr_a c2 h2 (a := 74) (by decide), clr_a c2 h2 (a := 75) (by decide), clr_a c2 h2 (a := 76) (by decide)]
  exact q
theorem TB_fr {A : Nat} {F : List (Nat × Nat)} {M M' : im_M} (h : fr A F M M') (c : clr A F [2] [(1, 1)] [] = true) (q : TB M) : TB M' := by
  unfold TB at q ⊢
  rw [clr_a c h (a := 2) (by decide), clr_f c h (a := 1) (k := 1) (by decide)]
  exact q
/-- labels and orders so far -/
def STg (Mc Mr : im_M) (LL : List (Nat × Nat × Nat × Nat)) (A : List (FDt × OD × Nat)) : Prop := CLB Mc LL ∧ RLB Mr LL ∧ COK Mc A ∧ ROK Mr A ∧ LL.length ≤ 12 ∧ A.length ≤ 120 ∧ ∀ x ∈ LL, 1 ≤ x.1 ∧ x.1 ≤ 512 ∧ 1 ≤ x.2.1 ∧ x.2.1 ≤ 512 ∧ x.2.2.1 + x.2.2.2 ≤ A.length
theorem STg_fr {A1 A2 : Nat} {F1 F2 : List (Nat × Nat)} {Mc Mc' Mr Mr' : im_M} {LL : List (Nat × Nat × Nat × Nat)} {A : List (FDt × OD × Nat)} (h1 : fr A1 F1 Mc Mc') (h2 : fr A2 F2 Mr Mr') (c1 : clr A1 F1 [13, 14, 16] [(11, 3), (15, 4)] [] = true) (c2 : clr A2 F2 [86, 87, 88] [(71, 35), (71, 37)] [] = true) (q : STg Mc Mr LL A) : STg Mc' Mr' LL A := by
  unfold STg CLB RLB COK ROK at q ⊢
  rw [clr_a c1 h1 (a := 13) (by decide), clr_a c1 h1 (a := 14) (by decide), clr_a c1 h1 (a := 16) (by decide), clr_f c1 h1 (a := 11) (k := 3) (by decide), clr_f c1 h1 (a := 15) (k := 4) (by decide), clr_a c2 h2 (a := 86) (by decide), clr_a c2 h2 (a := 87) (by decide), clr_a c2 h2 (a := 88) (by decide), clr_f c2 h2 (a := 71) (k := 35) (by decide), clr_f c2 h2 (a := 71) (k := 37) (by decide)]
  exact q
/-- the kind of the field -/
def KD (Mc Mr : im_M) : Option Nat → Prop
  | none => im_i Mc 23 2 = -1 ∧ im_i Mr 81 0 = -1
  | some w => FK Mc Mr w
/-- the field that is being read -/
def STf (Mc Mr : im_M) (wk : Option Nat) (n : Nat) : Prop := FB Mc Mr n ∧ FG Mc Mr ∧ KD Mc Mr wk ∧ ∃ st : Int, im_i Mc 23 6 = iZ st ∧ -99 ≤ st ∧ st ≤ 99
theorem STf_fr {A1 A2 : Nat} {F1 F2 : List (Nat × Nat)} {Mc Mc' Mr Mr' : im_M} {wk : Option Nat} {n : Nat} (h1 : fr A1 F1 Mc Mc') (h2 : fr A2 F2 Mr Mr') (c1 : clr A1 F1 [24, 25] [(23, 0), (23, 1), (23, 2), (23, 4), (23, 5), (23, 6), (23, 8)] [] = true) (c2 : clr A2 F2 [81, 83] [] [] = true) (q : STf Mc Mr wk n) : STf Mc' Mr' wk n := by
  cases wk with
  | none =>
    unfold STf KD FB FG at q ⊢
    rw [clr_a c1 h1 (a := 25) (by decide), clr_f c1 h1 (a := 23) (k := 0) (by decide), clr_f c1 h1 (a := 23) (k := 1) (by decide), clr_f c1 h1 (a := 23) (k := 2) (by decide), clr_f c1 h1 (a := 23) (k := 4) (by decide), clr_f c1 h1 (a := 23) (k := 5) (by decide), clr_f c1 h1 (a := 23) (k := 6) (by decide), clr_f c1 h1 (a := 23) (k := 8) (by decide), clr_a c2 h2 (a := 81) (by decide), clr_a c2 h2 (a := 83) (by decide)]
    exact q
  | some w =>
    unfold STf KD FB FG FK at q ⊢
    rw [clr_a c1 h1 (a := 24) (by decide), clr_a c1 h1 (a := 25) (by decide), clr_f c1 h1 (a := 23) (k := 0) (by decide), clr_f c1 h1 (a := 23) (k := 1) (by decide), clr_f c1 h1 (a := 23) (k := 2) (by decide), clr_f c1 h1 (a := 23) (k := 4) (by decide), clr_f c1 h1 (a := 23) (k := 5) (by decide), clr_f c1 h1 (a := 23) (k := 6) (by decide), clr_f c1 h1 (a := 23) (k := 8) (by decide), clr_a c2 h2 (a := 81) (by decide), clr_a c2 h2 (a := 83) (by decide)]
    exact q
/-- home and texts -/
def STt (Mc Mr : im_M) : Prop := (∀ k, k < 4 → im_i Mr 80 k = im_i Mc 18 k) ∧ TXR (im_i Mc 18) ∧ im_i Mr 71 22 = im_i Mc 17 0 ∧ im_i Mr 71 23 = im_i Mc 17 1
theorem STt_fr {A1 A2 : Nat} {F1 F2 : List (Nat × Nat)} {Mc Mc' Mr Mr' : im_M} (h1 : fr A1 F1 Mc Mc') (h2 : fr A2 F2 Mr Mr') (c1 : clr A1 F1 [17, 18] [] [] = true) (c2 : clr A2 F2 [80] [(71, 22), (71, 23)] [] = true) (q : STt Mc Mr) : STt Mc' Mr' := by
  unfold STt at q ⊢
  rw [clr_a c1 h1 (a := 17) (by decide), clr_a c1 h1 (a := 18) (by decide), clr_a c2 h2 (a := 80) (by decide), clr_f c2 h2 (a := 71) (k := 22) (by decide), clr_f c2 h2 (a := 71) (k := 23) (by decide)]
  exact q
/-- the draft, both sides -/
def STd (Mc Mr : im_M) (Fs : List FDt) : Prop := DRA Mc Fs ∧ TRA Mr Fs ∧ im_i Mr 71 26 = nI (drL 0 Fs).length ∧ (drL 0 Fs).length ≤ 120 ∧ Fs.length ≤ (drL 0 Fs).length
theorem STd_fr {A1 A2 : Nat} {F1 F2 : List (Nat × Nat)} {Mc Mc' Mr Mr' : im_M} {Fs : List FDt} (h1 : fr A1 F1 Mc Mc') (h2 : fr A2 F2 Mr Mr') (c1 : clr A1 F1 [21, 22] [(19, 3)] [] = true) (c2 : clr A2 F2 [82, 84] [(71, 25), (71, 26)] [] = true) (q : STd Mc Mr Fs) : STd Mc' Mr' Fs := by
  unfold STd DRA TRA at q ⊢
  rw [clr_a c1 h1 (a := 21) (by decide), clr_a c1 h1 (a := 22) (by decide), clr_f c1 h1 (a := 19) (k := 3) (by decide), clr_a c2 h2 (a := 82) (by decide), clr_a c2 h2 (a := 84) (by decide), clr_f c2 h2 (a := 71) (k := 25) (by decide), clr_f c2 h2 (a := 71) (k := 26) (by decide)]
  exact q
/-- the label's size and copies -/
def STs (Mc Mr : im_M) (W H C : Nat) : Prop := (im_i Mc 15 10 = nI W ∧ im_i Mr 71 19 = nI W ∧ 1 ≤ W ∧ W ≤ 512) ∧ (im_i Mc 15 11 = nI H ∧ im_i Mr 71 20 = nI H ∧ 1 ≤ H ∧ H ≤ 512) ∧ im_i Mc 15 12 = nI C ∧ im_i Mr 71 21 = nI C ∧ 1 ≤ C ∧ C ≤ 12
theorem STs_fr {A1 A2 : Nat} {F1 F2 : List (Nat × Nat)} {Mc Mc' Mr Mr' : im_M} {W H C : Nat} (h1 : fr A1 F1 Mc Mc') (h2 : fr A2 F2 Mr Mr') (c1 : clr A1 F1 [] [(15, 10), (15, 11), (15, 12)] [] = true) (c2 : clr A2 F2 [] [(71, 19), (71, 20), (71, 21)] [] = true) (q : STs Mc Mr W H C) : STs Mc' Mr' W H C := by
  unfold STs at q ⊢
  rw [clr_f c1 h1 (a := 15) (k := 10) (by decide), clr_f c1 h1 (a := 15) (k := 11) (by decide), clr_f c1 h1 (a := 15) (k := 12) (by decide), clr_f c2 h2 (a := 71) (k := 19) (by decide), clr_f c2 h2 (a := 71) (k := 20) (by decide), clr_f c2 h2 (a := 71) (k := 21) (by decide)]
  exact q
/-- in a label -/
def STl (Mc Mr : im_M) : Prop := ∃ (Fs : List FDt) (W H C n : Nat) (wk : Option Nat), STd Mc Mr Fs ∧ STs Mc Mr W H C ∧ STt Mc Mr ∧ STf Mc Mr wk n
theorem STl_fr {A1 A2 : Nat} {F1 F2 : List (Nat × Nat)} {Mc Mc' Mr Mr' : im_M} (h1 : fr A1 F1 Mc Mc') (h2 : fr A2 F2 Mr Mr') (c1 : clr A1 F1 [17, 18, 21, 22, 24, 25] [(15, 10), (15, 11), (15, 12), (19, 3), (23, 0), (23, 1), (23, 2), (23, 4), (23, 5), (23, 6), (23, 8)] [] = true) (c2 : clr A2 F2 [80, 81, 82, 83, 84] [(71, 19), (71, 20), (71, 21), (71, 22), (71, 23), (71, 25), (71, 26)] [] = true) (d1 : clr A1 F1 [21, 22] [(19, 3)] [] = true := by decide +kernel) (d2 : clr A2 F2 [82, 84] [(71, 25), (71, 26)] [] = true := by decide +kernel) (d3 : clr A1 F1 [] [(15, 10), (15, 11), (15, 12)] [] = true := by decide +kernel) (d4 : clr A2 F2 [] [(71, 19), (71, 20), (71, 21)] [] = true := by decide +kernel) (d5 : clr A1 F1 [17, 18] [] [] = true := by decide +kernel) (d6 : clr A2 F2 [80] [(71, 22), (71, 23)] [] = true := by decide +kernel) (d7 : clr A1 F1 [24, 25] [(23, 0), (23, 1), (23, 2), (23, 4), (23, 5), (23, 6), (23, 8)] [] = true := by decide +kernel) (d8 : clr A2 F2 [81, 83] [] [] = true := by decide +kernel) (q : STl Mc Mr) : STl Mc' Mr' := by
  obtain ⟨Fs, W, H, C, n, wk, a, b, c, d⟩ := q
  exact ⟨Fs, W, H, C, n, wk, STd_fr h1 h2 d1 d2 a, STs_fr h1 h2 d3 d4 b, STt_fr h1 h2 d5 d6 c, STf_fr h1 h2 d7 d8 d⟩
def insI (b : Bool) : Int32 := if b = true then 1 else 0
/-- all of it but the cursors and the number of commands -/
def ST (Mc Mr : im_M) (b : Bool) : Prop := im_i Mc 15 8 = insI b ∧ im_i Mr 71 18 = insI b ∧ VV Mc Mr ∧ TB Mc ∧ (∃ LL A, STg Mc Mr LL A) ∧ (b = true → STl Mc Mr)
/-- what the cursors and numbers touch -/
theorem ST_fr {Mc Mc' Mr Mr' : im_M} {b : Bool} (h1 : fr (2 ^ 7 ||| 2 ^ 8 ||| 2 ^ 9 ||| 2 ^ 10 ||| 2 ^ 26 ||| 2 ^ 27) [(1, 6), (1, 11), (15, 7), (15, 9), (15, 15), (15, 16), (23, 9)] Mc Mc') (h2 : fr (2 ^ 77 ||| 2 ^ 78 ||| 2 ^ 79) [(71, 8), (71, 9), (71, 10), (71, 11), (71, 12), (71, 13), (71, 14), (71, 17)] Mr Mr') (q : ST Mc Mr b) : ST Mc' Mr' b := by
  obtain ⟨a1, a2, a3, a4, ⟨LL, A, a5⟩, a6⟩ := q
  exact ⟨(h1.1 15 8 (by decide) (by decide)).trans a1, (h2.1 71 18 (by decide) (by decide)).trans a2, VV_fr h1 h2 (by decide +kernel) (by decide +kernel) a3, TB_fr h1 (by decide +kernel) a4, ⟨LL, A, STg_fr h1 h2 (by decide +kernel) (by decide +kernel) a5⟩, fun z => STl_fr h1 h2 (by decide +kernel) (by decide +kernel) (q := a6 z)⟩
/-! WHETHER A COMMAND CAN STAND, BOTH SIDES -/
theorem two_stand {Mc Mr : im_M} {b : Bool} {d w : Nat} (hw : w < 23) (hS : ST Mc Mr b) (h6 : im_i Mc 1 6 = nI d) (h9 : im_i Mr 71 9 = nI d) (hd : d < 100) : ∃ x : Int32, f_HSetter_canStand (nI w) Mc = some x ∧ f_MScriptRows_mayStand (lc w) Mr = some x ∧ ((x = 0) ∨ (x = 1 ∧ (b = false → w = 0 ∨ w = 1 ∨ w = 2) ∧ (b = true → ¬ w = 0 ∧ ¬ w = 1) ∧ (w = 3 → d = 0) ∧ (w = 22 → ¬ im_i Mc 23 2 = -1))) := by
  obtain ⟨a1, a2, _, _, _, hl⟩ := hS
  have kk : ∀ z : Nat, z < 100 → (nI w = nI z) = (w = z) := fun z hz => nIe (by omega) (by omega)
  have k0 : (nI w = 0) = (w = 0) := kk 0 (by omega)
  have k1 : (nI w = 1) = (w = 1) := kk 1 (by omega)
  have k2 : (nI w = 2) = (w = 2) := kk 2 (by omega)
  have k3 : (nI w = 3) = (w = 3) := kk 3 (by omega)
  have k22 : (nI w = 22) = (w = 22) := kk 22 (by omega)
  have d0 : (nI d = 0) = (d = 0) := nIe (c := 0) (by omega) (by omega)
  have e0 : (nI d ≤ 0) = (d = 0) := by
    have : (nI d ≤ 0) = (d ≤ 0) := nIl (c := 0) (by omega) (by omega)
    rw [this]
    apply propext
    omega
  have t := lc_84 ⟨w, hw⟩
  replace t : (lc w = 84 ↔ w = 13) ∧ (lc w = 75 ↔ w = 2) ∧ (lc w = 88 ↔ w = 10) ∧ (lc w = 83 ↔ w = 0) ∧ (lc w = 59 ↔ w = 22) ∧ (lc w = 85 ↔ w = 7) ∧ (lc w = 69 ↔ w = 3) ∧ (lc w = 76 ↔ w = 1) ∧ (lc w = 86 ↔ w = 11) := t
  obtain ⟨_, t75, _, t83, t59, _, t69, t76, _⟩ := t
  have c0 : Int32.toNatClampNeg 0 = 0 := rfl
  unfold f_HSetter_canStand f_MScriptRows_mayStand
  simp only [k0, k1, k2, k3, k22, a1, a2, h6, h9, d0, e0, t75, t83, t59, t69, t76, jn0, c0]
  cases b with
  | false =>
    rw [show insI false = 0 from rfl]
    by_cases w0 : w = 0
    · exact ⟨1, by simp [w0], by simp [w0], Or.inr ⟨rfl, fun _ => Or.inl w0, (fun z => by cases z), by omega, by omega⟩⟩
    · by_cases w1 : w = 1
      · exact ⟨1, by simp [w1], by simp [w1], Or.inr ⟨rfl, fun _ => Or.inr (Or.inl w1), (fun z => by cases z), by omega, by omega⟩⟩
      · by_cases w2 : w = 2
        · exact ⟨1, by simp [w2], by simp [w2], Or.inr ⟨rfl, fun _ => Or.inr (Or.inr w2), (fun z => by cases z), by omega, by omega⟩⟩
        · refine ⟨0, ?_, ?_, Or.inl rfl⟩
          · rw [if_neg (by omega), if_neg w2]
            by_cases w3 : w = 3
            · simp [w3]
            · rw [if_neg w3]
              by_cases w22 : w = 22
              · simp [w22]
              · rw [if_neg w22, gd_pos (Or.inl rfl)]
          · simp [w0, w1, w2]
  | true =>
    obtain ⟨Fs, W, H, C, n, wk, _, _, _, hf⟩ := hl rfl
    have hk : (im_i Mc 23 2 = -1) = (im_i Mr 81 0 = -1) := by
      have := hf.2.2.1
      cases wk with
      | none => rw [this.1, this.2]
      | some v =>
        obtain ⟨e1, e2, _⟩ := FK_k this
        rw [e1, e2]
    rw [show insI true = 1 from rfl]
    simp only [← hk]
    have ne : ¬ (1 : Int32) = 0 := by decide
    by_cases w0 : w = 0
    · exact ⟨0, by simp [w0], by simp [w0], Or.inl rfl⟩
    · by_cases w1 : w = 1
      · exact ⟨0, by simp [w1], by simp [w1], Or.inl rfl⟩
      · have nw : ∀ x y : Option Int32, (if w = 0 ∨ w = 1 then x else y) = y := fun x y => if_neg (by omega)
        by_cases w3 : w = 3
        · by_cases dz : d = 0
          · exact ⟨1, by simp [w3, dz], by simp [w3, dz], Or.inr ⟨rfl, (fun z => by cases z), fun _ => ⟨w0, w1⟩, fun _ => dz, by omega⟩⟩
          · exact ⟨0, by simp [w3, dz], by simp [w3, dz], Or.inl rfl⟩
        · by_cases w22 : w = 22
          · by_cases kz : im_i Mc 23 2 = -1
            · exact ⟨0, by simp [w22, kz], by rw [gd_pos (by decide)]; simp [w22, kz], Or.inl rfl⟩
            · exact ⟨1, by simp [w22, kz], by rw [gd_pos (by decide)]; simp [w22, kz], Or.inr ⟨rfl, (fun z => by cases z), fun _ => ⟨w0, w1⟩, by omega, fun _ => kz⟩⟩
          · refine ⟨1, ?_, ?_, Or.inr ⟨rfl, (fun z => by cases z), fun _ => ⟨w0, w1⟩, by omega, by omega⟩⟩
            · rw [nw]
              by_cases w2 : w = 2
              · rw [if_pos w2]
              · rw [if_neg w2, if_neg w3, if_neg w22, gd_pos (Or.inr trivial)]
            · simp [w0, w1, w3, w22]
