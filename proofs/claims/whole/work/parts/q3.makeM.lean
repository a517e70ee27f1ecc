/-! THE SYMBOL MADE, BY BOTH -/
def RMI (M0 M : im_M) (n W : Nat) (B : Nat → Nat) (s : GS) : Prop := im_i M 108 8 = nI n ∧ (∀ k, k < W → B k < 256 ∧ im_i M 120 k = nI (B k)) ∧ EQg n (fun x y => isF n 0 x y ∨ s.2 (177 * y + x) = 0) s (im_i M 112, im_i M 113) ∧ fr (2 ^ 112 ||| 2 ^ 113) [] M0 M
theorem dec_bI : ∀ b : Bool, decide (bI b = 1) = b := by decide +kernel
theorem s_maskR {M0 M : im_M} {n W k num : Nat} {B : Nat → Nat} {s : GS} {G4 : Nat → Int32} (h : RMI M0 M n W B s) (hn : 21 ≤ n ∧ n ≤ 177 ∧ n % 2 = 1) (hW : W ≤ 3706) (hF : FFx n s) (ho : okG n s) (h6 : ∀ y, y < n → fxd n 6 y s) (hk : num < 32) (hG : G4 = (allC n s.2 (fun c _ _ => bI (bitC B W c)) (s.1, 0)).1) : ed (bd1 (f_MSquareRows_layForm (nI num) M) fun M37 => f_MSquareRows_goThrough (nI k) 0 (nI W) M37) (fun R => RMI M0 R n W B s ∧ ∀ x y, x < n → y < n → im_i R 112 (177 * y + x) = bI (gK n s G4 (fmW num) k x y)) := by
  obtain ⟨h1, h2, h3, h4⟩ := h
  have n2 : 21 ≤ n ∧ n ≤ 177 := ⟨hn.1, hn.2.1⟩
  have F0 : FFx n (im_i M 112, im_i M 113) := fun x y hx hy hf => by
    rw [← (h3 x y hx hy).1]
    exact hF x y hx hy hf
  apply bd1_mk
  refine ed_mono (s_formR (k := num) (s := (im_i M 112, im_i M 113)) ⟨h1, rfl, rfl, h4⟩ n2 hk) ?_
  rintro M37 ⟨r1, r2, r3, r4⟩
  have eqR := fm_allU (w := fmW num) n2.2 h3
  generalize fmW num = w at *
  have f113 : im_i M37 113 = im_i M 113 := by rw [r3, fm_2 n2 F0]
  have b37 : ∀ k, k < W → B k < 256 ∧ im_i M37 120 k = nI (B k) := fun k hk => ⟨(h2 k hk).1, by
    have e1 := r4.1 120 k (by decide) (by simp)
    have e2 := h4.1 120 k (by decide) (by simp)
    rw [e1, ← e2]
    exact (h2 k hk).2⟩
  refine ed_mono (s_through (M0 := M37) (M := M37) (m := k) (F := im_i M37 113) (G := im_i M37 112) ⟨r1, rfl, b37, rfl, fr_refl⟩ hn hW) ?_
  rintro R ⟨g1, g2, g3, g4, g5⟩
  have ok := fm_ok (w := w) n2.2 ho
  have reg : ∀ x y, x < n → y < n → s.2 (177 * y + x) = im_i M37 113 (177 * y + x) := fun x y hx hy => by rw [f113]; exact (h3 x y hx hy).1
  have rel := all_rel (m := k) (B := B) (W := W) (G := s.1) (G' := im_i M37 112) hn reg (fun y hy => by
    have := h6 y hy
    unfold fxd at this
    rw [this]
    decide)
  have vals : ∀ x y, x < n → y < n → im_i R 112 (177 * y + x) = bI (gK n s G4 w k x y) := fun x y hx hy => by
    rw [g4]
    unfold gK
    by_cases z : s.2 (177 * y + x) = 0
    · obtain ⟨b, e1, e2⟩ := rel x y hx hy z
      rw [if_pos z, e2, hG, e1, dec_bI]
    · rw [if_neg z, all_fix _ (by rw [← reg x y hx hy]; exact z), r2, ← (eqR x y hx hy).2 z]
      exact bI_d (ok x y hx hy).1
  refine ⟨⟨g1, g3, fun x y hx hy => ⟨?_, fun z => ?_⟩, fr_tr (fr_mono (by decide) (by simp) g5) r4⟩, vals⟩
  · show _ = im_i R 113 _
    rw [g2]
    exact reg x y hx hy
  · show _ = im_i R 112 _
    have z1 : ¬ s.2 (177 * y + x) = 0 := fun u => z (Or.inr u)
    have z2 : ¬ isF n 0 x y := fun u => z (Or.inl u)
    rw [vals x y hx hy]
    unfold gK
    rw [if_neg z1, ← bI_d (ok x y hx hy).1, (fm_o n2.2 hF hx hy).2 z2]
theorem fn_t {M : im_M} (l : Fin 4) (k : Nat) : f_MSquareRows_formNumber (nI l.val) (nI k) M = some (nI (8 * (l.val ^^^ 1) + k)) := by
  have e : ((8 : Int32) * ((if ¬ nI l.val = 0 then (if ¬ nI l.val = 1 then (if ¬ nI l.val = 2 then 2 else 3) else 0) else 1) : Int32)) = nI (8 * (l.val ^^^ 1)) := by
    revert l
    decide +kernel
  unfold f_MSquareRows_formNumber
  rw [e, nI_add]
theorem num_32 : ∀ (l : Fin 4) (k : Fin 8), 8 * (l.val ^^^ 1) + k.val < 32 := by decide
noncomputable def bsK (n l : Nat) (s : GS) (G4 : Nat → Int32) (mz : Int) : Nat := if mz < 0 then (bmF (pnK n l s G4) 8).1 else mz.toNat
theorem s_masksR {M0 M : im_M} {n W l : Nat} {B : Nat → Nat} {s : GS} {G4 : Nat → Int32} {mz : Int} {vv : Int32} (h : RMI M0 M n W B s) (hn : 21 ≤ n ∧ n ≤ 177 ∧ n % 2 = 1) (hW : W ≤ 3706) (hF : FFx n s) (ho : okG n s) (h6 : ∀ y, y < n → fxd n 6 y s) (hl : l < 4) (hG : G4 = (allC n s.2 (fun c _ _ => bI (bitC B W c)) (s.1, 0)).1) (hm : -1 ≤ mz ∧ mz ≤ 7) : ed (lp (uc4 (f_MSquareRows_make_L105 (nI l) (iZ mz) vv (nI W))) (iZ mz, (-1), 0, M)) (fun r => r.1 = nI (bsK n l s G4 mz) ∧ RMI M0 r.2.2 n W B s) := by
  have n2 : 21 ≤ n ∧ n ≤ 177 := ⟨hn.1, hn.2.1⟩
  have pb : ∀ k, pnK n l s G4 k < 100000000 := fun k => pnK_b n2
  have kz : (iZ mz < 0) = (mz < 0) := iZ_lt (b := 0) (by omega) (by omega)
  have work : ∀ (k : Nat) (N : im_M), k < 8 → RMI M0 N n W B s → ∃ N1 N2, f_MSquareRows_formNumber (nI l) (nI k) N = some (nI (8 * (l ^^^ 1) + k)) ∧ f_MSquareRows_layForm (nI (8 * (l ^^^ 1) + k)) N = some N1 ∧ f_MSquareRows_goThrough (nI k) 0 (nI W) N1 = some N2 ∧ f_MSquareRows_penalty N2 = some (nI (pnK n l s G4 k)) ∧ RMI M0 N2 n W B s := fun k N hk hN => by
    obtain ⟨R, hR, r1, r2⟩ := s_maskR (k := k) hN hn hW hF ho h6 (num_32 ⟨l, hl⟩ ⟨k, hk⟩) hG
    obtain ⟨N1, e1, e2⟩ : ∃ N1, f_MSquareRows_layForm (nI (8 * (l ^^^ 1) + k)) N = some N1 ∧ f_MSquareRows_goThrough (nI k) 0 (nI W) N1 = some R := by
      cases z : f_MSquareRows_layForm (nI (8 * (l ^^^ 1) + k)) N with
      | none => rw [z] at hR; cases hR
      | some N1 => rw [z] at hR; exact ⟨N1, rfl, hR⟩
    have og : ofG (fun x y => (gK n s G4 (fmW (8 * (l ^^^ 1) + k)) k x y).toNat) R 112 n := fun x y hx hy => by rw [r2 x y hx hy, bI_n]
    have pen := s_penR r1.1 og (fun x y => by have := tn_1 (gK n s G4 (fmW (8 * (l ^^^ 1) + k)) k x y); omega) ⟨by omega, n2.2⟩
    exact ⟨N1, R, fn_t ⟨l, hl⟩ k, e1, e2, pen, r1⟩
  refine lp_inv (fun m (t : Int32 × Int32 × Int32 × im_M) => ∃ k : Nat, k + m = 8 ∧ t.2.2.1 = nI k ∧ RMI M0 t.2.2.2 n W B s ∧ (mz < 0 → if k = 0 then t.2.1 = -1 else t.1 = nI (bmF (pnK n l s G4) k).1 ∧ t.2.1 = nI (bmF (pnK n l s G4) k).2) ∧ (¬ mz < 0 → t.1 = iZ mz ∧ ((k : Int) ≤ mz → t.2.1 = -1))) ?_ (k := 8) ⟨0, rfl, rfl, h, fun _ => by rw [if_pos rfl], fun _ => ⟨rfl, fun _ => rfl⟩⟩
  rintro m ⟨x22, x23, x24, M25⟩ ⟨k, hk, e3, h25, hA, hB⟩
  replace e3 : x24 = nI k := e3
  replace h25 : RMI M0 M25 n W B s := h25
  replace hA : mz < 0 → if k = 0 then x23 = -1 else x22 = nI (bmF (pnK n l s G4) k).1 ∧ x23 = nI (bmF (pnK n l s G4) k).2 := hA
  replace hB : ¬ mz < 0 → x22 = iZ mz ∧ ((k : Int) ≤ mz → x23 = -1) := hB
  subst e3
  show ed (f_MSquareRows_make_L105 (nI l) (iZ mz) vv (nI W) x22 x23 (nI k) M25) _
  unfold f_MSquareRows_make_L105
  have k8 : ((8 : Int32) ≤ nI k) = (8 ≤ k) := nIl (x := 8) (by omega) (by omega)
  simp only [k8, kz, jn0]
  by_cases c8 : 8 ≤ k
  · rw [if_pos c8]
    obtain rfl : k = 8 := by omega
    refine lpo_r ⟨?_, h25⟩
    show x22 = _
    unfold bsK
    by_cases z : mz < 0
    · have := hA z
      rw [if_neg (by omega)] at this
      rw [if_pos z]
      exact this.1
    · rw [if_neg z, (hB z).1, iZ_nI]
      congr 1
      omega
  · rw [if_neg c8]
    obtain ⟨N1, N2, q1, q2, q3, q4, q5⟩ := work k M25 (by omega) h25
    have pk := pb k
    have b := bmF_b pb k
    have un : bmF (pnK n l s G4) (k + 1) = if pnK n l s G4 k < (bmF (pnK n l s G4) k).2 then (k, pnK n l s G4 k) else bmF (pnK n l s G4) k := rfl
    have en : nI k + 1 = nI (k + 1) := nI_add k 1
    by_cases z : mz < 0
    · have hA' := hA z
      rw [if_pos z, q1, bd1_s, q2, bd1_s, q3, bd1_s, q4, bd1_s]
      by_cases k0 : k = 0
      · rw [if_pos k0] at hA'
        rw [hA', if_pos (by decide), bd3_s, en]
        refine lpo_l (m - 1) (by omega) ⟨k + 1, by omega, rfl, q5, fun _ => ?_, fun y => absurd z y⟩
        rw [if_neg (by omega), un]
        have c : pnK n l s G4 k < (bmF (pnK n l s G4) k).2 := by
          rw [k0] at pk ⊢
          show pnK n l s G4 0 < 1073741824
          omega
        rw [if_pos c]
        exact ⟨rfl, rfl⟩
      · rw [if_neg k0] at hA'
        obtain ⟨a1, a2⟩ := hA'
        have b3 := b.2.2 (by omega)
        rw [a1, a2, if_neg (nI_pos (by omega)), if_nIl (by omega) (by omega)]
        by_cases c : (bmF (pnK n l s G4) k).2 ≤ pnK n l s G4 k
        · rw [if_pos c, bd3_s, en]
          refine lpo_l (m - 1) (by omega) ⟨k + 1, by omega, rfl, q5, fun _ => ?_, fun y => absurd z y⟩
          rw [if_neg (by omega), un, if_neg (by omega)]
          exact ⟨rfl, rfl⟩
        · rw [if_neg c, bd3_s, en]
          refine lpo_l (m - 1) (by omega) ⟨k + 1, by omega, rfl, q5, fun _ => ?_, fun y => absurd z y⟩
          rw [if_neg (by omega), un, if_pos (by omega)]
          exact ⟨rfl, rfl⟩
    · obtain ⟨a1, a2⟩ := hB z
      have ke : (iZ mz = nI k) = (mz = (k : Int)) := by rw [iZ_nI, iZ_eq (by omega) (by omega)]
      rw [if_neg z]
      simp only [ke]
      by_cases c : mz = (k : Int)
      · rw [if_neg (fun y => y c), q1, bd1_s, q2, bd1_s, q3, bd1_s, q4, bd1_s, a2 (by omega), if_pos (by decide), bd3_s, en]
        refine lpo_l (m - 1) (by omega) ⟨k + 1, by omega, rfl, q5, fun y => absurd y z, fun _ => ⟨?_, fun y => by omega⟩⟩
        show nI k = iZ mz
        rw [c, iZ_nI]
      · rw [if_pos c, bd3_s, en]
        exact lpo_l (m - 1) (by omega) ⟨k + 1, by omega, rfl, h25, fun y => absurd y z, fun _ => ⟨a1, fun y => a2 (by omega)⟩⟩
