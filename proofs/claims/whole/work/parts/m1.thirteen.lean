/-! THIRTEEN FIGURES, LAID BY THE CLASS -/
def sF (g : Nat → Nat) : Nat → Nat
  | 0 => 0
  | n + 1 => sF g n + (if n % 2 = 0 then 1 else 3) * g n
theorem sF_le {g : Nat → Nat} (hg : ∀ i, i < 12 → g i < 10) : ∀ n, n ≤ 12 → sF g n ≤ 27 * n := by
  intro n
  induction n with
  | zero => intro _; exact Nat.le_refl _
  | succ n ih =>
    intro h
    have := ih (by omega)
    have := hg n (by omega)
    show sF g n + (if n % 2 = 0 then 1 else 3) * g n ≤ _
    split <;> omega
def ckF (g : Nat → Nat) : Nat := (10 - sF g 12 % 10) % 10
def gF (g : Nat → Nat) (i : Nat) : Nat := if i < 12 then g i else ckF g
theorem gF_10 {g : Nat → Nat} (hg : ∀ i, i < 12 → g i < 10) (i : Nat) : gF g i < 10 := by
  unfold gF
  split
  · exact hg i (by omega)
  · unfold ckF; omega
/-- figure i (0 to 12) is turned -/
def tuF (g : Nat → Nat) (i : Nat) : Bool := decide (i < 7) && ib (xa_4 (nI (g 0))) (6 - i)
def paF (g : Nat → Nat) (i : Nat) : Nat := if tuF g i = true then (xa_5 (nI (gF g i))).toNatClampNeg else (xa_6 (nI (gF g i))).toNatClampNeg
theorem paF_ok {g : Nat → Nat} (hg : ∀ i, i < 12 → g i < 10) (i : Nat) : okt 4 (paF g i) = true ∧ paF g i < 10000 := by
  obtain ⟨a1, a2, a3, a4, a5, a6, a7, a8⟩ := tab_f ⟨gF g i, gF_10 hg i⟩
  unfold paF
  split
  · exact ⟨a6, okt_lt a6⟩
  · exact ⟨a4, okt_lt a4⟩
def nW (j : Nat) : Nat := 3 + 4 * j + (if 6 < j then 5 else 0)
def nR (j : Nat) : Nat := 3 + 4 * j + (if 6 ≤ j then 5 else 0)
def figW (g : Nat → Nat) : Nat → Nat → Nat
  | 0 => app (fun _ => 0) 0 (dig 3 111)
  | j + 1 => app (if j = 6 then app (figW g j) (nW j) (dig 5 11111) else figW g j) (nR j) (dig 4 (paF g (j + 1)))
def figR (g : Nat → Nat) (j : Nat) : Nat → Nat := if j = 6 then app (figW g j) (nW j) (dig 5 11111) else figW g j
def figV (g : Nat → Nat) : Nat → Nat := app (figW g 12) 56 (dig 3 111)
theorem app_p {V U : Nat → Nat} {n d : Nat} (hV : ∀ i, i < n → 1 ≤ V i ∧ V i ≤ 9) (hU : ∀ i, i < d → 1 ≤ U i ∧ U i ≤ 9) : ∀ i, i < n + d → 1 ≤ app V n U i ∧ app V n U i ≤ 9 := fun i hi => by
  unfold app
  by_cases c : i < n
  · rw [if_pos c]; exact hV i c
  · rw [if_neg c]; exact hU (i - n) (by omega)
theorem ok_dig {d P : Nat} (h : okt d P = true) : ∀ i, i < d → 1 ≤ dig d P i ∧ dig d P i ≤ 9 := fun i hi => by
  have := (okt_1 h).2 i hi
  omega
theorem figW_p {g : Nat → Nat} (hg : ∀ i, i < 12 → g i < 10) : ∀ j, j ≤ 12 → ∀ i, i < nW j → 1 ≤ figW g j i ∧ figW g j i ≤ 9 := by
  intro j
  induction j with
  | zero =>
    intro _ i hi
    exact app_p (n := 0) (d := 3) (fun i hi => absurd hi (Nat.not_lt_zero _)) (ok_dig (by decide)) i hi
  | succ j ih =>
    intro hj i hi
    have h0 := ih (by omega)
    have h4 := ok_dig (paF_ok hg (j + 1)).1
    show 1 ≤ app (if j = 6 then app (figW g j) (nW j) (dig 5 11111) else figW g j) (nR j) (dig 4 (paF g (j + 1))) i ∧ app (if j = 6 then app (figW g j) (nW j) (dig 5 11111) else figW g j) (nR j) (dig 4 (paF g (j + 1))) i ≤ 9
    have hn : nW (j + 1) = nR j + 4 := by unfold nW nR; split <;> split <;> omega
    rw [hn] at hi
    refine app_p (fun i hi => ?_) h4 i hi
    by_cases c : j = 6
    · subst c
      rw [if_pos rfl]
      exact app_p (n := nW 6) (d := 5) h0 (ok_dig (by decide)) i hi
    · rw [if_neg c]
      have : nR j = nW j := by unfold nW nR; split <;> split <;> omega
      exact h0 i (by omega)
theorem figV_p {g : Nat → Nat} (hg : ∀ i, i < 12 → g i < 10) : ∀ i, i < 59 → 1 ≤ figV g i ∧ figV g i ≤ 9 := app_p (n := 56) (d := 3) (figW_p hg 12 (by omega)) (ok_dig (by decide))
theorem s_checkC {M : im_M} {g : Nat → Nat} (hg : ∀ i, i < 12 → g i < 10 ∧ im_i M 37 i = nI (g i)) : f_HBars_checkFigure M = some (nI (ckF g)) := by
  have hg2 : ∀ i, i < 12 → g i < 10 := fun i hi => (hg i hi).1
  have run : ed (lp (uc2 (f_HBars_checkFigure_L4 M)) (0, 0)) (fun r => r = nI (sF g 12)) := by
    refine lp_inv (fun m (s : Int32 × Int32) => ∃ i : Nat, i + m = 12 ∧ s.1 = nI (sF g i) ∧ s.2 = nI i) ?_ (k := 12) ⟨0, rfl, rfl, rfl⟩
    rintro m ⟨x2, x3⟩ ⟨i, hi, e1, e2⟩
    replace e1 : x2 = nI (sF g i) := e1
    replace e2 : x3 = nI i := e2
    subst e1 e2
    show ed (f_HBars_checkFigure_L4 M (nI (sF g i)) (nI i)) _
    unfold f_HBars_checkFigure_L4
    have k0 : ((12 : Int32) ≤ nI i) = (12 ≤ i) := nIl (x := 12) (by omega) (by omega)
    simp only [k0]
    by_cases c : 12 ≤ i
    · rw [if_pos c]
      obtain rfl : i = 12 := by omega
      exact lpo_r rfl
    · have o0 : (nI (i % 2) = 0) = (i % 2 = 0) := nIe (c := 0) (by omega) (by omega)
      rw [if_neg c, nI_odd (by omega)]
      simp only [o0]
      rw [gd_pos (by rw [inb_nI (by omega)]; omega), gd_pos (by rw [inb_nI (by omega)]; omega), nI_clamp (by omega), (hg i (by omega)).2, nI_m]
      by_cases d : i % 2 = 0
      · rw [if_neg (fun z => z d), bd1_s]
        refine lpo_l (m - 1) (by omega) ⟨i + 1, by omega, ?_, nI_add i 1⟩
        show nI (sF g i) + nI (g i) = nI (sF g i + (if i % 2 = 0 then 1 else 3) * g i)
        rw [if_pos d, Nat.one_mul, nI_add]
      · rw [if_pos d, bd1_s]
        refine lpo_l (m - 1) (by omega) ⟨i + 1, by omega, ?_, nI_add i 1⟩
        show nI (sF g i) + nI (3 * g i) = nI (sF g i + (if i % 2 = 0 then 1 else 3) * g i)
        rw [if_neg d, nI_add]
  obtain ⟨r, hr, rfl⟩ := run
  have sl := sF_le hg2 12 (by omega)
  unfold f_HBars_checkFigure
  rw [hr, bd1_s]
  have r1 : nI (sF g 12) - nI (sF g 12) / 10 * 10 = nI (sF g 12 % 10) := nI_rem (b := 10) (by omega) (by omega) (by omega)
  have r2 : (10 : Int32) - nI (sF g 12 % 10) = nI (10 - sF g 12 % 10) := nI_sb (a := 10) (by omega)
  have r3 : nI (10 - sF g 12 % 10) - nI (10 - sF g 12 % 10) / 10 * 10 = nI ((10 - sF g 12 % 10) % 10) := nI_rem (b := 10) (by omega) (by omega) (by omega)
  rw [r1, r2, r3]
  rfl
theorem s_layFigures {M : im_M} {k : Nat} {g : Nat → Nat} (hk : k < 120) (hg : ∀ i, i < 12 → g i < 10 ∧ im_i M 14 (200 * k + i) = nI (48 + g i)) : ed (f_HBars_layFigures (nI k * 200) M) (fun R => BRW R 59 (figV g) ∧ fr (2 ^ 33 ||| 2 ^ 37) [(31, 2)] M R) := by
  have hg2 : ∀ i, i < 12 → g i < 10 := fun i hi => (hg i hi).1
  have ek : nI k * 200 = nI (200 * k) := by rw [show (200 : Int32) = nI 200 from rfl, nI_mul, Nat.mul_comm]
  rw [ek]
  unfold f_HBars_layFigures
  apply bd1_mk
  refine ed_mono (lp_inv (fun m (s : Int32 × im_M) => ∃ i : Nat, i + m = 12 ∧ s.1 = nI i ∧ (∀ j, j < i → im_i s.2 37 j = nI (g j)) ∧ fr (2 ^ 37) [] M s.2) (Q := fun R => (∀ j, j < 12 → im_i R 37 j = nI (g j)) ∧ fr (2 ^ 37) [] M R) ?_ (k := 12) ⟨0, rfl, rfl, fun j hj => absurd hj (Nat.not_lt_zero _), fr_refl⟩) ?_
  · rintro m ⟨x3, M4⟩ ⟨i, hi, e1, e2, hf⟩
    replace e1 : x3 = nI i := e1
    replace e2 : ∀ j, j < i → im_i M4 37 j = nI (g j) := e2
    replace hf : fr (2 ^ 37) [] M M4 := hf
    subst e1
    show ed (f_HBars_layFigures_L2 (nI (200 * k)) (nI i) M4) _
    unfold f_HBars_layFigures_L2
    have k0 : ((12 : Int32) ≤ nI i) = (12 ≤ i) := nIl (x := 12) (by omega) (by omega)
    simp only [k0]
    by_cases c : 12 ≤ i
    · rw [if_pos c]
      obtain rfl : i = 12 := by omega
      exact lpo_r ⟨e2, hf⟩
    · have gi := hg i (by omega)
      have b : im_i M4 14 (200 * k + i) = nI (48 + g i) := (hf.1 14 _ (by decide) (by simp)).trans gi.2
      have s48 : nI (48 + g i) - 48 = nI (g i) := by rw [show (48 : Int32) = nI 48 from rfl, nI_sb (by omega), Nat.add_sub_cancel_left]
      have fm : f_Math_floorMod2 (nI (g i)) 10 M4 = some (nI (g i)) := by
        have := (by decide +kernel : ∀ d : Fin 10, (0 ≤ (nI d.val ^^^ (10 : Int32))) ∧ nI d.val - nI d.val / 10 * 10 = nI d.val) ⟨g i, gi.1⟩
        unfold f_Math_floorMod2
        rw [gd_pos (by decide), if_pos this.1, this.2]
      rw [if_neg c, nI_add, gd_pos (by rw [inb_nI (by omega)]; omega), nI_clamp (by omega), b, s48, fm, bd1_s, gd_pos (by rw [inb_nI (by omega)]; omega), nI_clamp (by omega)]
      refine lpo_l (m - 1) (by omega) ⟨i + 1, by omega, nI_add i 1, fun j hj => ?_, fr_I (by decide) hf⟩
      show im_i (im_setI M4 37 i (nI (g i))) 37 j = _
      by_cases e : j = i
      · subst e; exact hit
      · rw [sk1 (fun z => e z.2)]; exact e2 j (by omega)
  · rintro M6 ⟨h37, f6⟩
    rw [s_checkC (fun i hi => ⟨hg2 i hi, h37 i hi⟩), bd1_s, gd_pos (by decide)]
    obtain ⟨N, hN⟩ : ∃ N, N = im_setI (im_setI M6 37 (Int32.toNatClampNeg 12) (nI (ckF g))) 31 2 0 := ⟨_, rfl⟩
    have fN : fr (2 ^ 33 ||| 2 ^ 37) [(31, 2)] M N := by
      rw [hN]
      exact fr_F (by decide) (fr_I (by decide) (fr_mono (by decide) (by simp) f6))
    have n37 : ∀ j, j < 13 → im_i N 37 j = nI (gF g j) := fun j hj => by
      rw [hN, sk1 (by omega)]
      unfold gF
      by_cases c : j < 12
      · rw [if_pos c, sk1 (fun z => absurd (z.2.trans (show Int32.toNatClampNeg 12 = 12 from rfl)) (by omega))]
        exact h37 j c
      · obtain rfl : j = 12 := by omega
        rw [if_neg c]
        exact hit
    have b0 : BRW N 0 (fun _ => 0) := ⟨by rw [hN]; exact hit, by omega, fun i hi => absurd hi (Nat.not_lt_zero _)⟩
    rw [← hN]
    clear hN
    have e111 : (111 : Int32) = nI 111 := rfl
    have e100 : (100 : Int32) = nI (un10 3 0) := rfl
    rw [e111, e100]
    apply bd1_mk
    refine ed_mono (s_addWidths b0 (by omega) (by omega) (by omega)) ?_
    rintro M8 ⟨b8, f8⟩
    apply bd1_mk
    refine ed_mono (lp_inv (fun m (s : Int32 × im_M) => ∃ j : Nat, j + m = 12 ∧ s.1 = nI (j + 1) ∧ BRW s.2 (nW j) (figW g j) ∧ fr (2 ^ 33) [(31, 2)] N s.2) (Q := fun R => BRW R 56 (figW g 12) ∧ fr (2 ^ 33) [(31, 2)] N R) ?_ (k := 12) ⟨0, rfl, rfl, b8, f8⟩) ?_
    · rintro m ⟨x10, M11⟩ ⟨j, hj, e1, bj, fj⟩
      replace e1 : x10 = nI (j + 1) := e1
      replace bj : BRW M11 (nW j) (figW g j) := bj
      replace fj : fr (2 ^ 33) [(31, 2)] N M11 := fj
      subst e1
      show ed (f_HBars_layFigures_L59 (nI (j + 1)) M11) _
      unfold f_HBars_layFigures_L59
      have k0 : ((13 : Int32) ≤ nI (j + 1)) = (13 ≤ j + 1) := nIl (x := 13) (by omega) (by omega)
      have k7 : (nI (j + 1) = 7) = (j + 1 = 7) := nIe (c := 7) (by omega) (by omega)
      have l7 : ((7 : Int32) ≤ nI (j + 1)) = (7 ≤ j + 1) := nIl (x := 7) (by omega) (by omega)
      simp only [k0, k7, l7]
      by_cases c : 13 ≤ j + 1
      · rw [if_pos c]
        obtain rfl : j = 12 := by omega
        exact lpo_r ⟨bj, fj⟩
      · rw [if_neg c]
        have mid : ed (if ¬ j + 1 = 7 then some M11 else bd1 (f_HBars_addWidths 11111 10000 M11) fun (M13 : im_M) => some M13) (fun R => BRW R (nR j) (figR g j) ∧ fr (2 ^ 33) [(31, 2)] N R) := by
          unfold figR
          by_cases d : j = 6
          · subst d
            rw [if_neg (by decide), if_pos rfl]
            apply bd1_mk
            exact ed_mono (s_addWidths (d := 5) (P := 11111) bj (by decide) (by omega) (by omega)) (fun R hR => ed_mk ⟨hR.1, fr_tr hR.2 fj⟩)
          · rw [if_pos (by omega), if_neg d]
            have : nR j = nW j := by unfold nW nR; split <;> split <;> omega
            rw [this]
            exact ed_mk ⟨bj, fj⟩
        apply bd1_mk
        refine ed_mono mid ?_
        rintro M14 ⟨b14, f14⟩
        have a37 : ∀ i, i < 13 → im_i M14 37 i = nI (gF g i) := fun i hi => (f14.1 37 i (by decide) (by simp)).trans (n37 i hi)
        have g0 : im_i M14 37 (Int32.toNatClampNeg 0) = nI (g 0) := a37 0 (by omega)
        have q1 : ∀ {Z : Type} (z : Option Z), gd (inb (nI (j + 1)) 13) z = z := fun z => gd_pos (by rw [inb_nI (by omega)]; omega)
        have q2 : ∀ {Z : Type} (z : Option Z), gd (inb (nI (gF g (j + 1))) 10) z = z := fun z => gd_pos (by have := gF_10 hg2 (j + 1); rw [inb_nI (by omega)]; omega)
        have sft : (6 : Int32) - nI (j + 1) = iZ ((6 : Int) - ((j + 1 : Nat) : Int)) := by rw [iZ_nI, show (6 : Int32) = iZ 6 from rfl, iZ_sub]
        obtain ⟨a1, a2, a3, a4, a5, a6, a7, a8⟩ := tab_f ⟨gF g (j + 1), gF_10 hg2 (j + 1)⟩
        have turn : (jn0 (fun (_ : Unit) => some (0 : Int32)) fun k18 => if 7 ≤ j + 1 then k18 () else gd (inb 0 13) <| gd (inb (im_i M14 37 (Int32.toNatClampNeg 0)) 10) <| if (((xa_4 (im_i M14 37 (Int32.toNatClampNeg 0))) >>> (((6 : Int32) - nI (j + 1)) &&& 31 : Int32) : Int32) &&& 1) = 0 then k18 () else some 1) = some (if tuF g (j + 1) = true then 1 else 0) := by
          simp only [jn0]
          unfold tuF
          by_cases d : 7 ≤ j + 1
          · rw [if_pos d, decide_eq_false (by omega)]; rfl
          · rw [if_neg d, gd_pos (by decide), g0, gd_pos (by have := hg2 0 (by omega); rw [inb_nI (by omega)]; omega), sft, show (6 : Int) - ((j + 1 : Nat) : Int) = ((6 - (j + 1) : Nat) : Int) by omega]
            simp only [and1_0 (v := xa_4 (nI (g 0))) (s := 6 - (j + 1)) (by omega)]
            rw [decide_eq_true (by omega), Bool.true_and]
            cases ib (xa_4 (nI (g 0))) (6 - (j + 1)) <;> rfl
        rw [turn, bd1_s, nI_clamp (by omega), a37 (j + 1) (by omega), q1, q1, q2, q2]
        have pat : (if (if tuF g (j + 1) = true then (1 : Int32) else 0) = 0 then some (xa_6 (nI (gF g (j + 1)))) else some (xa_5 (nI (gF g (j + 1))))) = some (nI (paF g (j + 1))) := by
          unfold paF
          cases tuF g (j + 1) with
          | true => rw [if_neg (by decide), if_pos rfl]; exact congrArg some a5.symm
          | false => rw [if_pos (by decide), if_neg (by decide)]; exact congrArg some a3.symm
        rw [pat, bd1_s, show (1000 : Int32) = nI (un10 4 0) from rfl]
        have nr : nR j + 4 ≤ 900 := by unfold nR; split <;> omega
        apply bd1_mk
        refine ed_mono (s_addWidths b14 nr (by have := (paF_ok hg2 (j + 1)).2; omega) (by omega)) ?_
        rintro R ⟨bR, fR⟩
        have hn : nW (j + 1) = nR j + 4 := by unfold nW nR; split <;> split <;> omega
        refine lpo_l (m - 1) (by omega) ⟨j + 1, by omega, nI_add (j + 1) 1, ?_, fr_tr fR f14⟩
        rw [hn]
        exact bR
    · rintro M29 ⟨b29, f29⟩
      apply bd1_mk
      refine ed_mono (s_addWidths b29 (by omega) (by omega) (by omega)) ?_
      rintro R ⟨bR, fR⟩
      exact ed_mk ⟨bR, fr_tr (fr_mono (by decide) (by decide) (fr_tr fR f29)) fN⟩
