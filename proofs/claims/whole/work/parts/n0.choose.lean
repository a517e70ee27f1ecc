/-! THE SYMBOLS OF A ROW, CHOSEN BY THE CLASS -/
/-- a row q of k symbols, the next sign i, the set s -/
abbrev PS := (Nat → Nat) × Nat × Nat × Nat
def pst (t : Nat → Nat) (n : Nat) (x : PS) : PS := if n ≤ x.2.2.1 then x else if syT t n x.2.2.1 x.2.2.2 = some (lsT t n x.2.2.1 x.2.2.2) then (app x.1 x.2.1 (fun _ => lsT t n x.2.2.1 x.2.2.2), x.2.1 + 1, x.2.2.1 + ech x.2.2.2, x.2.2.2) else if lsT t n x.2.2.1 x.2.2.2 = 98 then (app (app x.1 x.2.1 (fun _ => 98)) (x.2.1 + 1) (fun _ => (syT t n x.2.2.1 (1 - x.2.2.2)).getD 0), x.2.1 + 2, x.2.2.1 + 1, x.2.2.2) else if lsT t n x.2.2.1 x.2.2.2 = 102 then (app x.1 x.2.1 (fun _ => 102), x.2.1 + 1, x.2.2.1 + 1, x.2.2.2) else (app x.1 x.2.1 (fun _ => lsT t n x.2.2.1 x.2.2.2), x.2.1 + 1, x.2.2.1, 101 - lsT t n x.2.2.1 x.2.2.2)
def itS (t : Nat → Nat) (n : Nat) (x : PS) : Nat → PS
  | 0 => x
  | j + 1 => pst t n (itS t n x j)
theorem itS_end {t : Nat → Nat} {n j : Nat} {x : PS} (h : n ≤ (itS t n x j).2.2.1) : ∀ d, itS t n x (j + d) = itS t n x j := by
  intro d
  induction d with
  | zero => rfl
  | succ d ih =>
    show pst t n (itS t n x (j + d)) = _
    rw [ih]
    unfold pst
    rw [if_pos h]
/-- the four ways of a turn -/
theorem pst_case {t : Nat → Nat} {n : Nat} {q : Nat → Nat} {k i s : Nat} (hn : n ≤ 64) (ht : ∀ i, i < n → t i ≤ 128) (hi : i < n) (hs : s < 3) : (∃ c, c < 100 ∧ lsT t n i s = c ∧ syT t n i s = some c ∧ FW t n i s = 1 + FW t n (i + ech s) s ∧ i + ech s ≤ n ∧ pst t n (q, k, i, s) = (app q k (fun _ => c), k + 1, i + ech s, s)) ∨ (∃ c, c < 96 ∧ lsT t n i s = 98 ∧ s < 2 ∧ ¬ syT t n i s = some 98 ∧ syT t n i (1 - s) = some c ∧ FW t n i s = 2 + FW t n (i + 1) s ∧ pst t n (q, k, i, s) = (app (app q k (fun _ => 98)) (k + 1) (fun _ => c), k + 2, i + 1, s)) ∨ (lsT t n i s = 102 ∧ ¬ syT t n i s = some 102 ∧ t i = 128 ∧ FW t n i s = 1 + FW t n (i + 1) s ∧ pst t n (q, k, i, s) = (app q k (fun _ => 102), k + 1, i + 1, s)) ∨ (∃ r, r < 3 ∧ r ≠ s ∧ lsT t n i s = 101 - r ∧ ¬ syT t n i s = some (101 - r) ∧ FW t n i s = 1 + FW t n i r ∧ pst t n (q, k, i, s) = (app q k (fun _ => 101 - r), k + 1, i, r)) := by
  have nn : ¬ n ≤ i := by omega
  rcases ls_case hn ht hi hs with ⟨c, hc, hsy, hf⟩ | ⟨hc, s2, ho, hf, nA⟩ | ⟨hc, h128, hf, nG⟩ | ⟨r, hr, hrs, hc, hf, nA, nB, nG⟩
  · left
    have l := syT_lt hsy
    refine ⟨c, l.1, hc, hsy, hf, ?_, ?_⟩
    · unfold ech
      split
      · have := l.2.2.1 (by assumption)
        omega
      · omega
    · unfold pst
      show (if n ≤ i then _ else if syT t n i s = some (lsT t n i s) then _ else _) = _
      rw [if_neg nn, hc, if_pos hsy]
  · right; left
    obtain ⟨c, hcc⟩ := Option.isSome_iff_exists.mp ho
    have ns : ¬ syT t n i s = some 98 := fun z => by have := (syT_lt z).2.1 s2; omega
    refine ⟨c, (syT_lt hcc).2.1 (by omega), hc, by omega, ns, hcc, hf, ?_⟩
    unfold pst
    show (if n ≤ i then _ else if syT t n i s = some (lsT t n i s) then _ else if lsT t n i s = 98 then _ else _) = _
    rw [if_neg nn, hc, if_neg ns, if_pos rfl, hcc]
    rfl
  · right; right; left
    have ns : ¬ syT t n i s = some 102 := fun z => by have := (syT_lt z).1; omega
    refine ⟨hc, ns, h128, hf, ?_⟩
    unfold pst
    show (if n ≤ i then _ else if syT t n i s = some (lsT t n i s) then _ else if lsT t n i s = 98 then _ else if lsT t n i s = 102 then _ else _) = _
    rw [if_neg nn, hc, if_neg ns, if_neg (by omega), if_pos rfl]
  · right; right; right
    have ns : ¬ syT t n i s = some (101 - r) := fun z => by
      have l := syT_lt z
      by_cases s2 : s = 2
      · omega
      · have := l.2.1 s2
        omega
    refine ⟨r, hr, hrs, hc, ns, hf, ?_⟩
    unfold pst
    show (if n ≤ i then _ else if syT t n i s = some (lsT t n i s) then _ else if lsT t n i s = 98 then _ else if lsT t n i s = 102 then _ else _) = _
    rw [if_neg nn, hc, if_neg ns, if_neg (by omega), if_neg (by omega), show 101 - (101 - r) = r by omega]
def SYc (M : im_M) (k : Nat) (q : Nat → Nat) : Prop := im_i M 31 9 = nI k ∧ k ≤ 140 ∧ ∀ j, j < k → im_i M 36 j = nI (q j)
theorem s_addSymbol {M : im_M} {k c : Nat} {q : Nat → Nat} (h : SYc M k q) (hk : k < 140) : ed (f_HBars_addSymbol (nI c) M) (fun R => SYc R (k + 1) (app q k (fun _ => c)) ∧ fr (2 ^ 36) [(31, 9)] M R) := by
  obtain ⟨h0, h1, h2⟩ := h
  unfold f_HBars_addSymbol
  have l : ¬ (140 : Int32) ≤ nI k := by rw [show (140 : Int32) = nI 140 from rfl, nIl (by omega) (by omega)]; omega
  rw [h0, if_neg l, gd_pos (by rw [inb_nI (by omega)]; omega), nI_clamp (by omega), sk1 (by omega), h0]
  refine ed_mk ⟨⟨?_, by omega, fun j hj => ?_⟩, fr_F (by decide) (fr_I (by decide) fr_refl)⟩
  · rw [hit]; exact nI_add k 1
  · rw [sk1 (by omega)]
    unfold app
    by_cases e : j = k
    · subst e
      rw [hit, if_neg (by omega)]
    · rw [sk1 (fun z => e z.2), if_pos (by omega)]
      exact h2 j (by omega)
theorem s_chooseLoop {M : im_M} {t : Nat → Nat} {n s0 : Nat} {q0 : Nat → Nat} (h : SG M n t) (hc : CFW M n t 0) (hy : SYc M 1 q0) (hs : s0 < 3) (h128 : FW t n 0 s0 ≤ 128) : ed (lp (uc4 (f_HBars_chooseSymbols_L51)) (nI s0, 0, 0, M)) (fun R => ∃ j, j ≤ 128 ∧ n ≤ (itS t n (q0, 1, 0, s0) j).2.2.1 ∧ SYc R (itS t n (q0, 1, 0, s0) j).2.1 (itS t n (q0, 1, 0, s0) j).1 ∧ (itS t n (q0, 1, 0, s0) j).2.1 ≤ 129 ∧ fr (2 ^ 36) [(31, 9)] M R) := by
  have hn := h.2.1
  have ht : ∀ i, i < n → t i ≤ 128 := fun i hi => (h.2.2 i hi).1
  refine lp_inv (fun m (y : Int32 × Int32 × Int32 × im_M) => ∃ (j : Nat) (q : Nat → Nat) (k i s : Nat), j + m = 128 ∧ itS t n (q0, 1, 0, s0) j = (q, k, i, s) ∧ y.1 = nI s ∧ y.2.1 = nI i ∧ y.2.2.1 = nI j ∧ j + 1 ≤ k ∧ k + FW t n i s = 1 + FW t n 0 s0 ∧ i ≤ n ∧ s < 3 ∧ SYc y.2.2.2 k q ∧ fr (2 ^ 36) [(31, 9)] M y.2.2.2) ?_ (k := 128) ⟨0, q0, 1, 0, s0, rfl, rfl, rfl, rfl, rfl, by omega, rfl, by omega, hs, hy, fr_refl⟩
  rintro m ⟨x8, x9, x10, M11⟩ ⟨j, q, k, i, s, hm, ej, e1, e2, e3, jk, kf, hi, hs3, hS, hf⟩
  replace e1 : x8 = nI s := e1
  replace e2 : x9 = nI i := e2
  replace e3 : x10 = nI j := e3
  replace hS : SYc M11 k q := hS
  replace hf : fr (2 ^ 36) [(31, 9)] M M11 := hf
  subst e1 e2 e3
  show ed (f_HBars_chooseSymbols_L51 (nI s) (nI i) (nI j) M11) _
  unfold f_HBars_chooseSymbols_L51
  have g1 := SG_fr hf (by decide +kernel) h
  have cf : ∀ {R : im_M}, fr (2 ^ 36) [(31, 9)] M R → CFW R n t 0 := fun {R} f a b h1 h2 h3 => (f.1 35 _ (by decide) (by simp)).trans (hc a b h1 h2 h3)
  have k0 : ((128 : Int32) ≤ nI j) = (128 ≤ j) := nIl (x := 128) (by omega) (by omega)
  simp only [k0]
  have fin : n ≤ i → ed (some (Sum.inr M11 : (Int32 × Int32 × Int32 × im_M) ⊕ im_M)) (lpo (fun m (y : Int32 × Int32 × Int32 × im_M) => ∃ (j : Nat) (q : Nat → Nat) (k i s : Nat), j + m = 128 ∧ itS t n (q0, 1, 0, s0) j = (q, k, i, s) ∧ y.1 = nI s ∧ y.2.1 = nI i ∧ y.2.2.1 = nI j ∧ j + 1 ≤ k ∧ k + FW t n i s = 1 + FW t n 0 s0 ∧ i ≤ n ∧ s < 3 ∧ SYc y.2.2.2 k q ∧ fr (2 ^ 36) [(31, 9)] M y.2.2.2) (fun R => ∃ j, j ≤ 128 ∧ n ≤ (itS t n (q0, 1, 0, s0) j).2.2.1 ∧ SYc R (itS t n (q0, 1, 0, s0) j).2.1 (itS t n (q0, 1, 0, s0) j).1 ∧ (itS t n (q0, 1, 0, s0) j).2.1 ≤ 129 ∧ fr (2 ^ 36) [(31, 9)] M R) m) := fun hz => by
    refine lpo_r ⟨j, by omega, ?_, ?_, ?_, hf⟩
    · rw [ej]; exact hz
    · rw [ej]; exact hS
    · rw [ej]; show k ≤ 129; omega
  have F1 : i < n → 1 ≤ FW t n i s := fun z => by
    rcases pst_case (q := q) (k := k) hn ht z hs3 with ⟨c, _, _, _, hF, _⟩ | ⟨c, _, _, _, _, _, hF, _⟩ | ⟨_, _, _, hF, _⟩ | ⟨r, _, _, _, _, hF, _⟩ <;> omega
  by_cases c1 : 128 ≤ j
  · rw [if_pos c1]
    refine fin ?_
    by_cases z : i < n
    · have := F1 z
      omega
    · omega
  · rw [if_neg c1, g1.1, if_nIl (by omega) (by omega)]
    by_cases c2 : n ≤ i
    · rw [if_pos c2]
      exact fin c2
    · have z : i < n := by omega
      have f1 := F1 z
      rw [if_neg c2, s_leastSymbol g1 (cf hf) z hs3, bd1_s]
      apply bd1_mk
      refine ed_mono (s_addSymbol hS (by omega)) ?_
      rintro M13 ⟨hS2, f13⟩
      have hf2 := fr_tr f13 hf
      have g2 := SG_fr hf2 (by decide +kernel) h
      rw [s_symbolFor g2 z hs3, bd1_s]
      have lw := (ls_w hn ht z hs3).2.1
      have oe : (nI (lsT t n i s) = oI (syT t n i s)) = (syT t n i s = some (lsT t n i s)) := by
        cases e : syT t n i s with
        | none => exact propext ⟨fun y => absurd y (nI_nm1 (by omega)), fun y => by cases y⟩
        | some d =>
          have := (syT_lt e).1
          show (nI (lsT t n i s) = nI d) = _
          rw [nIe (by omega) (by omega)]
          exact propext ⟨fun y => by rw [y], fun y => by injection y with y; exact y.symm⟩
      have k98 : (nI (lsT t n i s) = 98) = (lsT t n i s = 98) := nIe (c := 98) (by omega) (by omega)
      have k102 : (nI (lsT t n i s) = 102) = (lsT t n i s = 102) := nIe (c := 102) (by omega) (by omega)
      have ks2 : (nI s = 2) = (s = 2) := nIe (c := 2) (by omega) (by omega)
      simp only [oe, k98, k102]
      have es : ∀ x : PS, pst t n (q, k, i, s) = x → itS t n (q0, 1, 0, s0) (j + 1) = x := fun x hx => by
        show pst t n (itS t n (q0, 1, 0, s0) j) = x
        rw [ej]; exact hx
      rcases pst_case (q := q) (k := k) hn ht z hs3 with ⟨c, hc1, hl, hsy, hF, hle, hp⟩ | ⟨c, hc1, hl, hs2, ns, hsy, hF, hp⟩ | ⟨hl, ns, hm128, hF, hp⟩ | ⟨r, hr, hrs, hl, ns, hF, hp⟩
      · have ee : f_HBars_signsEach (nI s) M13 = some (nI (ech s)) := by
          unfold f_HBars_signsEach ech
          simp only [ks2]
          by_cases s2 : s = 2
          · rw [if_neg (fun y => y s2), if_pos s2]; rfl
          · rw [if_pos s2, if_neg s2]; rfl
        rw [hl] at hS2 ⊢
        rw [if_neg (fun y => y hsy), ee, bd1_s, bd3_s, nI_add]
        exact lpo_l (m - 1) (by omega) ⟨j + 1, _, _, _, _, by omega, es _ hp, rfl, rfl, nI_add j 1, by omega, by omega, hle, hs3, hS2, hf2⟩
      · have e1 : (1 : Int32) - nI s = nI (1 - s) := nI_sb (a := 1) (by omega)
        rw [hl] at hS2 ⊢
        rw [if_pos ns, if_neg (fun y => y rfl), e1, s_symbolFor g2 z (by omega), bd1_s, hsy]
        apply bd3_mk
        show ed (bd1 (f_HBars_addSymbol (nI c) M13) _) _
        apply bd1_mk
        refine ed_mono (s_addSymbol hS2 (by omega)) ?_
        rintro M17 ⟨hS3, f17⟩
        exact ed_mk (lpo_l (m - 1) (by omega) ⟨j + 1, _, _, _, _, by omega, es _ hp, rfl, nI_add i 1, nI_add j 1, by omega, by omega, by omega, hs3, hS3, fr_tr f17 hf2⟩)
      · rw [hl] at hS2 ⊢
        rw [if_pos ns, if_pos (by decide), if_neg (fun y => y rfl), bd3_s]
        exact lpo_l (m - 1) (by omega) ⟨j + 1, _, _, _, _, by omega, es _ hp, rfl, nI_add i 1, nI_add j 1, by omega, by omega, by omega, hs3, hS2, hf2⟩
      · have er : (101 : Int32) - nI (101 - r) = nI r := by rw [show (101 : Int32) = nI 101 from rfl, nI_sb (by omega)]; congr 1; omega
        rw [hl] at hS2 ⊢
        rw [if_pos ns, if_pos (by omega), if_pos (by omega), er, bd3_s]
        exact lpo_l (m - 1) (by omega) ⟨j + 1, _, _, _, _, by omega, es _ hp, rfl, rfl, nI_add j 1, by omega, by omega, by omega, hr, hS2, hf2⟩
