theorem gd_59 : ∀ i : Fin 59, ((if nI i.val < 3 then 1 else (if nI i.val ≤ 26 then (if nI i.val ≤ 55 then 0 else 1) else (if nI i.val < 32 then 1 else (if nI i.val ≤ 55 then 0 else 1)))) : Int32) = if guardI i.val = true then 1 else 0 := by decide +kernel

theorem s_guard {M : im_M} {u : Nat → Nat} (q : WH M u 59) : f_HBars_hasGuards M = some (@ite _ (grd u) (Classical.propDecidable _) 1 0) := by
  have hs1 : 59 ≤ sm u 0 59 := sm_ge 59 (fun k hk => (q.2.1 (0 + k) (by omega)).1)
  have hs2 : sm u 0 59 ≤ 512 * 59 := sm_le 59 (fun k hk => (q.2.1 (0 + k) (by omega)).2)
  have step : ∀ i, i < 59 → f_HBars_hasGuards_L12 (nI (sm u 0 59)) M (nI i) = some (if guardI i = true ∧ ¬ nr u 0 95 (sm u 0 59) i = 1 then .inr (.inr 0) else .inl (nI (i + 1))) := by
    intro i hi
    unfold f_HBars_hasGuards_L12
    have hz := nr_le (u := u) (a := 0) (m := 95) (s := sm u 0 59) (k := i) (q.2.1 (0 + i) (by omega)).2 (by omega) (by omega)
    rw [q.2.2.1, if_neg (nI_ge hi (by omega)), gd_59 ⟨i, hi⟩]
    simp only [jn0]
    by_cases g : guardI i = true
    · rw [if_pos g, if_neg (by decide), q.2.2.2 i hi, bd1_s]
      have e95 : (95 : Int32) = nI 95 := rfl
      have hw := (q.2.1 i hi).2
      rw [e95, s_near hw (by omega) (by omega) (by omega), bd1_s]
      have en : (2 * u i * 95 + sm u 0 59) / (2 * sm u 0 59) = nr u 0 95 (sm u 0 59) i := by
        unfold nr
        rw [Nat.zero_add]
      rw [en]
      by_cases c : nr u 0 95 (sm u 0 59) i = 1
      · rw [if_neg (show ¬ (guardI i = true ∧ ¬ nr u 0 95 (sm u 0 59) i = 1) from fun z => z.2 c), if_pos (show nI (nr u 0 95 (sm u 0 59) i) = 1 by rw [c]; rfl), nI_1]
      · have c2 : ¬ nI (nr u 0 95 (sm u 0 59) i) = 1 := fun z => c ((nI_eq (b := 1) (by omega) (by omega)).mp z)
        rw [if_pos (show guardI i = true ∧ ¬ nr u 0 95 (sm u 0 59) i = 1 from ⟨g, c⟩), if_neg c2]
    · rw [if_neg g, if_pos rfl, if_neg (fun z => g z.1), nI_1]
  unfold f_HBars_hasGuards
  have e0 : f_HBars_sumOf 0 (im_i M 31 11) M = some (nI (sm u 0 59)) := by
    rw [q.2.2.1]
    exact s_sumH q (a := 0) (c := 59) (by omega)
  rw [e0, bd1_s]
  cases e : fdp (fun i => guardI i = true ∧ ¬ nr u 0 95 (sm u 0 59) i = 1) 59 with
  | none =>
    have hn := fdp_none 59 e
    have g : grd u := fun i hi hg => Decidable.not_not.mp (fun z => hn i hi ⟨hg, z⟩)
    have : lp (uc1 (f_HBars_hasGuards_L12 (nI (sm u 0 59)) M)) 0 = some (.inl ()) := by
      refine lp_row (b := uc1 (f_HBars_hasGuards_L12 (nI (sm u 0 59)) M)) (fun k => nI k) 59 (fun k hk => ?_) ?_
      · show f_HBars_hasGuards_L12 _ M (nI k) = _
        rw [step k hk, if_neg (hn k hk)]
      · show f_HBars_hasGuards_L12 _ M (nI 59) = _
        unfold f_HBars_hasGuards_L12
        rw [q.2.2.1, if_pos (by decide)]
    rw [this, if_pos g]
    rfl
  | some j =>
    obtain ⟨b1, b2, b3⟩ := fdp_some 59 j e
    have g : ¬ grd u := fun z => b2.2 (z j b1 b2.1)
    have : lp (uc1 (f_HBars_hasGuards_L12 (nI (sm u 0 59)) M)) 0 = some (.inr 0) := by
      refine lp_row (b := uc1 (f_HBars_hasGuards_L12 (nI (sm u 0 59)) M)) (fun k => nI k) j (fun k hk => ?_) ?_
      · show f_HBars_hasGuards_L12 _ M (nI k) = _
        rw [step k (by omega), if_neg (b3 k hk)]
      · show f_HBars_hasGuards_L12 _ M (nI j) = _
        rw [step j b1, if_pos b2]
    rw [this, if_neg g]
    rfl
theorem par_12 : ∀ i : Fin 14, (nI i.val - nI i.val / 2 * 2 = 0 ↔ i.val % 2 = 0) ∧ (nI i.val - nI i.val / 2 * 2 = 1 ↔ i.val % 2 = 1) := by decide +kernel
theorem ck_10 : ∀ a : Fin 10, (((10 : Int32) - nI a.val) - ((10 : Int32) - nI a.val) / 10 * 10) = nI ((10 - a.val) % 10) := by decide +kernel
theorem ckS_le {g : Nat → Nat} : ∀ n, (∀ k, k < n → g k < 10) → ckS g n ≤ 27 * n := by
  intro n
  induction n with
  | zero => intro _; exact Nat.le_refl 0
  | succ n ih =>
    intro h
    have := ih (fun k hk => h k (by omega))
    have h2 := h n (by omega)
    show ckS g n + wgt n * g n ≤ _
    have : wgt n * g n ≤ 27 := by unfold wgt; split <;> omega
    omega
theorem nI_rem {a b : Nat} (ha : a < 2147483648) (hb : 0 < b) (hb2 : b < 2147483648) : nI a - nI a / nI b * nI b = nI (a % b) := by
  rw [nI_div ha hb hb2, nI_mul, iZ_nI, iZ_nI, iZ_sub, iZ_nI]
  congr 1
  have := Nat.div_add_mod a b
  rw [Nat.mul_comm] at this
  generalize a / b * b = z at *
  omega
theorem s_ckF {M : im_M} {g : Nat → Nat} (hg : ∀ k, k < 12 → im_i M 37 k = nI (g k) ∧ g k < 10) : f_HBars_checkFigure M = some (nI ((10 - ckS g 12 % 10) % 10)) := by
  have hc := ckS_le (g := g) 12 (fun k hk => (hg k hk).2)
  have : lp (uc2 (f_HBars_checkFigure_L4 M)) (0, 0) = some (nI (ckS g 12)) := by
    refine lp_row (b := uc2 (f_HBars_checkFigure_L4 M)) (fun k => (nI (ckS g k), nI k)) 12 (fun k hk => ?_) ?_
    · show f_HBars_checkFigure_L4 M (nI (ckS g k)) (nI k) = _
      unfold f_HBars_checkFigure_L4
      have z : ¬ (12 : Int32) ≤ nI k := nI_ge (b := 12) hk (by omega)
      have ig : inb (nI k) 13 := by rw [inb_nI (by omega)]; omega
      rw [if_neg z, gd_pos ig, gd_pos ig, nI_clamp (by omega), (hg k hk).1]
      have hp := par_12 ⟨k, by omega⟩
      have e3 : (3 : Int32) = nI 3 := rfl
      by_cases c : k % 2 = 0
      · rw [if_neg (fun z => z (hp.1.mpr c)), bd1_s, nI_add, nI_1]
        show _ = some (Sum.inl (nI (ckS g k + wgt k * g k), nI (k + 1)))
        unfold wgt
        rw [if_pos c, Nat.one_mul]
      · rw [if_pos (fun z => c (hp.1.mp z)), bd1_s, e3, nI_mul, nI_add, nI_1]
        show _ = some (Sum.inl (nI (ckS g k + wgt k * g k), nI (k + 1)))
        unfold wgt
        rw [if_neg c]
    · show f_HBars_checkFigure_L4 M (nI (ckS g 12)) (nI 12) = _
      unfold f_HBars_checkFigure_L4
      rw [if_pos (by decide)]
  unfold f_HBars_checkFigure
  rw [this, bd1_s]
  have e10 : (10 : Int32) = nI 10 := rfl
  have er : nI (ckS g 12) - nI (ckS g 12) / 10 * 10 = nI (ckS g 12 % 10) := nI_rem (b := 10) (by omega) (by omega) (by omega)
  rw [er, ck_10 ⟨ckS g 12 % 10, by omega⟩]
theorem by_48 : ∀ j : Fin 10, vp_nar .byte ((Int32.toInt8 ((48 : Int32) + nI j.val)).toInt32) = nI (48 + j.val) := by decide +kernel
def rfI (M : im_M) (u : Nat → Nat) (n : Nat) (s : Int32 × Int32 × im_M) : Prop := ∃ i, 1 ≤ i ∧ i + n = 13 ∧ s.2.1 = nI i ∧ s.1 = nI (tR u (cap7 i) * 2 ^ (7 - i)) ∧ (∀ j, 1 ≤ j → j < i → ∃ f, fig u j = some f ∧ im_i s.2.2 37 j = nI f) ∧ fr (2 ^ 37) [] M s.2.2
theorem s_figs {M : im_M} {u : Nat → Nat} (q : WH M u 59) : ed (lp (uc3 (f_HBars_readFigures_L13)) (0, 1, M)) (fun r => match r with
    | .inl s => s.1 = nI (tR u 7) ∧ (∀ j, 1 ≤ j → j < 13 → ∃ f, fig u j = some f ∧ im_i s.2 37 j = nI f) ∧ fr (2 ^ 37) [] M s.2
    | .inr s => s.1 = 0 ∧ (∃ i, 1 ≤ i ∧ i ≤ 12 ∧ fig u i = none) ∧ fr (2 ^ 37) [] M s.2) := by
  have h0 : rfI M u 12 (0, 1, M) := by
    refine ⟨1, by omega, by omega, rfl, ?_, fun j h1 h2 => absurd h2 (by omega), fr_refl⟩
    show (0 : Int32) = nI (tR u 1 * _)
    rw [tR_1, Nat.zero_mul]
    rfl
  refine lp_inv (rfI M u) ?_ (k := 12) h0
  rintro n ⟨t, i', N⟩ ⟨i, h1, h2, e1, e2, e3, f1⟩
  replace e1 : i' = nI i := e1
  replace e2 : t = nI (tR u (cap7 i) * 2 ^ (7 - i)) := e2
  replace e3 : ∀ j, 1 ≤ j → j < i → ∃ f, fig u j = some f ∧ im_i N 37 j = nI f := e3
  replace f1 : fr (2 ^ 37) [] M N := f1
  subst e1 e2
  show ed (f_HBars_readFigures_L13 _ (nI i) N) _
  by_cases c : 13 ≤ i
  · unfold f_HBars_readFigures_L13
    have z : (13 : Int32) ≤ nI i := nI_le (a := 13) c (by omega)
    have i13 : i = 13 := by omega
    subst i13
    rw [if_pos z]
    refine lpo_r ⟨?_, fun j h1 h2 => e3 j h1 h2, f1⟩
    show nI (tR u 7 * 1) = _
    rw [Nat.mul_one]
  · refine ed_mono (s_fig1 (WH_fr f1 (by decide +kernel) q) h1 (by omega)) ?_
    rintro (⟨t', i', N'⟩ | r | ⟨z, N'⟩) hr
    · obtain ⟨j, g1, g2, g3, g4, g5, g6⟩ := hr
      refine ⟨12 - i, by omega, i + 1, by omega, by omega, g3, g2, ?_, fr_tr g6 f1⟩
      intro k k1 k2
      by_cases ck : k = i
      · subst ck
        exact ⟨j, g1, g4⟩
      · obtain ⟨f, f2, f3⟩ := e3 k k1 (by omega)
        exact ⟨f, f2, by rw [← f3]; exact g5 k ck⟩
    · exact hr.elim
    · exact ⟨hr.1, ⟨i, h1, by omega, hr.2.1⟩, fr_tr hr.2.2 f1⟩
def rwI4 (M : im_M) (g : Nat → Nat) (n : Nat) (s : Int32 × im_M) : Prop := ∃ i, i + n = 13 ∧ s.1 = nI i ∧ (∀ k, k < 13 → im_i s.2 37 k = nI (g k)) ∧ (∀ k, k < i → im_i s.2 68 k = nI (48 + g k)) ∧ fr (2 ^ 68) [] M s.2
theorem s_readFig {M : im_M} {u : Nat → Nat} (q : WH M u 59) : ed (f_HBars_readFigures M) (fun r => fr (2 ^ 37 ||| 2 ^ 68) [] M r.2 ∧ ((r.1 = 1 ∧ ∃ g, TH u g ∧ ∀ k, k < 13 → im_i r.2 68 k = nI (48 + g k)) ∨ (r.1 = 0 ∧ ¬ ∃ g, TH u g))) := by
  unfold f_HBars_readFigures
  rw [s_guard q, bd1_s]
  by_cases gr : grd u
  · rw [if_pos gr, if_pos (by decide)]
    apply bs2_mk
    refine ed_mono (s_figs q) ?_
    rintro (⟨t, N⟩ | ⟨z, N⟩) hr
    · obtain ⟨e1, e2, f1⟩ := hr
      replace e1 : t = nI (tR u 7) := e1
      replace e2 : ∀ j, 1 ≤ j → j < 13 → ∃ f, fig u j = some f ∧ im_i N 37 j = nI f := e2
      replace f1 : fr (2 ^ 37) [] M N := f1
      subst e1
      show ed (bd1 (f_HBars_indexOf_2 (nI (tR u 7)) N) _) _
      rw [s_idx2, bd1_s]
      have c0 : Int32.toNatClampNeg 0 = 0 := rfl
      have c12 : Int32.toNatClampNeg 12 = 12 := rfl
      rw [gd_pos (by decide), gd_pos (by decide), c0, c12]
      have rd : ∀ v : Int32, im_i (im_setI N 37 0 v) 37 0 = v := fun v => by simp [mi_I]
      rw [rd]
      have f2 : ∀ v : Int32, fr (2 ^ 37 ||| 2 ^ 68) [] M (im_setI N 37 0 v) := fun v => fr_I (by decide) (fr_mono (by decide) (by decide) f1)
      cases eF : fdp (fun j => xa_4 (nI j) = nI (tR u 7)) 10 with
      | none =>
        rw [if_pos (show oI none = -1 from rfl)]
        refine ed_mk ⟨f2 _, Or.inr ⟨rfl, ?_⟩⟩
        rintro ⟨g, hg⟩
        rw [hg.2.2.1] at eF
        cases eF
      | some j0 =>
        have hj0 : j0 < 10 := (fdp_some 10 _ eF).1
        have nj : ¬ oI (some j0) = -1 := fun z => absurd (show nI j0 < 0 by rw [show nI j0 = -1 from z]; decide) (nI_pos (by omega))
        rw [if_neg nj, gd_pos (by decide)]
        obtain ⟨g, hg⟩ : ∃ g : Nat → Nat, g = fun i => if i = 0 then j0 else (fig u i).getD 0 := ⟨_, rfl⟩
        have g0 : g 0 = j0 := by rw [hg]; rfl
        have gi : ∀ i, 1 ≤ i → i < 13 → fig u i = some (g i) ∧ im_i N 37 i = nI (g i) ∧ g i < 10 := by
          intro i h1 h2
          obtain ⟨f, k1, k2⟩ := e2 i h1 h2
          have : g i = f := by
            rw [hg]
            show (if i = 0 then j0 else (fig u i).getD 0) = f
            rw [if_neg (by omega), k1]
            rfl
          rw [this]
          exact ⟨k1, k2, fig_lt k1⟩
        have cells : ∀ k, k < 13 → im_i (im_setI N 37 0 (oI (some j0))) 37 k = nI (g k) ∧ g k < 10 := by
          intro k hk
          by_cases c : k = 0
          · subst c
            rw [rd, g0]
            exact ⟨rfl, hj0⟩
          · have := gi k (by omega) hk
            refine ⟨?_, this.2.2⟩
            simp [mi_I, c, this.2.1]
        rw [s_ckF (g := g) (fun k hk => cells k (by omega)), bd1_s, (cells 12 (by omega)).1]
        have hc := ckS_le (g := g) 12 (fun k hk => (cells k (by omega)).2)
        have g12 := (cells 12 (by omega)).2
        have ck13 : ckS g 13 = ckS g 12 + g 12 := by
          show ckS g 12 + wgt 12 * g 12 = _
          rw [show wgt 12 = 1 from rfl, Nat.one_mul]
        by_cases c : ckS g 13 % 10 = 0
        · have hth : TH u g := ⟨gr, fun i h1 h2 => (gi i h1 (by omega)).1, by rw [g0]; exact eF, c⟩
          have e12 : nI (g 12) = nI ((10 - ckS g 12 % 10) % 10) := by
            congr 1
            omega
          rw [if_pos e12]
          apply bd1_mk
          have h0 : rwI4 (im_setI N 37 0 (oI (some j0))) g 13 (0, im_setI N 37 0 (oI (some j0))) := ⟨0, by omega, rfl, fun k hk => (cells k hk).1, fun k hk => absurd hk (by omega), fr_refl⟩
          refine ed_mono (lp_inv (rwI4 (im_setI N 37 0 (oI (some j0))) g) (Q := fun (N' : im_M) => (∀ k, k < 13 → im_i N' 68 k = nI (48 + g k)) ∧ fr (2 ^ 68) [] (im_setI N 37 0 (oI (some j0))) N') ?_ (k := 13) h0) ?_
          · rintro n ⟨i', N'⟩ ⟨i, h2, e1, e3, e4, f3⟩
            replace e1 : i' = nI i := e1
            replace e3 : ∀ k, k < 13 → im_i N' 37 k = nI (g k) := e3
            replace e4 : ∀ k, k < i → im_i N' 68 k = nI (48 + g k) := e4
            replace f3 : fr (2 ^ 68) [] (im_setI N 37 0 (oI (some j0))) N' := f3
            subst e1
            show ed (f_HBars_readFigures_L159 (nI i) N') _
            unfold f_HBars_readFigures_L159
            by_cases c13 : 13 ≤ i
            · have z : (13 : Int32) ≤ nI i := nI_le (a := 13) c13 (by omega)
              rw [if_pos z]
              exact lpo_r ⟨fun k hk => e4 k (by omega), f3⟩
            · have z : ¬ (13 : Int32) ≤ nI i := nI_ge (b := 13) (by omega) (by omega)
              rw [if_neg z, gd_pos (by rw [inb_nI (by omega)]; omega), gd_pos (by rw [inb_nI (by omega)]; omega), nI_clamp (by omega), e3 i (by omega), by_48 ⟨g i, (cells i (by omega)).2⟩, nI_1]
              refine lpo_l (12 - i) (by omega) ⟨i + 1, by omega, rfl, ?_, ?_, fr_I (by decide) f3⟩
              · intro k hk
                show im_i (im_setI N' 68 i _) 37 k = _
                rw [← e3 k hk]
                rfl
              · intro k hk
                show im_i (im_setI N' 68 i _) 68 k = _
                by_cases ck : k = i
                · subst ck
                  simp [mi_I]
                · simp only [mi_I, if_pos, if_neg ck]
                  exact e4 k (by omega)
          · rintro N' ⟨k1, k2⟩
            exact ed_mk ⟨fr_tr (fr_mono (by decide) (by decide) k2) (f2 _), Or.inl ⟨rfl, g, hth, k1⟩⟩
        · have e12 : ¬ nI (g 12) = nI ((10 - ckS g 12 % 10) % 10) := by
            intro z
            have := (nI_eq (by omega) (by omega)).mp z
            omega
          rw [if_neg e12]
          refine ed_mk ⟨f2 _, Or.inr ⟨rfl, ?_⟩⟩
          rintro ⟨g', hg'⟩
          apply c
          have hsame : ∀ k, k < 13 → g' k = g k := by
            intro k hk
            by_cases c0 : k = 0
            · subst c0
              have := hg'.2.2.1.symm.trans eF
              rw [g0]
              exact Option.some.inj this
            · exact Option.some.inj ((hg'.2.1 k (by omega) (by omega)).symm.trans (gi k (by omega) hk).1)
          have : ∀ n, n ≤ 13 → ckS g' n = ckS g n := by
            intro n
            induction n with
            | zero => intro _; rfl
            | succ n ih =>
              intro hn
              show ckS g' n + wgt n * g' n = ckS g n + wgt n * g n
              rw [ih (by omega), hsame n (by omega)]
          rw [← this 13 (by omega)]
          exact hg'.2.2.2
    · obtain ⟨e1, ⟨i, h1, h2, h3⟩, f1⟩ := hr
      refine ed_mk ⟨fr_mono (by decide) (by decide) f1, Or.inr ⟨e1, ?_⟩⟩
      rintro ⟨g, hg⟩
      rw [hg.2.1 i h1 h2] at h3
      cases h3
  · rw [if_neg gr, if_neg (by decide)]
    exact ed_mk ⟨fr_refl, Or.inr ⟨rfl, fun ⟨g, hg⟩ => gr hg.1⟩⟩
