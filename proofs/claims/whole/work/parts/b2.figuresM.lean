theorem ones_iff {f : Nat → Nat} {c t : Nat} (hc : c ≤ 7) (ht : okt c t = true) (h1 : ∀ k, k < c → dig c t k = 1) : (nI (nm (mn9 f) c) = nI t) ↔ ∀ k, k < c → f k = 1 := by
  obtain ⟨h2, h3⟩ := okt_1 ht
  have hp : 10 ^ c ≤ 10 ^ 7 := Nat.pow_le_pow_right (by omega) hc
  have hm : nm (mn9 f) c < 10 ^ c := nm_lt c (fun k _ => mn9_le)
  have hl := okt_lt ht
  constructor
  · intro z
    have e := (nI_eq (by omega) (by omega)).mp z
    intro k hk
    have := nm_inj c (fun k _ => mn9_le) (fun k hk => by have := h3 k hk; omega) (e.trans h2.symm) k hk
    rw [h1 k hk] at this
    unfold mn9 at this
    split at this <;> omega
  · intro z
    congr 1
    rw [← h2]
    apply nm_congr
    intro k hk
    rw [h1 k hk]
    unfold mn9
    rw [z k hk]
    rfl
theorem grd_iff {u : Nat → Nat} : grd u ↔ (∀ k, k < 3 → nr u 0 95 (sm u 0 59) k = 1) ∧ (∀ k, k < 5 → nr u 27 95 (sm u 0 59) k = 1) ∧ ∀ k, k < 3 → nr u 56 95 (sm u 0 59) k = 1 := by
  have sh : ∀ a k, nr u a 95 (sm u 0 59) k = nr u 0 95 (sm u 0 59) (a + k) := by
    intro a k
    unfold nr
    rw [Nat.zero_add]
  constructor
  · intro g
    refine ⟨fun k hk => g k (by omega) ?_, fun k hk => ?_, fun k hk => ?_⟩
    · unfold guardI
      simp
      omega
    · rw [sh]
      refine g (27 + k) (by omega) ?_
      unfold guardI
      simp
      omega
    · rw [sh]
      refine g (56 + k) (by omega) ?_
      unfold guardI
      simp
      omega
  · rintro ⟨g1, g2, g3⟩ i hi hg
    unfold guardI at hg
    simp only [Bool.or_eq_true, Bool.and_eq_true, decide_eq_true_eq] at hg
    rcases hg with (h | h) | h
    · exact g1 i h
    · have := g2 (i - 27) (by omega)
      rw [sh, show 27 + (i - 27) = i by omega] at this
      exact this
    · have := g3 (i - 56) (by omega)
      rw [sh, show 56 + (i - 56) = i by omega] at this
      exact this
def tfI (M : im_M) (u : Nat → Nat) (n : Nat) (s : Int32 × Int32 × im_M) : Prop := ∃ i, 1 ≤ i ∧ i + n = 13 ∧ s.2.1 = nI (i + 1) ∧ s.1 = nI (tR u (cap7 i)) ∧ (∀ j, 1 ≤ j → j < i → ∃ f, fig u j = some f ∧ im_i s.2.2 105 (j + 1) = nI f) ∧ fr (2 ^ 105) [] M s.2.2
theorem s_figsM {M : im_M} {u : Nat → Nat} (q : WM M u 59) (t98 : im_i M 98 = im_i mm_341 98) : ed (lp (uc3 (f_MLineRows_isThirteen_L59)) (0, 2, M)) (fun r => match r with
    | .inl s => s.1 = nI (tR u 7) ∧ (∀ j, 1 ≤ j → j < 13 → ∃ f, fig u j = some f ∧ im_i s.2 105 (j + 1) = nI f) ∧ fr (2 ^ 105) [] M s.2
    | .inr s => s.1 = 0 ∧ (∃ i, 1 ≤ i ∧ i ≤ 12 ∧ fig u i = none) ∧ fr (2 ^ 105) [] M s.2) := by
  have h0 : tfI M u 12 (0, 2, M) := by
    refine ⟨1, by omega, by omega, rfl, ?_, fun j h1 h2 => absurd h2 (by omega), fr_refl⟩
    show (0 : Int32) = nI (tR u 1)
    rw [tR_1]
    rfl
  refine lp_inv (tfI M u) ?_ (k := 12) h0
  rintro n ⟨t, i', N⟩ ⟨i, h1, h2, e1, e2, e3, f1⟩
  replace e1 : i' = nI (i + 1) := e1
  replace e2 : t = nI (tR u (cap7 i)) := e2
  replace e3 : ∀ j, 1 ≤ j → j < i → ∃ f, fig u j = some f ∧ im_i N 105 (j + 1) = nI f := e3
  replace f1 : fr (2 ^ 105) [] M N := f1
  subst e1 e2
  show ed (f_MLineRows_isThirteen_L59 _ (nI (i + 1)) N) _
  by_cases c : 13 ≤ i
  · unfold f_MLineRows_isThirteen_L59
    have z : (13 : Int32) < nI (i + 1) := nI_lt (a := 13) (by omega) (by omega)
    have i13 : i = 13 := by omega
    subst i13
    rw [if_pos z]
    exact lpo_r ⟨rfl, fun j h1 h2 => e3 j h1 h2, f1⟩
  · have n98 : im_i N 98 = im_i mm_341 98 := by rw [← t98]; exact fr_c f1 98 (by decide) (by simp)
    rw [s_fig1M (WM_fr f1 (by decide +kernel) q) n98 h1 (by omega)]
    cases ef : fig u i with
    | none => exact lpo_r ⟨rfl, ⟨i, h1, by omega, ef⟩, f1⟩
    | some j =>
      refine lpo_l (12 - i) (by omega) ⟨i + 1, by omega, by omega, rfl, rfl, ?_, fr_I (by decide) f1⟩
      intro k k1 k2
      by_cases ck : k = i
      · subst ck
        exact ⟨j, ef, by show im_i (im_setI N 105 (k + 1) (nI j)) 105 (k + 1) = _; simp [mi_I]⟩
      · obtain ⟨f, f2, f3⟩ := e3 k k1 (by omega)
        refine ⟨f, f2, ?_⟩
        show im_i (im_setI N 105 (i + 1) (nI j)) 105 (k + 1) = _
        rw [← f3]
        simp [mi_I, ck]
theorem ckS_0 {g g' : Nat → Nat} (h0 : g' 0 = 0) (h : ∀ i, 1 ≤ i → g' i = g i) : ∀ n, ckS g (n + 1) = g 0 + ckS g' (n + 1) := by
  intro n
  induction n with
  | zero =>
    show 0 + wgt 0 * g 0 = g 0 + (0 + wgt 0 * g' 0)
    rw [h0, show wgt 0 = 1 from rfl]
    omega
  | succ n ih =>
    show ckS g (n + 1) + wgt (n + 1) * g (n + 1) = g 0 + (ckS g' (n + 1) + wgt (n + 1) * g' (n + 1))
    rw [ih, h (n + 1) (by omega)]
    omega
theorem s_tellM {M : im_M} {v : Int32} {k : Nat} (hk : k < 300) (e : im_i M 96 17 = nI k) : f_MLineRows_tell v M = some (im_setI (im_setI M 107 k v) 96 17 (nI (k + 1))) := by
  unfold f_MLineRows_tell
  rw [e, gd_pos (by rw [inb_nI (by omega)]; exact hk), nI_clamp (by omega)]
  have : im_i (im_setI M 107 k v) 96 17 = nI k := by rw [← e]; rfl
  rw [this, nI_1]
def tlI (M : im_M) (g : Nat → Nat) (n : Nat) (s : Int32 × im_M) : Prop := ∃ i, i + n = 13 ∧ s.1 = nI (i + 1) ∧ (∀ k, k < 13 → im_i s.2 105 (k + 1) = nI (g k)) ∧ (∀ k, k < i → im_i s.2 107 k = nI (48 + g k)) ∧ im_i s.2 96 17 = nI i ∧ fr (2 ^ 107) [(96, 17)] M s.2
theorem s_isTh {M : im_M} {u : Nat → Nat} (q : WM M u 59) (t98 : im_i M 98 = im_i mm_341 98) (t99 : im_i M 99 = im_i mm_341 99) : ed (f_MLineRows_isThirteen M) (fun r => fr (2 ^ 105 ||| 2 ^ 107) [(96, 17)] M r.2 ∧ ((r.1 = 1 ∧ im_i r.2 96 17 = nI 13 ∧ ∃ g, TH u g ∧ ∀ k, k < 13 → im_i r.2 107 k = nI (48 + g k)) ∨ (r.1 = 0 ∧ ¬ ∃ g, TH u g))) := by
  unfold f_MLineRows_isThirteen
  have s1 : 59 ≤ sm u 0 59 := sm_ge 59 (fun k hk => (q.2.1 (0 + k) (by omega)).1)
  have s2 : sm u 0 59 ≤ 512 * 59 := sm_le 59 (fun k hk => (q.2.1 (0 + k) (by omega)).2)
  have sS : f_MLineRows_sumOf 0 59 M = some (nI (sm u 0 59)) := s_sumM q (a := 0) (c := 59) (by omega)
  have c1 : f_MLineRows_counts 0 3 (nI (sm u 0 59)) 95 M = some (nI (nm (mn9 (nr u 0 95 (sm u 0 59))) 3)) := s_cntM q (a := 0) (c := 3) (m := 95) (by omega) (by omega) (by omega) (by omega)
  have c2 : f_MLineRows_counts 27 5 (nI (sm u 0 59)) 95 M = some (nI (nm (mn9 (nr u 27 95 (sm u 0 59))) 5)) := s_cntM q (a := 27) (c := 5) (m := 95) (by omega) (by omega) (by omega) (by omega)
  have c3 : f_MLineRows_counts 56 3 (nI (sm u 0 59)) 95 M = some (nI (nm (mn9 (nr u 56 95 (sm u 0 59))) 3)) := s_cntM q (a := 56) (c := 3) (m := 95) (by omega) (by omega) (by omega) (by omega)
  have o1 := ones_iff (f := nr u 0 95 (sm u 0 59)) (c := 3) (t := 111) (by omega) (by decide) (fun k hk => by rcases (by omega : k = 0 ∨ k = 1 ∨ k = 2) with rfl | rfl | rfl <;> decide)
  have o2 := ones_iff (f := nr u 27 95 (sm u 0 59)) (c := 5) (t := 11111) (by omega) (by decide) (fun k hk => by rcases (by omega : k = 0 ∨ k = 1 ∨ k = 2 ∨ k = 3 ∨ k = 4) with rfl | rfl | rfl | rfl | rfl <;> decide)
  have o3 := ones_iff (f := nr u 56 95 (sm u 0 59)) (c := 3) (t := 111) (by omega) (by decide) (fun k hk => by rcases (by omega : k = 0 ∨ k = 1 ∨ k = 2) with rfl | rfl | rfl <;> decide)
  have e111 : (111 : Int32) = nI 111 := rfl
  have e5 : (11111 : Int32) = nI 11111 := rfl
  have out : ∀ N, fr (2 ^ 105 ||| 2 ^ 107) [(96, 17)] M N → ¬ grd u → ed (some ((0 : Int32), N)) (fun r => fr (2 ^ 105 ||| 2 ^ 107) [(96, 17)] M r.2 ∧ ((r.1 = 1 ∧ im_i r.2 96 17 = nI 13 ∧ ∃ g, TH u g ∧ ∀ k, k < 13 → im_i r.2 107 k = nI (48 + g k)) ∨ (r.1 = 0 ∧ ¬ ∃ g, TH u g))) := fun N f n => ed_mk ⟨f, Or.inr ⟨rfl, fun ⟨g, hg⟩ => n hg.1⟩⟩
  rw [sS, bd1_s, c1, bd1_s, c2, bd1_s, c3, bd1_s, e111, e5]
  by_cases k1 : nI (nm (mn9 (nr u 0 95 (sm u 0 59))) 3) = nI 111
  · rw [if_neg (fun z => z k1)]
    by_cases k2 : nI (nm (mn9 (nr u 27 95 (sm u 0 59))) 5) = nI 11111
    · rw [if_neg (fun z => z k2)]
      by_cases k3 : nI (nm (mn9 (nr u 56 95 (sm u 0 59))) 3) = nI 111
      · rw [if_pos k3]
        have gr : grd u := grd_iff.mpr ⟨o1.mp k1, o2.mp k2, o3.mp k3⟩
        apply bs2_mk
        refine ed_mono (s_figsM q t98) ?_
        rintro (⟨t, N⟩ | ⟨z, N⟩) hr
        · obtain ⟨e1, e2, f1⟩ := hr
          replace e1 : t = nI (tR u 7) := e1
          replace e2 : ∀ j, 1 ≤ j → j < 13 → ∃ f, fig u j = some f ∧ im_i N 105 (j + 1) = nI f := e2
          replace f1 : fr (2 ^ 105) [] M N := f1
          subst e1
          show ed (bd1 (f_MLineRows_place_2 (nI (tR u 7)) N) _) _
          have n99 : im_i N 99 = im_i mm_341 99 := by rw [← t99]; exact fr_c f1 99 (by decide) (by simp)
          have ep : f_MLineRows_place_2 (nI (tR u 7)) N = some (oI (fdp (fun j => xa_4 (nI j) = nI (tR u 7)) 10)) := by
            rw [s_plc2]
            congr 2
            apply fdp_congr
            intro j hj
            rw [n99, (tab_f ⟨j, hj⟩).2.1]
          rw [ep, bd1_s]
          have cc1 : Int32.toNatClampNeg 1 = 1 := rfl
          rw [gd_pos (by decide), gd_pos (by decide), cc1]
          obtain ⟨x, hx⟩ : ∃ x, x = oI (fdp (fun j => xa_4 (nI j) = nI (tR u 7)) 10) := ⟨_, rfl⟩
          rw [← hx]
          have rd : im_i (im_setI N 105 1 x) 105 1 = x := by simp [mi_I]
          rw [rd]
          have f2 : fr (2 ^ 105 ||| 2 ^ 107) [(96, 17)] M (im_setI N 105 1 x) := fr_I (by decide) (fr_mono (by decide) (by decide) f1)
          obtain ⟨g', hg'⟩ : ∃ g' : Nat → Nat, g' = fun i => if i = 0 then 0 else (fig u i).getD 0 := ⟨_, rfl⟩
          have gi : ∀ i, 1 ≤ i → i < 13 → fig u i = some (g' i) ∧ im_i (im_setI N 105 1 x) 105 (i + 1) = nI (g' i) ∧ g' i < 10 := by
            intro i h1 h2
            obtain ⟨f, k1, k2⟩ := e2 i h1 h2
            have : g' i = f := by
              rw [hg']
              show (if i = 0 then 0 else (fig u i).getD 0) = f
              rw [if_neg (by omega), k1]
              rfl
            rw [this]
            refine ⟨k1, ?_, fig_lt k1⟩
            rw [← k2]
            have : ¬ i = 0 := by omega
            simp [mi_I, this]
          have g0 : g' 0 = 0 := by rw [hg']; rfl
          have hc := ckS_le (g := g') 13 (fun k hk => by
            by_cases c : k = 0
            · rw [c, g0]; omega
            · exact (gi k (by omega) hk).2.2)
          have sum : lp (uc2 (f_MLineRows_isThirteen_L240 (im_setI N 105 1 x))) (x, 2) = some (x + nI (ckS g' 13)) := by
            have st0 : ((x, 2) : Int32 × Int32) = (x + nI (ckS g' (0 + 1)), nI (0 + 2)) := by
              have : ckS g' 1 = 0 := by
                show 0 + wgt 0 * g' 0 = 0
                rw [g0]
                rfl
              show _ = (x + nI (ckS g' 1), nI 2)
              rw [this]
              have e0 : nI 0 = 0 := rfl
              rw [e0, Int32.add_zero]
              rfl
            rw [st0]
            refine lp_row (b := uc2 (f_MLineRows_isThirteen_L240 (im_setI N 105 1 x))) (fun k => (x + nI (ckS g' (k + 1)), nI (k + 2))) 12 ?_ ?_
            · intro k hk
              show f_MLineRows_isThirteen_L240 _ (x + nI (ckS g' (k + 1))) (nI (k + 2)) = _
              unfold f_MLineRows_isThirteen_L240
              have z : ¬ (13 : Int32) < nI (k + 2) := Int32.not_lt.mpr (nI_le (b := 13) (by omega) (by omega))
              have hp := par_12 ⟨k + 2, by omega⟩
              rw [if_neg z, gd_pos (by rw [inb_nI (by omega)]; omega), nI_clamp (by omega), (gi (k + 1) (by omega) (by omega)).2.1, nI_1]
              have e3 : (3 : Int32) = nI 3 := rfl
              have ew : ((if ¬ (nI (k + 2) - nI (k + 2) / 2 * 2) = 1 then 3 else 1) : Int32) = nI (wgt (k + 1)) := by
                unfold wgt
                by_cases c : (k + 1) % 2 = 0
                · have c2 : (k + 2) % 2 = 1 := by omega
                  rw [if_pos c, if_neg (fun z => z (hp.2.mpr c2))]
                  rfl
                · have c2 : ¬ (k + 2) % 2 = 1 := by omega
                  rw [if_neg c, if_pos (fun z => c2 (hp.2.mp z))]
                  rfl
              rw [ew, nI_mul, Int32.add_assoc, nI_add]
              rfl
            · show f_MLineRows_isThirteen_L240 _ _ (nI (12 + 2)) = _
              unfold f_MLineRows_isThirteen_L240
              rw [if_pos (by decide)]
          rw [sum, bd1_s, gd_pos (by decide)]
          cases eF : fdp (fun j => xa_4 (nI j) = nI (tR u 7)) 10 with
          | none =>
            rw [eF] at hx
            have : x < 0 := by rw [hx]; decide
            rw [if_pos this]
            refine ed_mk ⟨f2, Or.inr ⟨rfl, ?_⟩⟩
            rintro ⟨g, hg⟩
            rw [hg.2.2.1] at eF
            cases eF
          | some j0 =>
            have hj0 : j0 < 10 := (fdp_some 10 _ eF).1
            rw [eF] at hx
            replace hx : x = nI j0 := hx
            have hxn : ¬ x < 0 := by rw [hx]; exact nI_pos (by omega)
            rw [if_neg hxn]
            obtain ⟨g, hg⟩ : ∃ g : Nat → Nat, g = fun i => if i = 0 then j0 else g' i := ⟨_, rfl⟩
            have gg0 : g 0 = j0 := by rw [hg]; rfl
            have ggi : ∀ i, 1 ≤ i → g' i = g i := by
              intro i h1
              rw [hg]
              show _ = if i = 0 then j0 else g' i
              rw [if_neg (by omega)]
            have ck13 : ckS g 13 = j0 + ckS g' 13 := by
              have := ckS_0 (g := g) (g' := g') g0 ggi 12
              rw [gg0] at this
              exact this
            have er : (x + nI (ckS g' 13)) - (x + nI (ckS g' 13)) / 10 * 10 = nI (ckS g 13 % 10) := by
              rw [hx, nI_add, ← ck13]
              exact nI_rem (b := 10) (by omega) (by omega) (by omega)
            rw [er]
            have cells : ∀ k, k < 13 → im_i (im_setI N 105 1 x) 105 (k + 1) = nI (g k) ∧ g k < 10 := by
              intro k hk
              by_cases c : k = 0
              · subst c
                rw [gg0]
                exact ⟨rd.trans hx, hj0⟩
              · have := gi k (by omega) hk
                rw [← ggi k (by omega)]
                exact this.2
            by_cases c : ckS g 13 % 10 = 0
            · have hth : TH u g := ⟨gr, fun i h1 h2 => by rw [← ggi i h1]; exact (gi i h1 (by omega)).1, by rw [gg0]; exact eF, c⟩
              rw [c, if_pos (show nI 0 = 0 from rfl)]
              apply bd1_mk
              have h0 : tlI (im_setI N 105 1 x) g 13 (1, im_setI (im_setI N 105 1 x) 96 17 0) := ⟨0, by omega, rfl, fun k hk => (cells k hk).1, fun k hk => absurd hk (by omega), rfl, fr_F (by decide) fr_refl⟩
              refine ed_mono (lp_inv (tlI (im_setI N 105 1 x) g) (Q := fun (N' : im_M) => (∀ k, k < 13 → im_i N' 107 k = nI (48 + g k)) ∧ im_i N' 96 17 = nI 13 ∧ fr (2 ^ 107) [(96, 17)] (im_setI N 105 1 x) N') ?_ (k := 13) h0) ?_
              · rintro n ⟨i', N'⟩ ⟨i, h2, e1, e3, e4, e5, f3⟩
                replace e1 : i' = nI (i + 1) := e1
                replace e3 : ∀ k, k < 13 → im_i N' 105 (k + 1) = nI (g k) := e3
                replace e4 : ∀ k, k < i → im_i N' 107 k = nI (48 + g k) := e4
                replace e5 : im_i N' 96 17 = nI i := e5
                replace f3 : fr (2 ^ 107) [(96, 17)] (im_setI N 105 1 x) N' := f3
                subst e1
                show ed (f_MLineRows_isThirteen_L303 (nI (i + 1)) N') _
                unfold f_MLineRows_isThirteen_L303
                by_cases c13 : 13 ≤ i
                · have z : (13 : Int32) < nI (i + 1) := nI_lt (a := 13) (by omega) (by omega)
                  rw [if_pos z]
                  refine lpo_r ⟨fun k hk => e4 k (by omega), ?_, f3⟩
                  rw [e5, show i = 13 by omega]
                · have z : ¬ (13 : Int32) < nI (i + 1) := Int32.not_lt.mpr (nI_le (b := 13) (by omega) (by omega))
                  have e48 : (48 : Int32) = nI 48 := rfl
                  rw [if_neg z, gd_pos (by rw [inb_nI (by omega)]; omega), nI_clamp (by omega), e3 i (by omega), e48, nI_add, s_tellM (by omega) e5, bd1_s, nI_1]
                  refine lpo_l (12 - i) (by omega) ⟨i + 1, by omega, rfl, ?_, ?_, rfl, fr_F (by decide) (fr_I (by decide) f3)⟩
                  · intro k hk
                    rw [← e3 k hk]
                    rfl
                  · intro k hk
                    show im_i (im_setI N' 107 i (nI (48 + g i))) 107 k = _
                    by_cases ck : k = i
                    · subst ck
                      simp [mi_I]
                    · simp only [mi_I, if_pos, if_neg ck]
                      exact e4 k (by omega)
              · rintro N' ⟨k1, k2, k3⟩
                exact ed_mk ⟨fr_tr (fr_mono (by decide) (by decide) k3) f2, Or.inl ⟨rfl, k2, g, hth, k1⟩⟩
            · have e12 : ¬ nI (ckS g 13 % 10) = 0 := fun z => c ((nI_eq (b := 0) (by omega) (by omega)).mp z)
              rw [if_neg e12]
              refine ed_mk ⟨f2, Or.inr ⟨rfl, ?_⟩⟩
              rintro ⟨g2, hg2⟩
              apply c
              have hsame : ∀ k, k < 13 → g2 k = g k := by
                intro k hk
                by_cases c0 : k = 0
                · subst c0
                  have := hg2.2.2.1.symm.trans eF
                  rw [gg0]
                  exact Option.some.inj this
                · rw [← ggi k (by omega)]
                  exact Option.some.inj ((hg2.2.1 k (by omega) (by omega)).symm.trans (gi k (by omega) hk).1)
              have : ∀ n, n ≤ 13 → ckS g2 n = ckS g n := by
                intro n
                induction n with
                | zero => intro _; rfl
                | succ n ih =>
                  intro hn
                  show ckS g2 n + wgt n * g2 n = ckS g n + wgt n * g n
                  rw [ih (by omega), hsame n (by omega)]
              rw [← this 13 (by omega)]
              exact hg2.2.2.2
        · obtain ⟨e1, ⟨i, h1, h2, h3⟩, f1⟩ := hr
          refine ed_mk ⟨fr_mono (by decide) (by decide) f1, Or.inr ⟨e1, ?_⟩⟩
          rintro ⟨g, hg⟩
          rw [hg.2.1 i h1 h2] at h3
          cases h3
      · rw [if_neg k3]
        exact out M fr_refl (fun g => k3 (o3.mpr (grd_iff.mp g).2.2))
    · rw [if_pos k2]
      exact out M fr_refl (fun g => k2 (o2.mpr (grd_iff.mp g).2.1))
  · rw [if_pos k1]
    exact out M fr_refl (fun g => k1 (o1.mpr (grd_iff.mp g).1))
