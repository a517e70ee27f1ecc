/-! RUNS OF THE LAW AND ITS OWN METHODS -/
/-- exceptions are made by throws alone; the law's own methods with tables have no other link -/
def im_GX (G : im_G) (X : im_E) : Prop := (∀ (ow k : Nat) (q : Nat × Nat), X.2.1 ow k = some q → ig_nT G ow k = none) ∧ ∀ (ow k : Nat) (q : im_J × List (Nat × Nat × Nat × Nat)), X.2.2.1 ow k = some q → ig_cal G ow k = none ∧ ig_aT G ow k = false
theorem ir_det {G : im_G} {n n' dep : Nat} {d : im_J} {F : im_F} {r r' : Option Value × im_M} (h : im_run G n dep d F = some r) (h' : im_run G n' dep d F = some r') : r = r' := by
  have e := (ir_le h (Nat.le_max_left n n')).symm.trans (ir_le h' (Nat.le_max_right n n'))
  exact Option.some.inj e
theorem it_none {G : im_G} {X : im_E} (hGX : im_GX G X) : ∀ (n dep : Nat) (d : im_J) (F : im_F) (r : Nat × im_M), im_thr G X n dep d F = some r → ∀ n', im_run G n' dep d F = none := by
  intro n
  induction n with
  | zero => intro dep d F r h; cases h
  | succ n ih =>
    intro dep d F r h n'
    cases dep with
    | zero => cases h
    | succ dep =>
      cases n' with
      | zero => rfl
      | succ n' =>
        unfold im_thr at h
        unfold im_run
        cases hdec : decode d.2.1 F.1 with
        | error q => rfl
        | ok q =>
          obtain ⟨i, len⟩ := q
          rw [hdec] at h
          simp only at h ⊢
          cases ht : im_isthr X d i F with
          | some E =>
            cases i <;> first | (cases ht; done) | skip
            rename_i k
            have hk : ig_nT G d.2.2.2.2.2.2 k = none := by
              simp only [im_isthr] at ht
              cases hx : X.2.1 d.2.2.2.2.2.2 k with
              | none => rw [hx] at ht; cases ht
              | some q => exact hGX.1 _ _ q hx
            simp only [im_isret, im_iscall, im_nat, im_one, im_new, hk, im_ok]
            split
            · rename_i q; cases q
            · split <;> first | rfl | (rename_i q; split at q <;> cases q)
          | none =>
            rw [ht] at h
            simp only at h
            by_cases hr : im_isret i = true
            · rw [if_pos hr] at h; cases h
            · rw [if_neg hr] at h ⊢
              cases hcall : im_iscall G d i with
              | some kk =>
                obtain ⟨k, kd⟩ := kk
                rw [hcall] at h
                simp only at h ⊢
                by_cases hl : len = 3
                · rw [if_pos hl] at h ⊢
                  cases hp : im_prep G d.2.2.2.2.2.2 k kd F with
                  | none => rfl
                  | some t =>
                    obtain ⟨d', vs, rest⟩ := t
                    rw [hp] at h
                    simp only at h ⊢
                    cases hrun : im_run G n dep d' (0, lv_args 0 vs, [], F.2.2.2) with
                    | none => rw [hrun] at h; cases h
                    | some r1 =>
                      rw [hrun] at h
                      cases hrun' : im_run G n' dep d' (0, lv_args 0 vs, [], F.2.2.2) with
                      | none => rfl
                      | some r2 =>
                        cases ir_det hrun hrun'
                        exact ih _ _ _ _ h n'
                · rw [if_neg hl] at h; cases h
              | none =>
                rw [hcall] at h
                simp only at h ⊢
                cases hn : im_nat G d i len F with
                | none => rfl
                | some F' =>
                  rw [hn] at h
                  exact ih _ _ _ _ h n'
theorem ixr_mono {G : im_G} {X : im_E} (hGX : im_GX G X) : ∀ (n dep : Nat) (d : im_J) (hh : List (Nat × Nat × Nat × Nat)) (F : im_F) (r : Option Value × im_M × Nat), im_runX G X n dep d hh F = some r → im_runX G X (n + 1) dep d hh F = some r := by
  intro n
  induction n with
  | zero => intro dep d hh F r h; cases h
  | succ n ih =>
    intro dep d hh F r h
    cases dep with
    | zero => cases h
    | succ dep =>
      unfold im_runX at h ⊢
      cases hdec : decode d.2.1 F.1 with
      | error q => rw [hdec] at h; cases h
      | ok q =>
        obtain ⟨i, len⟩ := q
        rw [hdec] at h
        simp only at h ⊢
        by_cases hr : im_isret i = true
        · rw [if_pos hr] at h ⊢
          exact h
        · rw [if_neg hr] at h ⊢
          cases hpx : im_prepX X d i F with
          | some w =>
            obtain ⟨d', h', vs, rest⟩ := w
            rw [hpx] at h
            simp only at h ⊢
            by_cases hl : len = 3
            · rw [if_pos hl] at h ⊢
              cases h1 : im_runX G X n dep d' h' (0, lv_args 0 vs, [], F.2.2.2) with
              | none => rw [h1] at h; cases h
              | some r1 =>
                obtain ⟨v1, M1, t1⟩ := r1
                rw [h1] at h
                rw [ih _ _ _ _ _ h1]
                simp only at h ⊢
                cases h2 : im_runX G X n (dep + 1) d hh (F.1 + 3, F.2.1, v1.toList ++ rest, M1) with
                | none => rw [h2] at h; cases h
                | some r2 =>
                  rw [h2] at h
                  rw [ih _ _ _ _ _ h2]
                  exact h
            · rw [if_neg hl] at h; cases h
          | none =>
            rw [hpx] at h
            simp only at h ⊢
            cases hcall : im_iscall G d i with
            | some kk =>
              obtain ⟨k, kd⟩ := kk
              rw [hcall] at h
              simp only at h ⊢
              by_cases hl : len = 3
              · rw [if_pos hl] at h ⊢
                cases hp : im_prep G d.2.2.2.2.2.2 k kd F with
                | none => rw [hp] at h; cases h
                | some t =>
                  obtain ⟨d', vs, rest⟩ := t
                  rw [hp] at h
                  simp only at h ⊢
                  cases hrun : im_run G n dep d' (0, lv_args 0 vs, [], F.2.2.2) with
                  | some r1 =>
                    rw [hrun] at h
                    rw [ir_mono _ _ _ _ _ hrun]
                    exact ih _ _ _ _ _ h
                  | none =>
                    rw [hrun] at h
                    simp only at h
                    by_cases hk : kd = 0
                    · rw [if_pos hk] at h
                      cases ht : im_thr G X n dep d' (0, lv_args 0 vs, [], F.2.2.2) with
                      | none => rw [ht] at h; cases h
                      | some E =>
                        obtain ⟨E, M1⟩ := E
                        rw [ht] at h
                        rw [it_none hGX _ _ _ _ _ ht (n + 1)]
                        simp only at h ⊢
                        rw [if_pos hk, it_mono _ _ _ _ _ ht]
                        simp only
                        cases h3 : im_hand X d.2.2.2.2.2.2 hh F.1 E with
                        | none => rw [h3] at h; cases h
                        | some hd =>
                          rw [h3] at h
                          simp only at h ⊢
                          cases h4 : im_forg d hd F.2.1 with
                          | none => rw [h4] at h; cases h
                          | some q4 =>
                            obtain ⟨pc', L'⟩ := q4
                            rw [h4] at h
                            simp only at h ⊢
                            cases h5 : im_runX G X n (dep + 1) d hh (pc', L', [], M1) with
                            | none => rw [h5] at h; cases h
                            | some r5 =>
                              rw [h5] at h
                              rw [ih _ _ _ _ _ h5]
                              exact h
                    · rw [if_neg hk] at h; cases h
              · rw [if_neg hl] at h; cases h
            | none =>
              rw [hcall] at h
              simp only at h ⊢
              cases hn : im_nat G d i len F with
              | none => rw [hn] at h; cases h
              | some F' =>
                rw [hn] at h
                exact ih _ _ _ _ _ h
theorem ixr_le {G : im_G} {X : im_E} (hGX : im_GX G X) {n k dep : Nat} {d : im_J} {hh : List (Nat × Nat × Nat × Nat)} {F : im_F} {r : Option Value × im_M × Nat} (h : im_runX G X n dep d hh F = some r) (hk : n ≤ k) : im_runX G X k dep d hh F = some r := by
  obtain ⟨j, rfl⟩ := Nat.le.dest hk
  induction j with
  | zero => exact h
  | succ j ih => exact ixr_mono hGX _ _ _ _ _ _ (ih (Nat.le_add_right _ _))
/-- the law's run from F ends, with P; t throws -/
def ix (G : im_G) (X : im_E) (dep : Nat) (d : im_J) (hh : List (Nat × Nat × Nat × Nat)) (P : Option Value → im_M → Nat → Prop) (F : im_F) : Prop := ∃ (n : Nat) (v : Option Value) (M' : im_M) (t : Nat), im_runX G X n (dep + 1) d hh F = some (v, M', t) ∧ P v M' t
theorem ix_prepX {X : im_E} {d : im_J} {i : Instr} {F : im_F} (h : ∀ k, i = .invokestatic k → X.2.2.1 d.2.2.2.2.2.2 k = none) : im_prepX X d i F = none := by
  cases i <;> first | rfl | skip
  rename_i k
  simp only [im_prepX, h k rfl]
theorem ix_St {G : im_G} {X : im_E} {dep : Nat} {d : im_J} {hh : List (Nat × Nat × Nat × Nat)} {P : Option Value → im_M → Nat → Prop} (hGX : im_GX G X) : im_St G dep d (ix G X dep d hh P) := by
  refine ⟨?_, ?_, ?_⟩
  · intro F F' i len hd hp ho hR
    obtain ⟨n, v, M', t, h, hP⟩ := hR
    obtain ⟨e1, e2, e3⟩ := im_plain_nat (G := G) (d := d) (len := len) (F := F) hp
    refine ⟨n + 1, v, M', t, ?_, hP⟩
    unfold im_runX
    rw [hd]
    simp only
    rw [e1, ix_prepX (by intro k q; subst q; cases hp), e2, e3, ho]
    simpa using h
  · intro F F' i hd hc hr hw ho hR
    obtain ⟨n, v, M', t, h, hP⟩ := hR
    refine ⟨n + 1, v, M', t, ?_, hP⟩
    have hpx : im_prepX X d i F = none := ix_prepX (by
      intro k q
      subst q
      cases hx : X.2.2.1 d.2.2.2.2.2.2 k with
      | none => rfl
      | some w =>
        have h9 := (hGX.2 _ _ w hx).2
        simp [im_nat, h9] at ho)
    unfold im_runX
    rw [hd]
    simp only
    rw [hr, hpx, hc, ho]
    simpa using h
  · intro F i k kd d' vs rest Pc hd hc hp hcal hk
    cases dep with
    | zero => exact hcal.elim
    | succ dep =>
      obtain ⟨n1, v1, M1, h1, hP1⟩ := hcal
      obtain ⟨n2, v2, M2, t2, h2, hP2⟩ := hk v1 M1 hP1
      refine ⟨max n1 n2 + 1, v2, M2, t2, ?_, hP2⟩
      have hr : im_isret i = false := by cases i <;> first | rfl | (cases hc; done)
      have hpx : im_prepX X d i F = none := ix_prepX (by
        intro k9 q
        subst q
        cases hx : X.2.2.1 d.2.2.2.2.2.2 k9 with
        | none => rfl
        | some w =>
          obtain ⟨h8, h9⟩ := hGX.2 _ _ w hx
          simp only [im_iscall, h9] at hc
          cases hc
          simp only [im_prep, h8] at hp
          cases hp)
      unfold im_runX
      rw [hd]
      simp only
      rw [hr, hpx, hc]
      simp only [if_true, hp]
      rw [ir_le h1 (Nat.le_max_left _ _)]
      simpa using ixr_le hGX h2 (Nat.le_max_right _ _)
section IXR
variable {G : im_G} {X : im_E} {dep : Nat} {d : im_J} {hh : List (Nat × Nat × Nat × Nat)} {P : Option Value → im_M → Nat → Prop} {pc : Nat} {L : List (Nat × Value)} {r : List Value} {M : im_M}
theorem ix_iret {t : FieldType} {v : Int32} (hd : decode d.2.1 pc = .ok (.ireturn, 1)) (hr : d.2.2.2.1 = some t) (hn : narrow t (.int v) = .int v) (hP : P (some (.int v)) M 0) : ix G X dep d hh P (pc, L, [.int v], M) := by
  refine ⟨1, some (.int v), M, 0, ?_, hP⟩
  unfold im_runX
  rw [hd]
  simp [im_isret, im_ret, hr, hn]
theorem ix_new (q : Nat) {k ci : Nat} (hd : decode d.2.1 pc = .ok (.new k, 3)) (hc : ig_nT G d.2.2.2.2.2.2 k = some ci) (hx : im_x M = true) (hm : im_n M < 1000000) (hl : ci < 32) (hq : pc + 3 = q) (kk : ix G X dep d hh P (q, L, .ref (im_n M) :: r, im_mk M (ci, 0))) : ix G X dep d hh P (pc, L, r, M) := by
  subst hq
  obtain ⟨n, v, M', t, h, hP⟩ := kk
  refine ⟨n + 1, v, M', t, ?_, hP⟩
  unfold im_runX
  rw [hd]
  simp only [im_isret, im_prepX, im_iscall, im_nat, im_one, im_ok, if_true, im_new, hc]
  rw [if_neg (by decide), if_pos ⟨hx, hm, hl⟩]
  exact h
/-- a call of one of the law's own methods with tables -/
theorem ix_callX {dep : Nat} (hGX : im_GX G X) (q : Nat) {k : Nat} {d' : im_J} {h' : List (Nat × Nat × Nat × Nat)} {st vs rest : List Value} {Q : Option Value → im_M → Nat → Prop} (hd : decode d.2.1 pc = .ok (.invokestatic k, 3)) (hp : im_prepX X d (.invokestatic k) (pc, L, st, M) = some (d', h', vs, rest)) (hcal : ix G X dep d' h' Q (0, lv_args 0 vs, [], M)) (hq : pc + 3 = q) (kk : ∀ v M1 t, Q v M1 t → ix G X (dep + 1) d hh (fun v2 M2 t2 => P v2 M2 (t + t2)) (q, L, v.toList ++ rest, M1)) : ix G X (dep + 1) d hh P (pc, L, st, M) := by
  subst hq
  obtain ⟨n1, v1, M1, t1, h1, hQ⟩ := hcal
  obtain ⟨n2, v2, M2, t2, h2, hP⟩ := kk v1 M1 t1 hQ
  refine ⟨max n1 n2 + 1, v2, M2, t1 + t2, ?_, hP⟩
  unfold im_runX
  rw [hd]
  simp only [im_isret, hp, if_true]
  rw [ixr_le hGX h1 (Nat.le_max_left _ _)]
  simp only
  rw [ixr_le hGX h2 (Nat.le_max_right _ _)]
  simp
/-- a call that throws, and is caught here -/
theorem ix_caught {dep : Nat} (hGX : im_GX G X) {k : Nat} {d' : im_J} {st vs rest : List Value} {Q : Nat → im_M → Prop} (hd : decode d.2.1 pc = .ok (.invokevirtual k, 3)) (hp : im_prep G d.2.2.2.2.2.2 k 0 (pc, L, st, M) = some (d', vs, rest)) (hcal : it G X dep d' Q (0, lv_args 0 vs, [], M)) (kk : ∀ E M1, Q E M1 → ∃ (h pc' : Nat) (L' : List (Nat × Value)), im_hand X d.2.2.2.2.2.2 hh pc E = some h ∧ im_forg d h L = some (pc', L') ∧ ix G X (dep + 1) d hh (fun v2 M2 t2 => P v2 M2 (t2 + 1)) (pc', L', [], M1)) : ix G X (dep + 1) d hh P (pc, L, st, M) := by
  obtain ⟨n1, E, M1, h1, hQ⟩ := hcal
  obtain ⟨h, pc', L', h2, h3, n2, v2, M2, t2, h4, hP⟩ := kk E M1 hQ
  refine ⟨max n1 n2 + 1, v2, M2, t2 + 1, ?_, hP⟩
  unfold im_runX
  rw [hd]
  simp only [im_isret, im_prepX, im_iscall, hp, if_true]
  have h5 := it_le h1 (Nat.le_max_left n1 n2)
  rw [it_none hGX _ _ _ _ _ h5]
  simp only [if_true]
  rw [h5]
  simp only [h2, h3]
  rw [ixr_le hGX h4 (Nat.le_max_right _ _)]
  simp
end IXR
theorem tb_GX (L : Nat) (xs : Nat → Int32) : im_GX (tb_G L xs) tb_X := by
  constructor
  · intro ow k q h
    have hm : (ow, k, q) ∈ tb_el := tb_find_mem h
    simp only [tb_el, List.mem_cons, List.not_mem_nil, or_false, Prod.mk.injEq] at hm
    show tb_find tb_nl ow k = none
    rcases hm with ⟨rfl, rfl, -⟩ | ⟨rfl, rfl, -⟩ <;> decide +kernel
  · intro ow k q h
    have h : tb_wT ow k = some q := h
    unfold tb_wT at h
    cases hf : tb_find tb_wl ow k with
    | none => rw [hf] at h; cases h
    | some j =>
      have hm := tb_find_mem hf
      have hall : tb_wl.all (fun e => decide (tb_cal e.1 e.2.1 = none) && decide (tb_aT e.1 e.2.1 = false)) = true := by decide +kernel
      have h9 := List.all_eq_true.mp hall _ hm
      simp only [Bool.and_eq_true, decide_eq_true_eq] at h9
      exact h9
