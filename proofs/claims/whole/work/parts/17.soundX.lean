/-- THE RUNS OF THE LAW'S OWN METHODS ARE SOUND -/
theorem im_soundX {G : im_G} {X : im_E} {EW : List Cond} {NC : List (String × String)} {l : Launch} {D : va_G} {cy : Nat → ClassId} {ad : Nat → Nat} {z : Nat} (HG : im_OK G) (HE : im_TE G X EW) (HXX : im_TX G X EW NC) (hmv : im_mvE EW) (htr : l.stackTraces = false) (had : ∀ i, i < 1000000 → ad i = z + i) : ∀ (n dep : Nat) (d : im_J) (hh : List (Nat × Nat × Nat × Nat)) (F : im_F) (v : Option Value) (M' : im_M) (t : Nat), im_runX G X n dep d hh F = some (v, M', t) → (im_n F.2.2.2 ≤ im_n M' ∧ im_tt G F.2.2.2 ≤ im_tt G M') ∧ im_SafeX G EW NC l D cy ad z dep d hh F v M' t := by
  intro n
  induction n with
  | zero =>
    intro dep d hh F v M' t h
    cases h
  | succ n ih =>
    intro dep d hh F v M' t h
    cases dep with
    | zero => cases h
    | succ dep =>
      unfold im_runX at h
      cases hdec : decode d.2.1 F.1 with
      | error q => rw [hdec] at h; cases h
      | ok q =>
        obtain ⟨i, len⟩ := q
        rw [hdec] at h
        simp only at h
        by_cases hr : im_isret i = true
        · rw [if_pos hr] at h
          by_cases hl : len = 1
          · subst hl
            rw [if_pos rfl] at h
            cases hret : im_ret d.2.2.2.1 i F with
            | none => rw [hret] at h; cases h
            | some r =>
              obtain ⟨v1, M1⟩ := r
              rw [hret] at h
              cases h
              obtain ⟨e1, e2, hk⟩ := im_ret_spec hret
              subst e2
              refine ⟨⟨Nat.le_refl _, Nat.le_refl _⟩, ?_⟩
              intro p e R s m args below meth c Q cells slots C HX HY HZ hz htab hf hlo hc hs hret ls H locs hl hH hS
              have h3 := hret F.1 i ls H locs hdec hk hH hS
              rw [Nat.sub_self, Nat.sub_self, Nat.add_zero, Nat.add_zero, ← e1] at h3
              exact h3
          · rw [if_neg hl] at h
            cases h
        · rw [if_neg hr] at h
          cases hpx : im_prepX X d i F with
          | some pr =>
            obtain ⟨d', h', vs, rest⟩ := pr
            rw [hpx] at h
            simp only at h
            by_cases hl : len = 3
            · subst hl
              rw [if_pos rfl] at h
              cases hrun : im_runX G X n dep d' h' (0, lv_args 0 vs, [], F.2.2.2) with
              | none => rw [hrun] at h; cases h
              | some r =>
                obtain ⟨v1, M1, t1⟩ := r
                rw [hrun] at h
                simp only at h
                cases hrun2 : im_runX G X n (dep + 1) d hh (F.1 + 3, F.2.1, v1.toList ++ rest, M1) with
                | none => rw [hrun2] at h; cases h
                | some r2 =>
                  obtain ⟨v2, M2, t2⟩ := r2
                  rw [hrun2] at h
                  cases h
                  obtain ⟨⟨a1, a2⟩, a3⟩ := ih dep d' h' _ v1 M1 t1 hrun
                  obtain ⟨⟨b1, b2⟩, b3⟩ := ih (dep + 1) d hh _ v M' t2 hrun2
                  simp only at a1 a2 b1 b2
                  refine ⟨⟨Nat.le_trans a1 b1, Nat.le_trans a2 b2⟩, ?_⟩
                  intro p e R s m args below meth c Q cells slots C HX HY HZ hz htab hf hlo hc hs hret
                  refine im_callX_ok HG HXX hmv C HX HY HZ hz hf hlo hdec hpx a3 (by omega) (by omega) ?_
                  refine b3 p e R s m args below meth c Q _ _ C HX HY HZ hz htab hf hlo (by simp only; omega) (by simp only; omega) ?_
                  intro pc i' ls H locs q1 q2 q3 q4
                  have h3 := hret pc i' ls H locs q1 q2 q3 q4
                  have e1 : cells + (im_n M1 - im_n F.2.2.2 + t1) + (im_n M' - im_n M1) + t2 = cells + (im_n M' - im_n F.2.2.2) + (t1 + t2) := by omega
                  have e2 : slots + (im_tt G M1 - im_tt G F.2.2.2 + 6 * t1) + (im_tt G M' - im_tt G M1) + 6 * t2 = slots + (im_tt G M' - im_tt G F.2.2.2) + 6 * (t1 + t2) := by omega
                  simp only
                  rw [e1, e2]
                  exact h3
            · rw [if_neg hl] at h
              cases h
          | none =>
            rw [hpx] at h
            simp only at h
            cases hcall : im_iscall G d i with
            | some kk =>
              obtain ⟨k, kd⟩ := kk
              rw [hcall] at h
              simp only at h
              by_cases hl : len = 3
              · subst hl
                rw [if_pos rfl] at h
                cases hp : im_prep G d.2.2.2.2.2.2 k kd F with
                | none => rw [hp] at h; cases h
                | some pr =>
                  obtain ⟨d', vs, rest⟩ := pr
                  rw [hp] at h
                  simp only at h
                  cases hrun : im_run G n dep d' (0, lv_args 0 vs, [], F.2.2.2) with
                  | none =>
                    rw [hrun] at h
                    simp only at h
                    by_cases hkd : kd = 0
                    · subst hkd
                      rw [if_pos rfl] at h
                      cases hthr : im_thr G X n dep d' (0, lv_args 0 vs, [], F.2.2.2) with
                      | none => rw [hthr] at h; cases h
                      | some r =>
                        obtain ⟨E, M1⟩ := r
                        rw [hthr] at h
                        simp only at h
                        cases hhand : im_hand X d.2.2.2.2.2.2 hh F.1 E with
                        | none => rw [hhand] at h; cases h
                        | some hpc =>
                          rw [hhand] at h
                          simp only at h
                          cases hforg : im_forg d hpc F.2.1 with
                          | none => rw [hforg] at h; cases h
                          | some r2 =>
                            obtain ⟨pc', L'⟩ := r2
                            rw [hforg] at h
                            simp only at h
                            cases hrun2 : im_runX G X n (dep + 1) d hh (pc', L', [], M1) with
                            | none => rw [hrun2] at h; cases h
                            | some r3 =>
                              obtain ⟨v2, M2, t2⟩ := r3
                              rw [hrun2] at h
                              cases h
                              obtain ⟨⟨a1, a2⟩, -⟩ := im_thr_sound (NC := NC) (l := l) (D := D) (cy := cy) HG HE hmv htr had n dep d' _ E M1 hthr
                              obtain ⟨⟨b1, b2⟩, b3⟩ := ih (dep + 1) d hh _ v M' t2 hrun2
                              simp only at a1 a2 b1 b2
                              refine ⟨⟨Nat.le_trans a1 b1, Nat.le_trans a2 b2⟩, ?_⟩
                              intro p e R s m args below meth c Q cells slots C HX HY HZ hz htab hf hlo hc hs hret
                              refine im_callT_ok HG HE HXX hmv htr had C HX HY HZ hz htab hf hlo hdec hcall hp hthr hhand hforg (by omega) (by omega) ?_
                              refine b3 p e R s m args below meth c Q _ _ C HX HY HZ hz htab hf hlo (by simp only; omega) (by simp only; omega) ?_
                              intro pc i' ls H locs q1 q2 q3 q4
                              have h3 := hret pc i' ls H locs q1 q2 q3 q4
                              have e1 : cells + (im_n M1 - im_n F.2.2.2 + 1) + (im_n M' - im_n M1) + t2 = cells + (im_n M' - im_n F.2.2.2) + (t2 + 1) := by omega
                              have e2 : slots + (im_tt G M1 - im_tt G F.2.2.2 + 6) + (im_tt G M' - im_tt G M1) + 6 * t2 = slots + (im_tt G M' - im_tt G F.2.2.2) + 6 * (t2 + 1) := by omega
                              simp only
                              rw [e1, e2]
                              exact h3
                    · rw [if_neg hkd] at h
                      cases h
                  | some r =>
                    obtain ⟨v1, M1⟩ := r
                    rw [hrun] at h
                    simp only at h
                    obtain ⟨⟨a1, a2⟩, a3⟩ := im_sound (l := l) (D := D) (cy := cy) HG had n dep d' _ v1 M1 hrun
                    obtain ⟨⟨b1, b2⟩, b3⟩ := ih (dep + 1) d hh _ v M' t h
                    simp only at a1 a2 b1 b2
                    refine ⟨⟨Nat.le_trans a1 b1, Nat.le_trans a2 b2⟩, ?_⟩
                    intro p e R s m args below meth c Q cells slots C HX HY HZ hz htab hf hlo hc hs hret
                    refine im_call_ok HG C HX HY hz hf hlo hdec hcall hp a3 (by omega) (by omega) ?_
                    refine b3 p e R s m args below meth c Q _ _ C HX HY HZ hz htab hf hlo (by simp only; omega) (by simp only; omega) ?_
                    intro pc i' ls H locs q1 q2 q3 q4
                    have h3 := hret pc i' ls H locs q1 q2 q3 q4
                    have e1 : cells + (im_n M1 - im_n F.2.2.2) + (im_n M' - im_n M1) + t = cells + (im_n M' - im_n F.2.2.2) + t := by omega
                    have e2 : slots + (im_tt G M1 - im_tt G F.2.2.2) + (im_tt G M' - im_tt G M1) + 6 * t = slots + (im_tt G M' - im_tt G F.2.2.2) + 6 * t := by omega
                    simp only
                    rw [e1, e2]
                    exact h3
              · rw [if_neg hl] at h
                cases h
            | none =>
              rw [hcall] at h
              simp only at h
              cases hn : im_nat G d i len F with
              | none => rw [hn] at h; cases h
              | some F' =>
                rw [hn] at h
                simp only at h
                obtain ⟨a1, a2⟩ := im_nat_mono hn
                obtain ⟨⟨b1, b2⟩, b3⟩ := ih (dep + 1) d hh F' v M' t h
                refine ⟨⟨Nat.le_trans a1 b1, Nat.le_trans a2 b2⟩, ?_⟩
                intro p e R s m args below meth c Q cells slots C HX HY HZ hz htab hf hlo hc hs hret
                refine im_nat_ok (dep := dep) HG C HX had ⟨by omega, by omega⟩ hdec hn (by omega) (by omega) ?_
                refine b3 p e R s m args below meth c Q _ _ C HX HY HZ hz htab hf hlo (by omega) (by omega) ?_
                intro pc i' ls H locs q1 q2 q3 q4
                have h3 := hret pc i' ls H locs q1 q2 q3 q4
                have e1 : cells + (im_n F'.2.2.2 - im_n F.2.2.2) + (im_n M' - im_n F'.2.2.2) + t = cells + (im_n M' - im_n F.2.2.2) + t := by omega
                have e2 : slots + (im_tt G F'.2.2.2 - im_tt G F.2.2.2) + (im_tt G M' - im_tt G F'.2.2.2) + 6 * t = slots + (im_tt G M' - im_tt G F.2.2.2) + 6 * t := by omega
                rw [e1, e2]
                exact h3

