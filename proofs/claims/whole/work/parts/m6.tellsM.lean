/-! THE FEWEST SYMBOLS: THE REFERENCE'S STEPS -/
def TX (M : im_M) (n : Nat) (t : Nat → Nat) : Prop := im_i M 96 5 = nI n ∧ n ≤ 64 ∧ ∀ i, i < n → t i ≤ 128 ∧ im_i M 100 i = nI (t i)
theorem TX_fr {A : Nat} {F : List (Nat × Nat)} {M M' : im_M} {n : Nat} {t : Nat → Nat} (h : fr A F M M') (c : clr A F [100] [(96, 5)] [] = true) (q : TX M n t) : TX M' n t := by
  unfold TX at q ⊢
  rw [clr_a c h (a := 100) (by decide), clr_f c h (a := 96) (k := 5) (by decide)]
  exact q
theorem s_atL {M : im_M} {n i : Nat} {t : Nat → Nat} (h : TX M n t) (hi : i < 1000) : f_MLineRows_at (nI i) M = some (if i < n then nI (t i) else -1) := by
  obtain ⟨h0, h1, h2⟩ := h
  unfold f_MLineRows_at
  rw [h0, if_nIl (by omega) (by omega)]
  by_cases c : n ≤ i
  · rw [if_pos c, if_neg (by omega)]
  · rw [if_neg c, if_pos (by omega), gd_pos (by rw [inb_nI (by omega)]; omega), nI_clamp (by omega), (h2 i (by omega)).2]
theorem s_isPair {M : im_M} {n i c : Nat} {t : Nat → Nat} (h : TX M n t) (hi : i < n) (hc : c < 100) : f_MLineRows_isPair (nI i) (nI c) M = some (if syT t n i 2 = some c then 1 else 0) := by
  obtain ⟨h0, h1, h2⟩ := id h
  have ti := h2 i hi
  have d10 : nI c / 10 = nI (c / 10) := nI_div (b := 10) (by omega) (by omega) (by omega)
  have r10 : nI c - nI c / 10 * 10 = nI (c % 10) := nI_rem (b := 10) (by omega) (by omega) (by omega)
  have e1 : (48 : Int32) + nI (c / 10) = nI (48 + c / 10) := nI_add 48 _
  have e2 : (48 : Int32) + nI (c % 10) = nI (48 + c % 10) := nI_add 48 _
  have sp : (syT t n i 2 = some c) ↔ (t i = 48 + c / 10 ∧ i + 1 < n ∧ t (i + 1) = 48 + c % 10) := by
    unfold syT
    rw [if_pos rfl]
    by_cases q : 48 ≤ t i ∧ t i ≤ 57 ∧ i + 1 < n ∧ 48 ≤ t (i + 1) ∧ t (i + 1) ≤ 57
    · rw [if_pos q]
      constructor
      · intro z
        injection z with z
        omega
      · intro z
        congr 1
        omega
    · rw [if_neg q]
      constructor
      · intro z; cases z
      · intro z; exact absurd z (by omega)
  unfold f_MLineRows_isPair
  rw [s_atL h (by omega), bd1_s, if_pos hi, r10, d10, e1, e2, show nI i + 1 = nI (i + 1) from nI_add i 1, s_atL h (by omega)]
  have k1 : (nI (t i) = nI (48 + c / 10)) = (t i = 48 + c / 10) := nIe (by omega) (by omega)
  simp only [k1, bd1_s]
  by_cases c1 : t i = 48 + c / 10
  · rw [if_neg (fun z => z c1)]
    by_cases c2 : i + 1 < n
    · have tj := (h2 (i + 1) c2).1
      have k2 : (nI (t (i + 1)) = nI (48 + c % 10)) = (t (i + 1) = 48 + c % 10) := nIe (by omega) (by omega)
      rw [if_pos c2]
      simp only [k2]
      by_cases c3 : t (i + 1) = 48 + c % 10
      · rw [if_neg (fun z => z c3), if_pos (sp.mpr ⟨c1, c2, c3⟩)]
      · rw [if_pos c3, if_neg (fun z => c3 (sp.mp z).2.2)]
    · rw [if_neg c2, if_pos (fun z => absurd z.symm (nI_nm1 (by omega))), if_neg (fun z => c2 (sp.mp z).2.1)]
  · rw [if_pos c1, if_neg (fun z => c1 (sp.mp z).1)]
theorem s_tells {M : im_M} {n i s c : Nat} {t : Nat → Nat} (h : TX M n t) (hi : i < n) (hs : s < 3) (hc : c < 103) : f_MLineRows_tells (nI i) (nI s) (nI c) M = some (if tel t n i s c = 0 then -1 else nI (tel t n i s c)) := by
  obtain ⟨h0, h1, h2⟩ := id h
  have ti := h2 i hi
  have k102 : (nI c = 102) = (c = 102) := nIe (c := 102) (by omega) (by omega)
  have k2 : (nI s = 2) = (s = 2) := nIe (c := 2) (by omega) (by omega)
  have k96 : ((96 : Int32) ≤ nI c) = (96 ≤ c) := nIl (x := 96) (by omega) (by omega)
  have k100 : ((100 : Int32) ≤ nI c) = (100 ≤ c) := nIl (x := 100) (by omega) (by omega)
  have k128 : (nI (t i) = 128) = (t i = 128) := nIe (c := 128) (by omega) (by omega)
  unfold f_MLineRows_tells tel
  rw [s_atL h (by omega), if_pos hi, h0, if_nIl (by omega) (by omega)]
  simp only [k102, k2, k96, k100, bd1_s, k128]
  by_cases c1 : c = 102
  · rw [if_neg (fun z => z c1), if_pos c1]
    by_cases c2 : t i = 128
    · rw [if_neg (fun z => z c2), if_pos c2, if_neg (by decide)]; rfl
    · rw [if_pos c2, if_neg c2, if_pos rfl]
  · rw [if_pos c1, if_neg c1]
    by_cases s2 : s = 2
    · subst s2
      rw [if_neg (fun z => z rfl)]
      by_cases c3 : 100 ≤ c
      · rw [if_pos c3, if_neg (show ¬ syT t n i 2 = some c from fun z => by have := (syT_lt z).1; omega), if_pos rfl]
      · rw [if_neg c3, s_isPair h hi (by omega), bd1_s]
        by_cases q : syT t n i 2 = some c
        · rw [if_pos q, if_pos q, if_neg (by decide), if_pos rfl, if_neg (by decide)]; rfl
        · rw [if_neg q, if_neg q, if_pos rfl, if_pos rfl]
    · rw [if_pos s2]
      by_cases c3 : 96 ≤ c
      · rw [if_pos c3, if_neg (show ¬ syT t n i s = some c from fun z => by have := (syT_lt z).2.1 s2; omega), if_pos rfl]
      · rw [if_neg c3, if_neg (by omega)]
        -- the sign of the symbol
        obtain ⟨g, hg, eg⟩ : ∃ g, g < 200 ∧ f_MLineRows_signOf (nI s) (nI c) M = some (nI g) ∧ (t i = g ↔ syT t n i s = some c) := by
          have k1 : (nI s = 1) = (s = 1) := nIe (c := 1) (by omega) (by omega)
          have k64 : ((64 : Int32) ≤ nI c) = (64 ≤ c) := nIl (x := 64) (by omega) (by omega)
          unfold f_MLineRows_signOf syT
          simp only [jn0, k1, k64]
          rw [if_neg s2]
          by_cases s1 : s = 1
          · refine ⟨c + 32, by omega, by rw [if_pos s1]; exact congrArg some (nI_add c 32), ?_⟩
            rw [if_neg (show ¬ s = 0 by omega), if_neg (show ¬ s = 0 by omega)]
            by_cases a : t i < 32
            · rw [if_pos a]; exact ⟨fun z => by omega, fun z => by cases z⟩
            · rw [if_neg a]
              by_cases b : t i < 128
              · rw [if_pos b]; exact ⟨fun z => by congr 1; omega, fun z => by injection z with z; omega⟩
              · rw [if_neg b]; exact ⟨fun z => by omega, fun z => by cases z⟩
          · rw [if_neg s1, if_pos (show s = 0 by omega), if_pos (show s = 0 by omega)]
            by_cases b64 : 64 ≤ c
            · refine ⟨c - 64, by omega, by rw [if_pos b64]; exact congrArg some (nI_sb (b := 64) b64), ?_⟩
              by_cases a : t i < 32
              · rw [if_pos a]; exact ⟨fun z => by congr 1; omega, fun z => by injection z with z; omega⟩
              · rw [if_neg a]
                by_cases b : t i < 96
                · rw [if_pos b]; exact ⟨fun z => by omega, fun z => by injection z with z; omega⟩
                · rw [if_neg b]; exact ⟨fun z => by omega, fun z => by cases z⟩
            · refine ⟨c + 32, by omega, by rw [if_neg b64]; exact congrArg some (nI_add c 32), ?_⟩
              by_cases a : t i < 32
              · rw [if_pos a]; exact ⟨fun z => by omega, fun z => by injection z with z; omega⟩
              · rw [if_neg a]
                by_cases b : t i < 96
                · rw [if_pos b]; exact ⟨fun z => by congr 1; omega, fun z => by injection z with z; omega⟩
                · rw [if_neg b]; exact ⟨fun z => by omega, fun z => by cases z⟩
        rw [eg.1, bd1_s]
        have kg : (nI (t i) = nI g) = (t i = g) := nIe (by omega) (by omega)
        simp only [kg]
        by_cases q : t i = g
        · rw [if_neg (fun z => z q), if_pos (eg.2.mp q), if_neg s2, if_neg (by decide)]; rfl
        · rw [if_pos q, if_neg (fun z => q (eg.2.mpr z)), if_pos rfl]
theorem s_goL {M : im_M} {s c : Nat} (hs : s < 3) (hc : c < 103) : f_MLineRows_goes (nI s) (nI c) M = some (oI (goV s c)) := by
  have := (by decide +kernel : ∀ s : Fin 3, ∀ c : Fin 103, (if ¬ ((if ¬ nI c.val = 99 then (if ¬ nI c.val = 100 then (if ¬ nI c.val = 101 then (-1) else 0) else 1) else 2) : Int32) = nI s.val then some ((if ¬ nI c.val = 99 then (if ¬ nI c.val = 100 then (if ¬ nI c.val = 101 then (-1) else 0) else 1) else 2) : Int32) else some (-1)) = some (oI (goV s.val c.val))) ⟨s, hs⟩ ⟨c, hc⟩
  exact this
def hasB (o : Option Nat) (c : Nat) : Bool := match o with
  | some d => decide (d < c)
  | none => false
theorem s_isOther {M : im_M} {n i s : Nat} {t : Nat → Nat} (h : TX M n t) (hi : i < n) (hs : s < 2) : f_MLineRows_isOther (nI i) (nI s) M = some (if (syT t n i (1 - s)).isSome = true then 1 else 0) := by
  have e1 : (1 : Int32) - nI s = nI (1 - s) := nI_sb (a := 1) (by omega)
  have run : ed (lp (uc2 (f_MLineRows_isOther_L5 (nI i) (nI s) M)) (0, 0)) (fun r => r = if hasB (syT t n i (1 - s)) 96 = true then 1 else 0) := by
    refine lp_inv (fun m (x : Int32 × Int32) => ∃ c : Nat, c + m = 96 ∧ x.1 = (if hasB (syT t n i (1 - s)) c = true then 1 else 0) ∧ x.2 = nI c) ?_ (k := 96) ⟨0, rfl, ?_, rfl⟩
    · rintro m ⟨x4, x5⟩ ⟨c, hc, e2, e3⟩
      replace e2 : x4 = (if hasB (syT t n i (1 - s)) c = true then 1 else 0) := e2
      replace e3 : x5 = nI c := e3
      subst e2 e3
      show ed (f_MLineRows_isOther_L5 (nI i) (nI s) M (if hasB (syT t n i (1 - s)) c = true then 1 else 0) (nI c)) _
      unfold f_MLineRows_isOther_L5
      have k0 : ((96 : Int32) ≤ nI c) = (96 ≤ c) := nIl (x := 96) (by omega) (by omega)
      simp only [k0, jn0]
      by_cases c1 : 96 ≤ c
      · rw [if_pos c1]
        obtain rfl : c = 96 := by omega
        exact lpo_r rfl
      · rw [if_neg c1, e1, s_tells h hi (by omega) (by omega), bd1_s]
        have st : tel t n i (1 - s) c = (if syT t n i (1 - s) = some c then 1 else 0) := by
          unfold tel
          rw [if_neg (by omega), if_neg (show ¬ 1 - s = 2 by omega)]
        have nxt : hasB (syT t n i (1 - s)) (c + 1) = (hasB (syT t n i (1 - s)) c || decide (syT t n i (1 - s) = some c)) := by
          cases syT t n i (1 - s) with
          | none =>
            show false = (false || decide ((none : Option Nat) = some c))
            rw [decide_eq_false (p := (none : Option Nat) = some c) (fun z => nomatch z)]
            rfl
          | some d =>
            show decide (d < c + 1) = (decide (d < c) || decide (some d = some c))
            rw [← Bool.decide_or]
            exact decide_eq_decide.mpr ⟨fun z => by
              by_cases e : d = c
              · right; rw [e]
              · left; omega, fun z => by
              rcases z with z | z
              · omega
              · injection z with z; omega⟩
        cases hb : hasB (syT t n i (1 - s)) c with
        | true =>
          rw [if_pos rfl, if_pos (by decide), bd1_s]
          refine lpo_l (m - 1) (by omega) ⟨c + 1, by omega, ?_, nI_add c 1⟩
          rw [nxt, hb, Bool.true_or, if_pos rfl]
        | false =>
          rw [if_neg (by decide), st]
          by_cases q : syT t n i (1 - s) = some c
          · rw [if_pos q, if_neg (by decide), bd1_s]
            refine lpo_l (m - 1) (by omega) ⟨c + 1, by omega, ?_, nI_add c 1⟩
            rw [nxt, decide_eq_true q, Bool.or_true, if_pos rfl]
          · rw [if_neg q, if_pos rfl, if_pos (by decide), bd1_s]
            refine lpo_l (m - 1) (by omega) ⟨c + 1, by omega, ?_, nI_add c 1⟩
            rw [nxt, hb, decide_eq_false q, Bool.or_false, if_neg (by decide)]
    · cases syT t n i (1 - s) <;> rfl
  obtain ⟨r, hr, rfl⟩ := run
  have e96 : hasB (syT t n i (1 - s)) 96 = (syT t n i (1 - s)).isSome := by
    cases e : syT t n i (1 - s) with
    | none => rfl
    | some d =>
      have := (syT_lt e).2.1 (by omega)
      exact decide_eq_true this
  unfold f_MLineRows_isOther
  rw [hr, bd1_s, e96]
  cases (syT t n i (1 - s)).isSome <;> rfl
