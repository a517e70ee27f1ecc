/-! STRIPS: THE CLASS -/
def ud (v : Nat → Nat) (n b : Nat) (i : Nat) : Nat := if b = 0 then v i else v (n - 1 - i)
/-- the strip of n widths tells the signs L -/
def RD1 (u : Nat → Nat) (n : Nat) (L : List Nat) : Prop := (n = 59 ∧ ∃ g, TH u g ∧ L = (List.range 13).map (fun k => 48 + g k)) ∨ (19 ≤ n ∧ n % 6 = 1 ∧ RWp u ((n - 7) / 6) ∧ rwLs u ((n - 7) / 6) = some L)
theorem RD1_one {u : Nat → Nat} {n : Nat} {L L' : List Nat} (h : RD1 u n L) (h' : RD1 u n L') : L = L' := by
  rcases h with ⟨h1, g, h2, h3⟩ | ⟨h1, h2, h3, h4⟩
  · rcases h' with ⟨k1, g', k2, k3⟩ | ⟨k1, k2, k3, k4⟩
    · rw [h3, k3]
      apply List.map_congr_left
      intro k hk
      rw [TH_one h2 k2 k (List.mem_range.mp hk)]
    · omega
  · rcases h' with ⟨k1, g', k2, k3⟩ | ⟨k1, k2, k3, k4⟩
    · omega
    · rw [h4] at k4
      exact Option.some.inj k4
def OUTB (M : im_M) (L : List Nat) : Prop := ∀ k, k < L.length → im_i M 68 k &&& 255 = nI (L.getD k 0)
theorem m13 {g : Nat → Nat} {k : Nat} (hk : k < 13) : ((List.range 13).map (fun k => 48 + g k)).getD k 0 = 48 + g k := by
  rw [List.getD_eq_getElem?_getD, List.getElem?_map, List.getElem?_range hk]
  rfl
/-- the runs that were taken, and the length that is tried -/
def RU (M : im_M) (v : Nat → Nat) (n : Nat) : Prop := n ≤ 511 ∧ (∀ i, i < n → 1 ≤ v i ∧ v i ≤ 512) ∧ im_i M 31 11 = nI n ∧ ∀ i, i < n → im_i M 32 i = nI (v i)
theorem RU_fr {A : Nat} {F : List (Nat × Nat)} {M M' : im_M} {v : Nat → Nat} {n : Nat} (h : fr A F M M') (c : clr A F [32] [(31, 11)] [] = true) (q : RU M v n) : RU M' v n := by
  refine ⟨q.1, q.2.1, ?_, ?_⟩
  · rw [clr_f c h (a := 31) (k := 11) (by decide)]
    exact q.2.2.1
  · rw [clr_a c h (a := 32) (by decide)]
    exact q.2.2.2
theorem RU_WH {M : im_M} {v : Nat → Nat} {n b : Nat} (q : RU M v n) (hb : b ≤ 1) (e : im_i M 31 4 = nI b) : WH M (ud v n b) n := by
  have hq := q.1
  refine ⟨q.1, ?_, q.2.2.1, ?_⟩
  · intro i hi
    unfold ud
    split
    · exact q.2.1 i hi
    · exact q.2.1 (n - 1 - i) (by omega)
  · intro i hi
    unfold f_HBars_widthAt ud
    rw [e, q.2.2.1]
    by_cases c : b = 0
    · rw [if_pos c, if_pos (show nI b = 0 by rw [c]; rfl), gd_pos (by rw [inb_nI (by omega)]; omega), nI_clamp (by omega), q.2.2.2 i hi]
    · have e1 : nI n - 1 - nI i = nI (n - 1 - i) := nI_s1 hi (by omega)
      rw [if_neg c, if_neg (show ¬ nI b = 0 from nI_z (by omega) (by omega)), e1, gd_pos (by rw [inb_nI (by omega)]; omega), nI_clamp (by omega), q.2.2.2 (n - 1 - i) (by omega)]
theorem s_way {M : im_M} {v : Nat → Nat} {n b : Nat} (q : RU M v n) (hb : b ≤ 1) (hn : 19 ≤ n) : ed (f_HBars_understand_L31 (nI b) M) (fun r => (∃ N L, r = .inr (.inr (nI L.length, N)) ∧ RD1 (ud v n b) n L ∧ OUTB N L ∧ L.length ≤ 300 ∧ im_i N 31 4 = nI b ∧ im_i N 31 3 = (if n = 59 then 1 else 0) ∧ fr (2 ^ 36 ||| 2 ^ 37 ||| 2 ^ 68) [(31, 3), (31, 4), (31, 9), (31, 12)] M N) ∨ (∃ N, r = .inl (nI (b + 1), N) ∧ (¬ ∃ L, RD1 (ud v n b) n L) ∧ fr (2 ^ 36 ||| 2 ^ 37 ||| 2 ^ 68) [(31, 3), (31, 4), (31, 9), (31, 12)] M N)) := by
  have hq := q.1
  unfold f_HBars_understand_L31
  have z2 : ¬ (2 : Int32) ≤ nI b := nI_ge (b := 2) (by omega) (by omega)
  have eb : ((if ¬ nI b = 1 then 0 else 1) : Int32) = nI b := by
    have : ∀ b : Fin 2, ((if ¬ nI b.val = 1 then 0 else 1) : Int32) = nI b.val := by decide
    exact this ⟨b, by omega⟩
  have eb2 : nI b = 0 ∨ nI b = 1 := by
    rcases (by omega : b = 0 ∨ b = 1) with rfl | rfl
    · exact Or.inl rfl
    · exact Or.inr rfl
  have e11 : im_i (im_setI M 31 4 (nI b)) 31 11 = nI n := by rw [← q.2.2.1]; rfl
  have c59 : (nI n = 59) = (n = 59) := nIe (c := 59) (by omega) (by omega)
  obtain ⟨f, hf⟩ : ∃ f : Int32, f = if n = 59 then 1 else 0 := ⟨_, rfl⟩
  have ef : ((if ¬ n = 59 then 0 else 1) : Int32) = f := by
    rw [hf]
    by_cases c : n = 59
    · rw [if_pos c, if_neg (fun z => z c)]
    · rw [if_neg c, if_pos c]
  have f01 : f = 0 ∨ f = 1 := by
    rw [hf]
    by_cases c : n = 59
    · rw [if_pos c]
      exact Or.inr rfl
    · rw [if_neg c]
      exact Or.inl rfl
  rw [if_neg z2, eb, gd_pos eb2, e11]
  simp only [c59, ef]
  rw [gd_pos f01]
  have e3 : im_i (im_setI (im_setI M 31 4 (nI b)) 31 3 f) 31 3 = f := rfl
  rw [e3]
  have f0 : fr (2 ^ 36 ||| 2 ^ 37 ||| 2 ^ 68) [(31, 3), (31, 4), (31, 9), (31, 12)] M (im_setI (im_setI M 31 4 (nI b)) 31 3 f) := fr_F (by decide) (fr_F (by decide) fr_refl)
  have q1 : RU (im_setI (im_setI M 31 4 (nI b)) 31 3 f) v n := RU_fr f0 (by decide +kernel) q
  have w1 : WH (im_setI (im_setI M 31 4 (nI b)) 31 3 f) (ud v n b) n := RU_WH q1 hb rfl
  generalize hM1 : im_setI (im_setI M 31 4 (nI b)) 31 3 f = M1 at *
  have e14 : im_i M1 31 4 = nI b := by rw [← hM1]; rfl
  have e13 : im_i M1 31 3 = f := by rw [← hM1]; rfl
  have e111 : im_i M1 31 11 = nI n := q1.2.2.1
  simp only [jn1, nI_1]
  by_cases c : n = 59
  · subst c
    have ff : ¬ f = 0 := by rw [hf, if_pos rfl]; decide
    rw [if_neg ff]
    apply bd2_mk
    refine ed_mono (s_readFig w1) ?_
    rintro ⟨z, N⟩ ⟨k1, k2⟩
    replace k1 : fr (2 ^ 37 ||| 2 ^ 68) [] M1 N := k1
    have fN : fr (2 ^ 36 ||| 2 ^ 37 ||| 2 ^ 68) [(31, 3), (31, 4), (31, 9), (31, 12)] M N := fr_tr (fr_mono (by decide) (by decide) k1) f0
    rcases k2 with ⟨k3, g, k4, k5⟩ | ⟨k3, k4⟩
    · replace k3 : z = 1 := k3
      subst k3
      show ed (if (1 : Int32) = 0 then _ else _) _
      rw [if_neg (by decide)]
      refine ed_mk (Or.inl ⟨N, (List.range 13).map (fun k => 48 + g k), rfl, Or.inl ⟨rfl, g, k4, rfl⟩, ?_, ?_, ?_, ?_, fN⟩)
      · intro k hk
        rw [List.length_map, List.length_range] at hk
        rw [m13 hk]
        replace k5 : ∀ k, k < 13 → im_i N 68 k = nI (48 + g k) := k5
        rw [k5 k hk]
        have hg : g k < 10 := by
          by_cases c0 : k = 0
          · subst c0
            exact (fdp_some 10 _ k4.2.2.1).1
          · exact fig_lt (k4.2.1 k (by omega) (by omega))
        have : ∀ j : Fin 10, nI (48 + j.val) &&& 255 = nI (48 + j.val) := by decide
        exact this ⟨g k, hg⟩
      · rw [List.length_map, List.length_range]
        omega
      · rw [← e14]
        exact k1.1 31 4 (by decide) (by simp)
      · rw [if_pos rfl]
        have : im_i N 31 3 = im_i M1 31 3 := k1.1 31 3 (by decide) (by simp)
        rw [this, e13, hf, if_pos rfl]
    · replace k3 : z = 0 := k3
      subst k3
      show ed (if (0 : Int32) = 0 then _ else _) _
      rw [if_pos rfl]
      have eN : im_i N 31 11 = nI 59 := by
        rw [← e111]
        exact k1.1 31 11 (by decide) (by simp)
      rw [eN, if_pos (by decide)]
      refine ed_mk (Or.inr ⟨N, rfl, ?_, fN⟩)
      rintro ⟨L, hL⟩
      rcases hL with ⟨_, g, hg, _⟩ | ⟨_, h6, _⟩
      · exact k4 ⟨g, hg⟩
      · omega
  · have ff : f = 0 := by rw [hf, if_neg c]
    rw [if_pos ff, e111]
    have er : nI n - nI n / 6 * 6 = nI (n % 6) := nI_rem (b := 6) (by omega) (by omega) (by omega)
    rw [er]
    have ce : (nI (n % 6) = 1) = (n % 6 = 1) := nIe (c := 1) (by omega) (by omega)
    simp only [ce]
    by_cases c6 : n % 6 = 1
    · rw [if_neg (fun z => z c6)]
      have hn2 : n = 6 * ((n - 7) / 6) + 7 := by omega
      have w2 : WH M1 (ud v n b) (6 * ((n - 7) / 6) + 7) := by rw [← hn2]; exact w1
      apply bd2_mk
      refine ed_mono (s_readSym w2 (by omega)) ?_
      rintro ⟨z, N⟩ ⟨k1, k2⟩
      replace k1 : fr (2 ^ 36 ||| 2 ^ 68) [(31, 9), (31, 12)] M1 N := k1
      have fN : fr (2 ^ 36 ||| 2 ^ 37 ||| 2 ^ 68) [(31, 3), (31, 4), (31, 9), (31, 12)] M N := fr_tr (fr_mono (by decide) (by decide) k1) f0
      rcases k2 with ⟨k3, k4, L, k5, k6, k7⟩ | ⟨k3, k4⟩
      · replace k3 : z = 1 := k3
        replace k6 : OUT N L := k6
        subst k3
        show ed (if (1 : Int32) = 0 then _ else _) _
        rw [if_neg (by decide)]
        show ed (some (Sum.inr (Sum.inr (im_i N 31 12, N)))) _
        rw [k6.1]
        refine ed_mk (Or.inl ⟨N, L, rfl, Or.inr ⟨hn, c6, k4, k5⟩, k6.2, k7, ?_, ?_, fN⟩)
        · rw [← e14]
          exact k1.1 31 4 (by decide) (by decide)
        · rw [if_neg c]
          have : im_i N 31 3 = im_i M1 31 3 := k1.1 31 3 (by decide) (by decide)
          rw [this, e13, ff]
      · replace k3 : z = 0 := k3
        subst k3
        show ed (if (0 : Int32) = 0 then _ else _) _
        rw [if_pos rfl]
        refine ed_mk (Or.inr ⟨N, rfl, ?_, fN⟩)
        rintro ⟨L, hL⟩
        rcases hL with ⟨h59, _⟩ | ⟨_, _, h1, h2⟩
        · exact c h59
        · exact k4 ⟨h1, L, h2⟩
    · rw [if_pos c6]
      refine ed_mk (Or.inr ⟨M1, rfl, ?_, f0⟩)
      rintro ⟨L, hL⟩
      rcases hL with ⟨h59, _⟩ | ⟨_, h6, _⟩
      · exact c h59
      · exact c6 h6
/-- of all strips that tell something: the longest, from the front first -/
def BEST (v : Nat → Nat) (m n b : Nat) (L : List Nat) : Prop := n ≤ m ∧ n % 2 = 1 ∧ b ≤ 1 ∧ RD1 (ud v n b) n L ∧ (b = 1 → ∀ L', ¬ RD1 (ud v n 0) n L') ∧ ∀ n', n < n' → n' ≤ m → n' % 2 = 1 → ∀ b' L', b' ≤ 1 → ¬ RD1 (ud v n' b') n' L'
def NONE1 (v : Nat → Nat) (m : Nat) : Prop := ∀ n', n' ≤ m → n' % 2 = 1 → ∀ b' L', b' ≤ 1 → ¬ RD1 (ud v n' b') n' L'
theorem BEST_one {v : Nat → Nat} {m n b n' b' : Nat} {L L' : List Nat} (h : BEST v m n b L) (h' : BEST v m n' b' L') : n = n' ∧ b = b' ∧ L = L' := by
  obtain ⟨a1, a2, a3, a4, a5, a6⟩ := h
  obtain ⟨c1, c2, c3, c4, c5, c6⟩ := h'
  have hn : n = n' := by
    rcases Nat.lt_trichotomy n n' with z | z | z
    · exact absurd c4 (a6 n' z c1 c2 b' L' c3)
    · exact z
    · exact absurd a4 (c6 n z a1 a2 b L a3)
  subst hn
  have hb : b = b' := by
    rcases (by omega : b = b' ∨ (b = 0 ∧ b' = 1) ∨ (b = 1 ∧ b' = 0)) with z | ⟨rfl, rfl⟩ | ⟨rfl, rfl⟩
    · exact z
    · exact absurd a4 (c5 rfl L)
    · exact absurd c4 (a5 rfl L')
  subst hb
  exact ⟨rfl, rfl, RD1_one a4 c4⟩
theorem BEST_no {v : Nat → Nat} {m n b : Nat} {L : List Nat} (h : BEST v m n b L) (h' : NONE1 v m) : False := h' n h.1 h.2.1 b L h.2.2.1 h.2.2.2.1
def wyI (M : im_M) (v : Nat → Nat) (n : Nat) (m : Nat) (st : Int32 × im_M) : Prop := ∃ b, b + m = 2 ∧ st.1 = nI b ∧ (∀ b', b' < b → ∀ L, ¬ RD1 (ud v n b') n L) ∧ fr (2 ^ 36 ||| 2 ^ 37 ||| 2 ^ 68) [(31, 3), (31, 4), (31, 9), (31, 12)] M st.2
theorem s_ways {M : im_M} {v : Nat → Nat} {n : Nat} (q : RU M v n) (hn : 19 ≤ n) : ed (lp (uc2 (f_HBars_understand_L31)) (0, M)) (fun (r : im_M ⊕ (Int32 × im_M)) => match r with
    | .inl N => (∀ b, b ≤ 1 → ∀ L, ¬ RD1 (ud v n b) n L) ∧ fr (2 ^ 36 ||| 2 ^ 37 ||| 2 ^ 68) [(31, 3), (31, 4), (31, 9), (31, 12)] M N
    | .inr p => ∃ b L, b ≤ 1 ∧ RD1 (ud v n b) n L ∧ (b = 1 → ∀ L', ¬ RD1 (ud v n 0) n L') ∧ p.1 = nI L.length ∧ OUTB p.2 L ∧ L.length ≤ 300 ∧ im_i p.2 31 4 = nI b ∧ im_i p.2 31 3 = (if n = 59 then 1 else 0) ∧ fr (2 ^ 36 ||| 2 ^ 37 ||| 2 ^ 68) [(31, 3), (31, 4), (31, 9), (31, 12)] M p.2) := by
  have h0 : wyI M v n 2 (0, M) := ⟨0, by omega, rfl, fun b' hb => absurd hb (by omega), fr_refl⟩
  refine lp_inv (wyI M v n) ?_ h0
  rintro m ⟨b', N⟩ ⟨b, b1, b2, b3, b4⟩
  replace b2 : b' = nI b := b2
  replace b4 : fr (2 ^ 36 ||| 2 ^ 37 ||| 2 ^ 68) [(31, 3), (31, 4), (31, 9), (31, 12)] M N := b4
  subst b2
  show ed (f_HBars_understand_L31 (nI b) N) _
  by_cases c : 2 ≤ b
  · unfold f_HBars_understand_L31
    have z2 : (2 : Int32) ≤ nI b := nI_le (a := 2) c (by omega)
    rw [if_pos z2]
    exact lpo_r ⟨fun b' hb' L => b3 b' (by omega) L, b4⟩
  · refine ed_mono (s_way (RU_fr b4 (by decide +kernel) q) (b := b) (by omega) hn) ?_
    rintro r (⟨N', L, rfl, k1, k2, k3, k4, k5, k6⟩ | ⟨N', rfl, k1, k2⟩)
    · exact ⟨b, L, by omega, k1, fun z L' => b3 0 (by omega) L', rfl, k2, k3, k4, k5, fr_tr k6 b4⟩
    · refine ⟨1 - b, by omega, b + 1, by omega, rfl, ?_, fr_tr k2 b4⟩
      intro b' hb' L hL
      by_cases cb : b' = b
      · subst cb
        exact k1 ⟨L, hL⟩
      · exact b3 b' (by omega) L hL
def unI (M : im_M) (v : Nat → Nat) (m : Nat) (k : Nat) (N : im_M) : Prop := ∃ n, n = k ∧ n ≤ m ∧ n % 2 = 1 ∧ RU N v n ∧ (∀ n', n < n' → n' ≤ m → n' % 2 = 1 → ∀ b' L', b' ≤ 1 → ¬ RD1 (ud v n' b') n' L') ∧ fr (2 ^ 36 ||| 2 ^ 37 ||| 2 ^ 68) [(31, 3), (31, 4), (31, 9), (31, 11), (31, 12)] M N
theorem s_under {M : im_M} {v : Nat → Nat} {c : Nat} (hc : 1 ≤ c) (hc2 : c ≤ 512) (hv : ∀ i, i < c → 1 ≤ v i ∧ v i ≤ 512) (h32 : ∀ i, i < c → im_i M 32 i = nI (v i)) : ed (f_HBars_understand (nI c) M) (fun r => fr (2 ^ 36 ||| 2 ^ 37 ||| 2 ^ 68) [(31, 3), (31, 4), (31, 9), (31, 11), (31, 12)] M r.2 ∧ ((r.1 = -1 ∧ NONE1 v (if c % 2 = 1 then c else c - 1)) ∨ ∃ n b L, BEST v (if c % 2 = 1 then c else c - 1) n b L ∧ r.1 = nI L.length ∧ OUTB r.2 L ∧ L.length ≤ 300 ∧ im_i r.2 31 4 = nI b ∧ im_i r.2 31 3 = (if n = 59 then 1 else 0))) := by
  unfold f_HBars_understand
  obtain ⟨m, hm⟩ : ∃ m, m = if c % 2 = 1 then c else c - 1 := ⟨_, rfl⟩
  have hm2 : m ≤ c ∧ m % 2 = 1 ∧ m ≤ 511 := by
    rw [hm]
    split <;> omega
  have em : ((if ¬ (nI c - nI c / 2 * 2) = 0 then nI c else (nI c - 1)) : Int32) = nI m := by
    have er : nI c - nI c / 2 * 2 = nI (c % 2) := nI_rem (b := 2) (by omega) (by omega) (by omega)
    have ce : (nI (c % 2) = 0) = (c % 2 = 0) := nIe (c := 0) (by omega) (by omega)
    rw [er, hm]
    simp only [ce]
    by_cases z : c % 2 = 1
    · rw [if_pos z, if_pos (by omega)]
    · rw [if_neg z, if_neg (by omega), nI_m1 hc]
  rw [em, ← hm]
  apply bs1_mk
  have h0 : unI M v m m (im_setI M 31 11 (nI m)) := ⟨m, rfl, Nat.le_refl _, hm2.2.1, ⟨hm2.2.2, fun i hi => hv i (by omega), rfl, fun i hi => h32 i (by omega)⟩, fun n' h1 h2 => absurd h1 (by omega), fr_F (by decide) fr_refl⟩
  refine ed_mono (lp_inv (unI M v m) (Q := fun (r : im_M ⊕ (Int32 × im_M)) => match r with
    | .inl N => NONE1 v m ∧ fr (2 ^ 36 ||| 2 ^ 37 ||| 2 ^ 68) [(31, 3), (31, 4), (31, 9), (31, 11), (31, 12)] M N
    | .inr p => (∃ n b L, BEST v m n b L ∧ p.1 = nI L.length ∧ OUTB p.2 L ∧ L.length ≤ 300 ∧ im_i p.2 31 4 = nI b ∧ im_i p.2 31 3 = (if n = 59 then 1 else 0)) ∧ fr (2 ^ 36 ||| 2 ^ 37 ||| 2 ^ 68) [(31, 3), (31, 4), (31, 9), (31, 11), (31, 12)] M p.2) ?_ h0) ?_
  · rintro k N ⟨n, rfl, b1, b2, b3, b4, b5⟩
    show ed (f_HBars_understand_L19 N) _
    unfold f_HBars_understand_L19
    rw [b3.2.2.1]
    by_cases c19 : n < 19
    · have z : nI n < 19 := nI_lt (b := 19) c19 (by omega)
      rw [if_pos z]
      refine lpo_r ⟨?_, b5⟩
      intro n' h1 h2 b' L' h3 h4
      by_cases cn : n < n'
      · exact b4 n' cn h1 h2 b' L' h3 h4
      · rcases h4 with ⟨z, _⟩ | ⟨z, _⟩ <;> omega
    · have z : ¬ nI n < 19 := Int32.not_lt.mpr (nI_le (a := 19) (by omega) (by omega))
      rw [if_neg z]
      apply bs1_mk
      refine ed_mono (s_ways b3 (by omega)) ?_
      rintro (N' | ⟨x, N'⟩) hr
      · obtain ⟨k1, k2⟩ := hr
        replace k2 : fr (2 ^ 36 ||| 2 ^ 37 ||| 2 ^ 68) [(31, 3), (31, 4), (31, 9), (31, 12)] N N' := k2
        have qN := RU_fr k2 (by decide +kernel) b3
        show ed (some (Sum.inl (im_setI N' 31 11 (im_i N' 31 11 - 2)))) _
        have e2 : im_i N' 31 11 - 2 = nI (n - 2) := by
          have e : (2 : Int32) = iZ 2 := rfl
          rw [qN.2.2.1, iZ_nI, e, iZ_sub, iZ_nI]
          congr 1
          omega
        rw [e2]
        refine lpo_l (n - 2) (by omega) ⟨n - 2, rfl, by omega, by omega, ⟨by omega, fun i hi => b3.2.1 i (by omega), rfl, fun i hi => qN.2.2.2 i (by omega)⟩, ?_, fr_F (by decide) (fr_tr (fr_mono (by decide) (by decide) k2) b5)⟩
        intro n' h1 h2 h3 b' L' h4 h5
        by_cases cn : n' = n
        · subst cn
          exact k1 b' h4 L' h5
        · exact b4 n' (by omega) h2 h3 b' L' h4 h5
      · obtain ⟨b, L, k1, k2, k3, k4, k5, k6, k7, k8, k9⟩ := hr
        exact lpo_r ⟨⟨n, b, L, ⟨b1, b2, k1, k2, k3, b4⟩, k4, k5, k6, k7, k8⟩, fr_tr (fr_mono (by decide) (by decide) k9) b5⟩
  · rintro (N | ⟨x, N⟩) hr
    · exact ed_mk ⟨hr.2, Or.inl ⟨rfl, hr.1⟩⟩
    · exact ed_mk ⟨hr.2, Or.inr hr.1⟩
