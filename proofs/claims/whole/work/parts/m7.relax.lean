/-! THE FEWEST SYMBOLS, BY THE REFERENCE -/
def aM (M : im_M) (i s : Nat) : Nat := (im_i M 101 (3 * i + s)).toNatClampNeg
def LA (M : im_M) (n : Nat) (t : Nat → Nat) : Prop := (∀ i s, i ≤ n → s < 3 → im_i M 101 (3 * i + s) = nI (aM M i s) ∧ aM M i s ≤ 9999 ∧ FW t n i s ≤ aM M i s) ∧ ∀ s, s < 3 → aM M n s = 0
theorem s_leastAt {M : im_M} {n i s : Nat} {t : Nat → Nat} (h : LA M n t) (hn : n ≤ 64) (hi : i ≤ n) (hs : s < 3) : f_MLineRows_leastAt (nI i) (nI s) M = some (nI (aM M i s)) := by
  unfold f_MLineRows_leastAt
  have e : (3 : Int32) * nI i + nI s = nI (3 * i + s) := by rw [nI_m, nI_add]
  rw [e, gd_pos (by rw [inb_nI (by omega)]; omega), nI_clamp (by omega), (h.1 i s hi hs).1]
theorem s_withL {M : im_M} {n i s c : Nat} {t : Nat → Nat} (h : TX M n t) (hl : LA M n t) (hi : i < n) (hs : s < 3) (hc : c < 103) : f_MLineRows_with (nI i) (nI s) (nI c) M = some (nI (wV t n (aM M) i s c)) := by
  have hn := h.2.1
  have tl := tel_le (t := t) (s := s) (c := c) hi
  unfold f_MLineRows_with wV
  rw [s_tells h hi hs hc, bd1_s]
  by_cases c1 : 0 < tel t n i s c
  · have l0 : ¬ nI (tel t n i s c) ≤ 0 := by
      rw [show (0 : Int32) = nI 0 from rfl, nIl (by omega) (by omega)]
      omega
    rw [if_pos c1, if_neg (show ¬ tel t n i s c = 0 by omega), if_neg l0, nI_add, s_leastAt hl hn tl hs, bd1_s]
    exact congrArg some (nI_add 1 _)
  · rw [if_neg c1, if_pos (show tel t n i s c = 0 by omega), if_pos (by decide), s_goL hs hc, bd1_s]
    cases e : goV s c with
    | some r =>
      have l := goV_lt e
      have g0 : ¬ oI (some r) < 0 := nI_pos (n := r) (by omega)
      rw [if_neg g0, bd1_s]
      show bd1 (f_MLineRows_leastAt (nI i) (nI r) M) _ = _
      rw [s_leastAt hl hn (by omega) l.1, bd1_s]
      exact congrArg some (nI_add 1 _)
    | none =>
      have k98 : (nI c = 98) = (c = 98) := nIe (c := 98) (by omega) (by omega)
      have k2 : (nI s = 2) = (s = 2) := nIe (c := 2) (by omega) (by omega)
      rw [if_pos (show oI none < 0 by decide)]
      simp only [jn0, k98, k2]
      by_cases c2 : c = 98
      · rw [if_neg (fun z => z c2)]
        by_cases s2 : s = 2
        · rw [if_pos s2, if_neg (fun z => z.2.1 s2)]; rfl
        · rw [if_neg s2, s_isOther h hi (by omega), bd1_s]
          cases o : (syT t n i (1 - s)).isSome with
          | true =>
            rw [if_pos rfl, if_neg (by decide), if_pos ⟨c2, s2, rfl⟩, show nI i + 1 = nI (i + 1) from nI_add i 1, s_leastAt hl hn (by omega) hs, bd1_s]
            exact congrArg some (nI_add 2 _)
          | false =>
            rw [if_pos (by decide), if_neg (fun z => absurd z.2.2 (by decide))]; rfl
      · rw [if_pos c2, if_neg (fun z => c2 z.1)]; rfl
def sA (a : Nat → Nat → Nat) : Nat → Nat
  | 0 => 0
  | i + 1 => sA a i + (a i 0 + a i 1 + a i 2)
theorem sA_c {a b : Nat → Nat → Nat} : ∀ n, (∀ i s, i < n → s < 3 → a i s = b i s) → sA a n = sA b n := by
  intro n
  induction n with
  | zero => intro _; rfl
  | succ n ih =>
    intro h
    show sA a n + (a n 0 + a n 1 + a n 2) = sA b n + (b n 0 + b n 1 + b n 2)
    rw [ih (fun i s hi hs => h i s (by omega) hs), h n 0 (by omega) (by omega), h n 1 (by omega) (by omega), h n 2 (by omega) (by omega)]
theorem sA_lt {a b : Nat → Nat → Nat} {i0 s0 : Nat} (hs : s0 < 3) (hlt : b i0 s0 < a i0 s0) : ∀ n, i0 < n → (∀ i s, i < n → s < 3 → ¬ (i = i0 ∧ s = s0) → b i s = a i s) → sA b n < sA a n := by
  intro n
  induction n with
  | zero => intro h _; exact absurd h (Nat.not_lt_zero _)
  | succ n ih =>
    intro hi h
    show sA b n + (b n 0 + b n 1 + b n 2) < sA a n + (a n 0 + a n 1 + a n 2)
    by_cases e : i0 = n
    · subst e
      have e1 : sA b i0 = sA a i0 := sA_c i0 (fun i s hi hs => h i s (by omega) hs (by omega))
      have c : s0 = 0 ∨ s0 = 1 ∨ s0 = 2 := by omega
      rcases c with rfl | rfl | rfl
      · have := h i0 1 (by omega) (by omega) (by omega)
        have := h i0 2 (by omega) (by omega) (by omega)
        omega
      · have := h i0 0 (by omega) (by omega) (by omega)
        have := h i0 2 (by omega) (by omega) (by omega)
        omega
      · have := h i0 0 (by omega) (by omega) (by omega)
        have := h i0 1 (by omega) (by omega) (by omega)
        omega
    · have := ih (by omega) (fun i s hi hs => h i s (by omega) hs)
      have := h n 0 (by omega) (by omega) (by omega)
      have := h n 1 (by omega) (by omega) (by omega)
      have := h n 2 (by omega) (by omega) (by omega)
      omega
/-- a part of a sweep: nothing changed, and ok; or something became less -/
def SW (t : Nat → Nat) (n : Nat) (x0 : Int32) (M0 : im_M) (ok : Prop) (x : Int32) (M : im_M) : Prop := TX M n t ∧ LA M n t ∧ fr (2 ^ 101) [] M0 M ∧ ((x = x0 ∧ im_i M 101 = im_i M0 101 ∧ ok) ∨ (x = 1 ∧ sA (aM M) n < sA (aM M0) n))
theorem aM_e {M N : im_M} (h : im_i M 101 = im_i N 101) : aM M = aM N := by
  funext i s
  unfold aM
  rw [h]
theorem SW_tr {t : Nat → Nat} {n : Nat} {x0 x1 x2 : Int32} {M0 M1 M2 : im_M} {ok1 ok2 ok : Prop} (h1 : SW t n x0 M0 ok1 x1 M1) (h2 : SW t n x1 M1 ok2 x2 M2) (h : im_i M1 101 = im_i M0 101 → ok1 → ok2 → ok) : SW t n x0 M0 ok x2 M2 := by
  obtain ⟨_, _, f1, c1⟩ := h1
  obtain ⟨t2, l2, f2, c2⟩ := h2
  refine ⟨t2, l2, fr_tr f2 f1, ?_⟩
  rcases c1 with ⟨a1, b1, d1⟩ | ⟨a1, b1⟩
  · rcases c2 with ⟨a2, b2, d2⟩ | ⟨a2, b2⟩
    · exact Or.inl ⟨a2.trans a1, b2.trans b1, h b1 d1 d2⟩
    · refine Or.inr ⟨a2, ?_⟩
      rw [aM_e b1] at b2
      exact b2
  · rcases c2 with ⟨a2, b2, d2⟩ | ⟨a2, b2⟩
    · refine Or.inr ⟨a2.trans a1, ?_⟩
      rw [aM_e b2]
      exact b1
    · exact Or.inr ⟨a2, Nat.lt_trans b2 b1⟩
theorem SW_0 {t : Nat → Nat} {n : Nat} {x : Int32} {M : im_M} {ok : Prop} (h : TX M n t) (l : LA M n t) (o : ok) : SW t n x M ok x M := ⟨h, l, fr_refl, Or.inl ⟨rfl, rfl, o⟩⟩
theorem s_relaxC {t : Nat → Nat} {n i s : Nat} {x : Int32} {M : im_M} (h : TX M n t) (hl : LA M n t) (hi : i < n) (hs : s < 3) : ed (lp (uc3 (f_MLineRows_relax_L67 (nI i) (nI s))) (x, 0, M)) (fun r => SW t n x M (∀ c, c < 103 → aM M i s ≤ wV t n (aM M) i s c) r.1 r.2) := by
  refine lp_inv (fun m (y : Int32 × Int32 × im_M) => ∃ c : Nat, c + m = 103 ∧ y.2.1 = nI c ∧ SW t n x M (∀ d, d < c → aM M i s ≤ wV t n (aM M) i s d) y.1 y.2.2) ?_ (k := 103) ⟨0, rfl, rfl, SW_0 h hl (fun d hd => absurd hd (Nat.not_lt_zero _))⟩
  rintro m ⟨x21, x22, M23⟩ ⟨c, hc, e1, hS⟩
  replace e1 : x22 = nI c := e1
  replace hS : SW t n x M (∀ d, d < c → aM M i s ≤ wV t n (aM M) i s d) x21 M23 := hS
  subst e1
  show ed (f_MLineRows_relax_L67 (nI i) (nI s) x21 (nI c) M23) _
  unfold f_MLineRows_relax_L67
  have k0 : ((103 : Int32) ≤ nI c) = (103 ≤ c) := nIl (x := 103) (by omega) (by omega)
  simp only [k0]
  by_cases c1 : 103 ≤ c
  · rw [if_pos c1]
    obtain rfl : c = 103 := by omega
    exact lpo_r hS
  · obtain ⟨t1, l1, f1, o1⟩ := id hS
    have hn := t1.2.1
    have la := l1.1 i s (by omega) hs
    rw [if_neg c1, s_withL t1 l1 hi hs (by omega), bd1_s, s_leastAt l1 hn (by omega) hs, bd1_s]
    have low := FW_w (t := t) (c := c) hn hi hs (fun i s h1 h2 => (l1.1 i s h1 h2).2.2)
    by_cases wl : wV t n (aM M23) i s c < 2147483648
    · rw [if_nIl (by omega) wl]
      by_cases c2 : aM M23 i s ≤ wV t n (aM M23) i s c
      · rw [if_pos c2, bd2_s]
        refine lpo_l (m - 1) (by omega) ⟨c + 1, by omega, nI_add c 1, ?_⟩
        refine SW_tr hS (SW_0 (ok := aM M23 i s ≤ wV t n (aM M23) i s c) t1 l1 c2) (fun b ok1 ok2 d hd => ?_)
        by_cases e : d = c
        · subst e
          rw [aM_e b] at ok2
          exact ok2
        · exact ok1 d (by omega)
      · have ei : (3 : Int32) * nI i + nI s = nI (3 * i + s) := by rw [nI_m, nI_add]
        rw [if_neg c2, ei, gd_pos (by rw [inb_nI (by omega)]; omega), nI_clamp (by omega), bd2_s]
        refine lpo_l (m - 1) (by omega) ⟨c + 1, by omega, nI_add c 1, ?_⟩
        obtain ⟨w, hw⟩ : ∃ w, w = wV t n (aM M23) i s c := ⟨_, rfl⟩
        rw [← hw] at low c2 ⊢
        clear hw wl
        have v : ∀ j r, r < 3 → aM (im_setI M23 101 (3 * i + s) (nI w)) j r = if j = i ∧ r = s then w else aM M23 j r := fun j r hr => by
          unfold aM
          by_cases e : j = i ∧ r = s
          · obtain ⟨rfl, rfl⟩ := e
            rw [hit, if_pos ⟨rfl, rfl⟩, nI_clamp (by omega)]
          · rw [if_neg e, sk1 (by omega)]
        have f2 : fr (2 ^ 101) [] M23 (im_setI M23 101 (3 * i + s) (nI w)) := fr_I (by decide) fr_refl
        refine SW_tr (ok2 := False) hS ⟨TX_fr f2 (by decide +kernel) t1, ⟨fun j r hj hr => ?_, fun r hr => ?_⟩, f2, Or.inr ⟨rfl, ?_⟩⟩ (fun _ _ z => z.elim)
        · rw [v j r hr]
          by_cases e : j = i ∧ r = s
          · obtain ⟨rfl, rfl⟩ := e
            rw [if_pos ⟨rfl, rfl⟩, hit]
            exact ⟨rfl, by omega, low⟩
          · rw [if_neg e, sk1 (by omega)]
            exact l1.1 j r hj hr
        · rw [v n r hr, if_neg (by omega)]
          exact l1.2 r hr
        · refine sA_lt (i0 := i) (s0 := s) hs ?_ n hi (fun j r hj hr ne => ?_)
          · rw [v i s hs, if_pos ⟨rfl, rfl⟩]; omega
          · rw [v j r hr, if_neg ne]
    · exfalso
      apply wl
      have b : ∀ i s, i ≤ n → s < 3 → aM M23 i s ≤ 9999 := fun i s h1 h2 => (l1.1 i s h1 h2).2.1
      unfold wV
      split
      · have := b (i + tel t n i s c) s (tel_le hi) hs
        omega
      · split
        · rename_i r hr
          have := b i r (by omega) (goV_lt hr).1
          omega
        · split
          · have := b (i + 1) s (by omega) hs
            omega
          · omega
theorem s_relaxS {t : Nat → Nat} {n i : Nat} {x : Int32} {M : im_M} (h : TX M n t) (hl : LA M n t) (hi : i < n) : ed (lp (uc3 (f_MLineRows_relax_L59 (nI i))) (x, 0, M)) (fun r => SW t n x M (∀ s c, s < 3 → c < 103 → aM M i s ≤ wV t n (aM M) i s c) r.1 r.2) := by
  refine lp_inv (fun m (y : Int32 × Int32 × im_M) => ∃ s : Nat, s + m = 3 ∧ y.2.1 = nI s ∧ SW t n x M (∀ r c, r < s → c < 103 → aM M i r ≤ wV t n (aM M) i r c) y.1 y.2.2) ?_ (k := 3) ⟨0, rfl, rfl, SW_0 h hl (fun d c hd => absurd hd (Nat.not_lt_zero _))⟩
  rintro m ⟨x15, x16, M17⟩ ⟨s, hs, e1, hS⟩
  replace e1 : x16 = nI s := e1
  replace hS : SW t n x M (∀ r c, r < s → c < 103 → aM M i r ≤ wV t n (aM M) i r c) x15 M17 := hS
  subst e1
  show ed (f_MLineRows_relax_L59 (nI i) x15 (nI s) M17) _
  unfold f_MLineRows_relax_L59
  have k0 : ((2 : Int32) < nI s) = (2 < s) := nIlt (x := 2) (by omega) (by omega)
  simp only [k0]
  by_cases c1 : 2 < s
  · rw [if_pos c1]
    obtain rfl : s = 3 := by omega
    exact lpo_r hS
  · rw [if_neg c1]
    apply bd2_mk
    refine ed_mono (s_relaxC hS.1 hS.2.1 hi (by omega)) ?_
    rintro ⟨y34, M35⟩ h2
    refine lpo_l (m - 1) (by omega) ⟨s + 1, by omega, nI_add s 1, SW_tr hS h2 (fun b ok1 ok2 r c hr hc => ?_)⟩
    by_cases e : r = s
    · subst e
      rw [aM_e b] at ok2
      exact ok2 c hc
    · exact ok1 r c (by omega) hc
theorem s_relaxI {t : Nat → Nat} {n : Nat} {x : Int32} {M : im_M} (h : TX M n t) (hl : LA M n t) : ed (lp (uc3 (f_MLineRows_relax_L53)) (x, nI n - 1, M)) (fun r => SW t n x M (∀ i s c, i < n → s < 3 → c < 103 → aM M i s ≤ wV t n (aM M) i s c) r.1 r.2) := by
  have hn := h.2.1
  have em : nI n - 1 = iZ ((n : Int) - 1) := by rw [iZ_nI, show (1 : Int32) = iZ 1 from rfl, iZ_sub]
  rw [em]
  refine lp_inv (fun m (y : Int32 × Int32 × im_M) => m ≤ n ∧ y.2.1 = iZ ((m : Int) - 1) ∧ SW t n x M (∀ i s c, m ≤ i → i < n → s < 3 → c < 103 → aM M i s ≤ wV t n (aM M) i s c) y.1 y.2.2) ?_ (k := n) ⟨Nat.le_refl _, rfl, SW_0 h hl (fun i s c h1 h2 => absurd h2 (by omega))⟩
  rintro m ⟨x10, x11, M12⟩ ⟨hm, e1, hS⟩
  replace e1 : x11 = iZ ((m : Int) - 1) := e1
  replace hS : SW t n x M (∀ i s c, m ≤ i → i < n → s < 3 → c < 103 → aM M i s ≤ wV t n (aM M) i s c) x10 M12 := hS
  subst e1
  show ed (f_MLineRows_relax_L53 x10 (iZ ((m : Int) - 1)) M12) _
  unfold f_MLineRows_relax_L53
  have k0 : (iZ ((m : Int) - 1) < 0) = ((m : Int) - 1 < 0) := iZ_lt (b := 0) (by omega) (by omega)
  simp only [k0]
  by_cases c1 : (m : Int) - 1 < 0
  · rw [if_pos c1]
    obtain rfl : m = 0 := by omega
    refine lpo_r (SW_tr (ok2 := True) hS (SW_0 hS.1 hS.2.1 trivial) (fun _ ok1 _ i s c h1 h2 h3 => ok1 i s c (Nat.zero_le _) h1 h2 h3))
  · obtain ⟨i, rfl⟩ : ∃ i, m = i + 1 := ⟨m - 1, by omega⟩
    have ei : iZ (((i + 1 : Nat) : Int) - 1) = nI i := by rw [iZ_nI]; congr 1; omega
    rw [if_neg c1, ei]
    apply bd2_mk
    refine ed_mono (s_relaxS hS.1 hS.2.1 (by omega)) ?_
    rintro ⟨y36, M37⟩ h2
    refine lpo_l i (by omega) ⟨by omega, ?_, SW_tr hS h2 (fun b ok1 ok2 j s c h1 h3 h4 h5 => ?_)⟩
    · show nI i + (-1) = iZ ((i : Int) - 1)
      rw [iZ_nI, show (-1 : Int32) = iZ (-1) from rfl, iZ_add]
      rfl
    · by_cases e : j = i
      · subst e
        rw [aM_e b] at ok2
        exact ok2 s c h4 h5
      · exact ok1 j s c (by omega) h3 h4 h5
theorem s_relax {t : Nat → Nat} {n : Nat} {M : im_M} (h : TX M n t) : ed (f_MLineRows_relax M) (fun R => (∀ i s, i ≤ n → s < 3 → im_i R 101 (3 * i + s) = nI (FW t n i s)) ∧ fr (2 ^ 101) [] M R) := by
  have hn := h.2.1
  unfold f_MLineRows_relax
  apply bd1_mk
  refine ed_mono (lp_inv (fun m (y : Int32 × im_M) => ∃ k : Nat, k + m = 198 ∧ y.1 = nI k ∧ (∀ j, j < k → im_i y.2 101 j = if j / 3 = n then 0 else 9999) ∧ fr (2 ^ 101) [] M y.2) (Q := fun R => (∀ j, j < 198 → im_i R 101 j = if j / 3 = n then 0 else 9999) ∧ fr (2 ^ 101) [] M R) ?_ (k := 198) ⟨0, rfl, rfl, fun j hj => absurd hj (Nat.not_lt_zero _), fr_refl⟩) ?_
  · rintro m ⟨x2, M3⟩ ⟨k, hk, e1, e2, hf⟩
    replace e1 : x2 = nI k := e1
    replace e2 : ∀ j, j < k → im_i M3 101 j = if j / 3 = n then 0 else 9999 := e2
    replace hf : fr (2 ^ 101) [] M M3 := hf
    subst e1
    show ed (f_MLineRows_relax_L2 (nI k) M3) _
    unfold f_MLineRows_relax_L2
    have k0 : ((198 : Int32) ≤ nI k) = (198 ≤ k) := nIl (x := 198) (by omega) (by omega)
    simp only [k0]
    by_cases c : 198 ≤ k
    · rw [if_pos c]
      obtain rfl : k = 198 := by omega
      exact lpo_r ⟨e2, hf⟩
    · have d3 : nI k / 3 = nI (k / 3) := nI_div (b := 3) (by omega) (by omega) (by omega)
      have kn : (nI (k / 3) = nI n) = (k / 3 = n) := nIe (by omega) (by omega)
      rw [if_neg c, gd_pos (by rw [inb_nI (by omega)]; omega), nI_clamp (by omega), d3, (TX_fr hf (by decide +kernel) h).1]
      simp only [kn]
      refine lpo_l (m - 1) (by omega) ⟨k + 1, by omega, nI_add k 1, fun j hj => ?_, fr_I (by decide) hf⟩
      show im_i (im_setI M3 101 k _) 101 j = _
      by_cases e : j = k
      · subst e
        rw [hit]
        by_cases z : j / 3 = n
        · rw [if_neg (fun u => u z), if_pos z]
        · rw [if_pos z, if_neg z]
      · rw [sk1 (fun z => e z.2)]
        exact e2 j (by omega)
  · rintro M5 ⟨z5, f5⟩
    have t5 := TX_fr f5 (by decide +kernel) h
    have v5 : ∀ i s, i ≤ n → s < 3 → im_i M5 101 (3 * i + s) = nI (if i = n then 0 else 9999) := fun i s hi hs => by
      rw [z5 _ (by omega), show (3 * i + s) / 3 = i by omega]
      by_cases e : i = n
      · rw [if_pos e, if_pos e]; rfl
      · rw [if_neg e, if_neg e]; rfl
    have l5 : LA M5 n t := by
      have am : ∀ i s, i ≤ n → s < 3 → aM M5 i s = if i = n then 0 else 9999 := fun i s hi hs => by
        unfold aM
        rw [v5 i s hi hs, nI_clamp (by split <;> omega)]
      refine ⟨fun i s hi hs => ?_, fun s hs => by rw [am n s (by omega) hs, if_pos rfl]⟩
      rw [am i s hi hs, v5 i s hi hs]
      refine ⟨rfl, by split <;> omega, ?_⟩
      by_cases e : i = n
      · rw [if_pos e, e, FW_n]; exact Nat.le_refl _
      · rw [if_neg e]
        have := FW_b (t := t) (n := n) (n - i) i s rfl hs
        omega
    apply bd1_mk
    refine ed_mono (lp_inv (fun m (y : Int32 × im_M) => TX y.2 n t ∧ LA y.2 n t ∧ fr (2 ^ 101) [] M y.2 ∧ ((y.1 = 0 ∧ ∀ i s c, i < n → s < 3 → c < 103 → aM y.2 i s ≤ wV t n (aM y.2) i s c) ∨ (y.1 = 1 ∧ m = sA (aM y.2) n + 1))) (Q := fun R => (∀ i s, i ≤ n → s < 3 → im_i R 101 (3 * i + s) = nI (FW t n i s)) ∧ fr (2 ^ 101) [] M R) ?_ (k := sA (aM M5) n + 1) ⟨t5, l5, f5, Or.inr ⟨rfl, rfl⟩⟩) (fun R h => ed_mk h)
    rintro m ⟨x7, M8⟩ ⟨t8, l8, f8, hd⟩
    show ed (f_MLineRows_relax_L40 x7 M8) _
    unfold f_MLineRows_relax_L40
    rcases hd with ⟨e7, ok⟩ | ⟨e7, hm⟩
    · replace e7 : x7 = 0 := e7
      rw [if_pos e7]
      refine lpo_r ⟨fun i s hi hs => ?_, f8⟩
      have := FW_fix (a := aM M8) hn (fun i hi => (h.2.2 i hi).1) (fun i s h1 h2 => (l8.1 i s h1 h2).2.2) l8.2 ok (n - i) i s rfl hi hs
      rw [← this]
      exact (l8.1 i s hi hs).1
    · replace e7 : x7 = 1 := e7
      replace hm : m = sA (aM M8) n + 1 := hm
      rw [if_neg (by rw [e7]; decide), t8.1]
      apply bd2_mk
      refine ed_mono (s_relaxI t8 l8) ?_
      rintro ⟨y38, M39⟩ ⟨t9, l9, f9, o9⟩
      replace t9 : TX M39 n t := t9
      rcases o9 with ⟨e9, b9, ok⟩ | ⟨e9, lt9⟩
      · refine lpo_l 0 (by omega) ⟨t9, l9, fr_tr f9 f8, Or.inl ⟨e9, ?_⟩⟩
        show ∀ i s c, i < n → s < 3 → c < 103 → aM M39 i s ≤ wV t n (aM M39) i s c
        rw [aM_e b9]
        exact ok
      · replace lt9 : sA (aM M39) n < sA (aM M8) n := lt9
        exact lpo_l (sA (aM M39) n + 1) (by omega) ⟨t9, l9, fr_tr f9 f8, Or.inr ⟨e9, rfl⟩⟩
