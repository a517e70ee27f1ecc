/-! THE REFERENCE PUTS A WORD RIGHT -/
def VA (sy : Nat → Fin 256) (l : List Nat) (n N r k : Nat) : Fin 256 := if k < n then px (al (N - 1 - l.getD k 0)) r else sy r
theorem s_vander {M : im_M} {sy : Nat → Fin 256} {l : List Nat} {n N c : Nat} (hn : n ≤ 15) (hc : n ≤ c) (hc2 : c ≤ 30) (hN : N ≤ 255) (hS : AF (im_i M 123) sy c) (hl : l.length = n) (hlN : ∀ i, i < n → l.getD i 0 < N) (hP : PLm M l) : ed (lp (uc2 (f_MSquareRows_mends_L2 (nI n) (nI N))) (0, M)) (fun R => SYm R (VA sy l n N) n ∧ fr (2 ^ 124) [] M R) := by
  refine lp_for (S := Unit) (fun j _ (t : Int32 × im_M) => t.1 = nI j ∧ (∀ r k, r < j → k ≤ n → im_i t.2 124 (17 * r + k) = nI (VA sy l n N r k).val) ∧ fr (2 ^ 124) [] M t.2) (Q := fun _ R => SYm R (VA sy l n N) n ∧ fr (2 ^ 124) [] M R) n (fun _ s => s) ?_ ?_ (s := ()) ⟨rfl, fun r k hr => by omega, fr_refl⟩
  · rintro j s ⟨x, M5⟩ hj ⟨e, h, hf⟩
    replace e : x = nI j := e
    replace h : ∀ r k, r < j → k ≤ n → im_i M5 124 (17 * r + k) = nI (VA sy l n N r k).val := h
    replace hf : fr (2 ^ 124) [] M M5 := hf
    subst e
    show ed (f_MSquareRows_mends_L2 (nI n) (nI N) (nI j) M5) _
    unfold f_MSquareRows_mends_L2
    rw [if_nIl (by omega) (by omega), if_neg (by omega)]
    apply bd1_mk
    refine ed_mono (lp_for (S := Unit) (fun q _ (t : Int32 × im_M) => t.1 = nI q ∧ (∀ r k, (r < j ∧ k ≤ n) ∨ (r = j ∧ k < q) → im_i t.2 124 (17 * r + k) = nI (VA sy l n N r k).val) ∧ fr (2 ^ 124) [] M t.2) (Q := fun _ R => (∀ r k, (r < j ∧ k ≤ n) ∨ (r = j ∧ k < n) → im_i R 124 (17 * r + k) = nI (VA sy l n N r k).val) ∧ fr (2 ^ 124) [] M R) n (fun _ s => s) ?_ ?_ (s := ()) (t := (0, M5)) ⟨rfl, fun r k z => ?_, hf⟩) ?_
    · rintro q s ⟨x, M1⟩ hq ⟨e, h1, hf1⟩
      replace e : x = nI q := e
      replace h1 : ∀ r k, (r < j ∧ k ≤ n) ∨ (r = j ∧ k < q) → im_i M1 124 (17 * r + k) = nI (VA sy l n N r k).val := h1
      replace hf1 : fr (2 ^ 124) [] M M1 := hf1
      subst e
      show ed (f_MSquareRows_mends_L10 (nI n) (nI N) (nI j) (nI q) M1) _
      unfold f_MSquareRows_mends_L10
      have ej : (17 : Int32) * nI j + nI q = nI (17 * j + q) := by rw [nI_m, nI_add]
      have hq2 := hlN q hq
      have pl : (N - 1 - l.getD q 0) * j ≤ 255 * 15 := Nat.mul_le_mul (by omega) (by omega)
      have ev : (nI N - 1 - nI (l.getD q 0)) * nI j = nI ((N - 1 - l.getD q 0) * j) := by rw [nI_s1 (by omega) (by omega), nI_mul]
      rw [if_nIl (by omega) (by omega), if_neg (by omega), gd_pos (by rw [inb_nI (by omega)]; omega), nI_clamp (by omega), fr_at hf1 (a := 126) (by decide), hP q (by omega), ev, s_twoK (by omega), bd1_s, ej, gd_pos (by rw [inb_nI (by omega)]; omega), nI_clamp (by omega)]
      refine ed_mk ⟨_, rfl, nI_add q 1, fun r k z => ?_, fr_I (by decide) hf1⟩
      show im_i (im_setI M1 124 (17 * j + q) _) 124 (17 * r + k) = _
      by_cases d : r = j ∧ k = q
      · obtain ⟨rfl, rfl⟩ := d
        rw [hit]
        unfold VA
        rw [if_pos hq, px_al]
      · rw [sk1 (by omega)]
        exact h1 r k (by omega)
    · rintro s ⟨x, M1⟩ ⟨e, h1, hf1⟩
      replace e : x = nI n := e
      subst e
      show ed (f_MSquareRows_mends_L10 (nI n) (nI N) (nI j) (nI n) M1) _
      unfold f_MSquareRows_mends_L10
      rw [if_nIl (by omega) (by omega), if_pos (by omega)]
      exact ed_mk ⟨_, rfl, h1, hf1⟩
    · exact h r k (by omega) (by omega)
    · rintro R ⟨r1, r2⟩
      have ej : (17 : Int32) * nI j + nI n = nI (17 * j + n) := by rw [nI_m, nI_add]
      rw [gd_pos (by rw [inb_nI (by omega)]; omega), ej, gd_pos (by rw [inb_nI (by omega)]; omega), nI_clamp (by omega), nI_clamp (by omega), fr_at r2 (a := 123) (by decide), hS _ (by omega)]
      refine ed_mk ⟨_, rfl, nI_add j 1, fun r k hr hk => ?_, fr_I (by decide) r2⟩
      show im_i (im_setI R 124 (17 * j + n) _) 124 (17 * r + k) = _
      by_cases d : r = j ∧ k = n
      · obtain ⟨rfl, rfl⟩ := d
        rw [hit]
        unfold VA
        rw [if_neg (by omega)]
      · rw [sk1 (by omega)]
        exact r1 r k (by omega)
  · rintro s ⟨x, M5⟩ ⟨e, h, hf⟩
    replace e : x = nI n := e
    subst e
    show ed (f_MSquareRows_mends_L2 (nI n) (nI N) (nI n) M5) _
    unfold f_MSquareRows_mends_L2
    rw [if_nIl (by omega) (by omega), if_pos (by omega)]
    exact ed_mk ⟨_, rfl, fun r k hr hk => h r k hr hk, hf⟩
def twI (W : Nat → Fin 256) (l : List Nat) (s : Nat → Fin 256) : Nat → Nat → Fin 256
  | 0 => W
  | j + 1 => fun i => if i = l.getD j 0 then ga (twI W l s j i) (s j) else twI W l s j i
def alB (s : Nat → Fin 256) : Nat → Bool
  | 0 => true
  | j + 1 => alB s j && decide (s j ≠ 0)
theorem alB_iff {s : Nat → Fin 256} : ∀ n, alB s n = true ↔ ∀ j, j < n → s j ≠ 0 := by
  intro n
  induction n with
  | zero => exact ⟨fun _ j hj => by omega, fun _ => rfl⟩
  | succ n ih =>
    show (alB s n && decide (s n ≠ 0)) = true ↔ _
    rw [Bool.and_eq_true, decide_eq_true_eq, ih]
    constructor
    · rintro ⟨h1, h2⟩ k hk
      by_cases e : k = n
      · rw [e]; exact h2
      · exact h1 k (by omega)
    · intro h
      exact ⟨fun k hk => h k (by omega), h n (by omega)⟩
theorem s_mends {M : im_M} {sy W : Nat → Fin 256} {l : List Nat} {n N c : Nat} (hn : n ≤ 15) (hc : n ≤ c) (hc2 : c ≤ 30) (hN : N ≤ 255) (hS : AF (im_i M 123) sy c) (hW : AF (im_i M 121) W N) (hl : l.length = n) (hlN : ∀ i, i < n → l.getD i 0 < N) (hP : PLm M l) : ed (f_MSquareRows_mends (nI n) (nI N) M) (fun r => ((r.1 = 0 ∧ (¬ NSg (VA sy l n N) n ∨ ∃ s, KRn (VA sy l n N) n (xt1 s n) ∧ ∃ j, j < n ∧ s j = 0)) ∨ (r.1 = 1 ∧ ∃ s, KRn (VA sy l n N) n (xt1 s n) ∧ (∀ j, j < n → s j ≠ 0) ∧ AF (im_i r.2 122) (twI W l s n) N)) ∧ fr (2 ^ 122 + 2 ^ 124 + 2 ^ 125) [] M r.2) := by
  unfold f_MSquareRows_mends
  obtain ⟨M1, e1, s1, f1⟩ := s_vander hn hc hc2 hN hS hl hlN hP
  rw [e1, bd1_s]
  obtain ⟨⟨x2, M2⟩, e2, s2, f2⟩ := s_solves hn s1
  rw [e2, bd2_s]
  replace f2 : fr (2 ^ 124 + 2 ^ 125) [] M1 M2 := f2
  have f12 : fr (2 ^ 122 + 2 ^ 124 + 2 ^ 125) [] M M2 := fr_tr (fr_mono (by decide) (fun p hp => hp) f2) (fr_mono (by decide) (fun p hp => hp) f1)
  rcases s2 with ⟨z, ns⟩ | ⟨z, s, a2, k2⟩
  · replace z : x2 = 0 := z
    rw [z, if_neg (fun q => q rfl)]
    exact ed_mk ⟨Or.inl ⟨rfl, Or.inl ns⟩, f12⟩
  · replace z : x2 = 1 := z
    replace a2 : AF (im_i M2 125) s n := a2
    have W2 : AF (im_i M2 121) W N := by rw [fr_ar f12 (by decide)]; exact hW
    have P2 : PLm M2 l := fun j hj => by rw [fr_at f12 (by decide)]; exact hP j hj
    rw [z, if_pos (by decide)]
    apply bd1_mk
    refine ed_mono (lp_for (S := Unit) (fun q _ (t : Int32 × im_M) => t.1 = nI q ∧ AF (im_i t.2 122) W q ∧ fr (2 ^ 122) [] M2 t.2) (Q := fun _ R => AF (im_i R 122) W N ∧ fr (2 ^ 122) [] M2 R) N (fun _ s => s) ?_ ?_ (s := ()) (t := (0, M2)) ⟨rfl, fun j hj => by omega, fr_refl⟩) ?_
    · rintro q s ⟨x, M3⟩ hq ⟨e, h1, hf⟩
      replace e : x = nI q := e
      replace h1 : AF (im_i M3 122) W q := h1
      replace hf : fr (2 ^ 122) [] M2 M3 := hf
      subst e
      show ed (f_MSquareRows_mends_L85 (nI n) (nI N) (nI q) M3) _
      unfold f_MSquareRows_mends_L85
      rw [if_nIl (by omega) (by omega), if_neg (by omega), gd_pos (by rw [inb_nI (by omega)]; omega), gd_pos (by rw [inb_nI (by omega)]; omega), nI_clamp (by omega), fr_at hf (a := 121) (by decide), W2 q hq]
      refine ed_mk ⟨_, rfl, nI_add q 1, fun j hj => ?_, fr_I (by decide) hf⟩
      show im_i (im_setI M3 122 q _) 122 j = _
      by_cases d : j = q
      · subst d; exact hit
      · rw [sk1 (by omega)]; exact h1 j (by omega)
    · rintro s ⟨x, M3⟩ ⟨e, h1, hf⟩
      replace e : x = nI N := e
      subst e
      show ed (f_MSquareRows_mends_L85 (nI n) (nI N) (nI N) M3) _
      unfold f_MSquareRows_mends_L85
      rw [if_nIl (by omega) (by omega), if_pos (by omega)]
      exact ed_mk ⟨_, rfl, h1, hf⟩
    · rintro M3 ⟨w3, f3⟩
      have a3 : AF (im_i M3 125) s n := by rw [fr_ar f3 (by decide)]; exact a2
      have P3 : PLm M3 l := fun j hj => by rw [fr_at f3 (by decide)]; exact P2 j hj
      apply bd2_mk
      refine ed_mono (lp_for (S := Unit) (fun q _ (t : Int32 × Int32 × im_M) => t.1 = (if alB s q = true then 1 else 0) ∧ t.2.1 = nI q ∧ AF (im_i t.2.2 122) (twI W l s q) N ∧ fr (2 ^ 122) [] M3 t.2.2) (Q := fun _ (t : Int32 × im_M) => t.1 = (if alB s n = true then 1 else 0) ∧ AF (im_i t.2 122) (twI W l s n) N ∧ fr (2 ^ 122) [] M3 t.2) n (fun _ s => s) ?_ ?_ (s := ()) (t := (1, 0, M3)) ⟨rfl, rfl, w3, fr_refl⟩) ?_
      · rintro q u ⟨x24, x25, M4⟩ hq ⟨e, e', h1, hf⟩
        replace e : x24 = (if alB s q = true then 1 else 0) := e
        replace e' : x25 = nI q := e'
        replace h1 : AF (im_i M4 122) (twI W l s q) N := h1
        replace hf : fr (2 ^ 122) [] M3 M4 := hf
        subst e'
        have v1 : im_i M4 126 q = nI (l.getD q 0) := by rw [fr_at hf (by decide)]; exact P3 q (by omega)
        have v2 : im_i M4 125 q = nI (s q).val := by rw [fr_at hf (by decide)]; exact a3 q hq
        have hq2 := hlN q hq
        show ed (f_MSquareRows_mends_L113 (nI n) x24 (nI q) M4) _
        unfold f_MSquareRows_mends_L113
        rw [if_nIl (by omega) (by omega), if_neg (by omega), gd_pos (by rw [inb_nI (by omega)]; omega), gd_pos (by rw [inb_nI (by omega)]; omega), nI_clamp (by omega), v1, gd_pos (by rw [inb_nI (by omega)]; omega), gd_pos (by rw [inb_nI (by omega)]; omega), gd_pos (by rw [inb_nI (by omega)]; omega), nI_clamp (by omega), v2, h1 _ hq2, nX]
        have v3 : im_i (im_setI M4 122 (l.getD q 0) (nI (ga (twI W l s q (l.getD q 0)) (s q)).val)) 125 q = nI (s q).val := by rw [sk1 (by omega)]; exact v2
        rw [v3]
        simp only [jn0, nZ]
        have fl : (if x24 = 0 then some (0 : Int32) else gd (inb (nI q) 16) <| if s q = 0 then some 0 else some 1) = some (if alB s (q + 1) = true then 1 else 0) := by
          rw [gd_pos (by rw [inb_nI (by omega)]; omega), e]
          show _ = some (if (alB s q && decide (s q ≠ 0)) = true then 1 else 0)
          by_cases a : alB s q = true
          · by_cases b : s q = 0
            · simp [a, b]
            · simp [a, b]
          · simp [a]
        rw [fl, bd1_s]
        refine ed_mk ⟨_, rfl, rfl, nI_add q 1, fun j hj => ?_, fr_I (by decide) hf⟩
        show im_i (im_setI M4 122 (l.getD q 0) _) 122 j = nI (if j = l.getD q 0 then ga (twI W l s q j) (s q) else twI W l s q j).val
        by_cases d : j = l.getD q 0
        · rw [if_pos d, d, hit]
        · rw [sk1 (by omega), if_neg d]; exact h1 j hj
      · rintro u ⟨x24, x25, M4⟩ ⟨e, e', h1, hf⟩
        replace e' : x25 = nI n := e'
        subst e'
        show ed (f_MSquareRows_mends_L113 (nI n) x24 (nI n) M4) _
        unfold f_MSquareRows_mends_L113
        rw [if_nIl (by omega) (by omega), if_pos (by omega)]
        exact ed_mk ⟨_, rfl, e, h1, hf⟩
      · rintro ⟨a, M4⟩ ⟨q1, q2, q3⟩
        replace q1 : a = if alB s n = true then 1 else 0 := q1
        show ed (gd (a = 0 ∨ a = 1) (some (a, M4))) _
        rw [gd_pos (by rw [q1]; split; exact Or.inr rfl; exact Or.inl rfl)]
        have fa : fr (2 ^ 122 + 2 ^ 124 + 2 ^ 125) [] M M4 := fr_tr (fr_mono (by decide) (fun p hp => hp) q3) (fr_tr (fr_mono (by decide) (fun p hp => hp) f3) f12)
        by_cases b : alB s n = true
        · rw [if_pos b] at q1
          exact ed_mk ⟨Or.inr ⟨q1, s, k2, (alB_iff n).mp b, q2⟩, fa⟩
        · rw [if_neg b] at q1
          refine ed_mk ⟨Or.inl ⟨q1, Or.inr ⟨s, k2, ?_⟩⟩, fa⟩
          exact Classical.byContradiction (fun q => b ((alB_iff n).mpr (fun j hj z => q ⟨j, hj, z⟩)))
/-! what it finds is a codeword, and it finds the one that is near enough -/
theorem tw_out {W s : Nat → Fin 256} {l : List Nat} {i : Nat} : ∀ n, (∀ j, j < n → l.getD j 0 ≠ i) → twI W l s n i = W i := by
  intro n
  induction n with
  | zero => intro _; rfl
  | succ n ih =>
    intro h
    show (if i = l.getD n 0 then ga (twI W l s n i) (s n) else twI W l s n i) = W i
    rw [if_neg (fun z => h n (by omega) z.symm), ih (fun j hj => h j (by omega))]
theorem tw_in {W s : Nat → Fin 256} {l : List Nat} {c : Nat} : ∀ n, c < n → (∀ i j, i < n → j < n → l.getD i 0 = l.getD j 0 → i = j) → twI W l s n (l.getD c 0) = ga (W (l.getD c 0)) (s c) := by
  intro n
  induction n with
  | zero => intro h; omega
  | succ n ih =>
    intro hc hi
    show (if l.getD c 0 = l.getD n 0 then ga (twI W l s n (l.getD c 0)) (s n) else twI W l s n (l.getD c 0)) = _
    by_cases d : c = n
    · subst d
      rw [if_pos rfl, tw_out c (fun j hj z => by have := hi j c (by omega) (by omega) z; omega)]
    · rw [if_neg (fun z => d (hi c n hc (by omega) z)), ih (by omega) (fun i j a b => hi i j (by omega) (by omega))]
theorem gd_mem {l : List Nat} {i : Nat} (h : i < l.length) : l.getD i 0 ∈ l := by
  rw [List.getD_eq_getElem?_getD, List.getElem?_eq_getElem h]
  exact List.getElem_mem h
theorem gd_ex {l : List Nat} {x : Nat} (h : x ∈ l) : ∃ i, i < l.length ∧ l.getD i 0 = x := by
  obtain ⟨i, hi, e⟩ := List.getElem_of_mem h
  refine ⟨i, hi, ?_⟩
  rw [List.getD_eq_getElem?_getD, List.getElem?_eq_getElem hi]
  exact e
theorem gd_inj {l : List Nat} (hn : l.Nodup) {i j : Nat} (hi : i < l.length) (hj : j < l.length) (h : l.getD i 0 = l.getD j 0) : i = j := by
  rw [List.getD_eq_getElem?_getD, List.getD_eq_getElem?_getD, List.getElem?_eq_getElem hi, List.getElem?_eq_getElem hj] at h
  replace h : l[i] = l[j] := h
  rcases Nat.lt_trichotomy i j with a | a | a
  · exact absurd h (List.pairwise_iff_getElem.mp hn i j hi hj a)
  · exact a
  · exact absurd h.symm (List.pairwise_iff_getElem.mp hn j i hj hi a)
theorem sL_gd (f : Nat → Fin 256) : ∀ l : List Nat, sL f l = zS (fun k => f (l.getD k 0)) l.length := by
  intro l
  induction l with
  | nil => rfl
  | cons a t ih =>
    show ga (f a) (sL f t) = zS (fun k => f ((a :: t).getD k 0)) (t.length + 1)
    rw [zS_first, ih]
    rfl
theorem vandF {X y : Nat → Fin 256} {w : Nat} (hX : ∀ i j, i < w → j < w → X i = X j → i = j) (h : ∀ r, r < w → zS (fun k => gx (y k) (px (X k) r)) w = 0) : ∀ k, k < w → y k = 0 := by
  intro k hk
  refine vand X (List.range w) y List.nodup_range (fun i hi j hj => hX i j (List.mem_range.mp hi) (List.mem_range.mp hj)) (fun r hr => ?_) k (List.mem_range.mpr hk)
  rw [List.length_range] at hr
  have e : sL (fun i => gx (y i) (px (X i) r)) (List.range w) = zS (fun i => gx (y i) (px (X i) r)) w := by
    have := zS_L (f := fun i => gx (y i) (px (X i) r)) (p := fun _ => true) w (fun i _ h => by cases h)
    rw [this, List.filter_eq_self.mpr (fun a _ => rfl)]
  rw [e]
  exact h r hr
theorem ref_only {W s s0 : Nat → Fin 256} {n N c t : Nat} (hl : (RQ s0 n N).length = n) (hs : ∀ j, j < n → s j ≠ 0) (hf : flg (twI W (RQ s0 n N) s n) N c = true) (hnt : n ≤ t) : CD W N c t (twI W (RQ s0 n N) s n) n := by
  have nd : (RQ s0 n N).Nodup := nd_rf _ _
  have inj : ∀ i j, i < n → j < n → (RQ s0 n N).getD i 0 = (RQ s0 n N).getD j 0 → i = j := fun i j hi hj => gd_inj nd (by omega) (by omega)
  refine ⟨(flg_iff c).mp hf, ?_, hnt⟩
  have e : wrL W (twI W (RQ s0 n N) s n) N = RQ s0 n N := by
    unfold wrL
    have : RQ s0 n N = (List.range N).filter (rqB s0 n N) := rfl
    rw [this]
    refine List.filter_congr (fun i hi => ?_)
    rw [← this]
    have hi := List.mem_range.mp hi
    by_cases m : i ∈ RQ s0 n N
    · have mb : rqB s0 n N i = true := (List.mem_filter.mp m).2
      rw [mb]
      obtain ⟨k, hk, e⟩ := gd_ex m
      refine decide_eq_true (fun z => ?_)
      rw [← e, tw_in n (by omega) inj] at z
      have := congrArg (ga (W ((RQ s0 n N).getD k 0))) z
      rw [ga_self, ga_ss] at this
      exact hs k (by omega) this.symm
    · have mb : ¬ rqB s0 n N i = true := fun z => m (List.mem_filter.mpr ⟨List.mem_range.mpr hi, z⟩)
      rw [tw_out (l := RQ s0 n N) (i := i) n (fun j hj z => m (by rw [← z]; exact gd_mem (by omega)))]
      cases hb : rqB s0 n N i
      · exact decide_eq_false (fun z => z rfl)
      · exact absurd hb mb
  rw [e, hl]
theorem ref_ns {W V : Nat → Fin 256} {n N c t : Nat} (hN : N ≤ 255) (ht : 2 * t ≤ c) (h : CD W N c t V n) : NSg (HA (syW W N) n) n := by
  obtain ⟨h1, h2, h3⟩ := h
  have g := cd_ge (W := W) hN h1
  intro x x0 xk k hk
  refine ge_hank g (by omega) x (fun r hr => ?_) k (by omega)
  rw [← h2]
  rw [← h2] at hr
  have := xk r hr
  replace this : ga (zS (fun k => gx (HA (syW W N) n r k) (x k)) n) (gx (HA (syW W N) n r n) (x n)) = 0 := this
  rw [x0, gx_z, ga_z] at this
  rw [← this]
  refine zS_congr n (fun j hj => ?_)
  unfold HA
  rw [if_pos hj, gx_comm]
theorem ref_rq {W V s : Nat → Fin 256} {n N c t : Nat} (hN : N ≤ 255) (ht : 2 * t ≤ c) (h1 : 1 ≤ n) (h : CD W N c t V n) (hk : KRn (HA (syW W N) n) n (xt1 s n)) : RQ s n N = wrL W V N := by
  obtain ⟨c1, c2, c3⟩ := h
  have g := cd_ge (W := W) hN c1
  have hP : ∀ k, (fun k => match k with | 0 => 1 | k + 1 => if k < n then s k else (0 : Fin 256)) k = lam (fun i => al (N - 1 - i)) (wrL W V N) k := by
    refine ge_uniq (c := c) g (by omega) rfl (fun k hk => ?_) (fun m m1 m2 => ?_)
    · obtain ⟨k, rfl⟩ : ∃ k', k = k' + 1 := ⟨k - 1, by omega⟩
      exact if_neg (by omega)
    · rw [← c2] at m1 m2
      obtain ⟨r, rfl⟩ : ∃ r, m = n + r := ⟨m - n, by omega⟩
      have e := hk r (by omega)
      replace e : ga (zS (fun k => gx (HA (syW W N) n r k) (xt1 s n k)) n) (gx (HA (syW W N) n r n) (xt1 s n n)) = 0 := e
      have e2 : gx (HA (syW W N) n r n) (xt1 s n n) = syW W N (n + r) := by
        unfold HA xt1
        rw [if_neg (by omega), if_neg (by omega), gx_o]
      rw [e2] at e
      unfold cv
      rw [zS_first]
      show ga (gx 1 (syW W N (n + r - 0))) (zS (fun i => gx (if i < n then s i else 0) (syW W N (n + r - (i + 1)))) (n + r)) = 0
      rw [gx_1, Nat.sub_zero, zS_ext (n := n) (fun i hi => by rw [if_neg (by omega), gx_q]) (n + r) (by omega), ga_comm, ← e]
      congr 1
      refine zS_congr n (fun j hj => ?_)
      unfold HA xt1
      rw [if_pos hj, if_pos hj, if_pos hj, gx_comm, show n + r - 1 - j = n + r - (j + 1) by omega]
  unfold RQ wrL
  refine List.filter_congr (fun i hi => ?_)
  have hi := List.mem_range.mp hi
  have rt := root_iff (n := n + 1) (i := i) g (by omega) (fun j hj e => by have a := (wr_mem.mp hj).1; have := al_inj (by omega) (by omega) e; omega) (z := zI N i) (zI_1 hN)
  rw [← show (fun k => match k with | 0 => 1 | k + 1 => if k < n then s k else (0 : Fin 256)) = lam (fun i => al (N - 1 - i)) (wrL W V N) from funext hP, ev_s] at rt
  replace rt : ga 1 (gx (zI N i) (ev n (fun k => if k < n then s k else 0) (zI N i))) = 0 ↔ i ∈ wrL W V N := rt
  rw [ev_congr (zI N i) n (fun k => if k < n then s k else 0) s (fun k hk => if_pos hk)] at rt
  unfold rqB
  refine decide_eq_decide.mpr ?_
  rw [show (gx (zI N i) (ev n s (zI N i)) = 1) ↔ i ∈ wrL W V N from ⟨fun z => rt.mp (by rw [z, ga_self]), fun z => (ga_eq0 (rt.mpr z)).symm⟩, wr_mem]
  exact ⟨fun z => z.2, fun z => ⟨hi, z⟩⟩
theorem ref_vs {W V : Nat → Fin 256} {n N : Nat} (hN : N ≤ 255) (h2 : n = (wrL W V N).length) {sy : Nat → Fin 256} : ∀ x : Nat → Fin 256, (∀ r, r < n → zS (fun k => gx (VA sy (wrL W V N) n N r k) (x k)) n = 0) → ∀ k, k < n → x k = 0 := by
  intro x hx
  have nd : (wrL W V N).Nodup := nd_rf _ _
  refine vandF (X := fun k => al (N - 1 - (wrL W V N).getD k 0)) (fun i j hi hj e => ?_) (fun r hr => ?_)
  · have a := (wr_mem.mp (gd_mem (l := wrL W V N) (i := i) (by omega))).1
    have b := (wr_mem.mp (gd_mem (l := wrL W V N) (i := j) (by omega))).1
    have := al_inj (by omega) (by omega) e
    exact gd_inj nd (by omega) (by omega) (by omega)
  · rw [← hx r hr]
    refine zS_congr n (fun k hk => ?_)
    unfold VA
    rw [if_pos hk, gx_comm]
theorem ref_ns2 {W V sy : Nat → Fin 256} {n N : Nat} (hN : N ≤ 255) (h2 : n = (wrL W V N).length) : NSg (VA sy (wrL W V N) n N) n := by
  intro x x0 xk
  refine ref_vs (sy := sy) hN h2 x (fun r hr => ?_)
  have := xk r hr
  replace this : ga (zS (fun k => gx (VA sy (wrL W V N) n N r k) (x k)) n) (gx (VA sy (wrL W V N) n N r n) (x n)) = 0 := this
  rw [x0, gx_z, ga_z] at this
  exact this
theorem ref_e {W V s : Nat → Fin 256} {n N c : Nat} (hN : N ≤ 255) (hc : n ≤ c) (h1 : ∀ k, k < c → hsy V k N = 0) (h2 : n = (wrL W V N).length) (hk : KRn (VA (syW W N) (wrL W V N) n N) n (xt1 s n)) : ∀ k, k < n → s k = ga (W ((wrL W V N).getD k 0)) (V ((wrL W V N).getD k 0)) := by
  have g := cd_ge (W := W) hN h1
  intro k hk'
  refine ga_eq0 (ref_vs (sy := syW W N) hN h2 (fun k => ga (s k) (ga (W ((wrL W V N).getD k 0)) (V ((wrL W V N).getD k 0)))) (fun r hr => ?_) k hk')
  have a := hk r hr
  replace a : ga (zS (fun k => gx (VA (syW W N) (wrL W V N) n N r k) (xt1 s n k)) n) (gx (VA (syW W N) (wrL W V N) n N r n) (xt1 s n n)) = 0 := a
  have e2 : gx (VA (syW W N) (wrL W V N) n N r n) (xt1 s n n) = syW W N r := by
    unfold VA xt1
    rw [if_neg (by omega), if_neg (by omega), gx_o]
  rw [e2, g.2.2.2.2 r (by omega), sL_gd, ← h2, ← zS_add] at a
  rw [← a]
  refine zS_congr n (fun j hj => ?_)
  unfold VA xt1
  rw [if_pos hj, if_pos hj, gx_add, gx_comm (ga _ _)]
