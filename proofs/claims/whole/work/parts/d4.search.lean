/-! THE CLASS'S SEARCH -/
/-- the places found: those of S, in their order -/
def FD (M : im_M) (D : Nat → Nat → Bool) (S : Nat → Prop) : Prop := ∃ (n : Nat) (f : Nat → Nat), n ≤ 300 ∧ im_i M 59 0 = nI n ∧ inc f n ∧ (∀ k, S k ↔ ∃ i, i < n ∧ f i = k) ∧ KR M D n f
theorem s_keep {M : im_M} {W H lo hi lim : Nat} {D : Nat → Nat → Bool} (hW : W ≤ 512) (hH : H ≤ 512) (hi2 : hi ≤ 16) (hlo : 1 ≤ lo) (hlim : lim ≤ 500) (h0 : im_i M 59 0 = 0) (hF : FS M D (StP W H D lo hi lim)) : ed (f_HFinder_keepLeaders M) (fun r => fr (2 ^ 62 ||| 2 ^ 63 ||| 2 ^ 64) [(59, 0)] M r ∧ FD r D (ld D (StP W H D lo hi lim))) := by
  obtain ⟨n, f, hn, h8, hinc, hS, hf⟩ := hF
  have hK : KR M D n f := fun i hi => (hf i hi).2
  have hSi : ∀ i, i < n → StP W H D lo hi lim (f i) := fun i hi => (hS _).mpr ⟨i, hi, rfl⟩
  have hld : ∀ M3 i, i < n → lds M3 D f i n → (im_i M3 64 i = 0 ∧ ¬ ld D (StP W H D lo hi lim) (f i)) ∨ (im_i M3 64 i = 1 ∧ ld D (StP W H D lo hi lim) (f i)) := by
    intro M3 i hi h
    rcases h with ⟨a, b⟩ | ⟨a, j, hj, b⟩
    · refine Or.inr ⟨a, hSi i hi, fun l hl z => ?_⟩
      obtain ⟨j, hj, e⟩ := (hS l).mp hl
      subst e
      exact b j hj z
    · exact Or.inl ⟨a, fun z => z.2 (f j) (hSi j hj) b⟩
  unfold f_HFinder_keepLeaders
  apply bd1_mk
  refine ed_mono (s_leads hW hH hK hi2 hlo hlim hSi hn h8 hinc) ?_
  rintro M28 ⟨g, hl⟩
  have k28 : KR M28 D n f := fun a ha => by
    rw [show im_l M28 62 = im_l M 62 from g.2 62 (by decide), show im_i M28 63 = im_i M 63 from fr_c g 63 (by decide) (by decide)]
    exact hK a ha
  apply bd1_mk
  refine ed_mono (lp_inv (fun k (s : Int32 × im_M) => ∃ i : Nat, i + k = n ∧ s.1 = nI i ∧ fr (2 ^ 62 ||| 2 ^ 63 ||| 2 ^ 64) [(59, 0)] M s.2 ∧ im_i s.2 59 8 = nI n ∧ im_i s.2 64 = im_i M28 64 ∧ (∀ j, i ≤ j → j < n → im_l s.2 62 j = lZ ((f j : Nat) : Int) ∧ im_i s.2 63 j = iZ (eW D (f j))) ∧ ∃ (c : Nat) (p : Nat → Nat), c ≤ i ∧ im_i s.2 59 0 = nI c ∧ inc p c ∧ (∀ k, (∃ j, j < c ∧ p j = k) ↔ ∃ j, j < i ∧ f j = k ∧ ld D (StP W H D lo hi lim) (f j)) ∧ KR s.2 D c p) (Q := fun r => fr (2 ^ 62 ||| 2 ^ 63 ||| 2 ^ 64) [(59, 0)] M r ∧ FD r D (ld D (StP W H D lo hi lim))) ?_ (k := n) ⟨0, by omega, rfl, fr_mono (by decide) (by decide) g, (g.1 59 8 (by decide) (by decide)).trans h8, rfl, fun j _ hj => k28 j hj, 0, f, by omega, (g.1 59 0 (by decide) (by decide)).trans h0, fun a b _ hb => absurd hb (by omega), fun k => ⟨fun ⟨j, hj, _⟩ => absurd hj (by omega), fun ⟨j, hj, _⟩ => absurd hj (by omega)⟩, fun a ha => absurd ha (by omega)⟩) (fun r h => ed_mk h)
  rintro k ⟨x30, M31⟩ ⟨i, hi, e1, f1, e8, e64, hr, c, p, hc, e0, hp, hm, hK2⟩
  replace e1 : x30 = nI i := e1
  replace f1 : fr (2 ^ 62 ||| 2 ^ 63 ||| 2 ^ 64) [(59, 0)] M M31 := f1
  replace e8 : im_i M31 59 8 = nI n := e8
  replace e64 : im_i M31 64 = im_i M28 64 := e64
  replace hr : ∀ j, i ≤ j → j < n → im_l M31 62 j = lZ ((f j : Nat) : Int) ∧ im_i M31 63 j = iZ (eW D (f j)) := hr
  replace e0 : im_i M31 59 0 = nI c := e0
  replace hK2 : KR M31 D c p := hK2
  subst e1
  show ed (f_HFinder_keepLeaders_L102 (nI i) M31) _
  unfold f_HFinder_keepLeaders_L102
  rw [e8, if_nIl (by omega) (by omega)]
  by_cases c1 : n ≤ i
  · rw [if_pos c1]
    refine lpo_r ⟨f1, c, p, by omega, e0, hp, fun k => ?_, hK2⟩
    rw [hm]
    constructor
    · intro h
      obtain ⟨j, hj, e⟩ := (hS k).mp h.1
      exact ⟨j, by omega, e, by rw [e]; exact h⟩
    · rintro ⟨j, hj, e, h⟩
      rw [← e]; exact h
  · rw [if_neg c1, gd_pos (by rw [inb_nI (by omega)]; omega), nI_clamp (by omega), e64]
    rcases hld M28 i (by omega) (hl i (by omega)) with ⟨a, b⟩ | ⟨a, b⟩
    · rw [a, if_pos rfl, bd1_s]
      refine lpo_l (k - 1) (by omega) ⟨i + 1, by omega, nI_add i 1, f1, e8, e64, fun j h1 h2 => hr j (by omega) h2, c, p, by omega, e0, hp, fun k => ?_, hK2⟩
      rw [hm]
      constructor
      · rintro ⟨j, hj, e⟩
        exact ⟨j, by omega, e⟩
      · rintro ⟨j, hj, e, h⟩
        refine ⟨j, ?_, e, h⟩
        by_cases z : j = i
        · rw [z] at h; exact absurd h b
        · omega
    · rw [a, if_neg (by decide), e0, gd_pos (by rw [inb_nI (by omega)]; omega), gd_pos (by rw [inb_nI (by omega)]; omega), gd_pos (by rw [inb_nI (by omega)]; omega), nI_clamp (by omega)]
      have e0' : im_i (im_setL M31 62 c (im_l M31 62 i)) 59 0 = nI c := e0
      rw [e0', gd_pos (by rw [inb_nI (by omega)]; omega), nI_clamp (by omega), bd1_s]
      refine lpo_l (k - 1) (by omega) ⟨i + 1, by omega, nI_add i 1, fr_F (by decide) (fr_I (by decide) (fr_L (by decide) f1)), e8, e64, fun j h1 h2 => ?_, c + 1, fun j => if j < c then p j else f i, by omega, ?_, fun x y hxy hy => ?_, fun k => ?_, fun j hj => ?_⟩
      · show (if j = c then im_l M31 62 i else im_l M31 62 j) = _ ∧ (if j = c then im_i M31 63 i else im_i M31 63 j) = _
        rw [if_neg (by omega), if_neg (by omega)]
        exact hr j (by omega) h2
      · show im_i M31 59 0 + 1 = _
        rw [e0]
        exact nI_add c 1
      · show (if _ then _ else _) < (if _ then _ else _)
        rw [if_pos (show x < c by omega)]
        by_cases z : y < c
        · rw [if_pos z]; exact hp x y hxy z
        · rw [if_neg z]
          obtain ⟨j, hj, e, _⟩ := (hm (p x)).mp ⟨x, by omega, rfl⟩
          rw [← e]
          exact hinc j i hj (by omega)
      · constructor
        · rintro ⟨j, hj, e⟩
          replace e : (if j < c then p j else f i) = k := e
          by_cases z : j < c
          · rw [if_pos z] at e
            obtain ⟨j', hj', e'⟩ := (hm k).mp ⟨j, z, e⟩
            exact ⟨j', by omega, e'⟩
          · rw [if_neg z] at e
            exact ⟨i, by omega, e, b⟩
        · rintro ⟨j, hj, e, h⟩
          by_cases z : j = i
          · rw [z] at e
            exact ⟨c, by omega, by show (if c < c then p c else f i) = k; rw [if_neg (by omega)]; exact e⟩
          · obtain ⟨j', hj', e'⟩ := (hm k).mpr ⟨j, by omega, e, h⟩
            exact ⟨j', by omega, by show (if j' < c then p j' else f i) = k; rw [if_pos hj']; exact e'⟩
      · show (if j = c then im_l M31 62 i else im_l M31 62 j) = lZ (((if j < c then p j else f i) : Nat) : Int) ∧ (if j = c then im_i M31 63 i else im_i M31 63 j) = iZ (eW D (if j < c then p j else f i))
        by_cases z : j = c
        · rw [if_pos z, if_pos z, if_neg (by omega)]
          exact hr i (by omega) (by omega)
        · rw [if_neg z, if_neg z, if_pos (by omega)]
          exact hK2 j (by omega)
theorem s_search {w : Bool} {M : im_M} {W H lo hi lim : Nat} {D : Nat → Nat → Bool} (q : DH w M W H D) (hz : Z0 (im_i M 60)) (hlo : 1 ≤ lo ∧ lo ≤ hi ∧ hi ≤ 16) (hlim : lim ≤ 500) : ed (f_HFinder_search w (nI lo) (nI hi) (nI lim) M) (fun r => fr (2 ^ 60 ||| 2 ^ 61 ||| 2 ^ 62 ||| 2 ^ 63 ||| 2 ^ 64 ||| 2 ^ 65) [(59, 0), (59, 8), (59, 9), (59, 10)] M r.2 ∧ Z0 (im_i r.2 60) ∧ ((FD r.2 D (ld D (StP W H D lo hi lim)) ∧ r.1 = im_i r.2 59 0 ∧ ∃ (n : Nat) (f : Nat → Nat), n ≤ 300 ∧ ∀ k, StP W H D lo hi lim k → ∃ i, i < n ∧ f i = k) ∨ (r.1 = -1 ∧ im_i r.2 59 0 = 0 ∧ OV (StP W H D lo hi lim)))) := by
  have hW := q.1
  unfold f_HFinder_search
  apply bd1_mk
  have f0 : fr 0 [(59, 0), (59, 8), (59, 10)] M (im_setI (im_setI (im_setI M 59 0 0) 59 8 0) 59 10 (nI lim)) := fr_F (by decide) (fr_F (by decide) (fr_F (by decide) fr_refl))
  refine ed_mono (s_addUp (DH_fr f0 (by decide +kernel) q) (by rw [show im_i (im_setI (im_setI (im_setI M 59 0 0) 59 8 0) 59 10 (nI lim)) 60 = im_i M 60 from fr_c f0 60 (by decide) (by decide)]; exact hz)) ?_
  rintro M1 ⟨f1, z1, s1⟩
  have fA : fr (2 ^ 60) [(59, 0), (59, 8), (59, 10)] M M1 := fr_tr (fr_mono (by decide) (by decide) f1) (fr_mono (by decide) (by decide) f0)
  have a0 : im_i M1 59 0 = 0 := f1.1 59 0 (by decide) (by decide)
  have a8 : im_i M1 59 8 = nI 0 := f1.1 59 8 (by decide) (by decide)
  have a10 : im_i M1 59 10 = nI lim := f1.1 59 10 (by decide) (by decide)
  have aw : im_i M1 28 0 = nI W := (fA.1 28 0 (by decide) (by decide)).trans q.2.1.1
  have ah : im_i M1 28 1 = nI H := (fA.1 28 1 (by decide) (by decide)).trans q.2.1.2
  have em : f_Math_min (im_i M1 28 0) (im_i M1 28 1) M1 = some (nI (if H < W then H else W)) := by
    unfold f_Math_min
    rw [aw, ah, if_nIlt (by omega) (by omega)]
    split <;> rfl
  rw [em, bd1_s, aw, ah, i513, gd_pos (by rw [inb_nI (by omega)]; omega), nI_clamp (by omega), s1 W H (by omega) (by omega)]
  have fB : fr 0 [(59, 9)] M1 (im_setI M1 59 9 (nI lo)) := fr_F (by decide) fr_refl
  refine bs1_q (s_sizes (w := w) (M := im_setI M1 59 9 (nI lo)) (W := W) (H := H) (lim := lim) (lo := lo) (hi := hi) (D := D) (SUMS_fr fB (by decide +kernel) s1) a10 aw ah (by omega) (by omega) hlim hlo ?_ rfl) ?_ ?_
  · refine ⟨0, fun _ => 0, by omega, a8, fun i j _ hj => absurd hj (by omega), fun k => ⟨fun z => ?_, fun ⟨i, hi, _⟩ => absurd hi (by omega)⟩, fun i hi => absurd hi (by omega)⟩
    have := z.1.1
    have := z.2
    omega
  · rintro M3 ⟨f3, h3⟩
    replace f3 : frK (im_setI M1 59 9 (nI lo)) M3 := f3
    apply bd1_mk
    refine ed_mono (s_keep (by omega) (by omega) hlo.2.2 hlo.1 hlim ((f3.1 59 0 (by decide) (by decide)).trans a0) h3) ?_
    rintro M4 ⟨f4, h4⟩
    refine ed_mk ⟨fr_tr (fr_mono (by decide) (by decide) f4) (fr_tr (fr_mono (by decide) (by decide) f3) (fr_tr (fr_mono (by decide) (by decide) fB) (fr_mono (by decide) (by decide) fA))), ?_, Or.inl ⟨h4, rfl, ?_⟩⟩
    · show Z0 (im_i M4 60)
      rw [show im_i M4 60 = im_i M3 60 from fr_c f4 60 (by decide) (by decide), show im_i M3 60 = im_i (im_setI M1 59 9 (nI lo)) 60 from fr_c f3 60 (by decide) (by decide)]
      exact z1
    · obtain ⟨n, f, hn, _, _, hS, _⟩ := h3
      exact ⟨n, f, hn, fun k hk => (hS k).mp hk⟩
  · rintro ⟨t, M3⟩ ⟨e, f3, h3⟩
    replace f3 : frK (im_setI M1 59 9 (nI lo)) M3 := f3
    refine ed_mk ⟨fr_tr (fr_mono (by decide) (by decide) f3) (fr_tr (fr_mono (by decide) (by decide) fB) (fr_mono (by decide) (by decide) fA)), ?_, Or.inr ⟨e, (f3.1 59 0 (by decide) (by decide)).trans a0, h3⟩⟩
    show Z0 (im_i M3 60)
    rw [show im_i M3 60 = im_i (im_setI M1 59 9 (nI lo)) 60 from fr_c f3 60 (by decide) (by decide)]
    exact z1
