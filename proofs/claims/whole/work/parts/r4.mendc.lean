/-! THE CLASS PUTS A WORD RIGHT: what its parts reckon -/
def AF (A : Nat → Int32) (v : Nat → Fin 256) (n : Nat) : Prop := ∀ i, i < n → A i = nI (v i).val
theorem tC {M : im_M} {a b : Fin 256} (q : PWL M) : f_HBlocks_times (nI a.val) (nI b.val) M = some (nI (gx a b).val) := s_timesC q a.isLt b.isLt
theorem nX (a b : Fin 256) : nI a.val ^^^ nI b.val = nI (ga a b).val := nI_xor
theorem nZ (a : Fin 256) : (nI a.val = 0) = (a = 0) := by
  have ha := a.isLt
  have e : (nI a.val = 0) = (a.val = 0) := nIe (c := 0) (by omega) (by omega)
  rw [e]
  exact propext ⟨fun h => Fin.ext h, fun h => by rw [h]; rfl⟩
theorem oC {M : im_M} {a b : Fin 256} (q : PWL M) (hb : b ≠ 0) : f_HBlocks_over (nI a.val) (nI b.val) M = some (nI (gx a (gi b)).val) := by
  unfold f_HBlocks_over
  simp only [nZ]
  by_cases c : a = 0
  · rw [if_neg (fun z => z c), c, gx_q]
    rfl
  · have ha : a.val ≠ 0 := fun z => c (Fin.ext z)
    have hb' : b.val ≠ 0 := fun z => hb (Fin.ext z)
    have la : lgN a.val < 255 := (lg_a a ha).2
    have lb : lgN b.val < 255 := (lg_a b hb').2
    have la' := a.isLt
    have lb' := b.isLt
    rw [if_pos c, gd_pos (by rw [inb_nI (by omega)]; omega), gd_pos (by rw [inb_nI (by omega)]; omega), nI_clamp (by omega), nI_clamp (by omega), lg_M q a.isLt ha, lg_M q b.isLt hb', show nI (lgN a.val) + 255 = nI (lgN a.val + 255) from nI_add _ 255, nI_sb (by omega), gd_pos (by rw [inb_nI (by omega)]; omega), nI_clamp (by omega), pw_M q (by omega)]
    have e : gx (al (lgN a.val)) (gi b) = al (lgN a.val + (255 - lgN b.val)) := al_mul _ _
    rw [al_of c] at e
    rw [e, show lgN a.val + 255 - lgN b.val = lgN a.val + (255 - lgN b.val) by omega]
    rfl
theorem fr_at {A : Nat} {M M' : im_M} {a j : Nat} (hf : fr A [] M M') (h : A.testBit a = false) : im_i M' a j = im_i M a j := hf.1 a j h List.not_mem_nil
theorem fr_ar {A : Nat} {M M' : im_M} {a : Nat} (hf : fr A [] M M') (h : A.testBit a = false) : im_i M' a = im_i M a := funext fun _ => fr_at hf h
theorem PWL_f {A : Nat} {M M' : im_M} (hf : fr A [] M M') (h : A.testBit 45 = false ∧ A.testBit 46 = false) (q : PWL M) : PWL M' := ⟨by rw [fr_ar hf h.1]; exact q.1, by rw [fr_ar hf h.2]; exact q.2⟩
theorem fill_g {b : Int32 × im_M → Option ((Int32 × im_M) ⊕ im_M)} {a n : Nat} {v : Int32} {M : im_M} (hA : (2 ^ a).testBit a = true) (h1 : ∀ k M, k < n → b (nI k, M) = some (.inl (nI (k + 1), im_setI M a k v))) (h2 : ∀ M, b (nI n, M) = some (.inr M)) : ed (lp b (nI 0, M)) (fun R => (∀ j, j < n → im_i R a j = v) ∧ fr (2 ^ a) [] M R) := by
  refine lp_for (S := Unit) (fun i _ (t : Int32 × im_M) => t.1 = nI i ∧ (∀ j, j < i → im_i t.2 a j = v) ∧ fr (2 ^ a) [] M t.2) (Q := fun _ R => (∀ j, j < n → im_i R a j = v) ∧ fr (2 ^ a) [] M R) n (fun _ s => s) ?_ ?_ (s := ()) ⟨rfl, fun j hj => by omega, fr_refl⟩
  · rintro i s ⟨x, M1⟩ hi ⟨e, h, hf⟩
    replace e : x = nI i := e
    subst e
    rw [h1 i M1 hi]
    refine ed_mk ⟨_, rfl, rfl, fun j hj => ?_, fr_I hA hf⟩
    show im_i (im_setI M1 a i v) a j = v
    by_cases c : j = i
    · subst c; exact hit
    · rw [sk1 (by omega)]; exact h j (by omega)
  · rintro s ⟨x, M1⟩ ⟨e, h, hf⟩
    replace e : x = nI n := e
    subst e
    rw [h2]
    exact ed_mk ⟨_, rfl, h, hf⟩
/-! the syndromes -/
def hsy (W : Nat → Fin 256) (k : Nat) : Nat → Fin 256 := itN (fun i a => ga (gx a (al k)) (W i)) 0
def flg (W : Nat → Fin 256) (n : Nat) : Nat → Bool
  | 0 => true
  | k + 1 => flg W n k && decide (hsy W k n = 0)
theorem flg_iff {W : Nat → Fin 256} {n : Nat} : ∀ c, flg W n c = true ↔ ∀ k, k < c → hsy W k n = 0 := by
  intro c
  induction c with
  | zero => exact ⟨fun _ k hk => by omega, fun _ => rfl⟩
  | succ c ih =>
    show (flg W n c && decide (hsy W c n = 0)) = true ↔ _
    rw [Bool.and_eq_true, decide_eq_true_eq, ih]
    constructor
    · rintro ⟨h1, h2⟩ k hk
      by_cases e : k = c
      · rw [e]; exact h2
      · exact h1 k (by omega)
    · intro h
      exact ⟨fun k hk => h k (by omega), h c (by omega)⟩
theorem s_isC {M : im_M} {n c : Nat} {W : Nat → Fin 256} (qp : PWL M) (hn : n ≤ 255) (hc : c ≤ 30) (h12 : im_i M 43 12 = nI c) (hW : AF (im_i M 48) W n) : ed (f_HBlocks_isCodeword (nI n) M) (fun r => r.1 = (if flg W n c = true then 1 else 0) ∧ AF (im_i r.2 49) (fun k => hsy W k n) c ∧ fr (2 ^ 49) [] M r.2) := by
  unfold f_HBlocks_isCodeword
  apply bd2_mk
  refine ed_mono (lp_for (S := Unit) (fun i _ (t : Int32 × Int32 × im_M) => t.1 = (if flg W n i = true then 1 else 0) ∧ t.2.1 = nI i ∧ AF (im_i t.2.2 49) (fun k => hsy W k n) i ∧ fr (2 ^ 49) [] M t.2.2) (Q := fun _ (r : Int32 × im_M) => r.1 = (if flg W n c = true then 1 else 0) ∧ AF (im_i r.2 49) (fun k => hsy W k n) c ∧ fr (2 ^ 49) [] M r.2) c (fun _ s => s) ?_ ?_ (s := ()) (t := (1, 0, M)) ⟨rfl, rfl, fun j hj => by omega, fr_refl⟩) ?_
  · rintro i s ⟨x3, x4, M5⟩ hi ⟨e1, e2, e3, hf⟩
    replace e1 : x3 = (if flg W n i = true then 1 else 0) := e1
    replace e2 : x4 = nI i := e2
    replace e3 : AF (im_i M5 49) (fun k => hsy W k n) i := e3
    replace hf : fr (2 ^ 49) [] M M5 := hf
    subst e2
    have q5 : PWL M5 := PWL_f hf (by decide) qp
    have w5 : im_i M5 48 = im_i M 48 := fr_ar hf (by decide)
    show ed (f_HBlocks_isCodeword_L4 (nI n) x3 (nI i) M5) _
    unfold f_HBlocks_isCodeword_L4
    have hr : lp (uc2 (f_HBlocks_isCodeword_L18 (nI n) x3 (nI i) M5)) (0, 0) = some (nI (hsy W i n).val) := by
      refine lp_row (fun j => (nI (hsy W i j).val, nI j)) n (fun j hj => ?_) ?_
      · show f_HBlocks_isCodeword_L18 (nI n) x3 (nI i) M5 (nI (hsy W i j).val) (nI j) = some (Sum.inl (nI (ga (gx (hsy W i j) (al i)) (W j)).val, nI (j + 1)))
        unfold f_HBlocks_isCodeword_L18
        rw [if_nIl (by omega) (by omega), if_neg (by omega), gd_pos (by rw [inb_nI (by omega)]; omega), nI_clamp (by omega), pw_M q5 (by omega), show nI (pwN i) = nI (al i).val from rfl, tC q5, bd1_s, gd_pos (by rw [inb_nI (by omega)]; omega), nI_clamp (by omega), w5, hW j hj, nX]
        exact congrArg (fun z => some (Sum.inl (_, z))) (nI_add j 1)
      · show f_HBlocks_isCodeword_L18 (nI n) x3 (nI i) M5 (nI (hsy W i n).val) (nI n) = _
        unfold f_HBlocks_isCodeword_L18
        rw [if_nIl (by omega) (by omega), if_pos (by omega)]
    rw [show im_i M5 43 12 = nI c from (fr_at hf (by decide)).trans h12, if_nIl (by omega) (by omega), if_neg (by omega), hr, bd1_s, gd_pos (by rw [inb_nI (by omega)]; omega), nI_clamp (by omega)]
    refine ed_mk ⟨_, rfl, ?_, nI_add i 1, fun j hj => ?_, fr_I (by decide) hf⟩
    · show x3 &&& (if ¬ nI (hsy W i n).val = 0 then (0 : Int32) else 1) = if (flg W n i && decide (hsy W i n = 0)) = true then 1 else 0
      rw [e1]
      simp only [nZ]
      by_cases a : flg W n i = true
      · by_cases b : hsy W i n = 0
        · simp [a, b]
        · simp [a, b]
      · by_cases b : hsy W i n = 0
        · simp [a, b]
        · simp [a, b]
    · show im_i (im_setI M5 49 i (nI (hsy W i n).val)) 49 j = _
      by_cases e : j = i
      · subst e; exact hit
      · rw [sk1 (by omega)]; exact e3 j (by omega)
  · rintro s ⟨x3, x4, M5⟩ ⟨e1, e2, e3, hf⟩
    replace e2 : x4 = nI c := e2
    replace hf : fr (2 ^ 49) [] M M5 := hf
    subst e2
    show ed (f_HBlocks_isCodeword_L4 (nI n) x3 (nI c) M5) _
    unfold f_HBlocks_isCodeword_L4
    rw [show im_i M5 43 12 = nI c from (fr_at hf (by decide)).trans h12, if_nIl (by omega) (by omega), if_pos (by omega)]
    exact ed_mk ⟨_, rfl, e1, e3, hf⟩
  · rintro ⟨a, M1⟩ ⟨h1, h2, h3⟩
    show ed (gd (a = 0 ∨ a = 1) (some (a, M1))) _
    replace h1 : a = if flg W n c = true then 1 else 0 := h1
    rw [gd_pos (by rw [h1]; split; exact Or.inr rfl; exact Or.inl rfl)]
    exact ed_mk ⟨h1, h2, h3⟩
/-! the values of a polynomial -/
theorem s_valC {M : im_M} {La : Nat → Fin 256} {z : Fin 256} (qp : PWL M) (hL : AF (im_i M 50) La 31) : f_HBlocks_valueAt (nI z.val) M = some (nI (ev 31 La z).val) := by
  unfold f_HBlocks_valueAt
  have e : lp (uc2 (f_HBlocks_valueAt_L8 (nI z.val) M)) (0, (31 : Int32) - 1) = some (nI (ev 31 La z).val) := by
    refine lp_row (fun i => (nI (ev i (fun k => La (31 - i + k)) z).val, iZ (30 - (i : Int)))) 31 (fun i hi => ?_) ?_
    · show f_HBlocks_valueAt_L8 (nI z.val) M (nI (ev i (fun k => La (31 - i + k)) z).val) (iZ (30 - (i : Int))) = some (Sum.inl (nI (ev (i + 1) (fun k => La (31 - (i + 1) + k)) z).val, iZ (30 - ((i + 1 : Nat) : Int))))
      have ei : iZ (30 - (i : Int)) = nI (30 - i) := by rw [iZ_nI]; congr 1; omega
      have e2 : nI (30 - i) + (-1) = iZ (30 - ((i + 1 : Nat) : Int)) := by
        rw [iZ_nI, show (-1 : Int32) = iZ (-1) from rfl, iZ_add]
        congr 1
        omega
      unfold f_HBlocks_valueAt_L8
      rw [ei, if_neg (by rw [show (0 : Int32) = nI 0 from rfl, nIlt (by omega) (by omega)]; omega), tC qp, bd1_s, gd_pos (by rw [inb_nI (by omega)]; omega), nI_clamp (by omega), hL _ (by omega), nX, e2]
      congr 4
      rw [ev_s, ga_comm, gx_comm]
      refine congrArg Fin.val ?_
      show ga (La (30 - i)) (gx z (ev i (fun k => La (31 - i + k)) z)) = ga (La (31 - (i + 1) + 0)) (gx z (ev i (fun k => La (31 - (i + 1) + (k + 1))) z))
      rw [show 31 - (i + 1) + 0 = 30 - i by omega, ev_congr z i (fun k => La (31 - (i + 1) + (k + 1))) (fun k => La (31 - i + k)) (fun k _ => by show La (31 - (i + 1) + (k + 1)) = _; rw [show 31 - (i + 1) + (k + 1) = 31 - i + k by omega])]
    · show f_HBlocks_valueAt_L8 (nI z.val) M (nI (ev 31 (fun k => La (31 - 31 + k)) z).val) (iZ (30 - ((31 : Nat) : Int))) = _
      unfold f_HBlocks_valueAt_L8
      rw [if_pos (by decide), ev_congr z 31 (fun k => La (31 - 31 + k)) La (fun k _ => by show La (31 - 31 + k) = _; rw [show 31 - 31 + k = k by omega])]
  rw [e, bd1_s]
theorem s_valE {M : im_M} {La : Nat → Fin 256} {z : Fin 256} (qp : PWL M) (hL : AF (im_i M 53) La 30) : f_HBlocks_valueAt_1 (nI z.val) M = some (nI (ev 30 La z).val) := by
  unfold f_HBlocks_valueAt_1
  have e : lp (uc2 (f_HBlocks_valueAt_1_L8 (nI z.val) M)) (0, (30 : Int32) - 1) = some (nI (ev 30 La z).val) := by
    refine lp_row (fun i => (nI (ev i (fun k => La (30 - i + k)) z).val, iZ (29 - (i : Int)))) 30 (fun i hi => ?_) ?_
    · show f_HBlocks_valueAt_1_L8 (nI z.val) M (nI (ev i (fun k => La (30 - i + k)) z).val) (iZ (29 - (i : Int))) = some (Sum.inl (nI (ev (i + 1) (fun k => La (30 - (i + 1) + k)) z).val, iZ (29 - ((i + 1 : Nat) : Int))))
      have ei : iZ (29 - (i : Int)) = nI (29 - i) := by rw [iZ_nI]; congr 1; omega
      have e2 : nI (29 - i) + (-1) = iZ (29 - ((i + 1 : Nat) : Int)) := by
        rw [iZ_nI, show (-1 : Int32) = iZ (-1) from rfl, iZ_add]
        congr 1
        omega
      unfold f_HBlocks_valueAt_1_L8
      rw [ei, if_neg (by rw [show (0 : Int32) = nI 0 from rfl, nIlt (by omega) (by omega)]; omega), tC qp, bd1_s, gd_pos (by rw [inb_nI (by omega)]; omega), nI_clamp (by omega), hL _ (by omega), nX, e2]
      congr 4
      rw [ev_s, ga_comm, gx_comm]
      refine congrArg Fin.val ?_
      show ga (La (29 - i)) (gx z (ev i (fun k => La (30 - i + k)) z)) = ga (La (30 - (i + 1) + 0)) (gx z (ev i (fun k => La (30 - (i + 1) + (k + 1))) z))
      rw [show 30 - (i + 1) + 0 = 29 - i by omega, ev_congr z i (fun k => La (30 - (i + 1) + (k + 1))) (fun k => La (30 - i + k)) (fun k _ => by show La (30 - (i + 1) + (k + 1)) = _; rw [show 30 - (i + 1) + (k + 1) = 30 - i + k by omega])]
    · show f_HBlocks_valueAt_1_L8 (nI z.val) M (nI (ev 30 (fun k => La (30 - 30 + k)) z).val) (iZ (29 - ((30 : Nat) : Int))) = _
      unfold f_HBlocks_valueAt_1_L8
      rw [if_pos (by decide), ev_congr z 30 (fun k => La (30 - 30 + k)) La (fun k _ => by show La (30 - 30 + k) = _; rw [show 30 - 30 + k = k by omega])]
  rw [e, bd1_s]
theorem s_slopeC {M : im_M} {La : Nat → Fin 256} {z : Fin 256} (qp : PWL M) (hL : AF (im_i M 50) La 31) : f_HBlocks_slopeAt (nI z.val) M = some (nI (ev 15 (fun k => La (2 * k + 1)) (gx z z)).val) := by
  unfold f_HBlocks_slopeAt
  rw [tC qp, bd1_s]
  have e : lp (uc2 (f_HBlocks_slopeAt_L13 (nI (gx z z).val) M)) (0, 29) = some (nI (ev 15 (fun k => La (2 * k + 1)) (gx z z)).val) := by
    refine lp_row (fun i => (nI (ev i (fun k => La (2 * (15 - i + k) + 1)) (gx z z)).val, iZ (29 - 2 * (i : Int)))) 15 (fun i hi => ?_) ?_
    · show f_HBlocks_slopeAt_L13 (nI (gx z z).val) M (nI (ev i (fun k => La (2 * (15 - i + k) + 1)) (gx z z)).val) (iZ (29 - 2 * (i : Int))) = some (Sum.inl (nI (ev (i + 1) (fun k => La (2 * (15 - (i + 1) + k) + 1)) (gx z z)).val, iZ (29 - 2 * ((i + 1 : Nat) : Int))))
      have ei : iZ (29 - 2 * (i : Int)) = nI (29 - 2 * i) := by rw [iZ_nI]; congr 1; omega
      have e2 : nI (29 - 2 * i) + (-2) = iZ (29 - 2 * ((i + 1 : Nat) : Int)) := by
        rw [iZ_nI, show (-2 : Int32) = iZ (-2) from rfl, iZ_add]
        congr 1
        omega
      unfold f_HBlocks_slopeAt_L13
      rw [ei, if_neg (by rw [show (0 : Int32) = nI 0 from rfl, nIl (by omega) (by omega)]; omega), tC qp, bd1_s, gd_pos (by rw [inb_nI (by omega)]; omega), nI_clamp (by omega), hL _ (by omega), nX, e2]
      congr 4
      rw [ev_s, ga_comm, gx_comm]
      refine congrArg Fin.val ?_
      show ga (La (29 - 2 * i)) (gx (gx z z) (ev i (fun k => La (2 * (15 - i + k) + 1)) (gx z z))) = ga (La (2 * (15 - (i + 1) + 0) + 1)) (gx (gx z z) (ev i (fun k => La (2 * (15 - (i + 1) + (k + 1)) + 1)) (gx z z)))
      rw [show 2 * (15 - (i + 1) + 0) + 1 = 29 - 2 * i by omega, ev_congr (gx z z) i (fun k => La (2 * (15 - (i + 1) + (k + 1)) + 1)) (fun k => La (2 * (15 - i + k) + 1)) (fun k _ => by show La (2 * (15 - (i + 1) + (k + 1)) + 1) = _; rw [show 2 * (15 - (i + 1) + (k + 1)) + 1 = 2 * (15 - i + k) + 1 by omega])]
    · show f_HBlocks_slopeAt_L13 (nI (gx z z).val) M (nI (ev 15 (fun k => La (2 * (15 - 15 + k) + 1)) (gx z z)).val) (iZ (29 - 2 * ((15 : Nat) : Int))) = _
      unfold f_HBlocks_slopeAt_L13
      rw [if_pos (by decide), ev_congr (gx z z) 15 (fun k => La (2 * (15 - 15 + k) + 1)) (fun k => La (2 * k + 1)) (fun k _ => by show La (2 * (15 - 15 + k) + 1) = _; rw [show 15 - 15 + k = k by omega])]
  rw [e, bd1_s]
theorem ev_sq (x : Fin 256) : ∀ n (v : Nat → Fin 256), ev (2 * n) (dc v) x = ev n (fun k => v (2 * k + 1)) (gx x x) := by
  intro n
  induction n with
  | zero => intro v; rfl
  | succ n ih =>
    intro v
    rw [show 2 * (n + 1) = 2 * n + 1 + 1 by omega, ev_s, ev_s, ev_s]
    have e : (fun k => dc v (k + 1 + 1)) = dc (fun k => v (k + 2)) := by
      funext k
      show (if (k + 1 + 1) % 2 = 0 then v (k + 1 + 1 + 1) else 0) = if k % 2 = 0 then v (k + 1 + 2) else 0
      by_cases c : k % 2 = 0
      · rw [if_pos c, if_pos (by omega)]
      · rw [if_neg c, if_neg (by omega)]
    show ga (dc v 0) (gx x (ga (dc v 1) (gx x (ev (2 * n) (fun k => dc v (k + 1 + 1)) x)))) = ga (v 1) (gx (gx x x) (ev n (fun k => v (2 * (k + 1) + 1)) (gx x x)))
    rw [e, ih, show dc v 0 = v 1 from rfl, show dc v 1 = 0 from rfl, ga_0, gx_assoc]
    rfl
