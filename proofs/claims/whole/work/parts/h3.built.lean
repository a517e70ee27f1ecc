/-! A FIELD BUILT BY THE CLASS -/
def okF (q : Nat → Int32) (kd : Nat) (ods : List OD) : Prop := ods.length ≤ 20 ∧ (∀ o ∈ ods, nrO q o) ∧ (kd = 6 → farI (q 5 + q 1) = false ∧ farI (q 6 + q 2) = false)
/-- the rows and bytes of a new field in the draft, those before as they were -/
def DRf (M R : im_M) (q : Nat → Int32) (g n : Nat) (ods : List OD) : Prop := (∀ p, p < 14 * g → im_i R 21 p = im_i M 21 p) ∧ (∀ t o, ods[t]? = some o → ∀ u, u < 14 → im_i R 21 (14 * (g + t) + u) = rw1 q g (q 7) (q 8) (q 9) (nI n) o u) ∧ (∀ p, p < 200 * g → im_i R 22 p = im_i M 22 p) ∧ ∀ i, i < n → im_i R 22 (200 * g + i) = im_i M 25 i
theorem blkO_len {q : Nat → Int32} : ∀ (T : List (Nat × Nat)) (m : Nat), (blkO q m T).length = T.length := by
  intro T
  induction T with
  | nil => intro m; rfl
  | cons y T ih => intro m; show (blkO q (m + 1) T).length + 1 = T.length + 1; rw [ih]
theorem ods_8 {q : Nat → Int32} {n : Nat} {L : List (Nat × Nat)} : odsM q 8 n L = blkO q 0 L := rfl
theorem ods_len {q : Nat → Int32} {kd n : Nat} {L : List (Nat × Nat)} (h : kd ≤ 7) : 1 ≤ (odsM q kd n L).length ∧ (odsM q kd n L).length ≤ 2 := by
  rw [ods_1 (L := L) h]
  by_cases c : kd = 1 ∧ q 4 = 1
  · rw [if_pos c]
    exact ⟨by show 1 ≤ 2; omega, by show 2 ≤ 2; omega⟩
  · rw [if_neg c]
    exact ⟨by show 1 ≤ 1; omega, by show 1 ≤ 2; omega⟩
theorem s_build {M : im_M} {q : Nat → Int32} {kd n g : Nat} {L : List (Nat × Nat)} (hC : CFq M q kd n) (h5x : im_i M 17 0 + im_i M 23 0 = q 5) (h6y : im_i M 17 1 + im_i M 23 1 = q 6) (hb : kd = 1 → q 4 = 0 ∨ q 4 = 1) (hL : kd = 8 → LN M L) (hl : L.length ≤ 300) (hg : im_i M 19 3 = nI g) (hg2 : g ≤ 120) (h4 : q 7 = if im_i M 23 4 = 0 then 0 else 2) (h5 : q 8 = if im_i M 23 5 = 0 then 0 else 1) (h6 : im_i M 23 6 = q 9) : ed (f_HField_build M) (fun r => fr (2 ^ 21 ||| 2 ^ 22) [] M r.2 ∧ ((r.1 = nI (odsM q kd n L).length ∧ okF q kd (odsM q kd n L) ∧ DRf M r.2 q g n (odsM q kd n L)) ∨ (r.1 = -1 ∧ ¬ okF q kd (odsM q kd n L)))) := by
  have h2 := hC.1
  have hk := hC.2.1
  have h8 := hC.2.2.1
  have hn := hC.2.2.2.1
  have c0 : Int32.toNatClampNeg 0 = 0 := rfl
  have c1 : Int32.toNatClampNeg 1 = 1 := rfl
  have k8 : (nI kd = 8) = (kd = 8) := nIe (c := 8) (by omega) (by omega)
  have k6 : (nI kd = 6) = (kd = 6) := nIe (c := 6) (by omega) (by omega)
  have A : ∃ M5, (if ¬ nI kd = 8 then bd2 (f_HField_layOthers (q 5) (q 6) M) fun (x2 : Int32) (M2 : im_M) => some (x2, M2) else bd2 (f_HField_layLines (q 5) (q 6) M) fun (x3 : Int32) (M3 : im_M) => some (x3, M3)) = some (nI (odsM q kd n L).length, M5) ∧ fr (2 ^ 21) [] M M5 ∧ ((odsM q kd n L).length ≤ 20 → RWL M M5 g ((odsM q kd n L).map (rw1 q g 0 0 0 0))) := by
    simp only [k8]
    by_cases c : kd = 8
    · subst c
      rw [if_neg (fun z => z rfl)]
      obtain ⟨⟨a, M5⟩, er, e1, w⟩ := s_layLines hC (hL rfl) hl hg hg2
      replace e1 : a = nI L.length := e1
      replace w : RWL M M5 g ((blkO q 0 (L.take 20)).map (rw1 q g 0 0 0 0)) := w
      rw [er, e1, ods_8]
      refine ⟨M5, by rw [blkO_len]; rfl, w.1, fun hle => ?_⟩
      rw [blkO_len] at hle
      rw [List.take_of_length_le hle] at w
      exact w
    · rw [if_pos c]
      obtain ⟨⟨a, M5⟩, er, e1, w⟩ := s_layOthers (L := L) hC (by omega) hb hg hg2
      replace e1 : a = nI (odsM q kd n L).length := e1
      replace w : RWL M M5 g ((odsM q kd n L).map (rw1 q g 0 0 0 0)) := w
      rw [er, e1]
      exact ⟨M5, rfl, w.1, fun _ => w⟩
  have hlen : (odsM q kd n L).length ≤ 300 := by
    by_cases c : kd = 8
    · subst c
      rw [ods_8, blkO_len]
      exact hl
    · have := ods_len (q := q) (n := n) (L := L) (kd := kd) (by omega)
      omega
  obtain ⟨M5, eA, fA, wA⟩ := A
  generalize hO : odsM q kd n L = ods at *
  unfold f_HField_build
  have h5x' : im_i M 17 (Int32.toNatClampNeg 0) + im_i M 23 0 = q 5 := h5x
  have h6y' : im_i M 17 (Int32.toNatClampNeg 1) + im_i M 23 1 = q 6 := h6y
  rw [gd_pos (by decide), gd_pos (by decide), h5x', h6y', h2, eA, bd2_s]
  have b19 : im_i M5 19 3 = nI g := (fA.1 19 3 (by decide) (by decide)).trans hg
  have b8 : im_i M5 23 8 = nI n := (fA.1 23 8 (by decide) (by decide)).trans h8
  have eg : nI g * 200 = nI (200 * g) := by rw [nI_n, nI_mul, Nat.mul_comm]
  have nn : ∀ z : Nat, z < 100000 → ¬ nI z < 0 := fun z hz => by
    have : (nI z < 0) = (z < 0) := nIlt (c := 0) (by omega) (by omega)
    rw [this]; omega
  rw [b19, b8, eg, gd_pos (show cpy 0 200 (nI (200 * g)) 28000 (nI n) from ⟨by decide, nn _ (by omega), nn _ (by omega), by rw [nI_clamp (by omega), c0]; omega, by rw [nI_clamp (by omega), nI_clamp (by omega)]; omega⟩), nI_clamp (by omega), nI_clamp (by omega)]
  obtain ⟨M6, h6M⟩ : ∃ N, N = im_setA M5 22 (va_cpy (im_i M5 25) (im_i M5 22) (Int32.toNatClampNeg 0) (200 * g) n) := ⟨_, rfl⟩
  have f6 : fr (2 ^ 22) [] M5 M6 := by rw [h6M]; exact fr_A (by decide) fr_refl
  have v6 : ∀ p, im_i M6 22 p = if 200 * g ≤ p ∧ p < 200 * g + n then im_i M5 25 (0 + (p - 200 * g)) else im_i M5 22 p := fun p => by rw [h6M]; rfl
  rw [← h6M]
  clear h6M
  have fB : fr (2 ^ 21 ||| 2 ^ 22) [] M M6 := fr_tr (fr_mono (by decide) (by decide) f6) (fr_mono (by decide) (by decide) fA)
  have l20 : ((20 : Int32) < nI ods.length) = (20 < ods.length) := nIlt (x := 20) (by omega) (by omega)
  simp only [l20]
  by_cases c20 : 20 < ods.length
  · rw [if_pos c20]
    have eL : lp (uc3 (f_HField_build_L95 (q 5) (q 6) (nI ods.length))) ((0 : Int32), (0 : Int32), M6) = some ((0 : Int32), M6) := lp_r (by show f_HField_build_L95 _ _ _ 0 0 M6 = _; unfold f_HField_build_L95; rw [if_pos rfl])
    have d2 : im_i M6 23 2 = nI kd := (fB.1 23 2 (by decide) (by decide)).trans h2
    rw [eL, bd2_s, d2]
    simp only [k6]
    refine ed_mono (P := fun r => fr (2 ^ 21 ||| 2 ^ 22) [] M r.2 ∧ r.1 = -1) ?_ (fun r h => ⟨h.1, Or.inr ⟨h.2, fun z => by have := z.1; omega⟩⟩)
    have fin : ∀ y : Int32, y = 0 → ed (if y = 0 then some ((-1 : Int32), M6) else some (nI ods.length, M6)) (fun r => fr (2 ^ 21 ||| 2 ^ 22) [] M r.2 ∧ r.1 = -1) := fun y hy => by
      rw [if_pos hy]
      exact ed_mk ⟨fB, rfl⟩
    by_cases c6 : kd = 6
    · rw [if_neg (fun z => z c6), gd_pos (by decide), s_inRange, bd1_s]
      simp only [jn0]
      have : ∀ a b : Int32, (bd1 (if (if farI a = true then (0 : Int32) else 1) = 0 then some (0 : Int32) else gd (inb 1 4) <| bd1 (f_HOrders_inRange b M6) fun (x43 : Int32) => if x43 = 0 then some 0 else some 1) fun (y45 : Int32) => some ((0 : Int32) &&& y45)) = some (0 : Int32) := fun a b => by
        rw [s_inRange, bd1_s, gd_pos (by decide)]
        by_cases z : farI a = true
        · simp [z, bd1_s]
        · by_cases y : farI b = true
          · simp [z, y, bd1_s]
          · simp [z, y, bd1_s]
      rw [this, bd1_s]
      exact fin 0 rfl
    · rw [if_pos c6, bd1_s]
      exact fin 0 rfl
  · rw [if_neg c20]
    have wA := wA (by omega)
    have e25 : im_i M5 25 = im_i M 25 := fr_c fA 25 (by decide) (by decide)
    have e22 : im_i M5 22 = im_i M 22 := fr_c fA 22 (by decide) (by decide)
    have e21 : im_i M6 21 = im_i M5 21 := fr_c f6 21 (by decide) (by decide)
    have b4 : im_i M6 23 4 = im_i M 23 4 := fB.1 23 4 (by decide) (by decide)
    have b5 : im_i M6 23 5 = im_i M 23 5 := fB.1 23 5 (by decide) (by decide)
    have L := s_buildLoop (M := M6) (q := q) (g := g) (n := n) (w := q 7) (ct := q 8) (st := q 9) (v12 := q 5) (v13 := q 6) (ods := ods) (by omega) ((fB.1 19 3 (by decide) (by decide)).trans hg) hg2 (by rw [b4]; exact h4) (by rw [b5]; exact h5) ((fB.1 23 6 (by decide) (by decide)).trans h6) ((fB.1 23 8 (by decide) (by decide)).trans h8) ⟨fr_refl, fun _ _ => rfl, fun t o ht u hu => by
      rw [if_neg (by omega), e21]
      exact wA.2.2 t _ (by rw [List.getElem?_map, ht]; rfl) u hu⟩
    obtain ⟨⟨y37, M38⟩, eL, fL, hR⟩ := L
    replace fL : fr (2 ^ 21) [] M6 M38 := fL
    have fC : fr (2 ^ 21 ||| 2 ^ 22) [] M M38 := fr_tr (fr_mono (by decide) (by decide) fL) fB
    have d2 : im_i M38 23 2 = nI kd := (fC.1 23 2 (by decide) (by decide)).trans h2
    have d24 : im_i M38 24 = im_i M 24 := fr_c fC 24 (by decide) (by decide)
    rw [eL, bd2_s, d2, d24]
    simp only [k6]
    -- the answer y of the last test
    have fin : ∀ y : Int32, ((y = 1 ∧ okF q kd ods ∧ y37 = 1) ∨ (y = 0 ∧ ¬ okF q kd ods)) → ed (if y = 0 then some ((-1 : Int32), M38) else some (nI ods.length, M38)) (fun r => fr (2 ^ 21 ||| 2 ^ 22) [] M r.2 ∧ ((r.1 = nI ods.length ∧ okF q kd ods ∧ DRf M r.2 q g n ods) ∨ (r.1 = -1 ∧ ¬ okF q kd ods))) := by
      intro y hy
      rcases hy with ⟨y1, ok, y2⟩ | ⟨y1, nok⟩
      · rw [y1, if_neg (by decide)]
        rcases hR with ⟨_, hD, _⟩ | ⟨z, _⟩
        · replace hD : DRi M6 M38 q g (q 7) (q 8) (q 9) (nI n) ods ods.length := hD
          have f22 : im_i M38 22 = im_i M6 22 := fr_c fL 22 (by decide) (by decide)
          refine ed_mk ⟨fC, Or.inl ⟨rfl, ok, fun p hp => ?_, fun t o ht u hu => ?_, fun p hp => ?_, fun i hi => ?_⟩⟩
          · show im_i M38 21 p = _
            rw [hD.2.1 p hp, e21]
            exact wA.2.1 p hp
          · show im_i M38 21 _ = _
            have lt : t < ods.length := by
              rcases Nat.lt_or_ge t ods.length with z | z
              · exact z
              · rw [List.getElem?_eq_none z] at ht; cases ht
            rw [hD.2.2 t o ht u hu, if_pos lt]
          · show im_i M38 22 p = _
            rw [f22, v6, if_neg (by omega), e22]
          · show im_i M38 22 (200 * g + i) = _
            rw [f22, v6, if_pos (by omega), e25]
            congr 1
            omega
        · replace z : y37 = 0 := z
          rw [z] at y2
          exact absurd y2 (by decide)
      · rw [y1, if_pos rfl]
        exact ed_mk ⟨fC, Or.inr ⟨rfl, nok⟩⟩
    by_cases c6 : kd = 6
    · have q1 : im_i M 24 (Int32.toNatClampNeg 0) = q 1 := hC.2.2.2.2.1 0 (by rw [c6]; decide)
      have q2 : im_i M 24 (Int32.toNatClampNeg 1) = q 2 := hC.2.2.2.2.1 1 (by rw [c6]; decide)
      rw [if_neg (fun z => z c6), gd_pos (by decide), q1, q2, s_inRange, bd1_s]
      simp only [jn0]
      rw [gd_pos (by decide), s_inRange, bd1_s]
      rcases hR with ⟨z, _, hN⟩ | ⟨z, hN⟩
      · replace z : y37 = 1 := z
        subst z
        by_cases a : farI (q 5 + q 1) = true
        · rw [if_pos a, if_pos rfl, bd1_s]
          exact fin ((1 : Int32) &&& 0) (Or.inr ⟨by decide, fun y => by have := (y.2.2 c6).1; rw [a] at this; cases this⟩)
        · rw [if_neg a, if_neg (show ¬ (1 : Int32) = 0 by decide)]
          by_cases b : farI (q 6 + q 2) = true
          · rw [if_pos b, if_pos rfl, bd1_s]
            exact fin ((1 : Int32) &&& 0) (Or.inr ⟨by decide, fun y => by have := (y.2.2 c6).2; rw [b] at this; cases this⟩)
          · rw [if_neg b, if_neg (show ¬ (1 : Int32) = 0 by decide), bd1_s]
            exact fin ((1 : Int32) &&& 1) (Or.inl ⟨by decide, ⟨by omega, hN, fun _ => ⟨by simpa using a, by simpa using b⟩⟩, rfl⟩)
      · replace z : y37 = 0 := z
        subst z
        have : ∀ a b : Bool, (bd1 (if (if a = true then (0 : Int32) else 1) = 0 then some (0 : Int32) else if (if b = true then (0 : Int32) else 1) = 0 then some 0 else some 1) fun (y45 : Int32) => some ((0 : Int32) &&& y45)) = some (0 : Int32) := by intro a b; cases a <;> cases b <;> rfl
        rw [this, bd1_s]
        exact fin _ (Or.inr ⟨rfl, fun y => hN y.2.1⟩)
    · rw [if_pos c6, bd1_s]
      rcases hR with ⟨z, _, hN⟩ | ⟨z, hN⟩
      · exact fin _ (Or.inl ⟨z, ⟨by omega, hN, fun y => absurd y c6⟩, z⟩)
      · exact fin _ (Or.inr ⟨z, fun y => hN y.2.1⟩)
