/-! AN ORDER KEPT BY THE REFERENCE -/
/-- an order given and its numbers had, kept -/
def GH (M R : im_M) (f o a s : Nat) (k r i j p b c : Int32) : Prop := fr (2 ^ 87 ||| 2 ^ 88) [(71, 26), (71, 32), (71, 37)] M R ∧ im_i R 71 37 = nI (o + 1) ∧ (∀ t, im_i R 87 t = if 9 * o ≤ t ∧ t < 9 * o + 9 then odF k (sxI (im_i M 82 (16 * f + 5)) i j r) (syI (im_i M 82 (16 * f + 6)) i j r) r (im_i M 82 (16 * f + 7)) p b c (nI s) (t - 9 * o) else im_i M 87 t) ∧ (∀ x, x < s → odB M k a x = some (im_i R 88 (200 * o + x))) ∧ ∀ t, ¬ (200 * o ≤ t ∧ t < 200 * o + s) → im_i R 88 t = im_i M 88 t
theorem s_gh1 {M : im_M} {f o a s : Nat} {k r i j p b c : Int32} (hf : 16 * f + 16 ≤ 2000) (hk : im_i M 71 33 = 1) (h37 : im_i M 71 37 = nI o) (ho : o < 120) (ha : a + s ≤ 200) (hs : k = 7 → 2 * s ≤ 200) (hb : ∀ i, i < s → ∃ v, odB M k a i = some v) : ed (bd1 (f_MScriptRows_give (nI f) k r i j (nI a) (nI s) M) fun (M2 : im_M) => f_MScriptRows_have p b c M2) (fun R => GH M R f o a s k r i j p b c) := by
  rw [s_give1 hf hk h37 ho]
  generalize hX : sxI (im_i M 82 (16 * f + 5)) i j r = X
  generalize hY : syI (im_i M 82 (16 * f + 6)) i j r = Y
  generalize wrI M f r i j = w
  obtain ⟨M0, h0⟩ : ∃ N, N = im_setI (im_setI M 71 32 w) 71 26 (im_i M 71 26 + 1) := ⟨_, rfl⟩
  have f0 : fr 0 [(71, 26), (71, 32)] M M0 := by rw [h0]; exact fr_F (by decide) (fr_F (by decide) fr_refl)
  rw [← h0]
  clear h0
  obtain ⟨N, hN⟩ : ∃ N, N = row9 M0 o k X Y r (im_i M 82 (16 * f + 7)) 0 0 0 (nI s) := ⟨_, rfl⟩
  have fN : fr (2 ^ 87) [] M0 N := by rw [hN]; exact row9_fr
  have iN : ∀ t, im_i N 87 t = if t = 9 * o + 8 then nI s else if t = 9 * o + 7 then 0 else if t = 9 * o + 6 then 0 else if t = 9 * o + 5 then 0 else if t = 9 * o + 4 then im_i M 82 (16 * f + 7) else if t = 9 * o + 3 then r else if t = 9 * o + 2 then Y else if t = 9 * o + 1 then X else if t = 9 * o then k else im_i M0 87 t := fun t => by rw [hN]; exact row9_i t
  rw [← hN]
  clear hN
  have fA : fr (2 ^ 87) [(71, 26), (71, 32)] M N := fr_tr (fr_mono (by decide) (by decide) fN) (fr_mono (by decide) (by decide) f0)
  have n85 : im_i N 85 = im_i M 85 := fr_c fA 85 (by decide) (by decide)
  have n37 : im_i N 71 37 = nI o := (fA.1 71 37 (by decide) (by decide)).trans h37
  have m87 : ∀ t, im_i M0 87 t = im_i M 87 t := fun t => f0.1 87 t (by decide) (by simp)
  apply bd1_mk
  apply bd1_mk
  refine ed_mono (s_giveB (k := k) (a := a) (s := s) (o := o) n37 ho ha hs (fun i hi => by rw [odB_c n85]; exact hb i hi)) ?_
  rintro R ⟨fR, b1, b2⟩
  refine ed_mk ?_
  have r37 : im_i (im_setI R 71 37 (im_i R 71 37 + 1)) 71 37 = nI (o + 1) := by
    show im_i R 71 37 + 1 = _
    rw [fR.1 71 37 (by decide) (by decide), n37]
    exact nI_add o 1
  have r33 : im_i (im_setI R 71 37 (im_i R 71 37 + 1)) 71 33 = 1 := by
    show im_i R 71 33 = 1
    rw [fR.1 71 33 (by decide) (by decide), fA.1 71 33 (by decide) (by decide)]
    exact hk
  rw [s_have1 r37 ho r33]
  have fM : fr (2 ^ 87 ||| 2 ^ 88) [(71, 26), (71, 32), (71, 37)] M R := fr_tr (fr_mono (by decide) (by decide) fR) (fr_mono (by decide) (by decide) fA)
  refine ed_mk ⟨fr_I (by decide) (fr_I (by decide) (fr_I (by decide) (fr_F (by decide) fM))), r37, fun t => ?_, fun x hx => ?_, fun t ht => ?_⟩
  · have e87 : im_i R 87 t = im_i N 87 t := fR.1 87 t (by decide) (by simp)
    show (if t = 9 * o + 7 then c else if t = 9 * o + 6 then b else if t = 9 * o + 5 then p else im_i R 87 t) = _
    rw [e87, iN, m87, hX, hY]
    unfold odF odR
    by_cases d : 9 * o ≤ t ∧ t < 9 * o + 9
    · rw [if_pos d]
      obtain ⟨u, rfl⟩ : ∃ u, t = 9 * o + u := ⟨t - 9 * o, by omega⟩
      rw [Nat.add_sub_cancel_left]
      have : u = 0 ∨ u = 1 ∨ u = 2 ∨ u = 3 ∨ u = 4 ∨ u = 5 ∨ u = 6 ∨ u = 7 ∨ u = 8 := by omega
      rcases this with rfl | rfl | rfl | rfl | rfl | rfl | rfl | rfl | rfl <;> simp
    · rw [if_neg d, if_neg (by omega), if_neg (by omega), if_neg (by omega), if_neg (by omega), if_neg (by omega), if_neg (by omega), if_neg (by omega), if_neg (by omega), if_neg (by omega), if_neg (by omega), if_neg (by omega), if_neg (by omega)]
  · rw [← odB_c n85]
    exact b1 x hx
  · show im_i R 88 t = _
    rw [b2 t ht]
    exact fA.1 88 t (by decide) (by simp)
