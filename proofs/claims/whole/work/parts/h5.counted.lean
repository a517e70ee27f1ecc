/-! WHETHER A FIELD IS PLACED, BY THE REFERENCE -/
theorem wrI_is {N : im_M} {f : Nat} {q : Nat → Int32} {o : OD} {b : Bool} (h32 : im_i N 71 32 = if b = true then 1 else 0) (h5 : im_i N 82 (16 * f + 5) = q 5) (h6 : im_i N 82 (16 * f + 6) = q 6) : wrI N f o.1.2.1 o.1.2.2.1 o.1.2.2.2 = if (b || (farI (sxI (q 5) o.1.2.2.1 o.1.2.2.2 o.1.2.1) || farI (syI (q 6) o.1.2.2.1 o.1.2.2.2 o.1.2.1))) = true then 1 else 0 := by
  unfold wrI
  rw [h32, h5, h6]
  cases b with
  | true => rfl
  | false =>
    cases farI (sxI (q 5) o.1.2.2.1 o.1.2.2.2 o.1.2.1) with
    | true => rfl
    | false =>
      cases farI (syI (q 6) o.1.2.2.1 o.1.2.2.2 o.1.2.1) with
      | true => rfl
      | false => rfl
/-- what is counted: J for a field that is only tried -/
def JC (M0 : im_M) (q : Nat → Int32) (B : Nat → Nat) (g n : Nat) (l : List OD) (N : im_M) : Prop := fr (2 ^ 85) [(71, 26), (71, 32)] M0 N ∧ im_i N 71 26 = nI (g + l.length) ∧ im_i N 71 32 = (if farL q l = true then 1 else 0) ∧ ∀ i, i < n → im_i N 85 i = nI (B i)
theorem s_isPlaced {M : im_M} {f n ct kd cc g : Nat} {st : Int} {B : Nat → Nat} {q : Nat → Int32} {nl bk : Nat → Bool} (h25 : im_i M 71 25 = nI f) (hf : f ≤ 120) (hn : n ≤ 200) (hB : ∀ i, i < n → B i < 256 ∧ im_i M 83 i = nI (B i)) (hq : ∀ j, j < 16 → qL M j = q j) (hq10 : q 10 = nI n) (hq8 : q 8 = nI ct) (hct : ct ≤ 1) (hq9 : q 9 = iZ st) (hst : -99 ≤ st ∧ st ≤ 99) (hq0 : q 0 = nI kd) (hkd : kd ≤ 8) (hcc : kd = 8 → q 1 = nI cc ∧ 1 ≤ cc ∧ cc ≤ 99) (hnb : ∀ p, p < n → (nl p = true ↔ B p = 10) ∧ (bk p = true ↔ B p = 32)) (h26 : im_i M 71 26 = nI g) (hg : g ≤ 120) (hlen : (odsM q kd n (cutS nl bk n cc 201 0)).length ≤ 300) (hk8 : ¬ kd = 8 → (odsM q kd n (cutS nl bk n cc 201 0)).length ≤ 20) : ed (f_MScriptRows_isPlaced (nI f) M) (fun r => fr (2 ^ 81 ||| 2 ^ 82 ||| 2 ^ 84 ||| 2 ^ 85) [(71, 26), (71, 32), (71, 33), (71, 34)] M r.2 ∧ ((r.1 = 1 ∧ okF q kd (odsM q kd n (cutS nl bk n cc 201 0))) ∨ (r.1 = 0 ∧ ¬ okF q kd (odsM q kd n (cutS nl bk n cc 201 0)))) ∧ im_i r.2 71 34 = nI (odsM q kd n (cutS nl bk n cc 201 0)).length ∧ im_i r.2 71 26 = nI g ∧ (∀ p, im_i r.2 82 p = if 16 * f ≤ p ∧ p < 16 * f + 16 then q (p - 16 * f) else im_i M 82 p) ∧ ∀ p, im_i r.2 84 p = if 200 * f ≤ p ∧ p < 200 * f + 200 then im_i M 83 (p - 200 * f) else im_i M 84 p) := by
  unfold f_MScriptRows_isPlaced
  apply bd1_mk
  refine ed_mono (s_layR h25 hf) ?_
  rintro M1 ⟨f1, e0, v82, v84⟩
  obtain ⟨M2, h2⟩ : ∃ N, N = im_setI (im_setI M1 71 32 0) 71 33 0 := ⟨_, rfl⟩
  have f2 : fr 0 [(71, 32), (71, 33)] M1 M2 := by rw [h2]; exact fr_F (by decide) (fr_F (by decide) fr_refl)
  have z32 : im_i M2 71 32 = 0 := by rw [h2]; rfl
  have z33 : im_i M2 71 33 = 0 := by rw [h2]; rfl
  rw [← h2]
  clear h2
  have g2 : fr (2 ^ 81 ||| 2 ^ 82 ||| 2 ^ 84) [(71, 32), (71, 33)] M M2 := fr_tr (fr_mono (by decide) (by decide) f2) (fr_mono (by decide) (by decide) f1)
  have a26 : im_i M2 71 26 = nI g := (g2.1 71 26 (by decide) (by decide)).trans h26
  have a82 : im_i M2 82 = im_i M1 82 := fr_c f2 82 (by decide) (by decide)
  have a84 : im_i M2 84 = im_i M1 84 := fr_c f2 84 (by decide) (by decide)
  have r82 : ∀ j, j < 16 → im_i M2 82 (16 * f + j) = q j := fun j hj => by
    rw [a82, v82, if_pos (by omega), Nat.add_sub_cancel_left]
    exact hq j hj
  have rB : TDt M2 f n B := fun i hi => ⟨(hB i hi).1, by rw [a84, v84, if_pos (by omega), Nat.add_sub_cancel_left]; exact (hB i hi).2⟩
  have mk := s_makeF (M := M2) (f := f) (n := n) (ct := ct) (c := 0) (kd := kd) (cc := cc) (st := st) (B := B) (q := q) (nl := nl) (bk := bk) (J := JC M2 q (cpB B n ct st 0) g n) hf hn rB r82 hq10 hq8 hct hq9 hst (by omega) hq0 hkd hcc (fun M3 f3 b3 => ⟨fr_mono (by decide) (by decide) f3, by rw [f3.1 71 26 (by decide) (by decide), a26]; rfl, by rw [f3.1 71 32 (by decide) (by decide), z32]; rfl, b3⟩) (fun l N h => ⟨fr_c h.1 82 (by decide) (by decide), fun _ p hp => by
      rw [h.2.2.2 p hp]
      have bb := (hB p hp).1
      have key : (cpB B n ct st 0 p = 10 ↔ B p = 10) ∧ (cpB B n ct st 0 p = 32 ↔ B p = 32) ∧ cpB B n ct st 0 p < 256 := by
        unfold cpB
        by_cases z : ct = 0
        · rw [if_pos z]
          exact ⟨Iff.rfl, Iff.rfl, bb⟩
        · rw [if_neg z]
          have := cnB_k (B := B) (n := n) (sc := st * ((0 : Nat) : Int)) hp
          exact ⟨this.1, this.2.1, this.2.2.2 bb⟩
      have t10 : (nI (cpB B n ct st 0 p) = 10) = (cpB B n ct st 0 p = 10) := nIe (c := 10) (by omega) (by omega)
      have t32 : (nI (cpB B n ct st 0 p) = 32) = (cpB B n ct st 0 p = 32) := nIe (c := 32) (by omega) (by omega)
      rw [t10, t32, key.1, key.2.1]
      exact ⟨(hnb p hp).1.symm, (hnb p hp).2.symm⟩⟩) (fun l o T N ho hJ => by
      have e33 : im_i N 71 33 = 0 := (hJ.1.1 71 33 (by decide) (by decide)).trans z33
      have n82 : im_i N 82 = im_i M2 82 := fr_c hJ.1 82 (by decide) (by decide)
      have w := wrI_is (N := N) (f := f) (q := q) (o := o) hJ.2.2.1 (by rw [n82]; exact r82 5 (by omega)) (by rw [n82]; exact r82 6 (by omega))
      refine ⟨_, _, s_give0 (by omega) e33, rfl, s_have0 e33, fr_F (by decide) (fr_F (by decide) hJ.1), ?_, ?_, hJ.2.2.2⟩
      · show im_i N 71 26 + 1 = _
        rw [hJ.2.1, List.length_append]
        exact nI_add _ 1
      · show wrI N f o.1.2.1 o.1.2.2.1 o.1.2.2.2 = _
        rw [w, farL_app])
  generalize hO : odsM q kd n (cutS nl bk n cc 201 0) = ods at *
  apply bd1_mk
  refine ed_mono mk ?_
  rintro R ⟨N, hN, eR⟩
  have hR : fr (2 ^ 85) [(71, 26), (71, 32)] M2 R ∧ im_i R 71 26 = nI (g + ods.length) ∧ (im_i R 71 32 = 0 ↔ (farL q ods = false ∧ (kd = 6 → farI (q 5 + q 1) = false ∧ farI (q 6 + q 2) = false))) := by
    by_cases c : 4 ≤ kd ∧ kd ≤ 6
    · rw [if_pos c] at eR
      rw [eR]
      refine ⟨fr_F (by decide) hN.1, hN.2.1, ?_⟩
      show lnFar q (im_i N 71 32) = 0 ↔ _
      unfold lnFar
      rw [hN.2.2.1, hq0]
      have k6 : (nI kd = 6) = (kd = 6) := nIe (c := 6) (by omega) (by omega)
      simp only [k6]
      cases farL q ods with
      | true => simp
      | false =>
        by_cases d : kd = 6
        · cases farI (q 5 + q 1) with
          | true => simp [d]
          | false =>
            cases farI (q 6 + q 2) with
            | true => simp [d]
            | false => simp [d]
        · simp [d]
    · rw [if_neg c] at eR
      rw [eR]
      refine ⟨hN.1, hN.2.1, ?_⟩
      rw [hN.2.2.1]
      cases farL q ods with
      | true => simp
      | false => simp; intro z; omega
  obtain ⟨fR, s26, s32⟩ := hR
  have g3 : fr (2 ^ 81 ||| 2 ^ 82 ||| 2 ^ 84 ||| 2 ^ 85) [(71, 26), (71, 32), (71, 33), (71, 34)] M R := fr_tr (fr_mono (by decide) (by decide) fR) (fr_mono (by decide) (by decide) g2)
  have r0 : im_i R 81 (Int32.toNatClampNeg 0) = nI kd := by
    show im_i R 81 0 = _
    rw [fR.1 81 0 (by decide) (by decide), f2.1 81 0 (by decide) (by decide), e0, ← hq0, ← hq 0 (by omega)]
    rfl
  have k8 : (nI kd = 8) = (kd = 8) := nIe (c := 8) (by omega) (by omega)
  have dif : nI (g + ods.length) - nI g = nI ods.length := by rw [nI_sb (by omega)]; congr 1; omega
  have l20 : (nI ods.length ≤ 20) = (ods.length ≤ 20) := nIl (c := 20) (by omega) (by omega)
  rw [gd_pos (by decide), r0, s26, a26, dif]
  simp only [k8, l20]
  have key : ∃ M4, (if ¬ kd = 8 then some R else if ods.length ≤ 20 then some R else some (im_setI R 71 32 1)) = some M4 ∧ fr 0 [(71, 32)] R M4 ∧ (im_i M4 71 32 = 0 ↔ okF q kd ods) := by
    by_cases c : kd = 8
    · rw [if_neg (fun z => z c)]
      by_cases d : ods.length ≤ 20
      · rw [if_pos d]
        refine ⟨R, rfl, fr_refl, s32.trans ?_⟩
        unfold okF
        rw [farL_iff]
        exact ⟨fun h => ⟨d, h⟩, fun h => h.2⟩
      · rw [if_neg d]
        refine ⟨_, rfl, fr_F (by decide) fr_refl, ?_⟩
        show (1 : Int32) = 0 ↔ _
        exact ⟨fun z => absurd z (by decide), fun z => absurd z.1 d⟩
    · rw [if_pos c]
      refine ⟨R, rfl, fr_refl, s32.trans ?_⟩
      unfold okF
      rw [farL_iff]
      exact ⟨fun h => ⟨hk8 c, h⟩, fun h => h.2⟩
  obtain ⟨M4, e4, f4, k4⟩ := key
  rw [e4, bd1_s]
  have b26 : im_i M4 71 26 = nI (g + ods.length) := (f4.1 71 26 (by decide) (by decide)).trans s26
  rw [b26, dif]
  have g4 : fr (2 ^ 81 ||| 2 ^ 82 ||| 2 ^ 84 ||| 2 ^ 85) [(71, 26), (71, 32), (71, 33), (71, 34)] M M4 := fr_tr (fr_mono (by decide) (by decide) f4) g3
  have fin82 : ∀ p, im_i M4 82 p = if 16 * f ≤ p ∧ p < 16 * f + 16 then q (p - 16 * f) else im_i M 82 p := fun p => by
    rw [f4.1 82 p (by decide) (by simp), fR.1 82 p (by decide) (by simp), a82, v82]
    by_cases c : 16 * f ≤ p ∧ p < 16 * f + 16
    · rw [if_pos c, if_pos c]
      exact hq _ (by omega)
    · rw [if_neg c, if_neg c]
  have fin84 : ∀ p, im_i M4 84 p = if 200 * f ≤ p ∧ p < 200 * f + 200 then im_i M 83 (p - 200 * f) else im_i M 84 p := fun p => by
    rw [f4.1 84 p (by decide) (by simp), fR.1 84 p (by decide) (by simp), a84, v84]
  have st32 : im_i (im_setI (im_setI M4 71 34 (nI ods.length)) 71 26 (nI g)) 71 32 = im_i M4 71 32 := rfl
  rw [st32]
  by_cases ok : okF q kd ods
  · rw [if_neg (fun z => z (k4.mpr ok))]
    exact ed_mk ⟨fr_F (by decide) (fr_F (by decide) g4), Or.inl ⟨rfl, ok⟩, rfl, rfl, fin82, fin84⟩
  · rw [if_pos (fun z => ok (k4.mp z))]
    exact ed_mk ⟨fr_F (by decide) (fr_F (by decide) g4), Or.inr ⟨rfl, ok⟩, rfl, rfl, fin82, fin84⟩
