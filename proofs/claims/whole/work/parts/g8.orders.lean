/-! THE ORDERS OF A FIELD -/
/-- kind, quarter, steps; from, size; numbers -/
abbrev OD : Type := (Int32 × Int32 × Int32 × Int32) × (Nat × Nat) × (Int32 × Int32 × Int32)
def lnS (q : Nat → Int32) (s : Nat) : Int32 := if ¬ q 3 = 0 then (if ¬ q 3 = 1 then q 4 * ((q 1 - nI s) / 2) else q 4 * (q 1 - nI s)) else 0
def blkO (q : Nat → Int32) : Nat → List (Nat × Nat) → List OD
  | _, [] => []
  | l, x :: T => ((0, q 14, lnS q x.2, nI l * q 2), x, (q 11, q 12, q 13)) :: blkO q (l + 1) T
def odsM (q : Nat → Int32) (kd n : Nat) (L : List (Nat × Nat)) : List OD :=
  if kd = 0 then [((0, q 4, 0, 0), (0, n), (q 1, q 2, q 3))]
  else if kd = 1 then (((1, q 3, 0, 0), (0, n), (q 1, q 2, 0)) : OD) :: (if q 4 = 1 then [((0, q 3, 0, q 2 + 3), (0, n), (q 11, q 12, q 13))] else [])
  else if kd = 2 then [((2, q 3, 0, 0), (0, n), (q 1, q 2, 0))]
  else if kd = 3 then [((3, q 4, 0, 0), (0, n), (q 1, q 2, q 3))]
  else if kd = 7 then [((7, 0, 0, 0), (0, n / 2), (q 1, 0, 0))]
  else if kd = 8 then blkO q 0 L
  else [((nI kd, 0, 0, 0), (0, 0), (q 1, q 2, q 3))]
theorem blkO_at {q : Nat → Int32} : ∀ {L : List (Nat × Nat)} {m l : Nat} {x : Nat × Nat}, L[l]? = some x → ∃ T, blkO q m L = blkO q m (L.take l) ++ (((0, q 14, lnS q x.2, nI (m + l) * q 2), x, (q 11, q 12, q 13)) : OD) :: T ∧ blkO q m (L.take (l + 1)) = blkO q m (L.take l) ++ [(((0, q 14, lnS q x.2, nI (m + l) * q 2), x, (q 11, q 12, q 13)) : OD)] := by
  intro L
  induction L with
  | nil => intro m l x h; simp at h
  | cons y L ih =>
    intro m l x h
    cases l with
    | zero =>
      simp at h
      subst h
      exact ⟨blkO q (m + 1) L, rfl, rfl⟩
    | succ l =>
      simp at h
      obtain ⟨T, e1, e2⟩ := ih (m := m + 1) h
      rw [show m + 1 + l = m + (l + 1) by omega] at e1 e2
      refine ⟨T, ?_, ?_⟩
      · show _ :: blkO q (m + 1) L = (_ :: blkO q (m + 1) (L.take l)) ++ _
        rw [e1]
        rfl
      · show _ :: blkO q (m + 1) (L.take (l + 1)) = (_ :: blkO q (m + 1) (L.take l)) ++ _
        rw [e2]
        rfl
/-- one more order, by the reference -/
def RSt (f : Nat) (J : List OD → im_M → Prop) (ods : List OD) : Prop := ∀ l o T N, ods = l ++ o :: T → J l N → ∃ M2 R, f_MScriptRows_give (nI f) o.1.1 o.1.2.1 o.1.2.2.1 o.1.2.2.2 (nI o.2.1.1) (nI o.2.1.2) N = some M2 ∧ im_i M2 82 = im_i N 82 ∧ f_MScriptRows_have o.2.2.1 o.2.2.2.1 o.2.2.2.2 M2 = some R ∧ J (l ++ [o]) R
theorem s_giveLine {f l : Nat} {x : Nat × Nat} {q : Nat → Int32} {J : List OD → im_M → Prop} {ods p T : List OD} {N : im_M} (hf : 16 * f + 16 ≤ 2000) (hs : RSt f J ods) (ho : ods = p ++ (((0, q 14, lnS q x.2, nI l * q 2), x, (q 11, q 12, q 13)) : OD) :: T) (hq : ∀ j, j < 16 → im_i N 82 (16 * f + j) = q j) (hJ : J p N) : ed (f_MScriptRows_giveLine (nI f) (nI l) (nI x.1) (nI x.2) N) (J (p ++ [(((0, q 14, lnS q x.2, nI l * q 2), x, (q 11, q 12, q 13)) : OD)])) := by
  obtain ⟨M2, R, e1, e2, e3, h⟩ := hs p _ T N ho hJ
  have ej : ∀ j, (16 : Int32) * nI f + nI j = nI (16 * f + j) := fun j => by rw [nI_m, nI_add]
  have j1 : (16 : Int32) * nI f + 1 = nI (16 * f + 1) := ej 1
  have j2 : (16 : Int32) * nI f + 2 = nI (16 * f + 2) := ej 2
  have j3 : (16 : Int32) * nI f + 3 = nI (16 * f + 3) := ej 3
  have j4 : (16 : Int32) * nI f + 4 = nI (16 * f + 4) := ej 4
  have j11 : (16 : Int32) * nI f + 11 = nI (16 * f + 11) := ej 11
  have j12 : (16 : Int32) * nI f + 12 = nI (16 * f + 12) := ej 12
  have j13 : (16 : Int32) * nI f + 13 = nI (16 * f + 13) := ej 13
  have j14 : (16 : Int32) * nI f + 14 = nI (16 * f + 14) := ej 14
  have kc : ∀ j, j < 16 → Int32.toNatClampNeg (nI (16 * f + j)) = 16 * f + j := fun j hj => nI_clamp (by omega)
  have gg : ∀ {Z : Type} (z : Option Z) (j : Nat), j < 16 → gd (inb (nI (16 * f + j)) 2000) z = z := fun z j hj => gd_pos (by rw [inb_nI (by omega)]; omega)
  unfold f_MScriptRows_giveLine
  simp only [j1, j2, j3, j4, j11, j12, j13, j14, kc 1 (by omega), kc 2 (by omega), kc 3 (by omega), kc 4 (by omega), kc 11 (by omega), kc 12 (by omega), kc 13 (by omega), kc 14 (by omega), gg _ 1 (by omega), gg _ 2 (by omega), gg _ 3 (by omega), gg _ 4 (by omega), gg _ 11 (by omega), gg _ 12 (by omega), gg _ 13 (by omega), gg _ 14 (by omega), hq 1 (by omega), hq 2 (by omega), hq 3 (by omega), hq 4 (by omega), hq 14 (by omega)]
  have ss : (if ¬ q 3 = 0 then (if ¬ q 3 = 1 then some (q 4 * ((q 1 - nI x.2) / 2)) else some (q 4 * (q 1 - nI x.2))) else some (0 : Int32)) = some (lnS q x.2) := by
    unfold lnS
    repeat' split
    all_goals rfl
  rw [ss, bd1_s]
  replace e1 : f_MScriptRows_give (nI f) 0 (q 14) (lnS q x.2) (nI l * q 2) (nI x.1) (nI x.2) N = some M2 := e1
  replace e3 : f_MScriptRows_have (q 11) (q 12) (q 13) M2 = some R := e3
  rw [e1, bd1_s, e2, hq 11 (by omega), hq 12 (by omega), hq 13 (by omega), e3, bd1_s]
  exact ed_mk h
/-- what is said of a line that goes too far -/
def lnFar (q : Nat → Int32) (w : Int32) : Int32 := if ¬ w = 0 then 1 else if ¬ q 0 = 6 then 0 else if farI (q 5 + q 1) = true then 1 else if farI (q 6 + q 2) = true then 1 else 0
theorem s_makeF {M : im_M} {f n ct c kd cc : Nat} {st : Int} {B : Nat → Nat} {q : Nat → Int32} {nl bk : Nat → Bool} {J : List OD → im_M → Prop} (hf : f ≤ 120) (hn : n ≤ 200) (hB : TDt M f n B) (hq : ∀ j, j < 16 → im_i M 82 (16 * f + j) = q j) (hq10 : q 10 = nI n) (hq8 : q 8 = nI ct) (hct : ct ≤ 1) (hq9 : q 9 = iZ st) (hst : -99 ≤ st ∧ st ≤ 99) (hc : c ≤ 12) (hq0 : q 0 = nI kd) (hkd : kd ≤ 8) (hcc : kd = 8 → q 1 = nI cc ∧ 1 ≤ cc ∧ cc ≤ 99) (h1 : ∀ M1, fr (2 ^ 85) [] M M1 → (∀ i, i < n → im_i M1 85 i = nI (cpB B n ct st c i)) → J [] M1) (hJ : ∀ l N, J l N → im_i N 82 = im_i M 82 ∧ (kd = 8 → CPY N nl bk n)) (hs : RSt f J (odsM q kd n (cutS nl bk n cc 201 0))) : ed (f_MScriptRows_makeField (nI f) (nI c) M) (fun R => ∃ N, J (odsM q kd n (cutS nl bk n cc 201 0)) N ∧ R = if 4 ≤ kd ∧ kd ≤ 6 then im_setI N 71 32 (lnFar q (im_i N 71 32)) else N) := by
  have hf2 : 16 * f + 16 ≤ 2000 := by omega
  obtain ⟨M1, eM1, f1, b1⟩ := s_takeCopy (c := c) hf hn hB ((hq 10 (by omega)).trans hq10) ((hq 8 (by omega)).trans hq8) hct ((hq 9 (by omega)).trans hq9) hst hc
  have J0 := h1 M1 f1 b1
  have t82 : ∀ l N, J l N → ∀ j, j < 16 → im_i N 82 (16 * f + j) = q j := fun l N h j hj => by
    rw [(hJ l N h).1]
    exact hq j hj
  have ej : ∀ j, (16 : Int32) * nI f + nI j = nI (16 * f + j) := fun j => by rw [nI_m, nI_add]
  have j0 : (16 : Int32) * nI f = nI (16 * f + 0) := nI_m 16
  have j1 : nI (16 * f + 0) + 1 = nI (16 * f + 1) := nI_add _ 1
  have j2 : nI (16 * f + 0) + 2 = nI (16 * f + 2) := nI_add _ 2
  have j3 : nI (16 * f + 0) + 3 = nI (16 * f + 3) := nI_add _ 3
  have j4 : nI (16 * f + 0) + 4 = nI (16 * f + 4) := nI_add _ 4
  have j5 : nI (16 * f + 0) + 5 = nI (16 * f + 5) := nI_add _ 5
  have j6 : nI (16 * f + 0) + 6 = nI (16 * f + 6) := nI_add _ 6
  have j10 : nI (16 * f + 0) + 10 = nI (16 * f + 10) := nI_add _ 10
  have j11 : nI (16 * f + 0) + 11 = nI (16 * f + 11) := nI_add _ 11
  have j12 : nI (16 * f + 0) + 12 = nI (16 * f + 12) := nI_add _ 12
  have j13 : nI (16 * f + 0) + 13 = nI (16 * f + 13) := nI_add _ 13
  have kc : ∀ j, j < 16 → Int32.toNatClampNeg (nI (16 * f + j)) = 16 * f + j := fun j hj => nI_clamp (by omega)
  have gg : ∀ {Z : Type} (z : Option Z) (j : Nat), j < 16 → gd (inb (nI (16 * f + j)) 2000) z = z := fun z j hj => gd_pos (by rw [inb_nI (by omega)]; omega)
  unfold f_MScriptRows_makeField
  simp only [j0, j1, j2, j3, j4, j5, j6, j10, j11, j12, j13, kc 0 (by omega), kc 1 (by omega), kc 2 (by omega), kc 3 (by omega), kc 4 (by omega), kc 5 (by omega), kc 6 (by omega), kc 10 (by omega), kc 11 (by omega), kc 12 (by omega), kc 13 (by omega), gg _ 0 (by omega), gg _ 1 (by omega), gg _ 2 (by omega), gg _ 3 (by omega), gg _ 4 (by omega), gg _ 5 (by omega), gg _ 6 (by omega), gg _ 10 (by omega), gg _ 11 (by omega), gg _ 12 (by omega), gg _ 13 (by omega), eM1, bd1_s, hq 1 (by omega), hq 2 (by omega), hq 10 (by omega)]
  have q1 := t82 [] M1 J0
  simp only [q1 0 (by omega), q1 3 (by omega), q1 4 (by omega), hq0, hq10]
  have kk : ∀ z : Nat, z < 100 → (nI kd = nI z) = (kd = z) := fun z hz => nIe (by omega) (by omega)
  have k0 : (nI kd = 0) = (kd = 0) := kk 0 (by omega)
  have k1 : (nI kd = 1) = (kd = 1) := kk 1 (by omega)
  have k2 : (nI kd = 2) = (kd = 2) := kk 2 (by omega)
  have k3 : (nI kd = 3) = (kd = 3) := kk 3 (by omega)
  have k7 : (nI kd = 7) = (kd = 7) := kk 7 (by omega)
  have k8 : (nI kd = 8) = (kd = 8) := kk 8 (by omega)
  simp only [k0, k1, k2, k3, k7, k8]
  -- one order alone
  have one : ∀ o : OD, odsM q kd n (cutS nl bk n cc 201 0) = [o] → ∃ M2 R, f_MScriptRows_give (nI f) o.1.1 o.1.2.1 o.1.2.2.1 o.1.2.2.2 (nI o.2.1.1) (nI o.2.1.2) M1 = some M2 ∧ im_i M2 82 = im_i M1 82 ∧ f_MScriptRows_have o.2.2.1 o.2.2.2.1 o.2.2.2.2 M2 = some R ∧ J (odsM q kd n (cutS nl bk n cc 201 0)) R := fun o ho => by
    have := hs [] o [] M1 ho J0
    rw [ho]
    exact this
  by_cases d0 : kd = 0
  · have ho : odsM q kd n (cutS nl bk n cc 201 0) = [((0, q 4, 0, 0), (0, n), (q 1, q 2, q 3))] := by unfold odsM; rw [if_pos d0]
    obtain ⟨M2, R, e1, e2, e3, h⟩ := one _ ho
    replace e1 : f_MScriptRows_give (nI f) 0 (q 4) 0 0 0 (nI n) M1 = some M2 := e1
    replace e3 : f_MScriptRows_have (q 1) (q 2) (q 3) M2 = some R := e3
    rw [if_pos d0, e1, bd1_s, e2, q1 3 (by omega), e3, bd1_s]
    exact ed_mk ⟨R, h, by rw [if_neg (by omega)]⟩
  · rw [if_neg d0]
    by_cases d1 : kd = 1
    · rw [if_pos d1]
      have ho : odsM q kd n (cutS nl bk n cc 201 0) = (((1, q 3, 0, 0), (0, n), (q 1, q 2, 0)) : OD) :: (if q 4 = 1 then [((0, q 3, 0, q 2 + 3), (0, n), (q 11, q 12, q 13))] else []) := by unfold odsM; rw [if_neg d0, if_pos d1]
      obtain ⟨M2, R, e1, e2, e3, h⟩ := hs [] _ _ M1 ho J0
      replace e1 : f_MScriptRows_give (nI f) 1 (q 3) 0 0 0 (nI n) M1 = some M2 := e1
      replace e3 : f_MScriptRows_have (q 1) (q 2) 0 M2 = some R := e3
      have qR := t82 _ R h
      rw [e1, bd1_s, e3, bd1_s, qR 4 (by omega), qR 3 (by omega)]
      by_cases d4 : q 4 = 1
      · rw [if_neg (fun z => z d4)]
        rw [if_pos d4] at ho
        obtain ⟨M3, R2, u1, u2, u3, h2⟩ := hs [((1, q 3, 0, 0), (0, n), (q 1, q 2, 0))] ((0, q 3, 0, q 2 + 3), (0, n), (q 11, q 12, q 13)) [] R ho h
        replace u1 : f_MScriptRows_give (nI f) 0 (q 3) 0 (q 2 + 3) 0 (nI n) R = some M3 := u1
        replace u3 : f_MScriptRows_have (q 11) (q 12) (q 13) M3 = some R2 := u3
        rw [u1, bd1_s, u2, qR 11 (by omega), qR 12 (by omega), qR 13 (by omega), u3, bd1_s]
        refine ed_mk ⟨R2, ?_, by rw [if_neg (by omega)]⟩
        rw [ho]
        exact h2
      · rw [if_pos d4]
        rw [if_neg d4] at ho
        refine ed_mk ⟨R, ?_, by rw [if_neg (by omega)]⟩
        rw [ho]
        exact h
    · rw [if_neg d1]
      by_cases d2 : kd = 2
      · have ho : odsM q kd n (cutS nl bk n cc 201 0) = [((2, q 3, 0, 0), (0, n), (q 1, q 2, 0))] := by unfold odsM; rw [if_neg d0, if_neg d1, if_pos d2]
        obtain ⟨M2, R, e1, e2, e3, h⟩ := one _ ho
        replace e1 : f_MScriptRows_give (nI f) 2 (q 3) 0 0 0 (nI n) M1 = some M2 := e1
        replace e3 : f_MScriptRows_have (q 1) (q 2) 0 M2 = some R := e3
        rw [if_pos d2, e1, bd1_s, e3, bd1_s]
        exact ed_mk ⟨R, h, by rw [if_neg (by omega)]⟩
      · rw [if_neg d2]
        by_cases d3 : kd = 3
        · have ho : odsM q kd n (cutS nl bk n cc 201 0) = [((3, q 4, 0, 0), (0, n), (q 1, q 2, q 3))] := by unfold odsM; rw [if_neg d0, if_neg d1, if_neg d2, if_pos d3]
          obtain ⟨M2, R, e1, e2, e3, h⟩ := one _ ho
          replace e1 : f_MScriptRows_give (nI f) 3 (q 4) 0 0 0 (nI n) M1 = some M2 := e1
          replace e3 : f_MScriptRows_have (q 1) (q 2) (q 3) M2 = some R := e3
          rw [if_pos d3, e1, bd1_s, e2, q1 3 (by omega), e3, bd1_s]
          exact ed_mk ⟨R, h, by rw [if_neg (by omega)]⟩
        · rw [if_neg d3]
          by_cases d7 : kd = 7
          · have ho : odsM q kd n (cutS nl bk n cc 201 0) = [((7, 0, 0, 0), (0, n / 2), (q 1, 0, 0))] := by unfold odsM; rw [if_neg d0, if_neg d1, if_neg d2, if_neg d3, if_pos d7]
            obtain ⟨M2, R, e1, e2, e3, h⟩ := one _ ho
            replace e1 : f_MScriptRows_give (nI f) 7 0 0 0 0 (nI (n / 2)) M1 = some M2 := e1
            replace e3 : f_MScriptRows_have (q 1) 0 0 M2 = some R := e3
            have en : nI n / 2 = nI (n / 2) := by rw [show (2 : Int32) = nI 2 from rfl, nI_div (by omega) (by omega) (by omega)]
            rw [if_pos d7, en, e1, bd1_s, e3, bd1_s]
            exact ed_mk ⟨R, h, by rw [if_neg (by omega)]⟩
          · rw [if_neg d7]
            by_cases d8 : kd = 8
            · rw [if_pos d8]
              obtain ⟨c1, c2, c3⟩ := hcc d8
              have ho : odsM q kd n (cutS nl bk n cc 201 0) = blkO q 0 (cutS nl bk n cc 201 0) := by unfold odsM; rw [if_neg d0, if_neg d1, if_neg d2, if_neg d3, if_neg d7, if_pos d8]
              apply bd1_mk
              refine ed_mono (s_makeLines (nl := nl) (bk := bk) (n := n) (c := cc) (fun l N => J (blkO q 0 ((cutS nl bk n cc 201 0).take l)) N) hf2 ((q1 10 (by omega)).trans hq10) ((q1 1 (by omega)).trans c1) hn ⟨c2, c3⟩ (fun l N h => (hJ _ N h).2 d8) (fun l x N hx h => ?_) J0) ?_
              · obtain ⟨T, t1, t2⟩ := blkO_at (q := q) (m := 0) hx
                rw [Nat.zero_add] at t1 t2
                rw [ho] at hs
                refine ed_mono (s_giveLine hf2 hs t1 (t82 _ N h) h) (fun R hR => ?_)
                rw [t2]
                exact hR
              · intro R hR
                rw [List.take_length] at hR
                refine ed_mk ⟨R, ?_, by rw [if_neg (by omega)]⟩
                rw [ho]
                exact hR
            · rw [if_neg d8]
              have ho : odsM q kd n (cutS nl bk n cc 201 0) = [((nI kd, 0, 0, 0), (0, 0), (q 1, q 2, q 3))] := by unfold odsM; rw [if_neg d0, if_neg d1, if_neg d2, if_neg d3, if_neg d7, if_neg d8]
              obtain ⟨M2, R, e1, e2, e3, h⟩ := one _ ho
              replace e1 : f_MScriptRows_give (nI f) (nI kd) 0 0 0 0 0 M1 = some M2 := e1
              replace e3 : f_MScriptRows_have (q 1) (q 2) (q 3) M2 = some R := e3
              have qR := t82 _ R h
              rw [e1, bd1_s, e2, q1 3 (by omega), e3, bd1_s]
              have yy : (jn0 (fun (_ : Unit) => some (1 : Int32)) fun k18 => if ¬ (im_i R 71 32) = 0 then k18 () else jn0 (fun (_ : Unit) => some 0) fun k19 => if ¬ (im_i R 82 (16 * f + 0)) = 6 then k19 () else bd1 (f_MScriptRows_isFar ((im_i R 82 (16 * f + 5)) + q 1) R) fun (x20 : Int32) => if ¬ x20 = 0 then k18 () else bd1 (f_MScriptRows_isFar ((im_i R 82 (16 * f + 6)) + q 2) R) fun (x21 : Int32) => if x21 = 0 then k19 () else k18 ()) = some (lnFar q (im_i R 71 32)) ∧ (lnFar q (im_i R 71 32) = 0 ∨ lnFar q (im_i R 71 32) = 1) := by
                rw [qR 0 (by omega), qR 5 (by omega), qR 6 (by omega)]
                unfold lnFar
                simp only [jn0, s_isFar, bd1_s]
                by_cases a : im_i R 71 32 = 0
                · by_cases a6 : q 0 = 6
                  · by_cases b : farI (q 5 + q 1) = true
                    · simp [a, a6, b]
                    · by_cases g : farI (q 6 + q 2) = true
                      · simp [a, a6, b, g]
                      · simp [a, a6, b, g]
                  · simp [a, a6]
                · simp [a]
              rw [yy.1, bd1_s, gd_pos yy.2]
              exact ed_mk ⟨R, h, by rw [if_pos (by omega)]⟩
