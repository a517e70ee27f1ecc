/-! THE END OF A LABEL, BY THE CLASS -/
/-- the orders of the draft: field, order, slot -/
def drL : Nat → List FDt → List (FDt × OD × Nat)
  | _, [] => []
  | s, F :: T => (fO F).map (fun o => (F, o, s)) ++ drL (s + (fO F).length) T
/-- the orders of a copy -/
def cpL (c : Nat) : List FDt → List (FDt × OD × Nat)
  | [] => []
  | F :: T => (fO F).map (fun o => (F, o, c)) ++ cpL c T
theorem drL_cp {c : Nat} : ∀ {Fs : List FDt} {s : Nat}, (drL s Fs).map (fun z => (z.1, z.2.1, c)) = cpL c Fs := by
  intro Fs
  induction Fs with
  | nil => intro s; rfl
  | cons F T ih =>
    intro s
    show ((fO F).map (fun o => (F, o, s)) ++ drL (s + (fO F).length) T).map (fun z => (z.1, z.2.1, c)) = (fO F).map (fun o => (F, o, c)) ++ cpL c T
    rw [List.map_append, ih, List.map_map]
    rfl
theorem cpL_len {c s : Nat} {Fs : List FDt} : (cpL c Fs).length = (drL s Fs).length := by rw [← drL_cp (s := s), List.length_map]
theorem cpL_app {c : Nat} {F : FDt} : ∀ {Fs : List FDt}, cpL c (Fs ++ [F]) = cpL c Fs ++ (fO F).map (fun o => (F, o, c)) := by
  intro Fs
  induction Fs with
  | nil => show (fO F).map _ ++ [] = [] ++ _; rw [List.append_nil, List.nil_append]
  | cons G T ih => show (fO G).map _ ++ cpL c (T ++ [F]) = (fO G).map _ ++ cpL c T ++ _; rw [ih, List.append_assoc]
theorem drL_app {F : FDt} : ∀ {Fs : List FDt} {s : Nat}, drL s (Fs ++ [F]) = drL s Fs ++ (fO F).map (fun o => (F, o, s + (drL s Fs).length)) := by
  intro Fs
  induction Fs with
  | nil => intro s; show (fO F).map _ ++ [] = [] ++ _; rw [List.append_nil, List.nil_append]; rfl
  | cons G T ih =>
    intro s
    show (fO G).map _ ++ drL (s + (fO G).length) (T ++ [F]) = ((fO G).map _ ++ drL (s + (fO G).length) T) ++ (fO F).map (fun o => (F, o, s + ((fO G).map (fun o => (G, o, s)) ++ drL (s + (fO G).length) T).length))
    rw [ih, List.append_assoc, List.length_append, List.length_map, Nat.add_assoc]
def cpsL (Fs : List FDt) : Nat → List (FDt × OD × Nat)
  | 0 => []
  | c + 1 => cpsL Fs c ++ cpL c Fs
def lbL (W H a m : Nat) : Nat → List (Nat × Nat × Nat × Nat)
  | 0 => []
  | c + 1 => lbL W H a m c ++ [(W, H, a + c * m, m)]
theorem cpsL_len {Fs : List FDt} : ∀ {c : Nat}, (cpsL Fs c).length = c * (drL 0 Fs).length := by
  intro c
  induction c with
  | zero => show (0 : Nat) = 0 * _; rw [Nat.zero_mul]
  | succ c ih => show (cpsL Fs c ++ cpL c Fs).length = _; rw [List.length_append, ih, cpL_len (s := 0), Nat.succ_mul]
theorem lbL_len {W H a m : Nat} : ∀ {c : Nat}, (lbL W H a m c).length = c := by
  intro c
  induction c with
  | zero => rfl
  | succ c ih => show (lbL W H a m c ++ [_]).length = c + 1; rw [List.length_append, ih]; rfl
/-- labels -/
def LBv (f : Nat → Int32) (LL : List (Nat × Nat × Nat × Nat)) : Prop := ∀ k x, LL[k]? = some x → f (4 * k) = nI x.1 ∧ f (4 * k + 1) = nI x.2.1 ∧ f (4 * k + 2) = nI x.2.2.1 ∧ f (4 * k + 3) = nI x.2.2.2
theorem LBv_s {f f' : Nat → Int32} {LL : List (Nat × Nat × Nat × Nat)} {x : Nat × Nat × Nat × Nat} (h : LBv f LL) (hp : ∀ p, p < 4 * LL.length → f' p = f p) (hx : f' (4 * LL.length) = nI x.1 ∧ f' (4 * LL.length + 1) = nI x.2.1 ∧ f' (4 * LL.length + 2) = nI x.2.2.1 ∧ f' (4 * LL.length + 3) = nI x.2.2.2) : LBv f' (LL ++ [x]) := by
  intro k y hy
  by_cases c : k < LL.length
  · rw [List.getElem?_append_left c] at hy
    rw [hp _ (by omega), hp _ (by omega), hp _ (by omega), hp _ (by omega)]
    exact h k y hy
  · rw [List.getElem?_append_right (by omega)] at hy
    by_cases e : k = LL.length
    · subst e
      rw [Nat.sub_self] at hy
      have hy : some x = some y := hy
      cases hy
      exact hx
    · rw [List.getElem?_eq_none (by show 1 ≤ k - LL.length; omega)] at hy
      cases hy
def CLB (M : im_M) (LL : List (Nat × Nat × Nat × Nat)) : Prop := im_i M 15 4 = nI LL.length ∧ LBv (im_i M 16) LL
/-- the class's draft -/
def DRA (M : im_M) (Fs : List FDt) : Prop := im_i M 19 3 = nI (drL 0 Fs).length ∧ ∀ k z, (drL 0 Fs)[k]? = some z → FV z.1 ∧ z.2.1 ∈ fO z.1 ∧ z.2.2 ≤ 120 ∧ (∀ u, u < 14 → im_i M 21 (14 * k + u) = rw1 z.1.1 z.2.2 (z.1.1 7) (z.1.1 8) (z.1.1 9) (nI z.1.2.2.2.1) z.2.1 u) ∧ CB (fun i => im_i M 22 (200 * z.2.2 + i)) z.1.2.1 z.1.2.2.2.1
theorem DRA_fr {A : Nat} {F : List (Nat × Nat)} {M M' : im_M} {Fs : List FDt} (h : fr A F M M') (c : clr A F [21, 22] [(19, 3)] [] = true) (q : DRA M Fs) : DRA M' Fs := by
  unfold DRA at q ⊢
  rw [clr_a c h (a := 21) (by decide), clr_a c h (a := 22) (by decide), clr_f c h (a := 19) (k := 3) (by decide)]
  exact q
theorem COK_fr {A : Nat} {F : List (Nat × Nat)} {M M' : im_M} {X : List (FDt × OD × Nat)} (h : fr A F M M') (c : clr A F [13, 14] [(11, 3)] [] = true) (q : COK M X) : COK M' X := by
  unfold COK at q ⊢
  rw [clr_a c h (a := 13) (by decide), clr_a c h (a := 14) (by decide), clr_f c h (a := 11) (k := 3) (by decide)]
  exact q
/-- the orders of one copy -/
theorem s_copyC {M : im_M} {Fs : List FDt} {A : List (FDt × OD × Nat)} {c : Nat} (hD : DRA M Fs) (hA : COK M A) (hl : A.length + (drL 0 Fs).length ≤ 120) (hc : c ≤ 12) : ed (lp (uc2 (f_HSetter_endLabel_L99 (nI c))) (0, M)) (fun R => fr (2 ^ 12 ||| 2 ^ 13 ||| 2 ^ 14) [(11, 3)] M R ∧ COK R (A ++ cpL c Fs)) := by
  have hm : (drL 0 Fs).length ≤ 120 := by omega
  refine ed_mono (lp_inv (fun m (t : Int32 × im_M) => ∃ i : Nat, i + m = (drL 0 Fs).length ∧ t.1 = nI i ∧ fr (2 ^ 12 ||| 2 ^ 13 ||| 2 ^ 14) [(11, 3)] M t.2 ∧ COK t.2 (A ++ ((drL 0 Fs).take i).map (fun z => (z.1, z.2.1, c)))) (Q := fun R => fr (2 ^ 12 ||| 2 ^ 13 ||| 2 ^ 14) [(11, 3)] M R ∧ COK R (A ++ (drL 0 Fs).map (fun z => (z.1, z.2.1, c)))) ?_ (k := (drL 0 Fs).length) ⟨0, by omega, rfl, fr_refl, by rw [List.take_zero, List.map_nil, List.append_nil]; exact hA⟩) (fun R h => by rw [← drL_cp (s := 0)]; exact h)
  rintro m ⟨x6, M7⟩ ⟨i, hi, e1, f, h⟩
  replace e1 : x6 = nI i := e1
  replace f : fr (2 ^ 12 ||| 2 ^ 13 ||| 2 ^ 14) [(11, 3)] M M7 := f
  replace h : COK M7 (A ++ ((drL 0 Fs).take i).map (fun z => (z.1, z.2.1, c))) := h
  subst e1
  have hD7 : DRA M7 Fs := DRA_fr f (by decide +kernel) hD
  show ed (f_HSetter_endLabel_L99 (nI c) (nI i) M7) _
  unfold f_HSetter_endLabel_L99
  rw [hD7.1, if_nIl (by omega) (by omega)]
  by_cases d : (drL 0 Fs).length ≤ i
  · rw [if_pos d]
    rw [List.take_of_length_le d] at h
    exact lpo_r ⟨f, h⟩
  · rw [if_neg d]
    obtain ⟨z, hz⟩ : ∃ z, (drL 0 Fs)[i]? = some z := ⟨(drL 0 Fs)[i]'(by omega), List.getElem?_eq_getElem (by omega)⟩
    obtain ⟨z1, z2, z3, z4, z5⟩ := hD7.2 i z hz
    have len : (A ++ ((drL 0 Fs).take i).map (fun z => (z.1, z.2.1, c))).length = A.length + i := by rw [List.length_append, List.length_map, List.length_take]; omega
    apply bd1_mk
    refine ed_mono (s_addCopy (c := c) h (by rw [len]; omega) (by omega) z1 z2 z3 hc z4 z5) ?_
    rintro R ⟨fR, hR⟩
    refine lpo_l (m - 1) (by omega) ⟨i + 1, by omega, nI_add i 1, fr_tr fR f, ?_⟩
    show COK R (A ++ ((drL 0 Fs).take (i + 1)).map (fun z => (z.1, z.2.1, c)))
    rw [List.take_succ, hz, List.map_append, ← List.append_assoc]
    exact hR
theorem s_endC {M : im_M} {Fs : List FDt} {A : List (FDt × OD × Nat)} {LL : List (Nat × Nat × Nat × Nat)} {W H C : Nat} (hD : DRA M Fs) (hA : COK M A) (hL : CLB M LL) (hw : im_i M 15 10 = nI W) (hh : im_i M 15 11 = nI H) (hc : im_i M 15 12 = nI C) (hl : LL.length + C ≤ 12) (ho : A.length + C * (drL 0 Fs).length ≤ 120) : ed (f_HSetter_endLabel M) (fun R => fr (2 ^ 12 ||| 2 ^ 13 ||| 2 ^ 14 ||| 2 ^ 16) [(11, 3), (15, 4), (15, 8)] M R ∧ im_i R 15 8 = 0 ∧ COK R (A ++ cpsL Fs C) ∧ CLB R (LL ++ lbL W H A.length (drL 0 Fs).length C)) := by
  unfold f_HSetter_endLabel
  apply bd1_mk
  have f0 : fr 0 [(15, 8)] M (im_setI M 15 8 0) := fr_F (by decide) fr_refl
  refine ed_mono (lp_inv (fun k (t : Int32 × im_M) => ∃ c : Nat, c + k = C ∧ t.1 = nI c ∧ fr (2 ^ 12 ||| 2 ^ 13 ||| 2 ^ 14 ||| 2 ^ 16) [(11, 3), (15, 4), (15, 8)] M t.2 ∧ im_i t.2 15 8 = 0 ∧ COK t.2 (A ++ cpsL Fs c) ∧ CLB t.2 (LL ++ lbL W H A.length (drL 0 Fs).length c)) (Q := fun R => fr (2 ^ 12 ||| 2 ^ 13 ||| 2 ^ 14 ||| 2 ^ 16) [(11, 3), (15, 4), (15, 8)] M R ∧ im_i R 15 8 = 0 ∧ COK R (A ++ cpsL Fs C) ∧ CLB R (LL ++ lbL W H A.length (drL 0 Fs).length C)) ?_ (k := C) ⟨0, by omega, rfl, fr_mono (by decide) (by decide) f0, rfl, by rw [show cpsL Fs 0 = [] from rfl, List.append_nil]; exact COK_fr f0 (by decide +kernel) hA, by rw [show lbL W H A.length (drL 0 Fs).length 0 = [] from rfl, List.append_nil]; exact hL⟩) (fun R h => ed_mk h)
  rintro k ⟨x2, M3⟩ ⟨c, hk, e1, f, h8, hA3, hL3⟩
  replace e1 : x2 = nI c := e1
  replace f : fr (2 ^ 12 ||| 2 ^ 13 ||| 2 ^ 14 ||| 2 ^ 16) [(11, 3), (15, 4), (15, 8)] M M3 := f
  replace h8 : im_i M3 15 8 = 0 := h8
  replace hA3 : COK M3 (A ++ cpsL Fs c) := hA3
  replace hL3 : CLB M3 (LL ++ lbL W H A.length (drL 0 Fs).length c) := hL3
  subst e1
  have a12 : im_i M3 15 12 = nI C := (f.1 15 12 (by decide) (by decide)).trans hc
  show ed (f_HSetter_endLabel_L7 (nI c) M3) _
  unfold f_HSetter_endLabel_L7
  rw [a12, if_nIl (by omega) (by omega)]
  by_cases d : C ≤ c
  · rw [if_pos d]
    obtain rfl : c = C := by omega
    exact lpo_r ⟨f, h8, hA3, hL3⟩
  · rw [if_neg d]
    have a10 : im_i M3 15 10 = nI W := (f.1 15 10 (by decide) (by decide)).trans hw
    have a11 : im_i M3 15 11 = nI H := (f.1 15 11 (by decide) (by decide)).trans hh
    have hD3 : DRA M3 Fs := DRA_fr f (by decide +kernel) hD
    have ll : (LL ++ lbL W H A.length (drL 0 Fs).length c).length = LL.length + c := by rw [List.length_append, lbL_len]
    have al : (A ++ cpsL Fs c).length = A.length + c * (drL 0 Fs).length := by rw [List.length_append, cpsL_len]
    have cm : A.length + c * (drL 0 Fs).length + (drL 0 Fs).length ≤ 120 := by
      have : (c + 1) * (drL 0 Fs).length ≤ C * (drL 0 Fs).length := Nat.mul_le_mul_right _ (by omega)
      rw [Nat.succ_mul] at this
      omega
    have a4 : im_i M3 15 4 = nI (LL.length + c) := by rw [hL3.1, ll]
    have a3 : im_i M3 11 3 = nI (A.length + c * (drL 0 Fs).length) := by rw [hA3.1, al]
    have a19 := hD3.1
    have s15 : ∀ (N : im_M) (t : Nat) (x : Int32) (j : Nat), im_i (im_setI N 16 t x) 15 j = im_i N 15 j := fun _ _ _ _ => rfl
    have s11 : ∀ (N : im_M) (t : Nat) (x : Int32) (j : Nat), im_i (im_setI N 16 t x) 11 j = im_i N 11 j := fun _ _ _ _ => rfl
    have s19 : ∀ (N : im_M) (t : Nat) (x : Int32) (j : Nat), im_i (im_setI N 16 t x) 19 j = im_i N 19 j := fun _ _ _ _ => rfl
    have q0 : (4 : Int32) * nI (LL.length + c) = nI (4 * (LL.length + c)) := nI_m 4
    have q1 : nI (4 * (LL.length + c)) + 1 = nI (4 * (LL.length + c) + 1) := nI_add _ 1
    have q2 : nI (4 * (LL.length + c)) + 2 = nI (4 * (LL.length + c) + 2) := nI_add _ 2
    have q3 : nI (4 * (LL.length + c)) + 3 = nI (4 * (LL.length + c) + 3) := nI_add _ 3
    have p0 : Int32.toNatClampNeg (nI (4 * (LL.length + c))) = 4 * (LL.length + c) := nI_clamp (by omega)
    have p1 : Int32.toNatClampNeg (nI (4 * (LL.length + c) + 1)) = 4 * (LL.length + c) + 1 := nI_clamp (by omega)
    have p2 : Int32.toNatClampNeg (nI (4 * (LL.length + c) + 2)) = 4 * (LL.length + c) + 2 := nI_clamp (by omega)
    have p3 : Int32.toNatClampNeg (nI (4 * (LL.length + c) + 3)) = 4 * (LL.length + c) + 3 := nI_clamp (by omega)
    have b0 : ∀ {Z : Type} (z : Option Z), gd (inb (nI (4 * (LL.length + c))) 48) z = z := fun z => gd_pos (by rw [inb_nI (by omega)]; omega)
    have b1 : ∀ {Z : Type} (z : Option Z), gd (inb (nI (4 * (LL.length + c) + 1)) 48) z = z := fun z => gd_pos (by rw [inb_nI (by omega)]; omega)
    have b2 : ∀ {Z : Type} (z : Option Z), gd (inb (nI (4 * (LL.length + c) + 2)) 48) z = z := fun z => gd_pos (by rw [inb_nI (by omega)]; omega)
    have b3 : ∀ {Z : Type} (z : Option Z), gd (inb (nI (4 * (LL.length + c) + 3)) 48) z = z := fun z => gd_pos (by rw [inb_nI (by omega)]; omega)
    simp only [s15, s11, s19, a4, a10, a11, a3, a19, q0, q1, q2, q3, p0, p1, p2, p3, b0, b1, b2, b3]
    obtain ⟨M1, hM1⟩ : ∃ N, N = im_setI (im_setI (im_setI (im_setI (im_setI M3 16 (4 * (LL.length + c)) (nI W)) 16 (4 * (LL.length + c) + 1) (nI H)) 16 (4 * (LL.length + c) + 2) (nI (A.length + c * (drL 0 Fs).length))) 16 (4 * (LL.length + c) + 3) (nI (drL 0 Fs).length)) 15 4 (nI (LL.length + c) + 1) := ⟨_, rfl⟩
    have f1 : fr (2 ^ 16) [(15, 4)] M3 M1 := by rw [hM1]; exact fr_F (by decide) (fr_I (by decide) (fr_I (by decide) (fr_I (by decide) (fr_I (by decide) fr_refl))))
    have v16 : ∀ p, im_i M1 16 p = if p = 4 * (LL.length + c) + 3 then nI (drL 0 Fs).length else if p = 4 * (LL.length + c) + 2 then nI (A.length + c * (drL 0 Fs).length) else if p = 4 * (LL.length + c) + 1 then nI H else if p = 4 * (LL.length + c) then nI W else im_i M3 16 p := fun p => by rw [hM1]; rfl
    have v4 : im_i M1 15 4 = nI (LL.length + c + 1) := by rw [hM1]; exact nI_add _ 1
    rw [← hM1]
    clear hM1
    have lb1 : CLB M1 (LL ++ lbL W H A.length (drL 0 Fs).length (c + 1)) := by
      show CLB M1 (LL ++ (lbL W H A.length (drL 0 Fs).length c ++ [(W, H, A.length + c * (drL 0 Fs).length, (drL 0 Fs).length)]))
      rw [← List.append_assoc]
      refine ⟨by rw [v4, List.length_append, ll]; rfl, LBv_s hL3.2 (fun p hp => ?_) ?_⟩
      · rw [ll] at hp
        rw [v16, if_neg (by omega), if_neg (by omega), if_neg (by omega), if_neg (by omega)]
      · rw [ll]
        refine ⟨?_, ?_, ?_, ?_⟩
        · rw [v16, if_neg (by omega), if_neg (by omega), if_neg (by omega), if_pos rfl]
        · rw [v16, if_neg (by omega), if_neg (by omega), if_pos rfl]
        · rw [v16, if_neg (by omega), if_pos rfl]
        · rw [v16, if_pos rfl]
    apply bd1_mk
    refine ed_mono (s_copyC (c := c) (DRA_fr f1 (by decide +kernel) hD3) (COK_fr f1 (by decide +kernel) hA3) (by rw [al]; omega) (by omega)) ?_
    rintro R ⟨fR, hR⟩
    refine lpo_l (k - 1) (by omega) ⟨c + 1, by omega, nI_add c 1, fr_tr (fr_mono (by decide) (by decide) fR) (fr_tr (fr_mono (by decide) (by decide) f1) f), ?_, ?_, ?_⟩
    · show im_i R 15 8 = 0
      rw [fR.1 15 8 (by decide) (by decide), f1.1 15 8 (by decide) (by decide)]
      exact h8
    · show COK R (A ++ (cpsL Fs c ++ cpL c Fs))
      rw [← List.append_assoc]
      exact hR
    · show CLB R _
      unfold CLB at lb1 ⊢
      rw [fR.1 15 4 (by decide) (by decide), fr_c fR 16 (by decide) (by decide)]
      exact lb1
