/-! THE END OF A LABEL, BY THE REFERENCE -/
/-- finished orders, as the reference keeps them -/
def ROK (M : im_M) (A : List (FDt × OD × Nat)) : Prop := im_i M 71 37 = nI A.length ∧ ∀ k z, A[k]? = some z → ZV z ∧ (∀ u, u < 9 → im_i M 87 (9 * k + u) = zR z u) ∧ ∀ i, i < z.2.1.2.1.2 → im_i M 88 (200 * k + i) = nI (zB z i)
theorem ROK_fr {A : Nat} {F : List (Nat × Nat)} {M M' : im_M} {X : List (FDt × OD × Nat)} (h : fr A F M M') (c : clr A F [87, 88] [(71, 37)] [] = true) (q : ROK M X) : ROK M' X := by
  unfold ROK at q ⊢
  rw [clr_a c h (a := 87) (by decide), clr_a c h (a := 88) (by decide), clr_f c h (a := 71) (k := 37) (by decide)]
  exact q
theorem ROK_s {M R : im_M} {A : List (FDt × OD × Nat)} {z : FDt × OD × Nat} (h : ROK M A) (hz : ZV z) (h37 : im_i R 71 37 = nI (A.length + 1)) (h87 : ∀ p, p < 9 * A.length → im_i R 87 p = im_i M 87 p) (r87 : ∀ u, u < 9 → im_i R 87 (9 * A.length + u) = zR z u) (h88 : ∀ p, p < 200 * A.length → im_i R 88 p = im_i M 88 p) (r88 : ∀ i, i < z.2.1.2.1.2 → im_i R 88 (200 * A.length + i) = nI (zB z i)) : ROK R (A ++ [z]) := by
  refine ⟨by rw [h37, List.length_append]; rfl, fun k y hy => ?_⟩
  by_cases c : k < A.length
  · rw [List.getElem?_append_left c] at hy
    obtain ⟨hv, a, b⟩ := h.2 k y hy
    have sz := (od_in hv.1 hv.2.1).1
    refine ⟨hv, fun u hu => ?_, fun i hi => ?_⟩
    · rw [h87 _ (by omega)]
      exact a u hu
    · rw [h88 _ (by omega)]
      exact b i hi
  · rw [List.getElem?_append_right (by omega)] at hy
    by_cases e : k = A.length
    · subst e
      rw [Nat.sub_self] at hy
      have hy : some z = some y := hy
      cases hy
      exact ⟨hz, r87, r88⟩
    · rw [List.getElem?_eq_none (by show 1 ≤ k - A.length; omega)] at hy
      cases hy
/-- the fields that are told, as the reference keeps them -/
def TRA (M : im_M) (Fs : List FDt) : Prop := im_i M 71 25 = nI Fs.length ∧ ∀ f F, Fs[f]? = some F → FV F ∧ (∀ j, j < 16 → im_i M 82 (16 * f + j) = F.1 j) ∧ ∀ i, i < F.2.2.2.1 → im_i M 84 (200 * f + i) = nI (F.2.1 i)
theorem TRA_fr {A : Nat} {F : List (Nat × Nat)} {M M' : im_M} {Fs : List FDt} (h : fr A F M M') (c : clr A F [82, 84] [(71, 25)] [] = true) (q : TRA M Fs) : TRA M' Fs := by
  unfold TRA at q ⊢
  rw [clr_a c h (a := 82) (by decide), clr_a c h (a := 84) (by decide), clr_f c h (a := 71) (k := 25) (by decide)]
  exact q
theorem bd1_inv {A Y : Type} {x : Option A} {k : A → Option Y} {P : Y → Prop} (h : ed (bd1 x k) P) : ∃ a y, x = some a ∧ k a = some y ∧ P y := by
  obtain ⟨y, e, hy⟩ := h
  cases x with
  | none => cases e
  | some a => exact ⟨a, y, rfl, e, hy⟩
/-- a field kept -/
def JK (M0 : im_M) (A : List (FDt × OD × Nat)) (F : FDt) (c : Nat) (l : List OD) (N : im_M) : Prop := fr (2 ^ 85 ||| 2 ^ 87 ||| 2 ^ 88) [(71, 26), (71, 32), (71, 37)] M0 N ∧ ROK N (A ++ l.map (fun o => (F, o, c))) ∧ ∀ i, i < F.2.2.2.1 → im_i N 85 i = nI (cpB F.2.1 F.2.2.2.1 (fct F) (fsp F) c i)
theorem s_keepField {M : im_M} {A : List (FDt × OD × Nat)} {F : FDt} {f c : Nat} (hF : FV F) (hf : f ≤ 120) (h82 : ∀ j, j < 16 → im_i M 82 (16 * f + j) = F.1 j) (h84 : ∀ i, i < F.2.2.2.1 → im_i M 84 (200 * f + i) = nI (F.2.1 i)) (h33 : im_i M 71 33 = 1) (hA : ROK M A) (hl : A.length + (fO F).length ≤ 120) (hc : c ≤ 12) : ed (f_MScriptRows_makeField (nI f) (nI c) M) (fun R => fr (2 ^ 85 ||| 2 ^ 87 ||| 2 ^ 88) [(71, 26), (71, 32), (71, 37)] M R ∧ ROK R (A ++ (fO F).map (fun o => (F, o, c)))) := by
  have hF0 := hF
  obtain ⟨⟨k8, q0, q10, hn⟩, ⟨q8, hct, st1, st2, q7⟩, hB, ⟨cc, nl, bk, hcc, c1, hnb, eL⟩, hok, hw, htx, hdt⟩ := hF
  have eO : odsM F.1 F.2.2.1 F.2.2.2.1 (cutS nl bk F.2.2.2.1 cc 201 0) = fO F := by unfold fO; rw [eL]
  have mk := s_makeF (M := M) (f := f) (n := F.2.2.2.1) (ct := fct F) (c := c) (kd := F.2.2.1) (cc := cc) (st := fsp F) (B := F.2.1) (q := F.1) (nl := nl) (bk := bk) (J := JK M A F c) hf hn (fun i hi => ⟨hB i hi, h84 i hi⟩) h82 q10 q8 hct (Int32.ofInt_toInt _).symm ⟨st1, st2⟩ hc q0 k8 hcc (fun M1 f1 b1 => ⟨fr_mono (by decide) (by decide) f1, by
      show ROK M1 (A ++ [])
      rw [List.append_nil]
      exact ROK_fr f1 (by decide +kernel) hA, b1⟩) (fun l N h => ⟨fr_c h.1 82 (by decide) (by decide), fun _ p hp => by
      have zk := zC_k (z := (F, od2 F.1 0, c)) hF0 hp
      have e : im_i N 85 p = nI (zC (F, od2 F.1 0, c) p) := h.2.2 p hp
      rw [e]
      have t10 : (nI (zC (F, od2 F.1 0, c) p) = 10) = (zC (F, od2 F.1 0, c) p = 10) := nIe (c := 10) (by omega) (by omega)
      have t32 : (nI (zC (F, od2 F.1 0, c) p) = 32) = (zC (F, od2 F.1 0, c) p = 32) := nIe (c := 32) (by omega) (by omega)
      rw [t10, t32, zk.2.1, zk.2.2.1]
      exact ⟨(hnb p hp).1.symm, (hnb p hp).2.symm⟩⟩) (fun l o T N ho hJ => by
      rw [eO] at ho
      have hm : o ∈ fO F := by rw [ho]; simp
      have oi := od_in hF0 hm
      have lT : (fO F).length = l.length + 1 + T.length := by rw [ho]; simp; omega
      have n82 : im_i N 82 = im_i M 82 := fr_c hJ.1 82 (by decide) (by decide)
      have n33 : im_i N 71 33 = 1 := (hJ.1.1 71 33 (by decide) (by decide)).trans h33
      have al : (A ++ l.map (fun o => (F, o, c))).length = A.length + l.length := by rw [List.length_append, List.length_map]
      have n37 : im_i N 71 37 = nI (A.length + l.length) := by rw [hJ.2.1.1, al]
      have hx7 : o.1.1 = 7 → ∀ i, i < F.2.2.2.1 → ∃ h, h < 16 ∧ hvN (zC (F, o, c) i) = nI h := fun z i hi => (zC_k (z := (F, o, c)) hF0 hi).2.2.2.2 ((hdt.2.2 (oi.2.2 z).1).1 i hi)
      have ob : ∀ i, i < o.2.1.2 → odB N o.1.1 o.2.1.1 i = some (nI (zB (F, o, c) i)) := fun i hi => by
        unfold odB zB
        by_cases z : o.1.1 = 7
        · obtain ⟨z7, z0, zs⟩ := oi.2.2 z
          have h1 : 2 * i < F.2.2.2.1 := by omega
          have h2 : 2 * i + 1 < F.2.2.2.1 := by omega
          obtain ⟨a, ha, ea⟩ := hx7 z (2 * i) h1
          obtain ⟨b, hb, eb⟩ := hx7 z (2 * i + 1) h2
          have za := zC_k (z := (F, o, c)) hF0 h1
          have zb := zC_k (z := (F, o, c)) hF0 h2
          have y1 : im_i N 85 (2 * i) = nI (zC (F, o, c) (2 * i)) := hJ.2.2 _ h1
          have y2 : im_i N 85 (2 * i + 1) = nI (zC (F, o, c) (2 * i + 1)) := hJ.2.2 _ h2
          have x1 : f_MScriptRows_hex (nI (zC (F, o, c) (2 * i))) N = some (hvN (zC (F, o, c) (2 * i))) := hex_M ⟨_, za.1⟩
          have x2 : f_MScriptRows_hex (nI (zC (F, o, c) (2 * i + 1))) N = some (hvN (zC (F, o, c) (2 * i + 1))) := hex_M ⟨_, zb.1⟩
          rw [if_neg (fun y => y z), y1, y2, x1, bd1_s, x2, bd1_s, if_pos z, (hx_h ha ea).2, (hx_h hb eb).2, nI_m, nI_add]
        · rw [if_pos z, if_neg z]
          have := oi.2.1 z
          exact congrArg some (hJ.2.2 (o.2.1.1 + i) (by omega))
      have sz : o.2.1.1 + o.2.1.2 ≤ 200 := by
        by_cases z : o.1.1 = 7
        · obtain ⟨_, z0, zs⟩ := oi.2.2 z
          omega
        · have := oi.2.1 z
          omega
      obtain ⟨M2, R, e1, e2, hG⟩ := bd1_inv (s_gh1 (M := N) (f := f) (o := A.length + l.length) (a := o.2.1.1) (s := o.2.1.2) (k := o.1.1) (r := o.1.2.1) (i := o.1.2.2.1) (j := o.1.2.2.2) (p := o.2.2.1) (b := o.2.2.2.1) (c := o.2.2.2.2) (by omega) n33 n37 (by omega) sz (fun z => by have := (oi.2.2 z).2.2; omega) (fun i hi => ⟨_, ob i hi⟩))
      refine ⟨M2, R, e1, fr_c (f_MScriptRows_give_fr e1) 82 (by decide) (by decide), e2, fr_tr (fr_mono (by decide) (by decide) hG.1) hJ.1, ?_, fun i hi => ?_⟩
      · rw [List.map_append, ← List.append_assoc]
        have n5 : im_i N 82 (16 * f + 5) = F.1 5 := by rw [n82]; exact h82 5 (by omega)
        have n6 : im_i N 82 (16 * f + 6) = F.1 6 := by rw [n82]; exact h82 6 (by omega)
        have n7 : im_i N 82 (16 * f + 7) = F.1 7 := by rw [n82]; exact h82 7 (by omega)
        have g87 := hG.2.2.1
        rw [n5, n6, n7] at g87
        refine ROK_s (z := (F, o, c)) hJ.2.1 ⟨hF0, hm, hc⟩ (by rw [al]; exact hG.2.1) (fun p hp => ?_) (fun u hu => ?_) (fun p hp => ?_) (fun i hi => ?_)
        · rw [al] at hp
          rw [g87, if_neg (by omega)]
        · rw [al, g87, if_pos (by omega), Nat.add_sub_cancel_left]
          rfl
        · rw [al] at hp
          exact hG.2.2.2.2 p (by omega)
        · rw [al]
          have := hG.2.2.2.1 i hi
          rw [ob i hi] at this
          exact (Option.some.inj this).symm
      · rw [hG.1.1 85 i (by decide) (by simp)]
        exact hJ.2.2 i hi)
  rw [eO] at mk
  refine ed_mono mk ?_
  rintro R ⟨N, hN, eR⟩
  by_cases d : 4 ≤ F.2.2.1 ∧ F.2.2.1 ≤ 6
  · rw [if_pos d] at eR
    rw [eR]
    exact ⟨fr_F (by decide) hN.1, ROK_fr (A := 0) (F := [(71, 32)]) (fr_F (by decide) fr_refl) (by decide +kernel) hN.2.1⟩
  · rw [if_neg d] at eR
    rw [eR]
    exact ⟨hN.1, hN.2.1⟩
theorem s_copyM {M : im_M} {Fs : List FDt} {A : List (FDt × OD × Nat)} {c : Nat} {v6 : Int32} (hT : TRA M Fs) (hf : Fs.length ≤ 120) (h33 : im_i M 71 33 = 1) (hA : ROK M A) (hl : A.length + (drL 0 Fs).length ≤ 120) (hc : c ≤ 12) : ed (lp (uc2 (f_MScriptRows_endLabel_L90 v6 (nI c))) (0, M)) (fun R => fr (2 ^ 85 ||| 2 ^ 87 ||| 2 ^ 88) [(71, 26), (71, 32), (71, 37)] M R ∧ ROK R (A ++ cpL c Fs)) := by
  refine ed_mono (lp_inv (fun m (t : Int32 × im_M) => ∃ f : Nat, f + m = Fs.length ∧ t.1 = nI f ∧ fr (2 ^ 85 ||| 2 ^ 87 ||| 2 ^ 88) [(71, 26), (71, 32), (71, 37)] M t.2 ∧ ROK t.2 (A ++ cpL c (Fs.take f))) (Q := fun R => fr (2 ^ 85 ||| 2 ^ 87 ||| 2 ^ 88) [(71, 26), (71, 32), (71, 37)] M R ∧ ROK R (A ++ cpL c Fs)) ?_ (k := Fs.length) ⟨0, by omega, rfl, fr_refl, by rw [List.take_zero, show cpL c [] = [] from rfl, List.append_nil]; exact hA⟩) (fun R h => h)
  rintro m ⟨x8, M9⟩ ⟨f, hi, e1, g, h⟩
  replace e1 : x8 = nI f := e1
  replace g : fr (2 ^ 85 ||| 2 ^ 87 ||| 2 ^ 88) [(71, 26), (71, 32), (71, 37)] M M9 := g
  replace h : ROK M9 (A ++ cpL c (Fs.take f)) := h
  subst e1
  have hT9 : TRA M9 Fs := TRA_fr g (by decide +kernel) hT
  show ed (f_MScriptRows_endLabel_L90 v6 (nI c) (nI f) M9) _
  unfold f_MScriptRows_endLabel_L90
  rw [hT9.1, if_nIl (by omega) (by omega)]
  by_cases d : Fs.length ≤ f
  · rw [if_pos d]
    rw [List.take_of_length_le d] at h
    exact lpo_r ⟨g, h⟩
  · rw [if_neg d]
    obtain ⟨F, hF⟩ : ∃ F, Fs[f]? = some F := ⟨Fs[f]'(by omega), List.getElem?_eq_getElem (by omega)⟩
    obtain ⟨z1, z2, z3⟩ := hT9.2 f F hF
    have et : Fs.take (f + 1) = Fs.take f ++ [F] := by rw [List.take_succ, hF]; rfl
    have len : (A ++ cpL c (Fs.take f)).length + (fO F).length ≤ 120 := by
      have e1 : (cpL c (Fs.take (f + 1))).length = (cpL c (Fs.take f)).length + (fO F).length := by rw [et, cpL_app, List.length_append, List.length_map]
      have mono : ∀ (X Y : List FDt), (cpL c X).length ≤ (cpL c (X ++ Y)).length := by
        intro X
        induction X with
        | nil => intro Y; exact Nat.zero_le _
        | cons G X ih =>
          intro Y
          show ((fO G).map _ ++ cpL c X).length ≤ ((fO G).map _ ++ cpL c (X ++ Y)).length
          rw [List.length_append, List.length_append]
          have := ih Y
          omega
      have e2 := mono (Fs.take (f + 1)) (Fs.drop (f + 1))
      rw [List.take_append_drop, cpL_len (c := c) (s := 0) (Fs := Fs)] at e2
      rw [List.length_append]
      omega
    apply bd1_mk
    refine ed_mono (s_keepField (c := c) z1 (by omega) z2 z3 ((g.1 71 33 (by decide) (by decide)).trans h33) h len hc) ?_
    rintro R ⟨fR, hR⟩
    refine lpo_l (m - 1) (by omega) ⟨f + 1, by omega, nI_add f 1, fr_tr fR g, ?_⟩
    show ROK R (A ++ cpL c (Fs.take (f + 1)))
    rw [et, cpL_app, ← List.append_assoc]
    exact hR
def RLB (M : im_M) (LL : List (Nat × Nat × Nat × Nat)) : Prop := im_i M 71 35 = nI LL.length ∧ LBv (im_i M 86) LL
theorem s_endM {M : im_M} {Fs : List FDt} {A : List (FDt × OD × Nat)} {LL : List (Nat × Nat × Nat × Nat)} {W H C : Nat} (hT : TRA M Fs) (hf : Fs.length ≤ 120) (h26 : im_i M 71 26 = nI (drL 0 Fs).length) (hA : ROK M A) (hL : RLB M LL) (hw : im_i M 71 19 = nI W) (hh : im_i M 71 20 = nI H) (hc : im_i M 71 21 = nI C) (hl : LL.length + C ≤ 12) (ho : A.length + C * (drL 0 Fs).length ≤ 120) : ed (f_MScriptRows_endLabel M) (fun R => fr (2 ^ 85 ||| 2 ^ 86 ||| 2 ^ 87 ||| 2 ^ 88) [(71, 18), (71, 26), (71, 32), (71, 33), (71, 35), (71, 37)] M R ∧ im_i R 71 18 = 0 ∧ ROK R (A ++ cpsL Fs C) ∧ RLB R (LL ++ lbL W H A.length (drL 0 Fs).length C)) := by
  unfold f_MScriptRows_endLabel
  obtain ⟨M0, h0⟩ : ∃ N, N = im_setI (im_setI M 71 18 0) 71 33 1 := ⟨_, rfl⟩
  have f0 : fr 0 [(71, 18), (71, 33)] M M0 := by rw [h0]; exact fr_F (by decide) (fr_F (by decide) fr_refl)
  have z18 : im_i M0 71 18 = 0 := by rw [h0]; rfl
  have z33 : im_i M0 71 33 = 1 := by rw [h0]; rfl
  have z26 : im_i M0 71 26 = nI (drL 0 Fs).length := by rw [h0]; exact h26
  rw [← h0, z26]
  clear h0
  apply bd1_mk
  refine ed_mono (lp_inv (fun k (t : Int32 × im_M) => ∃ c : Nat, c + k = C ∧ t.1 = nI c ∧ fr (2 ^ 85 ||| 2 ^ 86 ||| 2 ^ 87 ||| 2 ^ 88) [(71, 26), (71, 32), (71, 35), (71, 37)] M0 t.2 ∧ ROK t.2 (A ++ cpsL Fs c) ∧ RLB t.2 (LL ++ lbL W H A.length (drL 0 Fs).length c)) (Q := fun R => fr (2 ^ 85 ||| 2 ^ 86 ||| 2 ^ 87 ||| 2 ^ 88) [(71, 26), (71, 32), (71, 35), (71, 37)] M0 R ∧ ROK R (A ++ cpsL Fs C) ∧ RLB R (LL ++ lbL W H A.length (drL 0 Fs).length C)) ?_ (k := C) ⟨0, by omega, rfl, fr_refl, by rw [show cpsL Fs 0 = [] from rfl, List.append_nil]; exact ROK_fr f0 (by decide +kernel) hA, by
    rw [show lbL W H A.length (drL 0 Fs).length 0 = [] from rfl, List.append_nil]
    unfold RLB
    rw [f0.1 71 35 (by decide) (by decide), fr_c f0 86 (by decide) (by decide)]
    exact hL⟩) (fun R h => ed_mk ⟨fr_tr (fr_mono (by decide) (by decide) h.1) (fr_mono (by decide) (by decide) f0), (h.1.1 71 18 (by decide) (by decide)).trans z18, h.2⟩)
  rintro k ⟨x3, M4⟩ ⟨c, hk, e1, f, hA3, hL3⟩
  replace e1 : x3 = nI c := e1
  replace f : fr (2 ^ 85 ||| 2 ^ 86 ||| 2 ^ 87 ||| 2 ^ 88) [(71, 26), (71, 32), (71, 35), (71, 37)] M0 M4 := f
  replace hA3 : ROK M4 (A ++ cpsL Fs c) := hA3
  replace hL3 : RLB M4 (LL ++ lbL W H A.length (drL 0 Fs).length c) := hL3
  subst e1
  have g : fr (2 ^ 85 ||| 2 ^ 86 ||| 2 ^ 87 ||| 2 ^ 88) [(71, 18), (71, 26), (71, 32), (71, 33), (71, 35), (71, 37)] M M4 := fr_tr (fr_mono (by decide) (by decide) f) (fr_mono (by decide) (by decide) f0)
  have a21 : im_i M4 71 21 = nI C := (g.1 71 21 (by decide) (by decide)).trans hc
  show ed (f_MScriptRows_endLabel_L17 (nI (drL 0 Fs).length) (nI c) M4) _
  unfold f_MScriptRows_endLabel_L17
  rw [a21, if_nIl (by omega) (by omega)]
  by_cases d : C ≤ c
  · rw [if_pos d]
    obtain rfl : c = C := by omega
    exact lpo_r ⟨f, hA3, hL3⟩
  · rw [if_neg d]
    have a19 : im_i M4 71 19 = nI W := (g.1 71 19 (by decide) (by decide)).trans hw
    have a20 : im_i M4 71 20 = nI H := (g.1 71 20 (by decide) (by decide)).trans hh
    have hT4 : TRA M4 Fs := TRA_fr g (by decide +kernel) hT
    have ll : (LL ++ lbL W H A.length (drL 0 Fs).length c).length = LL.length + c := by rw [List.length_append, lbL_len]
    have al : (A ++ cpsL Fs c).length = A.length + c * (drL 0 Fs).length := by rw [List.length_append, cpsL_len]
    have cm : A.length + c * (drL 0 Fs).length + (drL 0 Fs).length ≤ 120 := by
      have : (c + 1) * (drL 0 Fs).length ≤ C * (drL 0 Fs).length := Nat.mul_le_mul_right _ (by omega)
      rw [Nat.succ_mul] at this
      omega
    have a35 : im_i M4 71 35 = nI (LL.length + c) := by rw [hL3.1, ll]
    have a37 : im_i M4 71 37 = nI (A.length + c * (drL 0 Fs).length) := by rw [hA3.1, al]
    have s71 : ∀ (N : im_M) (t : Nat) (x : Int32) (j : Nat), im_i (im_setI N 86 t x) 71 j = im_i N 71 j := fun _ _ _ _ => rfl
    have q0 : (4 : Int32) * nI (LL.length + c) = nI (4 * (LL.length + c)) := nI_m 4
    have q1 : nI (4 * (LL.length + c)) + 1 = nI (4 * (LL.length + c) + 1) := nI_add _ 1
    have q2 : nI (4 * (LL.length + c)) + 2 = nI (4 * (LL.length + c) + 2) := nI_add _ 2
    have q3 : nI (4 * (LL.length + c)) + 3 = nI (4 * (LL.length + c) + 3) := nI_add _ 3
    have p0 : Int32.toNatClampNeg (nI (4 * (LL.length + c))) = 4 * (LL.length + c) := nI_clamp (by omega)
    have p1 : Int32.toNatClampNeg (nI (4 * (LL.length + c) + 1)) = 4 * (LL.length + c) + 1 := nI_clamp (by omega)
    have p2 : Int32.toNatClampNeg (nI (4 * (LL.length + c) + 2)) = 4 * (LL.length + c) + 2 := nI_clamp (by omega)
    have p3 : Int32.toNatClampNeg (nI (4 * (LL.length + c) + 3)) = 4 * (LL.length + c) + 3 := nI_clamp (by omega)
    have b0 : ∀ {Z : Type} (z : Option Z), gd (inb (nI (4 * (LL.length + c))) 48) z = z := fun z => gd_pos (by rw [inb_nI (by omega)]; omega)
    have b1 : ∀ {Z : Type} (z : Option Z), gd (inb (nI (4 * (LL.length + c) + 1)) 48) z = z := fun z => gd_pos (by rw [inb_nI (by omega)]; omega)
    have b2 : ∀ {Z : Type} (z : Option Z), gd (inb (nI (4 * (LL.length + c) + 2)) 48) z = z := fun z => gd_pos (by rw [inb_nI (by omega)]; omega)
    have b3 : ∀ {Z : Type} (z : Option Z), gd (inb (nI (4 * (LL.length + c) + 3)) 48) z = z := fun z => gd_pos (by rw [inb_nI (by omega)]; omega)
    simp only [s71, a35, a19, a20, a37, q0, q1, q2, q3, p0, p1, p2, p3, b0, b1, b2, b3]
    obtain ⟨M1, hM1⟩ : ∃ N, N = im_setI (im_setI (im_setI (im_setI M4 86 (4 * (LL.length + c)) (nI W)) 86 (4 * (LL.length + c) + 1) (nI H)) 86 (4 * (LL.length + c) + 2) (nI (A.length + c * (drL 0 Fs).length))) 86 (4 * (LL.length + c) + 3) (nI (drL 0 Fs).length) := ⟨_, rfl⟩
    have f1 : fr (2 ^ 86) [] M4 M1 := by rw [hM1]; exact fr_I (by decide) (fr_I (by decide) (fr_I (by decide) (fr_I (by decide) fr_refl)))
    have v16 : ∀ p, im_i M1 86 p = if p = 4 * (LL.length + c) + 3 then nI (drL 0 Fs).length else if p = 4 * (LL.length + c) + 2 then nI (A.length + c * (drL 0 Fs).length) else if p = 4 * (LL.length + c) + 1 then nI H else if p = 4 * (LL.length + c) then nI W else im_i M4 86 p := fun p => by rw [hM1]; rfl
    rw [← hM1]
    clear hM1
    have lb1 : LBv (im_i M1 86) (LL ++ lbL W H A.length (drL 0 Fs).length (c + 1)) := by
      show LBv (im_i M1 86) (LL ++ (lbL W H A.length (drL 0 Fs).length c ++ [(W, H, A.length + c * (drL 0 Fs).length, (drL 0 Fs).length)]))
      rw [← List.append_assoc]
      refine LBv_s hL3.2 (fun p hp => ?_) ?_
      · rw [ll] at hp
        rw [v16, if_neg (by omega), if_neg (by omega), if_neg (by omega), if_neg (by omega)]
      · rw [ll]
        refine ⟨?_, ?_, ?_, ?_⟩
        · rw [v16, if_neg (by omega), if_neg (by omega), if_neg (by omega), if_pos rfl]
        · rw [v16, if_neg (by omega), if_neg (by omega), if_pos rfl]
        · rw [v16, if_neg (by omega), if_pos rfl]
        · rw [v16, if_pos rfl]
    apply bd1_mk
    refine ed_mono (s_copyM (c := c) (TRA_fr f1 (by decide +kernel) hT4) hf ((f1.1 71 33 (by decide) (by decide)).trans ((f.1 71 33 (by decide) (by decide)).trans z33)) (ROK_fr f1 (by decide +kernel) hA3) (by rw [al]; omega) (by omega)) ?_
    rintro R ⟨fR, hR⟩
    refine lpo_l (k - 1) (by omega) ⟨c + 1, by omega, nI_add c 1, fr_F (by decide) (fr_tr (fr_mono (by decide) (by decide) fR) (fr_tr (fr_mono (by decide) (by decide) f1) f)), ?_, ?_, ?_⟩
    · show ROK (im_setI R 71 35 _) (A ++ (cpsL Fs c ++ cpL c Fs))
      rw [← List.append_assoc]
      exact ROK_fr (A := 0) (F := [(71, 35)]) (fr_F (by decide) fr_refl) (by decide +kernel) hR
    · show im_i R 71 35 + 1 = nI (LL ++ (lbL W H A.length (drL 0 Fs).length c ++ [_])).length
      rw [fR.1 71 35 (by decide) (by decide), f1.1 71 35 (by decide) (by decide), a35, ← List.append_assoc, List.length_append, ll]
      exact nI_add _ 1
    · show LBv (im_i R 86) _
      rw [fr_c fR 86 (by decide) (by decide)]
      exact lb1
