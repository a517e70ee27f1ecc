/-! SOUNDNESS OF THE STEPS THAT READ ARRAYS OR WRITE -/
theorem im_H.set {D : va_G} {cl : List vw_C} {ty : Nat → Nat → FieldType} {cy : Nat → ClassId} {ad : Nat → Nat} {z : Nat} {M M' : im_M} {H H1 : Heap} (h : im_H D cl ty cy ad z M H) (hn : im_n M' = im_n M) (hx : im_x M' = im_x M) (hz : H1.size = H.size) (hP : va_P D cl (im_ws cl ty cy ad M') H1) (hB : im_B M → im_B M') : im_H D cl ty cy ad z M' H1 :=
  ⟨hP, by rw [hn]; exact h.2.1, by rw [hn, hz]; exact h.2.2.1, by rw [hn, hx, hz]; exact h.2.2.2.1, hB h.2.2.2.2⟩
theorem im_B_setI {M : im_M} {a k : Nat} {x : Int32} (h : (im_k M a).1 = 32 → fits .byte (.int x) = true) (hB : im_B M) : im_B (im_setI M a k x) := by
  intro b hb j
  have hb' : (im_k M b).1 = 32 := hb
  show fits .byte (.int (im_u2 (im_i M) a k x b j)) = true
  unfold im_u2
  by_cases h1 : b = a
  · rw [if_pos h1]
    by_cases h2 : j = k
    · rw [if_pos h2]
      exact h (h1 ▸ hb')
    · rw [if_neg h2]
      exact hB b hb' j
  · rw [if_neg h1]
    exact hB b hb' j
theorem im_fits_b (x : Int32) : fits .byte (.int (vp_nar .byte x)) = true := by
  rw [vp_nar_byte]
  exact pk_fb x
theorem im_vpin {i : Int32} {n : Nat} (h1 : 0 ≤ i.toInt) (h2 : i.toInt < n) : vp_in i n := vp_in_iff.mpr ⟨h1, h2⟩
theorem im_fvI {ty : Nat → Nat → FieldType} {ad : Nat → Nat} {M : im_M} {a c k : Nat} {x : Int32} (ht : ty c k = .int ∨ ty c k = .boolean) : im_fv ty ad (im_setI M a k x) a c k = .int x := by
  unfold im_fv
  rcases ht with ht | ht <;> rw [ht] <;> simp [im_setI, im_i, im_u2]
theorem im_fvL {ty : Nat → Nat → FieldType} {ad : Nat → Nat} {M : im_M} {a c k : Nat} {x : Int64} (ht : ty c k = .long) : im_fv ty ad (im_setL M a k x) a c k = .long x := by
  unfold im_fv
  rw [ht]
  simp [im_setL, im_l, im_u2]
theorem im_fvR {ty : Nat → Nat → FieldType} {ad : Nat → Nat} {M : im_M} {a c k : Nat} {x : Option Nat} (ht : (∃ q, ty c k = .object q) ∨ ∃ q, ty c k = .array q) : im_fv ty ad (im_setR M a k x) a c k = va_rf (x.map ad) := by
  unfold im_fv
  rcases ht with ⟨q, ht⟩ | ⟨q, ht⟩ <;> rw [ht] <;> simp [im_setR, im_r, im_u2]
section IMT
variable {p : Program} {l : Launch} {e : Env} {R : Room} {s : State} {m : MethodId} {args : Array Value} {below : List Frame} {meth : Method} {c : Code} {Q : State → Prop} {cc : ByteArray} {cells slots : Nat}
variable {D : va_G} {cl : List vw_C} {ty : Nat → Nat → FieldType} {cy : Nat → ClassId} {ad : Nat → Nat} {z : Nat} {H0 : Heap} {nL : Nat} {WS : List Cond} {nm : Nat → String} {ow : Nat} {ini : Bool}
variable {fT : Nat → Nat → Option (Nat × Nat)} {cT : Nat → Nat → Option Value}

theorem im_put (C : im_C p s m args meth c cc D cl cy nL WS (nm ow) ini) (HC : im_TC cl ty WS) (HF : im_TF cl WS nm fT) {k ci f pc a : Nat} {L : List (Nat × Value)} {r : List Value} {M M' : im_M} {v : Value} (hd : decode cc pc = .ok (.putfield k, 3)) (hf : fT ow k = some (ci, f)) (hfin : im_isF cl ci f = false ∨ (ini = true ∧ im_ownF cl ci f = nm ow)) (ha : a < im_n M) (hka : (im_k M a).1 = ci)
    (hnar : narrow (ty ci f) (im_v ad v) = im_v ad v) (hfit : fits (ty ci f) (im_v ad v) = true) (hfs : (im_fs cl ty ad M a ci).set f (im_v ad v) = im_fs cl ty ad M' a ci) (hne : ∀ i, i ≠ a → im_ent cl ty cy ad M' i = im_ent cl ty cy ad M i) (hn : im_n M' = im_n M) (hxx : im_x M' = im_x M) (hkk : im_k M' = im_k M) (hB : im_B M → im_B M')
    (g : im_Go p l e R s m args below meth c Q D cl ty cy ad z H0 nL cells slots (pc + 3, L, r, M')) : im_Go p l e R s m args below meth c Q D cl ty cy ad z H0 nL cells slots (pc, L, v :: .ref a :: r, M) := by
  obtain ⟨hx, hb, hts, hown, hK, hin, hml⟩ := C
  obtain ⟨h32, ⟨C, T, N⟩, hq, hk, hw⟩ := HF ow k ci f hf
  obtain ⟨hin1, hin2, hin3⟩ := HC ci _ hq
  intro ls H locs hl hH hS
  have he : (im_ws cl ty cy ad M)[a]? = some (ad a, .inr (ci, im_fs cl ty ad M a ci)) := by rw [im_ws_at ha, im_ent_o hka h32]
  have hset : (im_ws cl ty cy ad M).set a (ad a, .inr (ci, (im_fs cl ty ad M a ci).set f (im_v ad v))) = im_ws cl ty cy ad M' := by
    rw [hfs, ← im_ent_o (cl := cl) (ty := ty) (cy := cy) (ad := ad) (M := M') (i := a) (c := ci) (by rw [hkk]; exact hka) h32]
    exact im_ws_set hn hne
  have hap := va_apart (own := nm ow) hts hin1 (ty ci) hin2 hin3 hK hq
  obtain ⟨rr, h1, cell, q1, q2, q3, q4⟩ := hH.1 a _ he
  have hr : rr = (C, T, N) := Option.some.inj (h1.symm.trans hq)
  subst hr
  obtain ⟨hSl, hfc, kC, hkC, hkind⟩ := hK.1 ci _ hq
  obtain ⟨cf, kf, fi, fd, hi, hsl⟩ := hSl f hk
  have hlay := hts _ (hin1 _ (u_in_lay hk))
  unfold u_lay at hlay
  have hst := (u_facts hfc hkC (u_lays hts hin1 hk) hi).1
  have hlen : f < (im_fs cl ty ad M a ci).length := by rw [im_fs_len hq]; exact hk
  have hend : ∀ H' : Heap, H'[ad a]? = some (cell.setSlot fd.slot (im_v ad v)) → H'.size = H.size → (∀ q, q ≠ ad a → H'[q]? = H[q]?) → W p l e R s m args below meth c H' (locs ++ [⟨ad a, fd.slot⟩]) cells slots Q (F0 m (pc + 3) ls (r.map (im_v ad))) := by
    intro H' e1 e2 e3
    rw [hsl] at e1
    have hP1 := hH.1.set (im_D hH.2.1) he (e := .inr (ci, (im_fs cl ty ad M a ci).set f (im_v ad v))) ⟨_, hq, t_OB.to (V := updV (vp_V (im_fs cl ty ad M a ci)) f (im_v ad v)) ⟨_, e1, q2, q3, t_set q4 hap hk (im_v ad v)⟩ (fun j _ => vp_updV_set hlen (im_v ad v) j)⟩ e3
    rw [hset] at hP1
    exact g ls H' _ hl (hH.set hn hxx e2 hP1 hB) (hS.put e2 e3 ((im_D (cl := cl) (ty := ty) (cy := cy) hH.2.1).2 a _ he))
  by_cases hfl : (T f).2.2.2 = false
  · rw [if_neg (by rw [hfl]; decide)] at hlay
    have h6 := u_store hfc hkC hkind hlay hi (hin2 f hk) hnar hfit
    exact W.putK hx hb (f := fd) ⟨hown, hts _ hw, ⟨_, _, _, hi⟩, hst⟩ (by rw [q2]; exact h6) q1 q3 (by rw [hsl]; exact k2_hasslot (q4 f hk)) rfl rfl hd hend
  · have hfl' : (T f).2.2.2 = true := by simpa using hfl
    rw [if_pos hfl'] at hlay
    rcases hfin with hfin | ⟨hi1, hi2⟩
    · simp [im_isF, hq, hfl'] at hfin
    · have hcf : m.cls = cf := by
        obtain ⟨_, _, c', _, _, _, -, -, hf', -, -, -, hown2, -⟩ := Cond.laysFinal_spec hlay
        have e1 : c' = cf := by have := hi.symm.trans hf'; simp at this; exact this.1.symm
        have hdecl : (T f).1 = nm ow := by simpa [im_ownF, hq] using hi2
        rw [hdecl] at hown2
        rw [← e1]
        exact Option.some.inj (hown.symm.trans hown2)
      have h6 := u_fits hfc hkC hkind (Or.inr hlay) hi (hin2 f hk) hnar hfit
      exact W.putFinK hx hb hown (hts _ hw) hi hst hcf (hin hi1) (by rw [q2]; exact h6) q1 q3 (by rw [hsl]; exact k2_hasslot (q4 f hk)) rfl rfl hd hend
theorem im_s_putfield (C : im_C p s m args meth c cc D cl cy nL WS (nm ow) ini) (HC : im_TC cl ty WS) (HF : im_TF cl WS nm fT) {k : Nat} {F F' : im_F} (hd : decode cc F.1 = .ok (.putfield k, 3)) (h : (match fT ow k with | some (ci, f) => if im_isF cl ci f = false ∨ (ini = true ∧ im_ownF cl ci f = nm ow) then im_putf ty ci f F else none | none => none) = some F') (g : im_Go p l e R s m args below meth c Q D cl ty cy ad z H0 nL cells slots F') : im_Go p l e R s m args below meth c Q D cl ty cy ad z H0 nL cells slots F := by
  cases hf : fT ow k with
  | none => rw [hf] at h; cases h
  | some q =>
    obtain ⟨ci, f⟩ := q
    rw [hf] at h
    simp only at h
    split at h
    · rename_i hfin
      obtain ⟨pc, L, st, M⟩ := F
      cases st with
      | nil => cases h
      | cons v r =>
        cases r with
        | nil => simp [im_putf] at h
        | cons w r =>
          cases w with
          | ref a =>
            simp only [im_putf] at h
            split at h
            · rename_i hc
              split at h
              · rename_i x ht
                cases h
                exact im_put C HC HF hd hf hfin hc.1 hc.2 (by rw [ht]; rfl) (by rw [ht]; rfl) (im_fs_setL (im_fvL ht)) (fun i hi => im_ent_neL hi) rfl rfl rfl (fun q => q) g
              · rename_i x ht
                cases h
                exact im_put C HC HF hd hf hfin hc.1 hc.2 (by rw [ht]; rfl) (by rw [ht]; rfl) (im_fs_setR (x := some _) (im_fvR (Or.inl ⟨_, ht⟩))) (fun i hi => im_ent_neR hi) rfl rfl rfl (fun q => q) g
              · rename_i x ht
                cases h
                exact im_put C HC HF hd hf hfin hc.1 hc.2 (by rw [ht]; rfl) (by rw [ht]; rfl) (im_fs_setR (x := some _) (im_fvR (Or.inr ⟨_, ht⟩))) (fun i hi => im_ent_neR hi) rfl rfl rfl (fun q => q) g
              · rename_i x ht
                cases h
                exact im_put C HC HF hd hf hfin hc.1 hc.2 (by rw [ht]; rfl) (by rw [ht]; rfl) (im_fs_setI (im_fvI (Or.inl ht))) (fun i hi => im_ent_neI hi) rfl rfl rfl (im_B_setI (fun q => absurd q (by have := (HF ow k ci f hf).1; omega))) g
              · rename_i x ht
                split at h
                · rename_i hx01
                  cases h
                  exact im_put C HC HF hd hf hfin hc.1 hc.2 (by rw [ht]; rcases hx01 with rfl | rfl <;> rfl) (by rw [ht]; rcases hx01 with rfl | rfl <;> rfl) (im_fs_setI (im_fvI (Or.inr ht))) (fun i hi => im_ent_neI hi) rfl rfl rfl (im_B_setI (fun q => absurd q (by have := (HF ow k ci f hf).1; omega))) g
                · cases h
              · cases h
            · cases h
          | _ => first | cases h | (simp [im_putf] at h; done)
    · cases h
theorem im_s_iaload (C : im_C p s m args meth c cc D cl cy nL WS (nm ow) ini)  {F F' : im_F} (hd : decode cc F.1 = .ok (.iaload, 1)) (h : im_ald 33 F = some F') (g : im_Go p l e R s m args below meth c Q D cl ty cy ad z H0 nL cells slots F') : im_Go p l e R s m args below meth c Q D cl ty cy ad z H0 nL cells slots F := by
  obtain ⟨hx, hb, hts, hown, hK, hin, hml⟩ := C
  intro ls H locs hl hH hS
  obtain ⟨pc, L, st, M⟩ := F
  cases st with
  | nil => cases h
  | cons w0 r0 =>
    cases w0 with
    | int i =>
      cases r0 with
      | nil => first | cases h | simp at h | (split at h <;> cases h)
      | cons w1 r1 =>
        cases w1 with
        | ref a =>
          simp only [im_ald] at h
          split at h
          · rename_i hc
            cases h
            exact va_iald hx hb hK hH.1 a 1 (by rw [im_ws_at hc.1, im_ent_a hc.2.1 (by decide) (by decide)]) rfl (im_vpin hc.2.2.1 hc.2.2.2) hd (g ls H locs hl hH hS)
          · cases h
        | _ => first | cases h | (simp at h; done)
    | _ => first | cases h | (simp at h; done)
theorem im_s_saload (C : im_C p s m args meth c cc D cl cy nL WS (nm ow) ini)  {F F' : im_F} (hd : decode cc F.1 = .ok (.saload, 1)) (h : im_ald 35 F = some F') (g : im_Go p l e R s m args below meth c Q D cl ty cy ad z H0 nL cells slots F') : im_Go p l e R s m args below meth c Q D cl ty cy ad z H0 nL cells slots F := by
  obtain ⟨hx, hb, hts, hown, hK, hin, hml⟩ := C
  intro ls H locs hl hH hS
  obtain ⟨pc, L, st, M⟩ := F
  cases st with
  | nil => cases h
  | cons w0 r0 =>
    cases w0 with
    | int i =>
      cases r0 with
      | nil => first | cases h | simp at h | (split at h <;> cases h)
      | cons w1 r1 =>
        cases w1 with
        | ref a =>
          simp only [im_ald] at h
          split at h
          · rename_i hc
            cases h
            exact va_sald hx hb hK hH.1 a 3 (by rw [im_ws_at hc.1, im_ent_a hc.2.1 (by decide) (by decide)]) rfl (im_vpin hc.2.2.1 hc.2.2.2) hd (g ls H locs hl hH hS)
          · cases h
        | _ => first | cases h | (simp at h; done)
    | _ => first | cases h | (simp at h; done)
theorem im_s_laload (C : im_C p s m args meth c cc D cl cy nL WS (nm ow) ini)  {F F' : im_F} (hd : decode cc F.1 = .ok (.laload, 1)) (h : im_ald 34 F = some F') (g : im_Go p l e R s m args below meth c Q D cl ty cy ad z H0 nL cells slots F') : im_Go p l e R s m args below meth c Q D cl ty cy ad z H0 nL cells slots F := by
  obtain ⟨hx, hb, hts, hown, hK, hin, hml⟩ := C
  intro ls H locs hl hH hS
  obtain ⟨pc, L, st, M⟩ := F
  cases st with
  | nil => cases h
  | cons w0 r0 =>
    cases w0 with
    | int i =>
      cases r0 with
      | nil => first | cases h | simp at h | (split at h <;> cases h)
      | cons w1 r1 =>
        cases w1 with
        | ref a =>
          simp only [im_ald] at h
          split at h
          · rename_i hc
            cases h
            exact va_lald hx hb hK hH.1 a 2 (by rw [im_ws_at hc.1, im_ent_l hc.2.1]) rfl (im_vpin hc.2.2.1 hc.2.2.2) hd (g ls H locs hl hH hS)
          · cases h
        | _ => first | cases h | (simp at h; done)
    | _ => first | cases h | (simp at h; done)
theorem im_s_baload32 (C : im_C p s m args meth c cc D cl cy nL WS (nm ow) ini)  {F F' : im_F} (hd : decode cc F.1 = .ok (.baload, 1)) (h : im_ald 32 F = some F') (g : im_Go p l e R s m args below meth c Q D cl ty cy ad z H0 nL cells slots F') : im_Go p l e R s m args below meth c Q D cl ty cy ad z H0 nL cells slots F := by
  obtain ⟨hx, hb, hts, hown, hK, hin, hml⟩ := C
  intro ls H locs hl hH hS
  obtain ⟨pc, L, st, M⟩ := F
  cases st with
  | nil => cases h
  | cons w0 r0 =>
    cases w0 with
    | int i =>
      cases r0 with
      | nil => first | cases h | simp at h | (split at h <;> cases h)
      | cons w1 r1 =>
        cases w1 with
        | ref a =>
          simp only [im_ald] at h
          split at h
          · rename_i hc
            cases h
            exact va_bald hx hb hK hH.1 a 0 (by rw [im_ws_at hc.1, im_ent_a hc.2.1 (by decide) (by decide)]) rfl (im_vpin hc.2.2.1 hc.2.2.2) hd (g ls H locs hl hH hS)
          · cases h
        | _ => first | cases h | (simp at h; done)
    | _ => first | cases h | (simp at h; done)
theorem im_s_baload36 (C : im_C p s m args meth c cc D cl cy nL WS (nm ow) ini)  {F F' : im_F} (hd : decode cc F.1 = .ok (.baload, 1)) (h : im_ald 36 F = some F') (g : im_Go p l e R s m args below meth c Q D cl ty cy ad z H0 nL cells slots F') : im_Go p l e R s m args below meth c Q D cl ty cy ad z H0 nL cells slots F := by
  obtain ⟨hx, hb, hts, hown, hK, hin, hml⟩ := C
  intro ls H locs hl hH hS
  obtain ⟨pc, L, st, M⟩ := F
  cases st with
  | nil => cases h
  | cons w0 r0 =>
    cases w0 with
    | int i =>
      cases r0 with
      | nil => first | cases h | simp at h | (split at h <;> cases h)
      | cons w1 r1 =>
        cases w1 with
        | ref a =>
          simp only [im_ald] at h
          split at h
          · rename_i hc
            cases h
            exact va_zald hx hb hK hH.1 a 4 (by rw [im_ws_at hc.1, im_ent_a hc.2.1 (by decide) (by decide)]) rfl (im_vpin hc.2.2.1 hc.2.2.2) hd (g ls H locs hl hH hS)
          · cases h
        | _ => first | cases h | (simp at h; done)
    | _ => first | cases h | (simp at h; done)
theorem im_s_baload (C : im_C p s m args meth c cc D cl cy nL WS (nm ow) ini)  {F F' : im_F} (hd : decode cc F.1 = .ok (.baload, 1)) (h : (if im_ba F = some 36 then im_ald 36 F else im_ald 32 F) = some F') (g : im_Go p l e R s m args below meth c Q D cl ty cy ad z H0 nL cells slots F') : im_Go p l e R s m args below meth c Q D cl ty cy ad z H0 nL cells slots F := by
  split at h
  · exact im_s_baload36 C hd h g
  · exact im_s_baload32 C hd h g
theorem im_cellI {D : va_G} {cl : List vw_C} {ty : Nat → Nat → FieldType} {cy : Nat → ClassId} {ad : Nat → Nat} {z kd a k : Nat} {M : im_M} {H H1 : Heap} {y : Int32} (hH : im_H D cl ty cy ad z M H) (ha : a < im_n M) (hkd : (im_k M a).1 = kd) (h32 : ¬ kd < 32) (h34 : kd ≠ 34) (hy : kd = 32 → fits .byte (.int y) = true)
    (e1 : H1[ad a]? = some ((vp_cell (cy kd) ((im_k M a).2, .inl (im_i M a))).setSlot k (.int y))) (e2 : H1.size = H.size) (e3 : ∀ q, q ≠ ad a → H1[q]? = H[q]?) : im_H D cl ty cy ad z (im_setI M a k y) H1 := by
  have he : (im_ws cl ty cy ad M)[a]? = some (ad a, .inl (cy kd, (im_k M a).2, .inl (im_i M a))) := by rw [im_ws_at ha, im_ent_a hkd h32 h34]
  have hP1 := hH.1.set (im_D hH.2.1) he (e := .inl (cy kd, (im_k M a).2, .inl (im_i (im_setI M a k y) a))) (by
    show H1[ad a]? = some (vp_cell _ _)
    rw [e1, vp_cell_i, vp_cell_i, arrV_store]
    congr 2
    funext q
    by_cases hq : q = k
    · subst hq
      simp [updV, im_setI, im_i, im_u2]
    · simp [updV, im_setI, im_i, im_u2, hq]) e3
  refine hH.set rfl rfl e2 ?_ (im_B_setI (fun q => hy (hkd.symm.trans q)))
  have e4 : im_ent cl ty cy ad (im_setI M a k y) a = .inl (cy kd, (im_k M a).2, .inl (im_i (im_setI M a k y) a)) := im_ent_a hkd h32 h34
  rw [← e4, im_ws_set (M := M) (M' := im_setI M a k y) rfl (fun i hi => im_ent_neI hi)] at hP1
  exact hP1
theorem im_cellL {D : va_G} {cl : List vw_C} {ty : Nat → Nat → FieldType} {cy : Nat → ClassId} {ad : Nat → Nat} {z a k : Nat} {M : im_M} {H H1 : Heap} {y : Int64} (hH : im_H D cl ty cy ad z M H) (ha : a < im_n M) (hkd : (im_k M a).1 = 34)
    (e1 : H1[ad a]? = some ((vp_cell (cy 34) ((im_k M a).2, .inr (.inl (im_l M a)))).setSlot k (.long y))) (e2 : H1.size = H.size) (e3 : ∀ q, q ≠ ad a → H1[q]? = H[q]?) : im_H D cl ty cy ad z (im_setL M a k y) H1 := by
  have he : (im_ws cl ty cy ad M)[a]? = some (ad a, .inl (cy 34, (im_k M a).2, .inr (.inl (im_l M a)))) := by rw [im_ws_at ha, im_ent_l hkd]
  have hP1 := hH.1.set (im_D hH.2.1) he (e := .inl (cy 34, (im_k M a).2, .inr (.inl (im_l (im_setL M a k y) a)))) (by
    show H1[ad a]? = some (vp_cell _ _)
    rw [e1, vp_cell_l, vp_cell_l, arrV_store]
    congr 2
    funext q
    by_cases hq : q = k
    · subst hq
      simp [updV, im_setL, im_l, im_u2]
    · simp [updV, im_setL, im_l, im_u2, hq]) e3
  refine hH.set rfl rfl e2 ?_ (fun q => q)
  have e4 : im_ent cl ty cy ad (im_setL M a k y) a = .inl (cy 34, (im_k M a).2, .inr (.inl (im_l (im_setL M a k y) a))) := im_ent_l hkd
  rw [← e4, im_ws_set (M := M) (M' := im_setL M a k y) rfl (fun i hi => im_ent_neL hi)] at hP1
  exact hP1
theorem im_adz {D : va_G} {cl : List vw_C} {ty : Nat → Nat → FieldType} {cy : Nat → ClassId} {ad : Nat → Nat} {z a : Nat} {M : im_M} {H : Heap} (hH : im_H D cl ty cy ad z M H) (ha : a < im_n M) : z ≤ ad a := by
  have := hH.2.1 a ha
  omega
theorem im_s_iastore (C : im_C p s m args meth c cc D cl cy nL WS (nm ow) ini)  {F F' : im_F} (hd : decode cc F.1 = .ok (.iastore, 1)) (h : im_astI 33 .int F = some F') (g : im_Go p l e R s m args below meth c Q D cl ty cy ad z H0 nL cells slots F') : im_Go p l e R s m args below meth c Q D cl ty cy ad z H0 nL cells slots F := by
  obtain ⟨hx, hb, hts, hown, hK, hin, hml⟩ := C
  intro ls H locs hl hH hS
  obtain ⟨pc, L, st, M⟩ := F
  cases st with
  | nil => cases h
  | cons w0 r0 =>
    cases w0 with
    | int x =>
      cases r0 with
      | nil => first | cases h | simp at h | (split at h <;> cases h)
      | cons w1 r1 =>
        cases w1 with
        | int i =>
          cases r1 with
          | nil => first | cases h | simp at h | (split at h <;> cases h)
          | cons w2 r2 =>
            cases w2 with
            | ref a =>
              simp only [im_astI] at h
              split at h
              · rename_i hc
                cases h
                have he : (im_ws cl ty cy ad M)[a]? = some (ad a, .inl (cy 33, (im_k M a).2, .inl (im_i M a))) := by rw [im_ws_at hc.1, im_ent_a hc.2.1 (by decide) (by decide)]
                refine W.iast hx hb (hH.1 a _ he) ((hK.2 1 _ rfl).1 (im_k M a).2 (fun j => .int (im_i M a j))) (fun q => by cases q) (by show ¬ (i < 0 ∨ (arrV _ _ _).slots.size ≤ _); rw [arrV_size]; exact im_vpin hc.2.2.1 hc.2.2.2) rfl rfl hd fun H1 e1 e2 e3 => ?_
                exact g ls H1 _ hl (im_cellI hH hc.1 hc.2.1 (by decide) (by decide) (fun q => absurd q (by decide)) e1 e2 e3) (hS.put e2 e3 (im_adz hH hc.1))
              · cases h
            | _ => first | cases h | (simp at h; done)
        | _ => first | cases h | (simp at h; done)
    | _ => first | cases h | (simp at h; done)
theorem im_s_sastore (C : im_C p s m args meth c cc D cl cy nL WS (nm ow) ini)  {F F' : im_F} (hd : decode cc F.1 = .ok (.sastore, 1)) (h : im_astI 35 .short F = some F') (g : im_Go p l e R s m args below meth c Q D cl ty cy ad z H0 nL cells slots F') : im_Go p l e R s m args below meth c Q D cl ty cy ad z H0 nL cells slots F := by
  obtain ⟨hx, hb, hts, hown, hK, hin, hml⟩ := C
  intro ls H locs hl hH hS
  obtain ⟨pc, L, st, M⟩ := F
  cases st with
  | nil => cases h
  | cons w0 r0 =>
    cases w0 with
    | int x =>
      cases r0 with
      | nil => first | cases h | simp at h | (split at h <;> cases h)
      | cons w1 r1 =>
        cases w1 with
        | int i =>
          cases r1 with
          | nil => first | cases h | simp at h | (split at h <;> cases h)
          | cons w2 r2 =>
            cases w2 with
            | ref a =>
              simp only [im_astI] at h
              split at h
              · rename_i hc
                cases h
                have he : (im_ws cl ty cy ad M)[a]? = some (ad a, .inl (cy 35, (im_k M a).2, .inl (im_i M a))) := by rw [im_ws_at hc.1, im_ent_a hc.2.1 (by decide) (by decide)]
                refine W.sast hx hb (hH.1 a _ he) ((hK.2 3 _ rfl).1 (im_k M a).2 (fun j => .int (im_i M a j))) (fun q => by cases q) (by show ¬ (i < 0 ∨ (arrV _ _ _).slots.size ≤ _); rw [arrV_size]; exact im_vpin hc.2.2.1 hc.2.2.2) rfl rfl hd fun H1 e1 e2 e3 => ?_
                exact g ls H1 _ hl (im_cellI hH hc.1 hc.2.1 (by decide) (by decide) (fun q => absurd q (by decide)) e1 e2 e3) (hS.put e2 e3 (im_adz hH hc.1))
              · cases h
            | _ => first | cases h | (simp at h; done)
        | _ => first | cases h | (simp at h; done)
    | _ => first | cases h | (simp at h; done)
theorem im_s_bastore32 (C : im_C p s m args meth c cc D cl cy nL WS (nm ow) ini)  {F F' : im_F} (hd : decode cc F.1 = .ok (.bastore, 1)) (h : im_astI 32 .byte F = some F') (g : im_Go p l e R s m args below meth c Q D cl ty cy ad z H0 nL cells slots F') : im_Go p l e R s m args below meth c Q D cl ty cy ad z H0 nL cells slots F := by
  obtain ⟨hx, hb, hts, hown, hK, hin, hml⟩ := C
  intro ls H locs hl hH hS
  obtain ⟨pc, L, st, M⟩ := F
  cases st with
  | nil => cases h
  | cons w0 r0 =>
    cases w0 with
    | int x =>
      cases r0 with
      | nil => first | cases h | simp at h | (split at h <;> cases h)
      | cons w1 r1 =>
        cases w1 with
        | int i =>
          cases r1 with
          | nil => first | cases h | simp at h | (split at h <;> cases h)
          | cons w2 r2 =>
            cases w2 with
            | ref a =>
              simp only [im_astI] at h
              split at h
              · rename_i hc
                cases h
                have he : (im_ws cl ty cy ad M)[a]? = some (ad a, .inl (cy 32, (im_k M a).2, .inl (im_i M a))) := by rw [im_ws_at hc.1, im_ent_a hc.2.1 (by decide) (by decide)]
                refine W.bast hx hb (hH.1 a _ he) ((hK.2 0 _ rfl).1 (im_k M a).2 (fun j => .int (im_i M a j))) (fun q => by cases q) (by show ¬ (i < 0 ∨ (arrV _ _ _).slots.size ≤ _); rw [arrV_size]; exact im_vpin hc.2.2.1 hc.2.2.2) rfl rfl hd fun H1 e1 e2 e3 => ?_
                exact g ls H1 _ hl (im_cellI hH hc.1 hc.2.1 (by decide) (by decide) (fun _ => im_fits_b _) e1 e2 e3) (hS.put e2 e3 (im_adz hH hc.1))
              · cases h
            | _ => first | cases h | (simp at h; done)
        | _ => first | cases h | (simp at h; done)
    | _ => first | cases h | (simp at h; done)
theorem im_s_bastore36 (C : im_C p s m args meth c cc D cl cy nL WS (nm ow) ini)  {F F' : im_F} (hd : decode cc F.1 = .ok (.bastore, 1)) (h : im_astI 36 .boolean F = some F') (g : im_Go p l e R s m args below meth c Q D cl ty cy ad z H0 nL cells slots F') : im_Go p l e R s m args below meth c Q D cl ty cy ad z H0 nL cells slots F := by
  obtain ⟨hx, hb, hts, hown, hK, hin, hml⟩ := C
  intro ls H locs hl hH hS
  obtain ⟨pc, L, st, M⟩ := F
  cases st with
  | nil => cases h
  | cons w0 r0 =>
    cases w0 with
    | int x =>
      cases r0 with
      | nil => first | cases h | simp at h | (split at h <;> cases h)
      | cons w1 r1 =>
        cases w1 with
        | int i =>
          cases r1 with
          | nil => first | cases h | simp at h | (split at h <;> cases h)
          | cons w2 r2 =>
            cases w2 with
            | ref a =>
              simp only [im_astI] at h
              split at h
              · rename_i hc
                cases h
                have he : (im_ws cl ty cy ad M)[a]? = some (ad a, .inl (cy 36, (im_k M a).2, .inl (im_i M a))) := by rw [im_ws_at hc.1, im_ent_a hc.2.1 (by decide) (by decide)]
                refine W.zast hx hb (hH.1 a _ he) ((hK.2 4 _ rfl).1 (im_k M a).2 (fun j => .int (im_i M a j))) (fun q => by cases q) (by show ¬ (i < 0 ∨ (arrV _ _ _).slots.size ≤ _); rw [arrV_size]; exact im_vpin hc.2.2.1 hc.2.2.2) rfl rfl hd fun H1 e1 e2 e3 => ?_
                exact g ls H1 _ hl (im_cellI hH hc.1 hc.2.1 (by decide) (by decide) (fun q => absurd q (by decide)) e1 e2 e3) (hS.put e2 e3 (im_adz hH hc.1))
              · cases h
            | _ => first | cases h | (simp at h; done)
        | _ => first | cases h | (simp at h; done)
    | _ => first | cases h | (simp at h; done)
theorem im_s_bastore (C : im_C p s m args meth c cc D cl cy nL WS (nm ow) ini)  {F F' : im_F} (hd : decode cc F.1 = .ok (.bastore, 1)) (h : (if im_bb F = some 36 then im_astI 36 .boolean F else im_astI 32 .byte F) = some F') (g : im_Go p l e R s m args below meth c Q D cl ty cy ad z H0 nL cells slots F') : im_Go p l e R s m args below meth c Q D cl ty cy ad z H0 nL cells slots F := by
  split at h
  · exact im_s_bastore36 C hd h g
  · exact im_s_bastore32 C hd h g
theorem im_s_lastore (C : im_C p s m args meth c cc D cl cy nL WS (nm ow) ini)  {F F' : im_F} (hd : decode cc F.1 = .ok (.lastore, 1)) (h : im_astL F = some F') (g : im_Go p l e R s m args below meth c Q D cl ty cy ad z H0 nL cells slots F') : im_Go p l e R s m args below meth c Q D cl ty cy ad z H0 nL cells slots F := by
  obtain ⟨hx, hb, hts, hown, hK, hin, hml⟩ := C
  intro ls H locs hl hH hS
  obtain ⟨pc, L, st, M⟩ := F
  cases st with
  | nil => cases h
  | cons w0 r0 =>
    cases w0 with
    | long x =>
      cases r0 with
      | nil => first | cases h | simp at h | (split at h <;> cases h)
      | cons w1 r1 =>
        cases w1 with
        | int i =>
          cases r1 with
          | nil => first | cases h | simp at h | (split at h <;> cases h)
          | cons w2 r2 =>
            cases w2 with
            | ref a =>
              simp only [im_astL] at h
              split at h
              · rename_i hc
                cases h
                have he : (im_ws cl ty cy ad M)[a]? = some (ad a, .inl (cy 34, (im_k M a).2, .inr (.inl (im_l M a)))) := by rw [im_ws_at hc.1, im_ent_l hc.2.1]
                refine W.last hx hb (hH.1 a _ he) ((hK.2 2 _ rfl).1 (im_k M a).2 (fun j => .long (im_l M a j))) (fun q => by cases q) (by show ¬ (i < 0 ∨ (arrV _ _ _).slots.size ≤ _); rw [arrV_size]; exact im_vpin hc.2.2.1 hc.2.2.2) rfl rfl hd fun H1 e1 e2 e3 => ?_
                exact g ls H1 _ hl (im_cellL hH hc.1 hc.2.1 e1 e2 e3) (hS.put e2 e3 (im_adz hH hc.1))
              · cases h
            | _ => first | cases h | (simp at h; done)
        | _ => first | cases h | (simp at h; done)
    | _ => first | cases h | (simp at h; done)
theorem im_s_arraylength (C : im_C p s m args meth c cc D cl cy nL WS (nm ow) ini)  {F F' : im_F} (hd : decode cc F.1 = .ok (.arraylength, 1)) (h : im_alen F = some F') (g : im_Go p l e R s m args below meth c Q D cl ty cy ad z H0 nL cells slots F') : im_Go p l e R s m args below meth c Q D cl ty cy ad z H0 nL cells slots F := by
  obtain ⟨hx, hb, hts, hown, hK, hin, hml⟩ := C
  intro ls H locs hl hH hS
  obtain ⟨pc, L, st, M⟩ := F
  cases st with
  | nil => cases h
  | cons w0 r0 =>
    cases w0 with
    | ref a =>
      simp only [im_alen] at h
      split at h
      · rename_i hc
        cases h
        by_cases h4 : (im_k M a).1 = 34
        · have he : (im_ws cl ty cy ad M)[a]? = some (ad a, .inl (cy 34, (im_k M a).2, .inr (.inl (im_l M a)))) := by rw [im_ws_at hc.1, im_ent_l h4]
          exact va_alen hx hb hK hH.1 a 2 he rfl rfl hd (g ls H locs hl hH hS)
        · have he : (im_ws cl ty cy ad M)[a]? = some (ad a, .inl (cy (im_k M a).1, (im_k M a).2, .inl (im_i M a))) := by rw [im_ws_at hc.1, im_ent_a rfl (by omega) h4]
          rcases (show (im_k M a).1 = 32 ∨ (im_k M a).1 = 33 ∨ (im_k M a).1 = 35 ∨ (im_k M a).1 = 36 by omega) with e | e | e | e
          · rw [e] at he; exact va_alen hx hb hK hH.1 a 0 he rfl rfl hd (g ls H locs hl hH hS)
          · rw [e] at he; exact va_alen hx hb hK hH.1 a 1 he rfl rfl hd (g ls H locs hl hH hS)
          · rw [e] at he; exact va_alen hx hb hK hH.1 a 3 he rfl rfl hd (g ls H locs hl hH hS)
          · rw [e] at he; exact va_alen hx hb hK hH.1 a 4 he rfl rfl hd (g ls H locs hl hH hS)
      · cases h
    | _ => first | cases h | (simp at h; done)
/-- EVERY SIMPLE STEP of the pure machine is done by the machine -/
theorem im_step_ok (C : im_C p s m args meth c cc D cl cy nL WS (nm ow) ini) (HC : im_TC cl ty WS) (HF : im_TF cl WS nm fT) (HK : im_TK WS nm cT) {i : Instr} {len : Nat} {F F' : im_F} (hd : decode cc F.1 = .ok (i, len)) (h : im_step cl ty fT cT (nm ow) ow ini nL i len F = some F') (g : im_Go p l e R s m args below meth c Q D cl ty cy ad z H0 nL cells slots F') : im_Go p l e R s m args below meth c Q D cl ty cy ad z H0 nL cells slots F := by
  cases i with
  | iconst n =>
    obtain ⟨rfl, h⟩ := im_ok_some h
    exact im_s_iconst C hd h g
  | lconst n =>
    obtain ⟨rfl, h⟩ := im_ok_some h
    exact im_s_lconst C hd h g
  | bipush n =>
    obtain ⟨rfl, h⟩ := im_ok_some h
    exact im_s_bipush C hd h g
  | sipush n =>
    obtain ⟨rfl, h⟩ := im_ok_some h
    exact im_s_sipush C hd h g
  | iload_n k =>
    obtain ⟨rfl, h⟩ := im_ok_some h
    exact im_s_iload_n C hd h g
  | lload_n k =>
    obtain ⟨rfl, h⟩ := im_ok_some h
    exact im_s_lload_n C hd h g
  | aload_n k =>
    obtain ⟨rfl, h⟩ := im_ok_some h
    exact im_s_aload_n C hd h g
  | istore_n k =>
    obtain ⟨rfl, h⟩ := im_ok_some h
    exact im_s_istore_n C hd h g
  | lstore_n k =>
    obtain ⟨rfl, h⟩ := im_ok_some h
    exact im_s_lstore_n C hd h g
  | astore_n k =>
    obtain ⟨rfl, h⟩ := im_ok_some h
    exact im_s_astore_n C hd h g
  | iload k =>
    obtain ⟨rfl, h⟩ := im_ok_some h
    exact im_s_iload C hd h g
  | lload k =>
    obtain ⟨rfl, h⟩ := im_ok_some h
    exact im_s_lload C hd h g
  | aload k =>
    obtain ⟨rfl, h⟩ := im_ok_some h
    exact im_s_aload C hd h g
  | istore k =>
    obtain ⟨rfl, h⟩ := im_ok_some h
    exact im_s_istore C hd h g
  | lstore k =>
    obtain ⟨rfl, h⟩ := im_ok_some h
    exact im_s_lstore C hd h g
  | astore k =>
    obtain ⟨rfl, h⟩ := im_ok_some h
    exact im_s_astore C hd h g
  | iinc k n =>
    obtain ⟨rfl, h⟩ := im_ok_some h
    exact im_s_iinc C hd h g
  | iadd =>
    obtain ⟨rfl, h⟩ := im_ok_some h
    exact im_s_iadd C hd h g
  | isub =>
    obtain ⟨rfl, h⟩ := im_ok_some h
    exact im_s_isub C hd h g
  | imul =>
    obtain ⟨rfl, h⟩ := im_ok_some h
    exact im_s_imul C hd h g
  | iand =>
    obtain ⟨rfl, h⟩ := im_ok_some h
    exact im_s_iand C hd h g
  | ior =>
    obtain ⟨rfl, h⟩ := im_ok_some h
    exact im_s_ior C hd h g
  | ixor =>
    obtain ⟨rfl, h⟩ := im_ok_some h
    exact im_s_ixor C hd h g
  | ishl =>
    obtain ⟨rfl, h⟩ := im_ok_some h
    exact im_s_ishl C hd h g
  | ishr =>
    obtain ⟨rfl, h⟩ := im_ok_some h
    exact im_s_ishr C hd h g
  | iushr =>
    obtain ⟨rfl, h⟩ := im_ok_some h
    exact im_s_iushr C hd h g
  | idiv =>
    obtain ⟨rfl, h⟩ := im_ok_some h
    exact im_s_idiv C hd h g
  | irem =>
    obtain ⟨rfl, h⟩ := im_ok_some h
    exact im_s_irem C hd h g
  | ineg =>
    obtain ⟨rfl, h⟩ := im_ok_some h
    exact im_s_ineg C hd h g
  | i2b =>
    obtain ⟨rfl, h⟩ := im_ok_some h
    exact im_s_i2b C hd h g
  | i2s =>
    obtain ⟨rfl, h⟩ := im_ok_some h
    exact im_s_i2s C hd h g
  | i2c =>
    obtain ⟨rfl, h⟩ := im_ok_some h
    exact im_s_i2c C hd h g
  | i2l =>
    obtain ⟨rfl, h⟩ := im_ok_some h
    exact im_s_i2l C hd h g
  | l2i =>
    obtain ⟨rfl, h⟩ := im_ok_some h
    exact im_s_l2i C hd h g
  | ladd =>
    obtain ⟨rfl, h⟩ := im_ok_some h
    exact im_s_ladd C hd h g
  | lsub =>
    obtain ⟨rfl, h⟩ := im_ok_some h
    exact im_s_lsub C hd h g
  | lmul =>
    obtain ⟨rfl, h⟩ := im_ok_some h
    exact im_s_lmul C hd h g
  | land =>
    obtain ⟨rfl, h⟩ := im_ok_some h
    exact im_s_land C hd h g
  | lor =>
    obtain ⟨rfl, h⟩ := im_ok_some h
    exact im_s_lor C hd h g
  | lxor =>
    obtain ⟨rfl, h⟩ := im_ok_some h
    exact im_s_lxor C hd h g
  | ldiv =>
    obtain ⟨rfl, h⟩ := im_ok_some h
    exact im_s_ldiv C hd h g
  | lrem =>
    obtain ⟨rfl, h⟩ := im_ok_some h
    exact im_s_lrem C hd h g
  | lneg =>
    obtain ⟨rfl, h⟩ := im_ok_some h
    exact im_s_lneg C hd h g
  | lshl =>
    obtain ⟨rfl, h⟩ := im_ok_some h
    exact im_s_lshl C hd h g
  | lshr =>
    obtain ⟨rfl, h⟩ := im_ok_some h
    exact im_s_lshr C hd h g
  | lushr =>
    obtain ⟨rfl, h⟩ := im_ok_some h
    exact im_s_lushr C hd h g
  | lcmp =>
    obtain ⟨rfl, h⟩ := im_ok_some h
    exact im_s_lcmp C hd h g
  | dup =>
    obtain ⟨rfl, h⟩ := im_ok_some h
    exact im_s_dup C hd h g
  | dup2 =>
    obtain ⟨rfl, h⟩ := im_ok_some h
    exact im_s_dup2 C hd h g
  | pop =>
    obtain ⟨rfl, h⟩ := im_ok_some h
    exact im_s_pop C hd h g
  | baload =>
    obtain ⟨rfl, h⟩ := im_ok_some h
    exact im_s_baload C hd h g
  | iaload =>
    obtain ⟨rfl, h⟩ := im_ok_some h
    exact im_s_iaload C hd h g
  | laload =>
    obtain ⟨rfl, h⟩ := im_ok_some h
    exact im_s_laload C hd h g
  | saload =>
    obtain ⟨rfl, h⟩ := im_ok_some h
    exact im_s_saload C hd h g
  | bastore =>
    obtain ⟨rfl, h⟩ := im_ok_some h
    exact im_s_bastore C hd h g
  | iastore =>
    obtain ⟨rfl, h⟩ := im_ok_some h
    exact im_s_iastore C hd h g
  | sastore =>
    obtain ⟨rfl, h⟩ := im_ok_some h
    exact im_s_sastore C hd h g
  | lastore =>
    obtain ⟨rfl, h⟩ := im_ok_some h
    exact im_s_lastore C hd h g
  | arraylength =>
    obtain ⟨rfl, h⟩ := im_ok_some h
    exact im_s_arraylength C hd h g
  | goto off =>
    obtain ⟨rfl, h⟩ := im_ok_some h
    exact im_s_goto C hd h g
  | getfield k =>
    obtain ⟨rfl, h⟩ := im_ok_some h
    exact im_s_getfield C HC HF hd h g
  | putfield k =>
    obtain ⟨rfl, h⟩ := im_ok_some h
    exact im_s_putfield C HC HF hd h g
  | ldc k =>
    obtain ⟨rfl, h⟩ := im_ok_some h
    exact im_s_ldc C HK hd h g
  | ldc_w k =>
    obtain ⟨rfl, h⟩ := im_ok_some h
    exact im_s_ldc_w C HK hd h g
  | ldc2_w k =>
    obtain ⟨rfl, h⟩ := im_ok_some h
    exact im_s_ldc2_w C HK hd h g
  | ifCond cond off =>
    cases cond with
    | eq =>
      obtain ⟨rfl, h⟩ := im_ok_some h
      exact im_s_if_eq C hd h g
    | ne =>
      obtain ⟨rfl, h⟩ := im_ok_some h
      exact im_s_if_ne C hd h g
    | lt =>
      obtain ⟨rfl, h⟩ := im_ok_some h
      exact im_s_if_lt C hd h g
    | ge =>
      obtain ⟨rfl, h⟩ := im_ok_some h
      exact im_s_if_ge C hd h g
    | gt =>
      obtain ⟨rfl, h⟩ := im_ok_some h
      exact im_s_if_gt C hd h g
    | le =>
      obtain ⟨rfl, h⟩ := im_ok_some h
      exact im_s_if_le C hd h g
  | if_icmp cond off =>
    cases cond with
    | eq =>
      obtain ⟨rfl, h⟩ := im_ok_some h
      exact im_s_icmp_eq C hd h g
    | ne =>
      obtain ⟨rfl, h⟩ := im_ok_some h
      exact im_s_icmp_ne C hd h g
    | lt =>
      obtain ⟨rfl, h⟩ := im_ok_some h
      exact im_s_icmp_lt C hd h g
    | ge =>
      obtain ⟨rfl, h⟩ := im_ok_some h
      exact im_s_icmp_ge C hd h g
    | gt =>
      obtain ⟨rfl, h⟩ := im_ok_some h
      exact im_s_icmp_gt C hd h g
    | le =>
      obtain ⟨rfl, h⟩ := im_ok_some h
      exact im_s_icmp_le C hd h g
  | tableswitch dflt lo hi offs => exact im_s_tsw C hd h g
  | lookupswitch dflt ps => exact im_s_lsw C hd h g
  | _ => cases h
end IMT
