/-! THE INDUCTION OVER THE RUN -/
section IMU
variable {p : Program} {l : Launch} {e : Env} {R : Room} {s : State} {m : MethodId} {args : Array Value} {below : List Frame} {meth : Method} {c : Code} {Q : State → Prop} {cells slots : Nat}
variable {G : im_G} {D : va_G} {cy : Nat → ClassId} {ad : Nat → Nat} {z : Nat}
theorem im_call_ok {dep k kd : Nat} {i : Instr} {d d' : im_J} {F : im_F} {vs rest : List Value} {v : Option Value} {M' : im_M} (HG : im_OK G) (C : im_C p s m args meth c d.2.1 D (ig_cl G) cy d.2.2.1 (ig_WS G) (ig_nm G d.2.2.2.2.2.2) (decide (2 ≤ d.2.2.2.2.2.1))) (HX : im_XX G ad z s s.heap) (HY : im_Y G s) (hz : z ≤ s.heap.size) (hRf : dep + 1 ≤ R.frames) (hRl : (dep + 1) * 64 ≤ R.locals)
    (hd : decode d.2.1 F.1 = .ok (i, 3)) (hi : im_iscall G d i = some (k, kd)) (hp : im_prep G d.2.2.2.2.2.2 k kd F = some (d', vs, rest)) (hSafe : im_Safe G l D cy ad z dep d' (0, lv_args 0 vs, [], F.2.2.2) v M') (hcells : cells + (im_n M' - im_n F.2.2.2) ≤ R.cells) (hslots : slots + (im_tt G M' - im_tt G F.2.2.2) ≤ R.slots)
    (g : im_Go p l e R s m args below meth c Q D (ig_cl G) (ig_ty G) cy ad z s.heap d.2.2.1 (cells + (im_n M' - im_n F.2.2.2)) (slots + (im_tt G M' - im_tt G F.2.2.2)) (F.1 + 3, F.2.1, v.toList ++ rest, M')) : im_Go p l e R s m args below meth c Q D (ig_cl G) (ig_ty G) cy ad z s.heap d.2.2.1 cells slots F := by
  obtain ⟨hx, hb, hts, hown, hK, hin, hml⟩ := C
  obtain ⟨pc, L, st, M⟩ := F
  obtain ⟨j, hj1, hj2, hkd, h45, hcat, hsl, hform⟩ := im_prep_spec hp
  have hM := im_met HG hj2 hsl hSafe
  obtain ⟨w1, w2, w3, w4, wnm, w5, w6, w7⟩ := HG.2.2.2.2.2.2.2.2.1 j d' hj2
  intro ls H locs hl hH hS
  have hroom : ({ frames := dep, cells := im_n M' - im_n M, slots := im_tt G M' - im_tt G M, locals := dep * 64 } : Room).frames + 1 ≤ R.frames ∧ 8 + (d'.2.2.1 + 11) + ({ frames := dep, cells := im_n M' - im_n M, slots := im_tt G M' - im_tt G M, locals := dep * 64 } : Room).locals ≤ R.locals := ⟨hRf, by
    show 8 + (d'.2.2.1 + 11) + dep * 64 ≤ R.locals
    omega⟩
  have hPc : ∀ U : State, U.heap = H → s.WarmedH U.vm → im_Pc G D cy ad z vs M (vs.map (im_v ad)).toArray U := fun U hU hW => ⟨rfl, by rw [hU]; exact hH, va_K.moved hW.alike hK, by rw [hU]; exact im_X.move HX hW hS.2.1, HY.move hW, by rw [hU]; exact Nat.le_trans hz hS.1⟩
  have hWr : 2 * (F0 m pc ls (st.map (im_v ad))).monitorRoom + ((rest.map (im_v ad)).map fun v => v.category).sum ≤ 8 := by
    show 2 * 0 + _ ≤ 8
    rw [im_cats]
    omega
  have hend : ∀ (H1 : Heap) (locs1 : List Loc), im_HH G D cy ad z M' H1 → va_S (fun q => z ≤ q) s.heap H1 locs1 → W p l e R s m args below meth c H1 locs1 (cells + (im_n M' - im_n M)) (slots + (im_tt G M' - im_tt G M)) Q (F0 m (pc + 3) ls ((v.map (im_v ad)).toList ++ rest.map (im_v ad))) := by
    intro H1 locs1 hH1 hS1
    rw [im_toList]
    exact g ls H1 locs1 hl hH1 hS1
  have hws : ∀ w ∈ (Cond.code d'.1 d'.2.1 d'.2.2.1 d'.2.2.2.1 :: ig_WS G), w ∈ ig_WS G := fun w hw => (List.mem_cons.mp hw).elim (fun q => q ▸ w1) id
  rcases hform with ⟨rfl, hlen, hst⟩ | ⟨hne, b, As, rfl, hlen, hst, hrecv⟩
  · have hi' : i = .invokestatic k := by
      cases i with
      | invokestatic q => simp only [im_iscall] at hi; split at hi <;> first | (cases hi; done) | (cases hi; rfl)
      | invokevirtual q => simp [im_iscall] at hi
      | invokespecial q => simp only [im_iscall] at hi; split at hi <;> first | (cases hi; done) | (split at hi <;> simp at hi)
      | _ => simp [im_iscall] at hi
    subst hi'
    have hst' : st = vs.reverse ++ rest := hst
    have hlink := HG.2.2.2.2.2.2.2.2.2.1 d.2.2.2.2.2.2 k j d' hj1 hj2 (by rw [hkd]; decide)
    refine im_callW (va_runS (As := vs.map (im_v ad)) (rest := rest.map (im_v ad)) ⟨hx, hb, hml, hown, hts⟩ hM (va_cwS d'.2.2.2.2.1 hts (im_goodA HG ?_) rfl rfl rfl w3 hroom) ⟨im_Pc_blind, hPc⟩ rfl (by rw [List.length_map]; exact hlen) hl.1 (by show st.map (im_v ad) = _; rw [hst']; simp) hWr hd ⟨hcells, hslots⟩) hS hend
    intro w hw
    unfold va_wsS at hw
    rcases List.mem_append.mp hw with h | h
    · simp only [List.mem_cons, List.not_mem_nil, or_false] at h
      rcases h with rfl | rfl | rfl
      · exact hlink
      · exact w6 hkd
      · exact w4
    · exact hws w h
  · have hst' : st = As.reverse ++ .ref b :: rest := hst
    have hstk : st.map (im_v ad) = (As.map (im_v ad)).reverse ++ .ref (ad b) :: rest.map (im_v ad) := by
      rw [hst']
      simp [im_v]
    by_cases h0 : kd = 0
    · subst h0
      have hi' : i = .invokevirtual k := by
        cases i with
        | invokevirtual q => simp only [im_iscall] at hi; cases hi; rfl
        | invokestatic q => simp only [im_iscall] at hi; split at hi <;> simp at hi
        | invokespecial q => simp only [im_iscall] at hi; split at hi <;> first | (cases hi; done) | (split at hi <;> simp at hi)
        | _ => simp [im_iscall] at hi
      subst hi'
      have hlink := HG.2.2.2.2.2.2.2.2.2.1 d.2.2.2.2.2.2 k j d' hj1 hj2 (by rw [hkd]; decide)
      have hcell : ∃ cellB : Cell, H[ad b]? = some cellB ∧ cellB.vm.isStatics = false ∧ s.vm.findClass d'.1.cls = some cellB.cls := by
        rcases hrecv rfl with ⟨r1, r2, r3⟩ | ⟨r1, r2⟩
        · cases hq : (ig_cl G)[(im_k M b).1]? with
          | none => simp only at r3; rw [hq] at r3; cases r3
          | some q =>
            simp only at r3
            rw [hq] at r3
            have r4 : q.1 = d'.1.cls := Option.some.inj r3
            rw [← r4]
            exact va_recv hK hH.1 hq (by rw [im_ws_at r1, im_ent_o rfl r2])
        · obtain ⟨cell, q1, q2, q3, -⟩ := (HX.2.2.2.1 b r1).1.kept hS.2.1
          exact ⟨cell, q1, q2, by rw [r2]; exact q3⟩
      refine im_callW (va_runV (As := As.map (im_v ad)) (rest := rest.map (im_v ad)) ⟨hx, hb, hml, hown, hts⟩ hM (cwV d'.2.2.2.2.1 hts (im_goodA HG ?_) rfl rfl rfl ⟨rfl, w3⟩ hroom) ⟨im_Pc_blind, hcell, hPc⟩ rfl (by rw [List.length_map]; exact hlen) hl.1 hstk hWr hd ⟨hcells, hslots⟩) hS hend
      intro w hw
      unfold wsV at hw
      rcases List.mem_append.mp hw with h | h
      · simp only [List.mem_cons, List.not_mem_nil, or_false] at h
        rcases h with rfl | rfl | rfl | rfl
        · exact hlink
        · exact (w5 hkd).1
        · exact (w5 hkd).2
        · exact w4
      · exact hws w h
    · have hi' : i = .invokespecial k ∧ ((kd = 2 ∧ ig_ho G d.2.2.2.2.2.2 k = none) ∨ ∃ h, kd = 3 ∧ ig_ho G d.2.2.2.2.2.2 k = some h) := by
        cases i with
        | invokevirtual q => simp only [im_iscall] at hi; cases hi; exact absurd rfl h0
        | invokestatic q => simp only [im_iscall] at hi; split at hi <;> first | (cases hi; done) | (cases hi; exact absurd rfl hne)
        | invokespecial q =>
          simp only [im_iscall] at hi
          split at hi
          · cases hi
          · split at hi
            · rename_i h hh
              cases hi
              exact ⟨rfl, Or.inr ⟨h, rfl, hh⟩⟩
            · rename_i hh
              cases hi
              exact ⟨rfl, Or.inl ⟨rfl, hh⟩⟩
        | _ => simp [im_iscall] at hi
      obtain ⟨rfl, hkk⟩ := hi'
      have h2 : 2 ≤ d'.2.2.2.2.2.1 := by rcases hkk with ⟨q, -⟩ | ⟨_, q, -⟩ <;> omega
      obtain ⟨w8, w9, w10⟩ := w7 h2
      rw [w10] at hM hws
      rcases hkk with ⟨q, hh⟩ | ⟨h, q, hh⟩
      · have hlink := HG.2.2.2.2.2.2.2.2.2.1 d.2.2.2.2.2.2 k j d' hj1 hj2 (by omega)
        exact im_callW (va_runI (As := As.map (im_v ad)) (rest := rest.map (im_v ad)) (b := ad b) ⟨hx, hb, hml, hown, hts⟩ hM (cwI d'.2.2.2.2.1 hts (im_goodA HG hws) rfl rfl rfl (hts _ w4) (hts _ hlink) (hts _ w8) w9 w3 hroom) ⟨im_Pc_blind, hPc⟩ rfl (by rw [List.length_map]; exact hlen) hl.1 hstk hWr hd ⟨hcells, hslots⟩) hS hend
      · exact im_callW (va_runIN (As := As.map (im_v ad)) (rest := rest.map (im_v ad)) (b := ad b) ⟨hx, hb, hml, hown, hts⟩ hM ⟨va_cnB d'.2.2.2.2.1 hts (im_goodA HG hws) rfl rfl rfl (HY d.2.2.2.2.2.2 k j d' h hh hj1 hj2) (hts _ w4) w3 hroom, w9, hts _ w8⟩ ⟨im_Pc_blind, hPc⟩ rfl (by rw [List.length_map]; exact hlen) hl.1 hstk hWr hd ⟨hcells, hslots⟩) hS hend
theorem im_nat_ok {dep : Nat} {i : Instr} {len : Nat} {d : im_J} {F F' : im_F} (HG : im_OK G) (C : im_C p s m args meth c d.2.1 D (ig_cl G) cy d.2.2.1 (ig_WS G) (ig_nm G d.2.2.2.2.2.2) (decide (2 ≤ d.2.2.2.2.2.1))) (HX : im_XX G ad z s s.heap) (had : ∀ i, i < 1000000 → ad i = z + i) (hR : 1 ≤ R.frames ∧ 64 ≤ R.locals) (hd : decode d.2.1 F.1 = .ok (i, len)) (h : im_nat G d i len F = some F') (hcells : cells + (im_n F'.2.2.2 - im_n F.2.2.2) ≤ R.cells) (hslots : slots + (im_tt G F'.2.2.2 - im_tt G F.2.2.2) ≤ R.slots)
    (g : im_Go p l e R s m args below meth c Q D (ig_cl G) (ig_ty G) cy ad z s.heap d.2.2.1 (cells + (im_n F'.2.2.2 - im_n F.2.2.2)) (slots + (im_tt G F'.2.2.2 - im_tt G F.2.2.2)) F') : im_Go p l e R s m args below meth c Q D (ig_cl G) (ig_ty G) cy ad z s.heap d.2.2.1 cells slots F := by
  have hsame : im_same F F' → im_Go p l e R s m args below meth c Q D (ig_cl G) (ig_ty G) cy ad z s.heap d.2.2.1 cells slots F' := by
    intro q
    have e1 : im_n F'.2.2.2 - im_n F.2.2.2 = 0 := by rw [q.1]; omega
    have e2 : im_tt G F'.2.2.2 - im_tt G F.2.2.2 = 0 := by unfold im_tt; rw [q.1, q.2]; omega
    rw [e1, e2] at g
    exact g
  obtain ⟨HC, HF, HK, HV, HA, HO, HN, HR, HM, HL, Hg⟩ := HG
  have hgen : ∀ {F'' : im_F}, F'' = F' → (match im_step (ig_cl G) (ig_ty G) (ig_fT G) (ig_cT G) (ig_nm G d.2.2.2.2.2.2) d.2.2.2.2.2.2 (decide (2 ≤ d.2.2.2.2.2.1)) d.2.2.1 i len F with | some F' => some F' | none => im_stepX (ig_gT G) (ig_xk G) (ig_xi G) (ig_sT G) (ig_vT G) d.2.2.2.2.2.2 i len F) = some F'' → im_Go p l e R s m args below meth c Q D (ig_cl G) (ig_ty G) cy ad z s.heap d.2.2.1 cells slots F := by
    intro F'' hF h1
    subst hF
    cases hs : im_step (ig_cl G) (ig_ty G) (ig_fT G) (ig_cT G) (ig_nm G d.2.2.2.2.2.2) d.2.2.2.2.2.2 (decide (2 ≤ d.2.2.2.2.2.1)) d.2.2.1 i len F with
    | some F2 =>
      rw [hs] at h1
      cases h1
      exact im_step_ok C HC HF HK hd hs (hsame (im_q_step hs))
    | none =>
      rw [hs] at h1
      exact im_stepX_ok C HX HV hd h1 (hsame (im_q_stepX h1))
  cases i with
  | invokestatic k =>
    simp only [im_nat] at h
    split at h
    · rename_i ha
      obtain ⟨rfl, h⟩ := im_ok_some h
      exact im_s_acopy C HA hR ha hd h (hsame (im_q_acopy h))
    · cases h
  | invokespecial k =>
    simp only [im_nat] at h
    split at h
    · rename_i ha
      obtain ⟨rfl, h⟩ := im_ok_some h
      exact im_s_oinit C HO hR ha hd h (hsame (im_q_oinit h))
    · cases h
  | new k =>
    obtain ⟨rfl, h2⟩ := im_ok_some (show im_ok 3 len (im_new (ig_nT G) d.2.2.2.2.2.2 k F) = some F' from h)
    clear h
    have h := h2
    have e1 : im_n F'.2.2.2 - im_n F.2.2.2 = 1 := by
      unfold im_new at h
      split at h
      · split at h
        · cases h
          show im_n F.2.2.2 + 1 - im_n F.2.2.2 = 1
          omega
        · cases h
      · cases h
    rw [e1] at g hcells
    exact im_s_new C HC HN had hd h hcells hslots g
  | newarray t =>
    obtain ⟨rfl, h2⟩ := im_ok_some (show im_ok 2 len (im_newa t F) = some F' from h)
    clear h
    have h := h2
    have e1 : im_n F'.2.2.2 - im_n F.2.2.2 = 1 := by
      unfold im_newa at h
      split at h
      · split at h
        · cases h
          exact Nat.add_sub_cancel_left _ 1
        · cases h
      · cases h
    rw [e1] at g hcells
    exact im_s_newa C HR had hd h hcells hslots g
  | _ => exact hgen rfl h
theorem im_tot_mk {cl : List vw_C} {M : im_M} {k : Nat × Nat} : im_tot cl (im_k M) (im_n M) ≤ im_tot cl (im_k (im_mk M k)) (im_n (im_mk M k)) := by
  have e0 : ∀ j, j ≤ im_n M → im_tot cl (im_k (im_mk M k)) j = im_tot cl (im_k M) j := by
    intro j
    induction j with
    | zero => intro _; rfl
    | succ j ih =>
      intro hj
      show im_tot cl (im_k (im_mk M k)) j + im_size cl (im_k (im_mk M k) j) = im_tot cl (im_k M) j + im_size cl (im_k M j)
      rw [ih (by omega), show im_k (im_mk M k) j = im_k M j from im_upn (by omega)]
  show _ ≤ im_tot cl (im_k (im_mk M k)) (im_n M) + im_size cl (im_k (im_mk M k) (im_n M))
  rw [e0 _ (Nat.le_refl _)]
  omega
theorem im_nat_mono {i : Instr} {len : Nat} {d : im_J} {F F' : im_F} (h : im_nat G d i len F = some F') : im_n F.2.2.2 ≤ im_n F'.2.2.2 ∧ im_tt G F.2.2.2 ≤ im_tt G F'.2.2.2 := by
  have hsame : im_same F F' → im_n F.2.2.2 ≤ im_n F'.2.2.2 ∧ im_tt G F.2.2.2 ≤ im_tt G F'.2.2.2 := by
    intro q
    unfold im_tt
    rw [q.1, q.2]
    exact ⟨Nat.le_refl _, Nat.le_refl _⟩
  have hgen : (match im_step (ig_cl G) (ig_ty G) (ig_fT G) (ig_cT G) (ig_nm G d.2.2.2.2.2.2) d.2.2.2.2.2.2 (decide (2 ≤ d.2.2.2.2.2.1)) d.2.2.1 i len F with | some F' => some F' | none => im_stepX (ig_gT G) (ig_xk G) (ig_xi G) (ig_sT G) (ig_vT G) d.2.2.2.2.2.2 i len F) = some F' → im_n F.2.2.2 ≤ im_n F'.2.2.2 ∧ im_tt G F.2.2.2 ≤ im_tt G F'.2.2.2 := by
    intro h1
    cases hs : im_step (ig_cl G) (ig_ty G) (ig_fT G) (ig_cT G) (ig_nm G d.2.2.2.2.2.2) d.2.2.2.2.2.2 (decide (2 ≤ d.2.2.2.2.2.1)) d.2.2.1 i len F with
    | some F2 =>
      rw [hs] at h1
      cases h1
      exact hsame (im_q_step hs)
    | none =>
      rw [hs] at h1
      exact hsame (im_q_stepX h1)
  cases i with
  | invokestatic k =>
    simp only [im_nat] at h
    split at h
    · exact hsame (im_q_acopy (im_ok_some h).2)
    · cases h
  | invokespecial k =>
    simp only [im_nat] at h
    split at h
    · exact hsame (im_q_oinit (im_ok_some h).2)
    · cases h
  | new k =>
    obtain ⟨rfl, h2⟩ := im_ok_some (show im_ok 3 len (im_new (ig_nT G) d.2.2.2.2.2.2 k F) = some F' from h)
    clear h
    have h := h2
    unfold im_new at h
    split at h
    · split at h
      · cases h
        exact ⟨Nat.le_succ _, im_tot_mk⟩
      · cases h
    · cases h
  | newarray t =>
    obtain ⟨rfl, h2⟩ := im_ok_some (show im_ok 2 len (im_newa t F) = some F' from h)
    clear h
    have h := h2
    unfold im_newa at h
    split at h
    · split at h
      · cases h
        exact ⟨Nat.le_succ _, im_tot_mk⟩
      · cases h
    · cases h
  | _ => exact hgen h
end IMU
/-- THE RUN IS SOUND: what the pure machine ends with, the machine does -/
theorem im_sound {G : im_G} {l : Launch} {D : va_G} {cy : Nat → ClassId} {ad : Nat → Nat} {z : Nat} (HG : im_OK G) (had : ∀ i, i < 1000000 → ad i = z + i) : ∀ (n dep : Nat) (d : im_J) (F : im_F) (v : Option Value) (M' : im_M), im_run G n dep d F = some (v, M') → (im_n F.2.2.2 ≤ im_n M' ∧ im_tt G F.2.2.2 ≤ im_tt G M') ∧ im_Safe G l D cy ad z dep d F v M' := by
  intro n
  induction n with
  | zero =>
    intro dep d F v M' h
    cases h
  | succ n ih =>
    intro dep d F v M' h
    cases dep with
    | zero => cases h
    | succ dep =>
      unfold im_run at h
      cases hdec : decode d.2.1 F.1 with
      | error q => rw [hdec] at h; cases h
      | ok q =>
        obtain ⟨i, len⟩ := q
        rw [hdec] at h
        simp only at h
        by_cases hr : im_isret i = true
        · rw [if_pos hr] at h
          by_cases hl : len = 1
          · subst hl
            rw [if_pos rfl] at h
            obtain ⟨e1, e2, hk⟩ := im_ret_spec h
            subst e2
            refine ⟨⟨Nat.le_refl _, Nat.le_refl _⟩, ?_⟩
            intro p e R s m args below meth c Q cells slots C HX HY hz hf hlo hc hs hret ls H locs hl hH hS
            have h3 := hret F.1 i ls H locs hdec hk hH hS
            rw [Nat.sub_self, Nat.sub_self, Nat.add_zero, Nat.add_zero, ← e1] at h3
            exact h3
          · rw [if_neg hl] at h
            cases h
        · rw [if_neg hr] at h
          cases hcall : im_iscall G d i with
          | some kk =>
            obtain ⟨k, kd⟩ := kk
            rw [hcall] at h
            simp only at h
            by_cases hl : len = 3
            · subst hl
              rw [if_pos rfl] at h
              cases hp : im_prep G d.2.2.2.2.2.2 k kd F with
              | none => rw [hp] at h; cases h
              | some t =>
                obtain ⟨d', vs, rest⟩ := t
                rw [hp] at h
                simp only at h
                cases hrun : im_run G n dep d' (0, lv_args 0 vs, [], F.2.2.2) with
                | none => rw [hrun] at h; cases h
                | some r =>
                  obtain ⟨v1, M1⟩ := r
                  rw [hrun] at h
                  simp only at h
                  obtain ⟨⟨a1, a2⟩, a3⟩ := ih dep d' _ v1 M1 hrun
                  obtain ⟨⟨b1, b2⟩, b3⟩ := ih (dep + 1) d _ v M' h
                  simp only at a1 a2 b1 b2
                  refine ⟨⟨Nat.le_trans a1 b1, Nat.le_trans a2 b2⟩, ?_⟩
                  intro p e R s m args below meth c Q cells slots C HX HY hz hf hlo hc hs hret
                  refine im_call_ok HG C HX HY hz hf hlo hdec hcall hp a3 (by omega) (by omega) ?_
                  refine b3 p e R s m args below meth c Q _ _ C HX HY hz hf hlo (by simp only; omega) (by simp only; omega) ?_
                  intro pc i' ls H locs q1 q2 q3 q4
                  have h3 := hret pc i' ls H locs q1 q2 q3 q4
                  have e1 : cells + (im_n M1 - im_n F.2.2.2) + (im_n M' - im_n M1) = cells + (im_n M' - im_n F.2.2.2) := by omega
                  have e2 : slots + (im_tt G M1 - im_tt G F.2.2.2) + (im_tt G M' - im_tt G M1) = slots + (im_tt G M' - im_tt G F.2.2.2) := by omega
                  simp only
                  rw [e1, e2]
                  exact h3
            · rw [if_neg hl] at h
              cases h
          | none =>
            rw [hcall] at h
            simp only at h
            cases hn : im_nat G d i len F with
            | none => rw [hn] at h; cases h
            | some F' =>
              rw [hn] at h
              simp only at h
              obtain ⟨a1, a2⟩ := im_nat_mono hn
              obtain ⟨⟨b1, b2⟩, b3⟩ := ih (dep + 1) d F' v M' h
              refine ⟨⟨Nat.le_trans a1 b1, Nat.le_trans a2 b2⟩, ?_⟩
              intro p e R s m args below meth c Q cells slots C HX HY hz hf hlo hc hs hret
              refine im_nat_ok (dep := dep) HG C HX had ⟨by omega, by omega⟩ hdec hn (by omega) (by omega) ?_
              refine b3 p e R s m args below meth c Q _ _ C HX HY hz hf hlo (by omega) (by omega) ?_
              intro pc i' ls H locs q1 q2 q3 q4
              have h3 := hret pc i' ls H locs q1 q2 q3 q4
              have e1 : cells + (im_n F'.2.2.2 - im_n F.2.2.2) + (im_n M' - im_n F'.2.2.2) = cells + (im_n M' - im_n F.2.2.2) := by omega
              have e2 : slots + (im_tt G F'.2.2.2 - im_tt G F.2.2.2) + (im_tt G M' - im_tt G F'.2.2.2) = slots + (im_tt G M' - im_tt G F.2.2.2) := by omega
              rw [e1, e2]
              exact h3

