/-! MAKING CELLS IS SOUND -/
theorem im_upn {α : Type} {f : Nat → α} {k i : Nat} {v : α} (h : i ≠ k) : va_up f k v i = f i := by simp [va_up, h]
theorem im_ups {α : Type} {f : Nat → α} {k : Nat} {v : α} : va_up f k v k = v := by simp [va_up]
theorem im_ent_mk {cl : List vw_C} {ty : Nat → Nat → FieldType} {cy : Nat → ClassId} {ad : Nat → Nat} {M : im_M} {k : Nat × Nat} {i : Nat} (h : i ≠ im_n M) : im_ent cl ty cy ad (im_mk M k) i = im_ent cl ty cy ad M i := by
  have e1 : im_k (im_mk M k) i = im_k M i := im_upn h
  have e2 : im_i (im_mk M k) i = im_i M i := im_upn h
  have e3 : im_l (im_mk M k) i = im_l M i := im_upn h
  have e4 : im_r (im_mk M k) i = im_r M i := im_upn h
  have e5 : ∀ c, im_fs cl ty ad (im_mk M k) i c = im_fs cl ty ad M i c := by
    intro c
    simp only [im_fs]
    congr 1
    funext j
    unfold im_fv
    rw [e2, e3, e4]
  simp only [im_ent, e1, e2, e3, e5]
theorem im_ws_mk {cl : List vw_C} {ty : Nat → Nat → FieldType} {cy : Nat → ClassId} {ad : Nat → Nat} {M : im_M} {k : Nat × Nat} : im_ws cl ty cy ad (im_mk M k) = im_ws cl ty cy ad M ++ [(ad (im_n M), im_ent cl ty cy ad (im_mk M k) (im_n M))] := by
  have e0 : im_n (im_mk M k) = im_n M + 1 := rfl
  unfold im_ws
  rw [e0, List.range_succ, List.map_append]
  congr 1
  apply List.map_congr_left
  intro i hi
  rw [im_ent_mk (Nat.ne_of_lt (List.mem_range.mp hi))]
theorem im_H.mk {D : va_G} {cl : List vw_C} {ty : Nat → Nat → FieldType} {cy : Nat → ClassId} {ad : Nat → Nat} {z : Nat} {M : im_M} {k : Nat × Nat} {H H1 : Heap} (h : im_H D cl ty cy ad z M H) (hx : im_x M = true) (hn : ad (im_n M) = z + im_n M) (e1 : va_at D cl (ad (im_n M), im_ent cl ty cy ad (im_mk M k) (im_n M)) H1) (z1 : H1.size = H.size + 1) (o1 : ∀ q, q < H.size → H1[q]? = H[q]?) : im_H D cl ty cy ad z (im_mk M k) H1 := by
  have hz := h.2.2.2.1 hx
  have e0 : im_n (im_mk M k) = im_n M + 1 := rfl
  refine ⟨?_, ?_, ?_, ?_, ?_⟩
  · rw [im_ws_mk]
    refine (h.1.kept (fun k x hx => o1 x.1 ((h.1 k x hx).lt))).app (fun j x hx => ?_)
    have hj : j < 1 := (List.getElem?_eq_some_iff.mp hx).1
    rw [show j = 0 by omega] at hx
    cases hx
    exact e1
  · intro i hi
    rw [e0] at hi
    by_cases hin : i = im_n M
    · rw [hin]; exact hn
    · exact h.2.1 i (by omega)
  · rw [e0, z1]; omega
  · intro _
    rw [e0, z1]; omega
  · intro a ha j
    by_cases hin : a = im_n M
    · have : im_i (im_mk M k) a j = 0 := by
        show va_up (im_i M) (im_n M) (fun _ => 0) a j = 0
        rw [hin, im_ups]
      rw [this]
      rfl
    · have e2 : im_i (im_mk M k) a = im_i M a := im_upn hin
      have e3 : im_k (im_mk M k) a = im_k M a := im_upn hin
      rw [e2]
      rw [e3] at ha
      exact h.2.2.2.2 a ha j
def im_TN (cl : List vw_C) (ty : Nat → Nat → FieldType) (WS : List Cond) (nm : Nat → String) (nT : Nat → Nat → Option Nat) : Prop := ∀ (ow k ci : Nat), nT ow k = some ci → ∃ q : vw_C, cl[ci]? = some q ∧ Cond.classLink (nm ow) k q.1 ∈ WS ∧ Cond.instantiable q.1 q.2.2 ∈ WS ∧ Cond.initialized q.1 ∈ WS ∧ ∀ j, j < q.2.2 → defaultValue (ty ci j) = im_dv (ty ci j)
def im_TR (WS : List Cond) : Prop := Cond.arrayClass .byte ∈ WS ∧ Cond.arrayClass .int ∈ WS ∧ Cond.arrayClass .long ∈ WS ∧ Cond.arrayClass .short ∈ WS ∧ Cond.arrayClass .boolean ∈ WS
def im_TO (WS : List Cond) (nm : Nat → String) (oT : Nat → Nat → Bool) : Prop := ∀ (ow k : Nat), oT ow k = true → Cond.methodLink (nm ow) k objectInit ∈ WS ∧ Cond.instanceMethod objectInit ∈ WS ∧ Cond.code objectInit ⟨#[0xb1]⟩ 1 none ∈ WS
section IMN
variable {p : Program} {l : Launch} {e : Env} {R : Room} {s : State} {m : MethodId} {args : Array Value} {below : List Frame} {meth : Method} {c : Code} {Q : State → Prop} {cc : ByteArray} {cells slots : Nat}
variable {D : va_G} {cl : List vw_C} {ty : Nat → Nat → FieldType} {cy : Nat → ClassId} {ad : Nat → Nat} {z : Nat} {nL : Nat} {WS : List Cond} {nm : Nat → String} {ow : Nat} {ini : Bool}

theorem im_s_new (C : im_C p s m args meth c cc D cl cy nL WS (nm ow) ini) (HC : im_TC cl ty WS) {nT : Nat → Nat → Option Nat} (HN : im_TN cl ty WS nm nT) (had : ∀ i, i < 1000000 → ad i = z + i) {k : Nat} {F F' : im_F} (hd : decode cc F.1 = .ok (.new k, 3)) (h : im_new nT ow k F = some F') (hcells : cells + 1 ≤ R.cells) (hslots : slots + (im_tot cl (im_k F'.2.2.2) (im_n F'.2.2.2) - im_tot cl (im_k F.2.2.2) (im_n F.2.2.2)) ≤ R.slots) (g : im_Go p l e R s m args below meth c Q D cl ty cy ad z s.heap nL (cells + 1) (slots + (im_tot cl (im_k F'.2.2.2) (im_n F'.2.2.2) - im_tot cl (im_k F.2.2.2) (im_n F.2.2.2))) F') : im_Go p l e R s m args below meth c Q D cl ty cy ad z s.heap nL cells slots F := by
  obtain ⟨hx, hb, hts, hown, hK, hin, hml⟩ := C
  intro ls H locs hl hH hS
  obtain ⟨pc, L, st, M⟩ := F
  unfold im_new at h
  cases hn : nT ow k with
  | none => rw [hn] at h; cases h
  | some ci =>
    rw [hn] at h
    simp only at h
    split at h
    · rename_i hc
      cases h
      obtain ⟨⟨C, T, N⟩, hq, w1, w2, w3, hdv⟩ := HN ow k ci hn
      obtain ⟨hin1, hin2, hin3⟩ := HC ci _ hq
      have hKn := hK.1 ci _ hq
      have hnf : im_nf cl ci = N := by simp [im_nf, hq]
      have hsz : im_tot cl (im_k (im_mk M (ci, 0))) (im_n (im_mk M (ci, 0))) - im_tot cl (im_k M) (im_n M) = N := by
        have e0 : ∀ j, j ≤ im_n M → im_tot cl (im_k (im_mk M (ci, 0))) j = im_tot cl (im_k M) j := by
          intro j
          induction j with
          | zero => intro _; rfl
          | succ j ih =>
            intro hj
            show im_tot cl (im_k (im_mk M (ci, 0))) j + im_size cl (im_k (im_mk M (ci, 0)) j) = im_tot cl (im_k M) j + im_size cl (im_k M j)
            rw [ih (by omega), show im_k (im_mk M (ci, 0)) j = im_k M j from im_upn (by omega)]
        show im_tot cl (im_k (im_mk M (ci, 0))) (im_n M) + im_size cl (im_k (im_mk M (ci, 0)) (im_n M)) - im_tot cl (im_k M) (im_n M) = N
        rw [e0 _ (Nat.le_refl _), show im_k (im_mk M (ci, 0)) (im_n M) = (ci, 0) from im_ups]
        simp [im_size, hc.2.2, hnf]
      dsimp only at hslots g
      rw [hsz] at hslots g
      refine W.newcK hx hb hown (hts _ w1) (hts _ w2) (hts _ w3) rfl hd hcells hslots hKn.2.1 rfl fun H1 kC hkC e1 z1 o1 => ?_
      have hzz := hH.2.2.2.1 hc.1
      have hadn : ad (im_n M) = z + im_n M := had _ hc.2.1
      have hent : im_ent cl ty cy ad (im_mk M (ci, 0)) (im_n M) = .inr (ci, im_fs cl ty ad (im_mk M (ci, 0)) (im_n M) ci) := im_ent_o (by rw [show im_k (im_mk M (ci, 0)) (im_n M) = (ci, 0) from im_ups]) hc.2.2
      have hH1 : im_H D cl ty cy ad z (im_mk M (ci, 0)) H1 := by
        refine hH.mk hc.1 hadn ?_ z1 o1
        rw [hent, hadn, ← hzz]
        refine ⟨_, hq, (u_born (ty ci) hts hin1 hKn hkC e1 hin2).to (fun j hj => ?_)⟩
        show defaultValue (ty ci j) = vp_V (im_fs cl ty ad (im_mk M (ci, 0)) (im_n M) ci) j
        have e2 : im_i (im_mk M (ci, 0)) (im_n M) = fun _ => 0 := im_ups
        have e3 : im_l (im_mk M (ci, 0)) (im_n M) = fun _ => 0 := im_ups
        have e4 : im_r (im_mk M (ci, 0)) (im_n M) = fun _ => none := im_ups
        have e5 : vp_V (im_fs cl ty ad (im_mk M (ci, 0)) (im_n M) ci) j = im_fv ty ad (im_mk M (ci, 0)) (im_n M) ci j := by
          simp [vp_V, im_fs_at hq hj]
        rw [e5, hdv j hj]
        unfold im_fv im_dv
        rw [e2, e3, e4]
        cases ty ci j <;> rfl
      have hg := g ls H1 locs hl hH1 ⟨Nat.le_trans hS.1 (by omega), fun q q1 q2 => (o1 q (Nat.lt_of_lt_of_le q1 hS.1)).trans (hS.2.1 q q1 q2), hS.2.2⟩
      have hst : (Value.ref (im_n M) :: st).map (im_v ad) = Value.ref H.size :: st.map (im_v ad) := by
        show Value.ref (ad (im_n M)) :: _ = _
        rw [hadn, hzz]
      dsimp only at hg
      rw [hst] at hg
      exact hg
    · cases h
theorem im_s_newa (C : im_C p s m args meth c cc D cl cy nL WS (nm ow) ini) (HR : im_TR WS) (had : ∀ i, i < 1000000 → ad i = z + i) {t : ArrayType} {F F' : im_F} (hd : decode cc F.1 = .ok (.newarray t, 2)) (h : im_newa t F = some F') (hcells : cells + 1 ≤ R.cells) (hslots : slots + (im_tot cl (im_k F'.2.2.2) (im_n F'.2.2.2) - im_tot cl (im_k F.2.2.2) (im_n F.2.2.2)) ≤ R.slots) (g : im_Go p l e R s m args below meth c Q D cl ty cy ad z s.heap nL (cells + 1) (slots + (im_tot cl (im_k F'.2.2.2) (im_n F'.2.2.2) - im_tot cl (im_k F.2.2.2) (im_n F.2.2.2))) F') : im_Go p l e R s m args below meth c Q D cl ty cy ad z s.heap nL cells slots F := by
  obtain ⟨hx, hb, hts, hown, hK, hin, hml⟩ := C
  intro ls H locs hl hH hS
  obtain ⟨pc, L, st, M⟩ := F
  cases st with
  | nil => cases h
  | cons w r =>
    cases w with
    | int n =>
      simp only [im_newa] at h
      split at h
      · rename_i hc
        cases h
        obtain ⟨c1, c2, c3, c4, c5⟩ := hc
        have hsz : im_tot cl (im_k (im_mk M (im_akind t, n.toNatClampNeg))) (im_n (im_mk M (im_akind t, n.toNatClampNeg))) - im_tot cl (im_k M) (im_n M) = n.toNatClampNeg := by
          have e0 : ∀ j, j ≤ im_n M → im_tot cl (im_k (im_mk M (im_akind t, n.toNatClampNeg))) j = im_tot cl (im_k M) j := by
            intro j
            induction j with
            | zero => intro _; rfl
            | succ j ih =>
              intro hj
              show im_tot cl (im_k (im_mk M (im_akind t, n.toNatClampNeg))) j + im_size cl (im_k (im_mk M (im_akind t, n.toNatClampNeg)) j) = im_tot cl (im_k M) j + im_size cl (im_k M j)
              rw [ih (by omega), show im_k (im_mk M (im_akind t, n.toNatClampNeg)) j = im_k M j from im_upn (by omega)]
          show im_tot cl (im_k (im_mk M (im_akind t, n.toNatClampNeg))) (im_n M) + im_size cl (im_k (im_mk M (im_akind t, n.toNatClampNeg)) (im_n M)) - im_tot cl (im_k M) (im_n M) = n.toNatClampNeg
          rw [e0 _ (Nat.le_refl _), show im_k (im_mk M (im_akind t, n.toNatClampNeg)) (im_n M) = (im_akind t, n.toNatClampNeg) from im_ups]
          have : ¬ im_akind t < 32 := by omega
          simp [im_size, this]
        dsimp only at hslots g
        rw [hsz] at hslots g
        have hzz := hH.2.2.2.1 c1
        have hadn : ad (im_n M) = z + im_n M := had _ c2
        have main : ∀ (kd : Nat) (ft : FieldType) (t0 : Nat), im_akind t = kd → newarray.typeOf t = ft → (im_tys cy)[t0]? = some (cy kd, ft) → va_RA s (cy kd) ft = (s.vm.findClass ("[" ++ ft.toString) = some (cy kd)) → Cond.arrayClass ft ∈ WS → componentBytes ft ≤ 8 → (vp_cell (cy kd) (n.toNatClampNeg, if kd = 34 then .inr (.inl (fun _ => 0)) else .inl (fun _ => 0)) = arrV (cy kd) n.toNatClampNeg (fun _ => defaultValue ft)) → W p l e R s m args below meth c H locs cells slots Q (F0 m pc ls ((Value.int n :: r).map (im_v ad))) := by
          intro kd ft t0 hk hft ht0 hra hw hcb hcell
          have hraK : s.vm.findClass ("[" ++ ft.toString) = some (cy kd) := by rw [← hra]; exact (hK.2 t0 _ ht0).2
          refine va_newaK hx hb (by rw [hft]; exact hts _ hw) rfl hd rfl c4 rfl (by rw [hft]; exact Nat.le_trans (Nat.mul_le_mul_left _ hcb) c5) hcells hslots rfl fun H1 cA e1 z1 o1 hAr hNm => ?_
          rw [hft] at e1 hNm
          have hcA : cA = cy kd := Option.some.inj (hNm.symm.trans hraK)
          rw [hcA, ← hcell] at e1
          have hkn : im_k (im_mk M (im_akind t, n.toNatClampNeg)) (im_n M) = (im_akind t, n.toNatClampNeg) := im_ups
          have e2 : im_i (im_mk M (im_akind t, n.toNatClampNeg)) (im_n M) = fun _ => 0 := im_ups
          have e3 : im_l (im_mk M (im_akind t, n.toNatClampNeg)) (im_n M) = fun _ => 0 := im_ups
          have hent : im_ent cl ty cy ad (im_mk M (im_akind t, n.toNatClampNeg)) (im_n M) = .inl (cy kd, n.toNatClampNeg, if kd = 34 then .inr (.inl (fun _ => 0)) else .inl (fun _ => 0)) := by
            have h32 : ¬ kd < 32 := by omega
            unfold im_ent
            rw [hkn, e2, e3, hk]
            simp only [h32, if_false]
            by_cases h34 : kd = 34
            · simp [h34]
            · simp [h34]
          have hH1 : im_H D cl ty cy ad z (im_mk M (im_akind t, n.toNatClampNeg)) H1 := by
            refine hH.mk c1 hadn ?_ z1 o1
            rw [hent, hadn, ← hzz]
            exact e1
          have hg := g ls H1 locs hl hH1 ⟨Nat.le_trans hS.1 (by omega), fun q q1 q2 => (o1 q (Nat.lt_of_lt_of_le q1 hS.1)).trans (hS.2.1 q q1 q2), hS.2.2⟩
          have hst : (Value.ref (im_n M) :: r).map (im_v ad) = Value.ref H.size :: r.map (im_v ad) := by
            show Value.ref (ad (im_n M)) :: _ = _
            rw [hadn, hzz]
          dsimp only at hg
          rw [hst] at hg
          exact hg
        obtain ⟨w1, w2, w3, w4, w5⟩ := HR
        cases t with
        | byte => exact main 32 .byte 0 rfl rfl rfl rfl w1 (by decide) rfl
        | int => exact main 33 .int 1 rfl rfl rfl rfl w2 (by decide) rfl
        | long => exact main 34 .long 2 rfl rfl rfl rfl w3 (by decide) rfl
        | short => exact main 35 .short 3 rfl rfl rfl rfl w4 (by decide) rfl
        | boolean => exact main 36 .boolean 4 rfl rfl rfl rfl w5 (by decide) rfl
        | _ => simp [im_akind] at c3
      · cases h
    | _ => first | cases h | (simp [im_newa] at h; done)
theorem im_s_oinit (C : im_C p s m args meth c cc D cl cy nL WS (nm ow) ini) {oT : Nat → Nat → Bool} (HO : im_TO WS nm oT) (hR : 1 ≤ R.frames ∧ 64 ≤ R.locals) {k : Nat} {F F' : im_F} (ho : oT ow k = true) (hd : decode cc F.1 = .ok (.invokespecial k, 3)) (h : im_oinit F = some F') (g : im_Go p l e R s m args below meth c Q D cl ty cy ad z s.heap nL cells slots F') : im_Go p l e R s m args below meth c Q D cl ty cy ad z s.heap nL cells slots F := by
  obtain ⟨hx, hb, hts, hown, hK, hin, hml⟩ := C
  intro ls H locs hl hH hS
  obtain ⟨pc, L, st, M⟩ := F
  cases st with
  | nil => cases h
  | cons w0 r0 =>
    cases w0 with
    | ref a =>
      simp only [im_oinit] at h
      split at h
      · rename_i hc
        cases h
        obtain ⟨w1, w2, w3⟩ := HO ow k ho
        have e1 : ((r0.map (im_v ad)).map fun v => v.category).sum = (r0.map fun v => v.category).sum := by
          rw [List.map_map]
          congr 2
          funext v
          exact im_v_cat ad v
        refine W.objInit hx hb hown (hts _ w1) (hts _ w2) (hts _ w3) rfl (hl.1.trans hml.symm) rfl hd hR.1 ?_ (g ls H locs hl hH hS)
        show 2 * 0 + ((r0.map (im_v ad)).map fun v => v.category).sum + 12 ≤ R.locals
        have e2 := hR.2
        omega
      · cases h
    | _ => first | cases h | (simp at h; done)
end IMN
