/-! WHAT A CALL ASKS; LOCALS AFTER A STORE -/
theorem pr_inst {G : im_G} {ow k kd j pc b : Nat} {d' : im_J} {L : List (Nat × Value)} {M : im_M} {st vs rest : List Value} (hc : ig_cal G ow k = some j) (hT : ig_T G j = some d') (hst : st = vs.reverse ++ .ref b :: rest) (hkd : d'.2.2.2.2.2.1 = kd) (hk1 : kd ≠ 1) (hl : d'.2.2.1 ≤ 45) (hn : vs.length = d'.2.2.2.2.1) (hs : (rest.map fun v => v.category).sum ≤ 8) (hsl : (lg_sl (.ref b :: vs)).length ≤ d'.2.2.1) (hb : kd = 0 → (b < im_n M ∧ (im_k M b).1 < 32 ∧ ((ig_cl G)[(im_k M b).1]?).map (fun q => q.1) = some d'.1.cls) ∨ ((ig_xk G b).1 = 50 ∧ d'.1.cls = "java/lang/String")) : im_prep G ow k kd (pc, L, st, M) = some (d', .ref b :: vs, rest) := by
  subst hst
  unfold im_prep
  simp only [hc, hT]
  have e1 : vs.reverse.length = d'.2.2.2.2.1 := by rw [List.length_reverse]; exact hn
  have e2 : (vs.reverse ++ Value.ref b :: rest).drop d'.2.2.2.2.1 = .ref b :: rest := by rw [← e1]; exact List.drop_left
  have e3 : (vs.reverse ++ Value.ref b :: rest).take d'.2.2.2.2.1 = vs.reverse := by rw [← e1]; exact List.take_left
  rw [if_pos ⟨hkd, hl, by rw [List.length_append, e1]; exact Nat.le_add_right _ _⟩, if_neg hk1, e2]
  simp only [e3, List.reverse_reverse]
  rw [if_pos ⟨hs, hsl, hb⟩]
theorem pr_stat {G : im_G} {ow k j pc : Nat} {d' : im_J} {L : List (Nat × Value)} {M : im_M} {st vs rest : List Value} (hc : ig_cal G ow k = some j) (hT : ig_T G j = some d') (hst : st = vs.reverse ++ rest) (hkd : d'.2.2.2.2.2.1 = 1) (hl : d'.2.2.1 ≤ 45) (hn : vs.length = d'.2.2.2.2.1) (hs : (rest.map fun v => v.category).sum ≤ 8) (hsl : (lg_sl vs).length ≤ d'.2.2.1) : im_prep G ow k 1 (pc, L, st, M) = some (d', vs, rest) := by
  subst hst
  unfold im_prep
  simp only [hc, hT]
  have e1 : vs.reverse.length = d'.2.2.2.2.1 := by rw [List.length_reverse]; exact hn
  have e2 : (vs.reverse ++ rest).drop d'.2.2.2.2.1 = rest := by rw [← e1]; exact List.drop_left
  have e3 : (vs.reverse ++ rest).take d'.2.2.2.2.1 = vs.reverse := by rw [← e1]; exact List.take_left
  rw [if_pos ⟨hkd, hl, by rw [List.length_append, e1]; exact Nat.le_add_right _ _⟩, if_pos True.intro, e2, e3, List.reverse_reverse]
  rw [if_pos ⟨hs, hsl⟩]
theorem lk_1i {L : List (Nat × Value)} {i j : Nat} {v : Value} {x : Int32} (h : im_lk L j = some (.int x)) (hj : j ≠ i) : im_lk (im_st1 L i v) j = some (.int x) := lk_1 h hj (fun q => by cases q.2)
theorem lk_1r {L : List (Nat × Value)} {i j : Nat} {v : Value} {x : Nat} (h : im_lk L j = some (.ref x)) (hj : j ≠ i) : im_lk (im_st1 L i v) j = some (.ref x) := lk_1 h hj (fun q => by cases q.2)
theorem lk_1l {L : List (Nat × Value)} {i j : Nat} {v : Value} {x : Int64} (h : im_lk L j = some (.long x)) (hj : j ≠ i) (hc : j + 1 ≠ i) : im_lk (im_st1 L i v) j = some (.long x) := lk_1 h hj (fun q => hc q.1)
theorem lk_2i {L : List (Nat × Value)} {i j : Nat} {v : Value} {x : Int32} (h : im_lk L j = some (.int x)) (hj : j ≠ i) (hj1 : j ≠ i + 1) : im_lk (im_st2 L i v) j = some (.int x) := lk_2 h hj hj1 (fun q => by cases q.2)
theorem lk_2r {L : List (Nat × Value)} {i j : Nat} {v : Value} {x : Nat} (h : im_lk L j = some (.ref x)) (hj : j ≠ i) (hj1 : j ≠ i + 1) : im_lk (im_st2 L i v) j = some (.ref x) := lk_2 h hj hj1 (fun q => by cases q.2)
theorem lk_2l {L : List (Nat × Value)} {i j : Nat} {v : Value} {x : Int64} (h : im_lk L j = some (.long x)) (hj : j ≠ i) (hj1 : j ≠ i + 1) (hc : j + 1 ≠ i) : im_lk (im_st2 L i v) j = some (.long x) := lk_2 h hj hj1 (fun q => hc q.1)
