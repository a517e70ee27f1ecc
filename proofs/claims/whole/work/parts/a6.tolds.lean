def erI (D : Nat → Nat → Bool) (y : Nat) (n : Nat) (s : Int32) : Prop := ∃ j : Nat, j + n = 8 ∧ s = nI j ∧ ∀ x, x < 64 * j → D x y = false
theorem s_edgeRow1 {w : Bool} {M : im_M} {W H : Nat} {D : Nat → Nat → Bool} (q : DH w M W H D) {y : Nat} (hy : y < H) {a b : Int32} : ed (lp (uc1 (f_HSheet_edgeRow_L28 w a (nI y) b M)) 0) (fun r => match r with | .inl _ => ∀ x, D x y = false | .inr e => e = nI y ∧ ∃ x, D x y = true) := by
  have hW := q.1
  have d1 := q.2.2.1
  refine lp_inv (erI D y) ?_ (k := 8) ⟨0, by omega, rfl, fun x hx => absurd hx (by omega)⟩
  rintro n i ⟨j, hj, e1, e2⟩
  subst e1
  show ed (f_HSheet_edgeRow_L28 w a (nI y) b M (nI j)) _
  unfold f_HSheet_edgeRow_L28
  by_cases h8 : 8 ≤ j
  · have z : (8 : Int32) ≤ nI j := nI_le (a := 8) h8 (by omega)
    rw [if_pos z]
    refine lpo_r ?_
    intro x
    cases hd : D x y with
    | false => rfl
    | true =>
      have := d1 x y hd
      rw [e2 x (by omega)] at hd
      cases hd
  · have z : ¬ (8 : Int32) ≤ nI j := nI_ge (b := 8) (by omega) (by decide)
    have ei : nI y * 8 + nI j = nI (8 * y + j) := by rw [nI_n, nI_mul, nI_add, Nat.mul_comm]
    rw [if_neg z, ei, gd_pos (by rw [inb_nI (by omega)]; omega), nI_clamp (by omega), nI_1]
    simp only [lc_eq]
    by_cases hv0 : im_l M (sw w) (8 * y + j) = 0
    · rw [if_pos hv0]
      refine lpo_l (7 - j) (by omega) ⟨j + 1, by omega, rfl, ?_⟩
      intro x hx
      by_cases c : x < 64 * j
      · exact e2 x c
      · have hb := q.2.2.2 y j (x - 64 * j) (by omega) (by omega) (by omega)
        rw [hv0, lb_0] at hb
        have e : 64 * j + (x - 64 * j) = x := by omega
        rw [e] at hb
        exact hb.symm
    · rw [if_neg hv0]
      obtain ⟨b, hb, hbv⟩ := l_ne0 hv0
      rw [q.2.2.2 y j b (by omega) (by omega) hb] at hbv
      exact lpo_r ⟨rfl, _, hbv⟩
def erJ (D : Nat → Nat → Bool) (up : Bool) (H : Nat) (n : Nat) (s : Int32 × Int32) : Prop := ∃ i : Nat, i + n = H ∧ s.2 = nI i ∧ (i < H → s.1 = nI (pos up (H - 1) i)) ∧ ∀ c, c < i → ∀ x, D x (pos up (H - 1) c) = false
theorem pos_pos {up : Bool} {n i : Nat} (h : i ≤ n) : pos up n (pos up n i) = i := by
  cases up
  · show n - (n - i) = i
    omega
  · rfl
theorem s_edgeRow {w : Bool} {M : im_M} {W H : Nat} {D : Nat → Nat → Bool} (q : DH w M W H D) {up : Bool} : ed (f_HSheet_edgeRow w (stp up) M) (fun r => exE (!up) (fun _ b => b) D r) := by
  have hW := q.1
  have d1 := q.2.2.1
  have hH : 1 ≤ H := by omega
  unfold f_HSheet_edgeRow
  have e0 : ((if stp up ≤ 0 then (im_i M 28 1) - 1 else 0) : Int32) = nI (pos up (H - 1) 0) := by
    rw [q.2.1.2]
    cases up
    · rw [if_pos (by decide)]
      show nI H - 1 = nI (H - 1 - 0)
      have e : (1 : Int32) = iZ 1 := rfl
      rw [iZ_nI, e, iZ_sub, iZ_nI]
      congr 1
      omega
    · rw [if_neg (by decide)]
      rfl
  rw [e0]
  apply bs0_mk
  refine ed_mono (lp_inv (erJ D up H) (Q := fun (r : Unit ⊕ Int32) => match r with | .inl _ => ∀ a b, D a b = false | .inr e => exE (!up) (fun _ b => b) D e) ?_ (k := H) ⟨0, by omega, rfl, fun _ => rfl, fun c hc => absurd hc (by omega)⟩) ?_
  · rintro n ⟨a, i'⟩ ⟨i, hi, e1, e2, e3⟩
    replace e1 : i' = nI i := e1
    replace e2 : i < H → a = nI (pos up (H - 1) i) := e2
    subst e1
    show ed (f_HSheet_edgeRow_L17 w (stp up) M a (nI i)) _
    unfold f_HSheet_edgeRow_L17
    rw [q.2.1.2]
    by_cases h8 : H ≤ i
    · rw [if_pos (nI_le h8 (by omega))]
      refine lpo_r ?_
      intro x y
      cases hd : D x y with
      | false => rfl
      | true =>
        have := d1 x y hd
        have hp := pos_lt (up := up) (n := H - 1) (i := y) (by omega)
        have := e3 (pos up (H - 1) y) (by omega) x
        rw [pos_pos (by omega), hd] at this
        cases this
    · have ha := e2 (by omega)
      subst ha
      have hp := pos_lt (up := up) (n := H - 1) (i := i) (by omega)
      rw [if_neg (nI_ge (by omega) (by omega))]
      apply bs0_mk
      refine ed_mono (s_edgeRow1 q (y := pos up (H - 1) i) (by omega)) ?_
      rintro (u | e) hv
      · refine lpo_l (H - (i + 1)) (by omega) ⟨i + 1, by omega, nI_1 i, ?_, ?_⟩
        · intro h9
          exact pos_step (by omega)
        · intro c hc x
          by_cases c2 : c = i
          · subst c2
            exact hv x
          · exact e3 c (by omega) x
      · obtain ⟨rfl, x, hx⟩ := hv
        refine lpo_r (Or.inr ⟨pos up (H - 1) i, by omega, rfl, ⟨x, _, hx, rfl⟩, ?_⟩)
        intro x' y' hd
        have := d1 x' y' hd
        have hci : i ≤ pos up (H - 1) y' := by
          apply Decidable.byContradiction
          intro hc
          have := e3 (pos up (H - 1) y') (by omega) x'
          rw [pos_pos (by omega), hd] at this
          cases this
        cases up
        · have a1 : pos false (H - 1) y' = H - 1 - y' := rfl
          have a2 : pos false (H - 1) i = H - 1 - i := rfl
          show y' ≤ pos false (H - 1) i
          omega
        · have a1 : pos true (H - 1) y' = y' := rfl
          have a2 : pos true (H - 1) i = i := rfl
          show pos true (H - 1) i ≤ y'
          omega
  · rintro (u | e) hr
    · exact ed_mk (Or.inl ⟨hr, rfl⟩)
    · exact ed_mk hr
theorem s_toldM {M : im_M} {W H : Nat} {D : Nat → Nat → Bool} (q : DR M W H D) {k : Nat} (h2 : 2 ≤ k) (hk : k ≤ 6) : ed (f_MDotRows_told (nI k) M) (fun r => r.2 = im_setI M 89 0 0 ∧ if k = 6 then r.1 = nI (allB D W H) else exE (decide (4 ≤ k)) (tof k) D r.1) := by
  have q2 : DR (im_setI M 89 0 0) W H D := DR_1 (fr1_89 fr1_refl) q
  have i0 : f_MDotRows_isNot (nI k) 0 6 M = some 0 := isn0 (nI_pos (by omega)) (nI_le (b := 6) hk (by omega))
  unfold f_MDotRows_told
  rw [i0, bd1_s]
  have e0 : im_i (im_setI M 89 0 0) 89 0 = 0 := by simp [mi_I]
  rw [if_pos rfl, e0]
  have c2 : (2 : Int32) ≤ nI k := nI_le (a := 2) h2 (by omega)
  simp only [jn0, if_neg (show ¬ (0 : Int32) < 0 by decide), if_pos c2]
  apply bd2_mk
  refine ed_mono (s_toldL q2 hk) ?_
  rintro ⟨a, b⟩ ⟨h1, h3⟩
  have c6 : (nI k = 6) = (k = 6) := by
    rw [iZ_nI, iZ_n, iZ_eq (by omega) (by decide)]
    exact propext ⟨fun z => by have : (k : Int) = 6 := z; omega, fun z => by rw [z]; rfl⟩
  simp only [c6]
  by_cases c : k = 6
  · rw [if_neg (by simp [c])]
    refine ed_mk ⟨rfl, ?_⟩
    rw [if_pos c]
    exact h1
  · rw [if_pos c]
    refine ed_mk ⟨rfl, ?_⟩
    rw [if_neg c]
    exact h3
theorem s_toldH {w : Bool} {M : im_M} {W H : Nat} {D : Nat → Nat → Bool} (q : DH w M W H D) {k : Nat} (h2 : 2 ≤ k) (hk : k ≤ 6) : ed (f_H_told w (nI k) M) (fun r => if k = 6 then r = nI (allB D W H) else exE (decide (4 ≤ k)) (tof k) D r) := by
  unfold f_H_told
  rw [if_neg (nI_pos (by omega)), if_pos (show nI k ≤ 6 from nI_le (b := 6) hk (by omega))]
  rcases (by omega : k = 2 ∨ k = 3 ∨ k = 4 ∨ k = 5 ∨ k = 6) with rfl | rfl | rfl | rfl | rfl
  · rw [if_neg (by decide), if_neg (by decide), if_pos (by decide)]
    apply bd1_mk
    exact ed_mono (s_edgeColumn q (up := true)) (fun r hr => ed_mk hr)
  · rw [if_neg (by decide), if_neg (by decide), if_neg (by decide), if_pos (by decide)]
    apply bd1_mk
    exact ed_mono (s_edgeRow q (up := true)) (fun r hr => ed_mk hr)
  · rw [if_neg (by decide), if_neg (by decide), if_neg (by decide), if_neg (by decide), if_pos (by decide)]
    apply bd1_mk
    exact ed_mono (s_edgeColumn q (up := false)) (fun r hr => ed_mk hr)
  · rw [if_neg (by decide), if_neg (by decide), if_neg (by decide), if_neg (by decide), if_neg (by decide), if_pos (by decide)]
    apply bd1_mk
    exact ed_mono (s_edgeRow q (up := false)) (fun r hr => ed_mk hr)
  · rw [if_neg (by decide), if_neg (by decide), if_neg (by decide), if_neg (by decide), if_neg (by decide), if_neg (by decide), s_darkCount q, bd1_s]
    exact ed_mk rfl
theorem c_told {w : Bool} {M : im_M} {p0 : Int32} (q : RL w M) (h1 : ¬ p0 < 0) (h2 : p0 ≤ 6) : ed (f_H_told w p0 M) (fun v => ed (f_M_told p0 (im_setL M 138 0 v.toInt64)) (fun s => im_i s.2 69 0 = 0 ∧ ((0 : Int32) = 0 → im_l s.2 138 0 = Int32.toInt64 s.1) ∧ RL w s.2)) := by
  obtain ⟨W, H, D, dh, dr⟩ := QD_H q
  obtain ⟨k, rfl, hk⟩ := iz3 h1 (n := 6) h2 (by omega)
  have fin : ∀ (v : Int32) (N : im_M), N = im_setL M 138 0 v.toInt64 → RL w (im_setI (im_setI N 89 0 0) 69 0 0) ∧ im_l (im_setI (im_setI N 89 0 0) 69 0 0) 138 0 = v.toInt64 := by
    intro v N e
    subst e
    refine ⟨RL_0 (fr0_69 (fr0_tr (fr1_0 (fr1_89 fr1_refl)) (fr0_o fr0_refl))) q, ?_⟩
    simp [ml_I, ml_L]
  have tail : ∀ (v : Int32) (e : f_MDotRows_told (nI k) (im_setL M 138 0 v.toInt64) = some (v, im_setI (im_setL M 138 0 v.toInt64) 89 0 0)), ed (f_M_told (nI k) (im_setL M 138 0 v.toInt64)) (fun s => im_i s.2 69 0 = 0 ∧ ((0 : Int32) = 0 → im_l s.2 138 0 = Int32.toInt64 s.1) ∧ RL w s.2) := by
    intro v e
    unfold f_M_told f_MDotRows_thrown
    have e0 : im_i (im_setI (im_setL M 138 0 v.toInt64) 89 0 0) 89 0 = 0 := by simp [mi_I]
    rw [e, bd2_s, bd1_s, e0]
    have := fin v _ rfl
    exact ed_mk ⟨by simp [mi_I], fun _ => this.2, this.1⟩
  have dr2 : ∀ v : Int32, DR (im_setL M 138 0 v.toInt64) W H D := fun v => DR_0 (fr0_o fr0_refl) dr
  by_cases h : 2 ≤ k
  · refine ed_mono (s_toldH dh h hk) (fun v hv => ?_)
    apply tail
    obtain ⟨⟨a, N⟩, e, e1, e2⟩ := s_toldM (dr2 v) h hk
    rw [e]
    replace e1 : N = _ := e1
    subst e1
    congr 2
    by_cases c : k = 6
    · rw [if_pos c] at hv e2
      rw [hv]
      exact e2
    · rw [if_neg c] at hv e2
      exact exE_one e2 hv
  · rcases (by omega : k = 0 ∨ k = 1) with rfl | rfl
    · have e : f_H_told w (nI 0) M = some (nI W) := by
        unfold f_H_told
        rw [if_neg (by decide), if_pos (by decide), if_pos (by decide), dh.2.1.1]
      refine ⟨_, e, tail _ (e_told01 (dr2 _)).1⟩
    · have e : f_H_told w (nI 1) M = some (nI H) := by
        unfold f_H_told
        rw [if_neg (by decide), if_pos (by decide), if_neg (by decide), if_pos (by decide), dh.2.1.2]
      refine ⟨_, e, tail _ (e_told01 (dr2 _)).2⟩
theorem n_told {w : Bool} {M : im_M} {p0 : Int32} (q : RL w M) (h : ¬ (¬ p0 < 0 ∧ p0 ≤ 6)) : ed (f_M_told p0 (im_noX M)) (fun s => im_i s.2 69 0 = 1 ∧ RL w s.2) := by
  have e : f_MDotRows_told p0 (im_noX M) = some (0, im_setI (im_noX M) 89 0 1) := by
    unfold f_MDotRows_told
    rw [isn1 h, bd1_s]
    simp only [if_neg (show ¬ (1 : Int32) = 0 by decide)]
    have e0 : im_i (im_setI (im_noX M) 89 0 1) 89 0 = 1 := by simp [mi_I]
    rw [e0]
    rfl
  have e0 : im_i (im_setI (im_noX M) 89 0 1) 89 0 = 1 := by simp [mi_I]
  unfold f_M_told f_MDotRows_thrown
  rw [e, bd2_s, bd1_s, e0]
  refine ed_mk ⟨by simp [mi_I], RL_0 (fr0_69 (fr1_0 (fr1_89 fr1_refl))) q⟩
theorem x_14 : owed 14 := by
  intro L xs dep i w M P hL hi hM q hk hn hn0
  refine law_14 hL hi hM hk ?_ hn
  by_cases h : ¬ xs (i + 1) < 0 ∧ xs (i + 1) ≤ 6
  · exact wr_told hM (c_told q h.1 h.2)
  · refine wt_told_0 hM (H_told_0 (dep := dep + 23) h hM) (ed_mono (n_told q h) (fun s hs => ⟨hs.1, fun z => absurd z (by decide), hs.2⟩))
