/-! THE NEAREST CODEWORD -/
theorem al_inj {i j : Nat} (hi : i < 255) (hj : j < 255) (h : al i = al j) : i = j := by
  have a := (lg_p ⟨i, hi⟩).1
  have b := (lg_p ⟨j, hj⟩).1
  replace a : lgN (pwN i) = i := a
  replace b : lgN (pwN j) = j := b
  have e : pwN i = pwN j := congrArg Fin.val h
  rw [e] at a
  exact a.symm.trans b
theorem hsy_sum (W : Nat → Fin 256) (k : Nat) : ∀ n, hsy W k n = zS (fun i => gx (W i) (px (al (n - 1 - i)) k)) n := by
  intro n
  induction n with
  | zero => rfl
  | succ n ih =>
    show ga (gx (hsy W k n) (al k)) (W n) = ga (zS (fun i => gx (W i) (px (al (n + 1 - 1 - i)) k)) n) (gx (W n) (px (al (n + 1 - 1 - n)) k))
    have e0 : px (al (n + 1 - 1 - n)) k = 1 := by rw [px_al, show (n + 1 - 1 - n) * k = 0 by rw [show n + 1 - 1 - n = 0 by omega, Nat.zero_mul]]; exact al_0
    rw [e0, gx_o, ih, gx_comm, zS_mul]
    congr 1
    refine zS_congr n (fun i hi => ?_)
    rw [gx_left, px_al, px_al, al_mul]
    congr 2
    rw [show n + 1 - 1 - i = (n - 1 - i) + 1 by omega, Nat.succ_mul, Nat.add_comm]
theorem hsy_congr {W V : Nat → Fin 256} {n : Nat} (h : ∀ i, i < n → W i = V i) (k : Nat) : hsy W k n = hsy V k n := by
  rw [hsy_sum, hsy_sum]
  exact zS_congr n (fun i hi => by rw [h i hi])
theorem hsy_add (W V : Nat → Fin 256) (k n : Nat) : hsy W k n = ga (hsy V k n) (zS (fun i => gx (ga (W i) (V i)) (px (al (n - 1 - i)) k)) n) := by
  rw [hsy_sum, hsy_sum, ← zS_add]
  refine zS_congr n (fun i _ => ?_)
  rw [← gx_addr, ga_left, ga_self, ga_z]
theorem nd_rf (p : Nat → Bool) (n : Nat) : ((List.range n).filter p).Nodup := List.Pairwise.filter p List.nodup_range
def wrL (W V : Nat → Fin 256) (n : Nat) : List Nat := (List.range n).filter (fun i => decide (W i ≠ V i))
theorem wr_mem {W V : Nat → Fin 256} {n i : Nat} : i ∈ wrL W V n ↔ i < n ∧ W i ≠ V i := by
  unfold wrL
  rw [List.mem_filter, List.mem_range, decide_eq_true_eq]
def CD (W : Nat → Fin 256) (n c t : Nat) (V : Nat → Fin 256) (w : Nat) : Prop := (∀ k, k < c → hsy V k n = 0) ∧ w = (wrL W V n).length ∧ w ≤ t
theorem cd_ge {W V : Nat → Fin 256} {n c : Nat} (hn : n ≤ 255) (h : ∀ k, k < c → hsy V k n = 0) : GE (fun i => al (n - 1 - i)) (wrL W V n) (fun i => ga (W i) (V i)) (syW W n) c := by
  refine ⟨nd_rf _ _, fun i hi j hj e => ?_, fun i _ => al_ne _, fun i hi z => ?_, fun k hk => ?_⟩
  · have a := (wr_mem.mp hi).1
    have b := (wr_mem.mp hj).1
    have := al_inj (by omega) (by omega) e
    omega
  · exact (wr_mem.mp hi).2 (ga_eq0 z)
  · show hsy W k n = _
    rw [hsy_add W V, h k hk, ga_0]
    refine zS_L n (fun i hi hp => ?_)
    have : W i = V i := Classical.byContradiction (fun z => by rw [decide_eq_true z] at hp; cases hp)
    rw [this, ga_self, gx_q]
theorem cnt_len (p : Nat → Bool) : ∀ n, cnt p n = ((List.range n).filter p).length := by
  intro n
  induction n with
  | zero => rfl
  | succ n ih =>
    rw [List.range_succ, List.filter_append, List.length_append, ← ih]
    show cnt p n + _ = cnt p n + _
    congr 1
    by_cases c : p n = true
    · rw [if_pos c, List.filter_cons_of_pos c]; rfl
    · rw [if_neg c, List.filter_cons_of_neg c]; rfl
theorem cnt_le {p q : Nat → Bool} : ∀ n, (∀ i, i < n → p i = true → q i = true) → cnt p n ≤ cnt q n := by
  intro n
  induction n with
  | zero => intro _; exact Nat.le_refl _
  | succ n ih =>
    intro h
    have a := ih (fun i hi => h i (by omega))
    show cnt p n + (if p n = true then 1 else 0) ≤ cnt q n + (if q n = true then 1 else 0)
    by_cases c : p n = true
    · rw [if_pos c, if_pos (h n (by omega) c)]; omega
    · rw [if_neg c]; omega
theorem cnt_congr {p q : Nat → Bool} {n : Nat} (h : ∀ i, i < n → (p i = true ↔ q i = true)) : cnt p n = cnt q n := Nat.le_antisymm (cnt_le n (fun i hi => (h i hi).mp)) (cnt_le n (fun i hi => (h i hi).mpr))
/-- two codewords near one word are one -/
theorem cd_zero {W V : Nat → Fin 256} {n c t w : Nat} (hn : n ≤ 255) (ht : t ≤ c) (hW : ∀ k, k < c → hsy W k n = 0) (h : CD W n c t V w) : w = 0 ∧ ∀ i, i < n → W i = V i := by
  have g := cd_ge (W := W) hn h.1
  have z : ∀ i, i ∈ wrL W V n → ga (W i) (V i) = 0 := by
    refine vand (fun i => al (n - 1 - i)) (wrL W V n) (fun i => ga (W i) (V i)) g.1 g.2.1 (fun r hr => ?_)
    have hr' : r < c := by have := h.2; omega
    rw [← g.2.2.2.2 r hr']
    exact hW r hr'
  have e : ∀ i, i < n → W i = V i := fun i hi => Classical.byContradiction (fun q => q (ga_eq0 (z i (wr_mem.mpr ⟨hi, q⟩))))
  refine ⟨?_, e⟩
  rw [h.2.1]
  refine List.length_eq_zero_iff.mpr (List.eq_nil_iff_forall_not_mem.mpr (fun i hi => ?_))
  obtain ⟨a, b⟩ := wr_mem.mp hi
  exact b (e i a)
theorem zI_1 {n i : Nat} (hn : n ≤ 255) : gx (al (n - 1 - i)) (zI n i) = 1 := by
  unfold zI
  rw [al_mul, show n - 1 - i + (255 - (n - 1 - i)) = 255 by omega]
  exact al_255
theorem cls_all {W V : Nat → Fin 256} {n c t w : Nat} (hn : n ≤ 255) (hc : c ≤ 30) (ht : 2 * t ≤ c) (h : CD W n c t V w) : mwOK W n c t ∧ (bmW W n c).1 = w ∧ ∀ i, i < n → mwF W n c i = V i := by
  have g := cd_ge (W := W) hn h.1
  obtain ⟨h1, h2, h3⟩ := h
  have hl : 2 * (wrL W V n).length ≤ c := by omega
  obtain ⟨b1, b2⟩ := bm_fin g hl
  replace b1 : (bmW W n c).1 = (wrL W V n).length := b1
  have b3 : (bmW W n c).2.2.2.1 = lam (fun i => al (n - 1 - i)) (wrL W V n) := funext b2
  have rt : ∀ i, i < n → (rtB (bmW W n c).2.2.2.1 n i = true ↔ i ∈ wrL W V n) := by
    intro i hi
    rw [b3]
    unfold rtB
    rw [decide_eq_true_eq]
    refine root_iff g (by omega) (fun j hj e => ?_) (zI_1 hn)
    have a := (wr_mem.mp hj).1
    have := al_inj (by omega) (by omega) e
    omega
  have sl : ∀ i, i ∈ wrL W V n → slV (bmW W n c).2.2.2.1 n i = gx (al (n - 1 - i)) (pd (fun j => ga 1 (gx (al (n - 1 - j)) (zI n i))) ((wrL W V n).erase i)) := by
    intro i hi
    rw [b3]
    unfold slV
    rw [← ev_sq (zI n i) 15]
    exact ev_slope (fun i => al (n - 1 - i)) i (z := zI n i) (by rw [zI_1 hn, ga_self]) _ hi 30 (by omega)
  have fc : ∀ i, i ∈ wrL W V n → pd (fun j => ga 1 (gx (al (n - 1 - j)) (zI n i))) ((wrL W V n).erase i) ≠ 0 := fun i hi => ge_fac g hi (zI_1 hn)
  have co : ∀ i, i ∈ wrL W V n → coV (bmW W n c).2.2.2.1 (omV (syW W n) (bmW W n c).2.2.2.1 c) n i = ga (W i) (V i) := by
    intro i hi
    unfold coV
    rw [sl i hi, forney (Om := omV (syW W n) (bmW W n c).2.2.2.1 c) (n := 30) g (by omega) (by omega) (fun k hk => ?_) (fun k hk => ?_) hi (zI_1 hn)]
    · exact forney_e (al_ne _) (fc i hi)
    · unfold omV
      rw [if_pos (by omega), b3]
    · unfold omV
      by_cases d : k < c
      · rw [if_pos d, b3]
        exact ge_rec g hk d
      · rw [if_neg d]
  have fin : ∀ i, i < n → mwF W n c i = V i := by
    intro i hi
    unfold mwF mwW
    by_cases d : i ∈ wrL W V n
    · rw [if_pos ⟨hi, (rt i hi).mpr d⟩, co i d, ga_ss]
    · rw [if_neg (fun z => d ((rt i hi).mp z.2))]
      exact Classical.byContradiction (fun q => d (wr_mem.mpr ⟨hi, q⟩))
  refine ⟨⟨by omega, fun j hj r => ?_, ?_, (flg_iff c).mpr (fun k hk => ?_)⟩, by omega, fin⟩
  · have m := (rt j hj).mp r
    rw [sl j m]
    exact gx_ne (al_ne _) (fc j m)
  · rw [b1]
    unfold wrL
    rw [← cnt_len]
    exact cnt_congr (fun i hi => by rw [rt i hi, wr_mem, decide_eq_true_eq]; exact ⟨fun z => z.2, fun z => ⟨hi, z⟩⟩)
  · rw [hsy_congr fin]
    exact h1 k hk
theorem cls_only {W : Nat → Fin 256} {n c t : Nat} (hn : n ≤ 255) (hc : c ≤ 30) (ht : 2 * t ≤ c) (h : mwOK W n c t) : CD W n c t (mwF W n c) (bmW W n c).1 := by
  obtain ⟨h1, h2, h3, h4⟩ := h
  have le : (wrL W (mwF W n c) n).length ≤ (bmW W n c).1 := by
    unfold wrL
    rw [← cnt_len, ← h3]
    refine cnt_le n (fun i hi hp => ?_)
    have hp := of_decide_eq_true hp
    refine Classical.byContradiction (fun q => hp ?_)
    unfold mwF mwW
    rw [if_neg (fun z => q z.2)]
  have cd : CD W n c t (mwF W n c) (wrL W (mwF W n c) n).length := ⟨(flg_iff c).mp h4, rfl, by omega⟩
  rw [(cls_all hn hc ht cd).2.1]
  exact cd
theorem cd_self {W : Nat → Fin 256} {N c t : Nat} (h : ∀ k, k < c → hsy W k N = 0) : CD W N c t W 0 := by
  refine ⟨h, ?_, Nat.zero_le _⟩
  unfold wrL
  rw [List.filter_eq_nil_iff.mpr (fun a _ => by simp)]
  rfl
/-- the class finds the codeword that is near enough, or says that there is none -/
theorem s_mendCD {M : im_M} {n c t : Nat} {W : Nat → Fin 256} (qp : PWL M) (hn : n ≤ 255) (hc : c ≤ 30) (ht : 2 * t ≤ c) (h12 : im_i M 43 12 = nI c) (hW : AF (im_i M 48) W n) : ed (f_HBlocks_mendWord (nI n) (nI t) M) (fun r => (∀ V w, CD W n c t V w → r.1 = nI w ∧ AF (im_i r.2 48) V n) ∧ ((¬ ∃ V w, CD W n c t V w) → r.1 = -1)) := by
  refine ed_mono (s_mendW (t := t) qp hn hc (by omega) h12 hW) ?_
  rintro ⟨x, R⟩ ⟨r1, r2, r3⟩
  by_cases cf : flg W n c = true
  · have hz := (flg_iff c).mp cf
    refine ⟨fun V w h => ?_, fun z => ?_⟩
    · obtain ⟨w0, e⟩ := cd_zero hn (by omega) hz h
      rw [w0]
      refine ⟨(r1 cf).1, fun i hi => ?_⟩
      rw [← e i hi]
      exact (r1 cf).2 i hi
    · exact absurd ⟨W, 0, cd_self hz⟩ z
  · have cf' : flg W n c = false := by cases hb : flg W n c; rfl; exact absurd hb cf
    refine ⟨fun V w h => ?_, fun z => ?_⟩
    · obtain ⟨k1, k2, k3⟩ := cls_all hn hc ht h
      obtain ⟨a1, a2⟩ := r2 cf' k1
      refine ⟨by rw [a1, k2], fun i hi => ?_⟩
      rw [a2 i hi, k3 i hi]
    · exact r3 cf' (fun k => z ⟨_, _, cls_only hn hc ht k⟩)
