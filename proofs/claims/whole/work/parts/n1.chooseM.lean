/-! THE SYMBOLS OF A ROW, CHOSEN BY THE REFERENCE -/
def SYr (M : im_M) (k : Nat) (q : Nat → Nat) : Prop := im_i M 96 8 = nI k ∧ k ≤ 200 ∧ ∀ j, j < k → im_i M 102 j = nI (q j)
theorem s_addR {M : im_M} {k c : Nat} {q : Nat → Nat} (h : SYr M k q) (hk : k < 200) : ed (f_MLineRows_add (nI c) M) (fun R => SYr R (k + 1) (app q k (fun _ => c)) ∧ fr (2 ^ 102) [(96, 8)] M R) := by
  obtain ⟨h0, h1, h2⟩ := h
  unfold f_MLineRows_add
  rw [h0, gd_pos (by rw [inb_nI (by omega)]; omega), nI_clamp (by omega), sk1 (by omega), h0]
  refine ed_mk ⟨⟨?_, by omega, fun j hj => ?_⟩, fr_F (by decide) (fr_I (by decide) fr_refl)⟩
  · rw [hit]; exact nI_add k 1
  · rw [sk1 (by omega)]
    unfold app
    by_cases e : j = k
    · subst e
      rw [hit, if_neg (by omega)]
    · rw [sk1 (fun z => e z.2), if_pos (by omega)]
      exact h2 j (by omega)
theorem s_packO {M : im_M} {t : Nat → Nat} {n i s c : Nat} (h : TX M n t) (hi : i < n) (hs : s < 2) (hc : syT t n i (1 - s) = some c) : lp (uc1 (f_MLineRows_pack_L130 (nI s) (nI i) M)) 0 = some (nI c) := by
  have e1 : (1 : Int32) - nI s = nI (1 - s) := nI_sb (a := 1) (by omega)
  have l := (syT_lt hc).2.1 (by omega)
  have run : ed (lp (uc1 (f_MLineRows_pack_L130 (nI s) (nI i) M)) 0) (fun r => r = nI c) := by
    refine lp_inv (fun m (x : Int32) => ∃ d : Nat, d + m = c ∧ x = nI d) ?_ (k := c) ⟨0, by omega, rfl⟩
    rintro m x31 ⟨d, hd, e⟩
    subst e
    show ed (f_MLineRows_pack_L130 (nI s) (nI i) M (nI d)) _
    unfold f_MLineRows_pack_L130
    have st : tel t n i (1 - s) d = (if syT t n i (1 - s) = some d then 1 else 0) := by
      unfold tel
      rw [if_neg (by omega), if_neg (show ¬ 1 - s = 2 by omega)]
    rw [e1, s_tells h hi (by omega) (by omega), bd1_s, st, hc]
    by_cases z : d = c
    · subst z
      rw [if_pos (show (some d : Option Nat) = some d from rfl), if_pos (by decide)]
      exact lpo_r rfl
    · rw [if_neg (show ¬ (some c : Option Nat) = some d from fun y => by injection y with y; exact z y.symm), if_neg (by decide)]
      exact lpo_l (m - 1) (by omega) ⟨d + 1, by omega, nI_add d 1⟩
  obtain ⟨r, hr, e⟩ := run
  rw [hr, e]
theorem LA_e {M N : im_M} {n : Nat} {t : Nat → Nat} (h : im_i N 101 = im_i M 101) (l : LA M n t) : LA N n t := by
  unfold LA at l ⊢
  rw [aM_e h, h]
  exact l
theorem s_packLoop {M : im_M} {t : Nat → Nat} {n s0 : Nat} {q0 : Nat → Nat} (h : TX M n t) (hl : LA M n t) (ha : ∀ i s, i ≤ n → s < 3 → aM M i s = FW t n i s) (hy : SYr M 1 q0) (hs : s0 < 3) : ed (lp (uc3 (f_MLineRows_pack_L60)) (nI s0, 0, M)) (fun R => ∃ j, j ≤ 129 ∧ n ≤ (itS t n (q0, 1, 0, s0) j).2.2.1 ∧ SYr R (itS t n (q0, 1, 0, s0) j).2.1 (itS t n (q0, 1, 0, s0) j).1 ∧ fr (2 ^ 102) [(96, 8)] M R) := by
  have hn := h.2.1
  have ht : ∀ i, i < n → t i ≤ 128 := fun i hi => (h.2.2 i hi).1
  have F0 := FW_2 ht (n - 0) 0 s0 rfl hs
  refine lp_inv (fun m (y : Int32 × Int32 × im_M) => ∃ (j : Nat) (q : Nat → Nat) (k i s : Nat), m = FW t n i s ∧ itS t n (q0, 1, 0, s0) j = (q, k, i, s) ∧ y.1 = nI s ∧ y.2.1 = nI i ∧ j + 1 ≤ k ∧ k + FW t n i s = 1 + FW t n 0 s0 ∧ i ≤ n ∧ s < 3 ∧ SYr y.2.2 k q ∧ fr (2 ^ 102) [(96, 8)] M y.2.2) ?_ (k := FW t n 0 s0) ⟨0, q0, 1, 0, s0, rfl, rfl, rfl, rfl, by omega, rfl, by omega, hs, hy, fr_refl⟩
  rintro m ⟨x12, x13, M14⟩ ⟨j, q, k, i, s, hm, ej, e1, e2, jk, kf, hi, hs3, hS, hf⟩
  replace e1 : x12 = nI s := e1
  replace e2 : x13 = nI i := e2
  replace hS : SYr M14 k q := hS
  replace hf : fr (2 ^ 102) [(96, 8)] M M14 := hf
  subst e1 e2
  show ed (f_MLineRows_pack_L60 (nI s) (nI i) M14) _
  unfold f_MLineRows_pack_L60
  have a101 : ∀ {R : im_M}, fr (2 ^ 102) [(96, 8)] M R → im_i R 101 = im_i M 101 := fun f => fr_c f 101 (by decide) (by decide)
  have t1 := TX_fr hf (by decide +kernel) h
  have l1 := LA_e (a101 hf) hl
  have aa : ∀ i s, i ≤ n → s < 3 → aM M14 i s = FW t n i s := by rw [aM_e (a101 hf)]; exact ha
  have le0 : (nI (FW t n i s) ≤ 0) = (FW t n i s ≤ 0) := nIl (c := 0) (by omega) (by omega)
  rw [s_leastAt l1 hn hi hs3, bd1_s, aa i s hi hs3]
  simp only [le0]
  by_cases c2 : n ≤ i
  · obtain rfl : i = n := by omega
    rw [if_pos (by rw [FW_n]; exact Nat.le_refl _)]
    refine lpo_r ⟨j, by omega, ?_, ?_, hf⟩
    · rw [ej]; exact c2
    · rw [ej]; exact hS
  · have z : i < n := by omega
    have lw := (ls_w hn ht z hs3).2.1
    have es : ∀ x : PS, pst t n (q, k, i, s) = x → itS t n (q0, 1, 0, s0) (j + 1) = x := fun x hx => by
      show pst t n (itS t n (q0, 1, 0, s0) j) = x
      rw [ej]; exact hx
    have F1 : 1 ≤ FW t n i s := by
      rcases pst_case (q := q) (k := k) hn ht z hs3 with ⟨c, _, _, _, hF, _⟩ | ⟨c, _, _, _, _, _, hF, _⟩ | ⟨_, _, _, hF, _⟩ | ⟨r, _, _, _, _, hF, _⟩ <;> omega
    rw [if_neg (by omega), s_packL t1 l1 aa z hs3, bd1_s]
    apply bd1_mk
    refine ed_mono (s_addR (c := lsT t n i s) hS (by omega)) ?_
    rintro M24 ⟨hS2, f24⟩
    have hf2 := fr_tr f24 hf
    have t2 := TX_fr hf2 (by decide +kernel) h
    rw [s_tells t2 z hs3 (by omega), bd1_s, bd1_s]
    have k98 : (nI (lsT t n i s) = 98) = (lsT t n i s = 98) := nIe (c := 98) (by omega) (by omega)
    simp only [k98]
    rcases pst_case (q := q) (k := k) hn ht z hs3 with ⟨c, hc1, hlc, hsy, hF, hle, hp⟩ | ⟨c, hc1, hlc, hs2, ns, hsy, hF, hp⟩ | ⟨hlc, ns, hm128, hF, hp⟩ | ⟨r, hr, hrs, hlc, ns, hF, hp⟩
    · have te : tel t n i s c = ech s := by
        unfold tel ech
        rw [if_neg (by omega), if_pos hsy]
      have e0 : ¬ ech s = 0 := by unfold ech; split <;> omega
      have e1 : ¬ nI (ech s) ≤ 0 := by unfold ech; split <;> decide
      rw [hlc] at hS2 ⊢
      rw [te, if_neg e0, if_neg e1, bd3_s, nI_add]
      exact lpo_l (FW t n (i + ech s) s) (by omega) ⟨j + 1, _, _, _, _, rfl, es _ hp, rfl, rfl, by omega, by omega, hle, hs3, hS2, hf2⟩
    · have te : tel t n i s 98 = 0 := by
        unfold tel
        rw [if_neg (by omega), if_neg ns]
      rw [hlc] at hS2 ⊢
      rw [te, if_pos rfl, if_pos (by decide), if_neg (fun y => y rfl), s_packO t2 z hs2 hsy, bd1_s]
      apply bd3_mk
      apply bd1_mk
      refine ed_mono (s_addR (c := c) hS2 (by omega)) ?_
      rintro M35 ⟨hS3, f35⟩
      exact ed_mk (lpo_l (FW t n (i + 1) s) (by omega) ⟨j + 1, _, _, _, _, rfl, es _ hp, rfl, nI_add i 1, by omega, by omega, by omega, hs3, hS3, fr_tr f35 hf2⟩)
    · have te : tel t n i s 102 = 1 := by unfold tel; rw [if_pos rfl, if_pos hm128]
      rw [hlc] at hS2 ⊢
      rw [te, if_neg (by decide), if_neg (by decide), bd3_s, nI_add]
      exact lpo_l (FW t n (i + 1) s) (by omega) ⟨j + 1, _, _, _, _, rfl, es _ hp, rfl, rfl, by omega, by omega, by omega, hs3, hS2, hf2⟩
    · have te : tel t n i s (101 - r) = 0 := by
        unfold tel
        rw [if_neg (by omega), if_neg ns]
      rw [hlc] at hS2 ⊢
      rw [te, if_pos rfl, if_pos (by decide), if_pos (by omega), s_goL hs3 (by omega), bd1_s, goV_of hr hrs, bd3_s]
      exact lpo_l (FW t n i r) (by omega) ⟨j + 1, _, _, _, _, rfl, es _ hp, rfl, rfl, by omega, by omega, by omega, hr, hS2, hf2⟩
