/-! A ROW OF SYMBOLS, BY THE REFERENCE -/
theorem itS_F {t : Nat → Nat} {n s0 : Nat} {q0 : Nat → Nat} (hn : n ≤ 64) (ht : ∀ i, i < n → t i ≤ 128) (hs : s0 < 3) : ∀ j, (itS t n (q0, 1, 0, s0) j).2.2.1 ≤ n ∧ (itS t n (q0, 1, 0, s0) j).2.2.2 < 3 ∧ (itS t n (q0, 1, 0, s0) j).2.1 + FW t n (itS t n (q0, 1, 0, s0) j).2.2.1 (itS t n (q0, 1, 0, s0) j).2.2.2 = 1 + FW t n 0 s0 := by
  intro j
  induction j with
  | zero => exact ⟨Nat.zero_le _, hs, rfl⟩
  | succ j ih =>
    show (pst t n (itS t n (q0, 1, 0, s0) j)).2.2.1 ≤ n ∧ (pst t n (itS t n (q0, 1, 0, s0) j)).2.2.2 < 3 ∧ (pst t n (itS t n (q0, 1, 0, s0) j)).2.1 + FW t n (pst t n (itS t n (q0, 1, 0, s0) j)).2.2.1 (pst t n (itS t n (q0, 1, 0, s0) j)).2.2.2 = 1 + FW t n 0 s0
    generalize itS t n (q0, 1, 0, s0) j = x at ih ⊢
    obtain ⟨q, k, i, s⟩ := x
    obtain ⟨i1, i2, i3⟩ := ih
    replace i1 : i ≤ n := i1
    replace i2 : s < 3 := i2
    replace i3 : k + FW t n i s = 1 + FW t n 0 s0 := i3
    by_cases c : n ≤ i
    · have : pst t n (q, k, i, s) = (q, k, i, s) := by
        unfold pst
        exact if_pos c
      rw [this]
      exact ⟨i1, i2, i3⟩
    · rcases pst_case (q := q) (k := k) hn ht (show i < n by omega) i2 with ⟨d, hd, _, _, hF, hle, hp⟩ | ⟨d, hd, _, _, _, _, hF, hp⟩ | ⟨_, _, _, hF, hp⟩ | ⟨r, hr, _, _, _, hF, hp⟩
      · rw [hp]
        refine ⟨hle, i2, ?_⟩
        show k + 1 + FW t n (i + ech s) s = _
        omega
      · rw [hp]
        refine ⟨(show i + 1 ≤ n by omega), i2, ?_⟩
        show k + 2 + FW t n (i + 1) s = _
        omega
      · rw [hp]
        refine ⟨(show i + 1 ≤ n by omega), i2, ?_⟩
        show k + 1 + FW t n (i + 1) s = _
        omega
      · rw [hp]
        refine ⟨i1, hr, ?_⟩
        show k + 1 + FW t n i r = _
        omega
theorem rwK_b {t : Nat → Nat} {n : Nat} (hn : n ≤ 64) (ht : ∀ i, i < n → t i ≤ 128) : (rwS t n).2.1 ≤ 129 := by
  have h := (itS_F (q0 := fun _ => 103 + s0F t n) hn ht (s0_lt (t := t) (n := n)) 200).2.2
  replace h : (rwS t n).2.1 + _ = 1 + FW t n 0 (s0F t n) := h
  have := s0_128 hn ht
  omega
theorem s_pack {M : im_M} {t : Nat → Nat} {n : Nat} (h : TX M n t) : ed (f_MLineRows_pack M) (fun r => SYr r.2 (rwK t n + 1) (app (rwQ t n) (rwK t n) (fun _ => 106)) ∧ fr (2 ^ 101 ||| 2 ^ 102) [(96, 3), (96, 8)] M r.2) := by
  have hn := h.2.1
  have ht : ∀ i, i < n → t i ≤ 128 := fun i hi => (h.2.2 i hi).1
  have sl := s0_lt (t := t) (n := n)
  have kb := rwK_b hn ht
  have k1 := rwS_1 (t := t) (n := n)
  unfold f_MLineRows_pack
  have f0 : fr 0 [(96, 3)] M (im_setI M 96 3 0) := fr_F (by decide) fr_refl
  have h0 := TX_fr f0 (by decide +kernel) h
  apply bd1_mk
  refine ed_mono (s_relax h0) ?_
  rintro M1 ⟨a1, f1⟩
  have h1 := TX_fr f1 (by decide +kernel) h0
  have fb : ∀ i s, i ≤ n → s < 3 → FW t n i s ≤ 2 * 64 + 1000 := fun i s hi hs => by
    have := FW_b (t := t) (n := n) (n - i) i s rfl hs
    omega
  have ha : ∀ i s, i ≤ n → s < 3 → aM M1 i s = FW t n i s := fun i s hi hs => by
    unfold aM
    rw [a1 i s hi hs]
    exact nI_clamp (by have := fb i s hi hs; omega)
  have la : LA M1 n t := by
    refine ⟨fun i s hi hs => ?_, fun s hs => ?_⟩
    · have := fb i s hi hs
      rw [ha i s hi hs]
      exact ⟨a1 i s hi hs, by omega, Nat.le_refl _⟩
    · rw [ha n s (Nat.le_refl _) hs, FW_n]
  rw [s_startM hn ht la ha, bd1_s, show (103 : Int32) = nI 103 from rfl, nI_add]
  have f2 : fr 0 [(96, 8)] M1 (im_setI M1 96 8 0) := fr_F (by decide) fr_refl
  have y0 : SYr (im_setI M1 96 8 0) 0 (fun _ => 0) := ⟨hit, by omega, fun j hj => absurd hj (Nat.not_lt_zero _)⟩
  apply bd1_mk
  refine ed_mono (s_addR (c := 103 + s0F t n) y0 (by omega)) ?_
  rintro M10 ⟨y10, f10⟩
  have ea : app (fun _ => 0) 0 (fun _ => 103 + s0F t n) = fun _ => 103 + s0F t n := funext fun i => if_neg (Nat.not_lt_zero _)
  rw [ea] at y10
  replace y10 : SYr M10 1 (fun _ => 103 + s0F t n) := y10
  have f3 : fr (2 ^ 102) [(96, 8)] M1 M10 := fr_tr f10 (fr_mono (by decide) (by decide) f2)
  have e101 : im_i M10 101 = im_i M1 101 := fr_c f3 101 (by decide) (by decide)
  apply bd1_mk
  refine ed_mono (s_packLoop (TX_fr f3 (by decide +kernel) h1) (LA_e e101 la) (by rw [aM_e e101]; exact ha) y10 sl) ?_
  rintro M43 ⟨j, j1, j2, j3, f43⟩
  have e := rw_end (t := t) (n := n) (j := j) (by omega) j2
  replace j3 : SYr M43 (itS t n (rwZ t n) j).2.1 (itS t n (rwZ t n) j).1 := j3
  rw [e] at j3
  rw [j3.1, s_checkR j3 k1 (rwS_b hn ht), bd1_s]
  apply bd1_mk
  refine ed_mono (s_addR j3 (by omega)) ?_
  rintro M45 ⟨y45, f45⟩
  replace y45 : SYr M45 (rwK t n) (rwQ t n) := y45
  rw [show (106 : Int32) = nI 106 from rfl]
  apply bd1_mk
  refine ed_mono (s_addR y45 (by unfold rwK; omega)) ?_
  rintro M46 ⟨y46, f46⟩
  refine ed_mk ⟨y46, ?_⟩
  have g1 : fr (2 ^ 101 ||| 2 ^ 102) [(96, 3), (96, 8)] M M1 := fr_tr (fr_mono (by decide) (by simp) f1) (fr_mono (by decide) (by decide) f0)
  exact fr_tr (fr_mono (by decide) (by decide) (fr_tr f46 (fr_tr f45 (fr_tr f43 f3)))) g1
theorem s_barsRw {M : im_M} {q : Nat → Nat} {k : Nat} (h : SYr M (k + 1) (app q k (fun _ => 106))) (hk : k ≤ 130) (hq : ∀ l, l < k → q l < 106) (t97 : im_i M 97 = im_i mm_341 97) : ed (f_MLineRows_bars 1 M) (fun r => LWQ r.2 (6 * k + 7) (rwVv q k) ∧ fr (2 ^ 103) [(96, 3), (96, 10)] M r.2) := by
  obtain ⟨h0, h1, h2⟩ := h
  unfold f_MLineRows_bars
  have nmo : f_MLineRows_noModule 1 M = some 0 := by
    unfold f_MLineRows_noModule
    simp only [jn0]
    rw [if_neg (by decide), if_pos (by decide)]
  have z : ¬ nI (k + 1) = 0 := nI_z (by omega) (by omega)
  rw [nmo, bd1_s, if_pos rfl, h0, if_pos z, if_pos (show im_i (im_setI M 96 3 0) 96 3 ≤ 0 by rw [hit]; decide)]
  have f0 : fr (2 ^ 103) [(96, 3), (96, 10)] M (im_setI (im_setI M 96 3 0) 96 10 0) := fr_F (by decide) (fr_F (by decide) fr_refl)
  apply bd1_mk
  refine ed_mono (lp_inv (fun m (s : Int32 × im_M) => ∃ l : Nat, l + m = k ∧ s.1 = nI l ∧ LWQ s.2 (6 * l) (rwW q l) ∧ fr (2 ^ 103) [(96, 3), (96, 10)] M s.2) (Q := fun R => LWQ R (6 * k) (rwW q k) ∧ fr (2 ^ 103) [(96, 3), (96, 10)] M R) ?_ (k := k) ⟨0, by omega, rfl, ⟨hit, by omega, fun i hi => by omega⟩, f0⟩) ?_
  · rintro m ⟨x2, M3⟩ ⟨l, hl, e1, bl3, f3⟩
    replace e1 : x2 = nI l := e1
    replace bl3 : LWQ M3 (6 * l) (rwW q l) := bl3
    replace f3 : fr (2 ^ 103) [(96, 3), (96, 10)] M M3 := f3
    subst e1
    show ed (f_MLineRows_bars_L43 1 (nI l) M3) _
    unfold f_MLineRows_bars_L43
    rw [f3.1 96 8 (by decide) (by decide), h0, nI_m1 (by omega), Nat.add_sub_cancel, if_nIl (by omega) (by omega)]
    by_cases c : k ≤ l
    · rw [if_pos c]
      obtain rfl : l = k := by omega
      exact lpo_r ⟨bl3, f3⟩
    · have ql := hq l (by omega)
      obtain ⟨p1, p2, p3, p4⟩ := rwP_ok ql
      have e2 : app q k (fun _ => 106) l = q l := if_pos (by omega)
      rw [if_neg c, gd_pos (by rw [inb_nI (by omega)]; omega), nI_clamp (by omega), fr_c f3 102 (by decide) (by decide), h2 l (by omega), e2, gd_pos (by rw [inb_nI (by omega)]; omega), nI_clamp (by omega), fr_c f3 97 (by decide) (by decide), t97, p4, show (6 : Int32) = nI 6 from rfl]
      apply bd1_mk
      refine ed_mono (s_layL (d := 6) bl3 (by omega) (by omega) (by omega)) ?_
      rintro R ⟨bR, fR⟩
      exact lpo_l (m - 1) (by omega) ⟨l + 1, by omega, nI_add l 1, (show LWQ R (6 * (l + 1)) (rwW q (l + 1)) from bR), fr_tr (fr_mono (by decide) (by decide) fR) f3⟩
  · rintro M5 ⟨b5, f5⟩
    rw [show (2331112 : Int32) = nI 2331112 from rfl, show (7 : Int32) = nI 7 from rfl]
    apply bd1_mk
    refine ed_mono (s_layL (d := 7) b5 (by omega) (by omega) (by omega)) ?_
    rintro R ⟨bR, fR⟩
    exact ed_mk ⟨bR, fr_tr (fr_mono (by decide) (by decide) fR) f5⟩
theorem wr_tab : ∀ b : Fin 129, (if lg_cmp ((Int32.toInt64 (nI b.val) >>> (Int32.toInt64 ((8 : Int32) * 0) &&& 63) : Int64) &&& 255) 128 ≤ 0 then (0 : Int32) else 1) = 0 ∧ Int64.toInt32 ((Int32.toInt64 (nI b.val) >>> (Int32.toInt64 ((8 : Int32) * 0) &&& 63) : Int64) &&& 255) = nI b.val := by decide +kernel
theorem s_wrt1 {M : im_M} {n b : Nat} (h : im_i M 96 5 = nI n) (hn : n ≤ 64) (hb : b ≤ 128) : f_MLineRows_write 1 (Int32.toInt64 (nI b)) M = some (if n < 64 then (nI (n + 1), im_setI (im_setI (im_setI (im_setI M 96 3 0) 96 3 0) 100 n (nI b)) 96 5 (nI (n + 1))) else (-1, im_setI (im_setI M 96 3 0) 96 3 0)) := by
  obtain ⟨w1, w2⟩ := wr_tab ⟨b, by omega⟩
  replace w1 : (if lg_cmp ((Int32.toInt64 (nI b) >>> (Int32.toInt64 ((8 : Int32) * 0) &&& 63) : Int64) &&& 255) 128 ≤ 0 then (0 : Int32) else 1) = 0 := w1
  replace w2 : Int64.toInt32 ((Int32.toInt64 (nI b) >>> (Int32.toInt64 ((8 : Int32) * 0) &&& 63) : Int64) &&& 255) = nI b := w2
  unfold f_MLineRows_write
  rw [if_neg (show ¬ (1 : Int32) < 1 by decide), if_pos (show (1 : Int32) ≤ 8 by decide)]
  obtain ⟨N, hN⟩ : ∃ N, N = im_setI (im_setI M 96 3 0) 96 3 0 := ⟨_, rfl⟩
  have e1 : uc2 (f_MLineRows_write_L23 1 (Int32.toInt64 (nI b))) (0, im_setI M 96 3 0) = some (.inl (0 + 1, N)) := by
    show f_MLineRows_write_L23 1 (Int32.toInt64 (nI b)) 0 (im_setI M 96 3 0) = _
    unfold f_MLineRows_write_L23
    rw [if_neg (show ¬ (1 : Int32) ≤ 0 by decide), if_neg (fun z => z hit), w1, hN]
  have e2 : uc2 (f_MLineRows_write_L23 1 (Int32.toInt64 (nI b))) (0 + 1, N) = some (.inr N) := by
    show f_MLineRows_write_L23 1 (Int32.toInt64 (nI b)) (0 + 1) N = _
    unfold f_MLineRows_write_L23
    rw [if_pos (show (1 : Int32) ≤ 0 + 1 by decide)]
  have n5 : im_i N 96 5 = nI n := by rw [hN, sk1 (by omega), sk1 (by omega)]; exact h
  have n3 : im_i N 96 3 ≤ 0 := by rw [hN, hit]; decide
  have a1 : nI n + 1 = nI (n + 1) := nI_add n 1
  have k0 : (nI (n + 1) ≤ (64 : Int32)) = (n + 1 ≤ 64) := nIl (c := 64) (by omega) (by omega)
  rw [lp_l e1 (lp_r e2), bd1_s, if_pos n3, n5, a1]
  simp only [k0]
  rw [← hN]
  by_cases c : n < 64
  · rw [if_pos (show n + 1 ≤ 64 by omega), if_pos c]
    obtain ⟨N2, hN2⟩ : ∃ N2, N2 = im_setI (im_setI N 100 n (nI b)) 96 5 (nI (n + 1)) := ⟨_, rfl⟩
    have e3 : uc2 (f_MLineRows_write_L94 1 (Int32.toInt64 (nI b))) (0, N) = some (.inl (0 + 1, N2)) := by
      show f_MLineRows_write_L94 1 (Int32.toInt64 (nI b)) 0 N = _
      unfold f_MLineRows_write_L94
      rw [if_neg (show ¬ (1 : Int32) ≤ 0 by decide), n5, gd_pos (by rw [inb_nI (by omega)]; omega), w2, nI_clamp (by omega), sk1 (by omega), n5, a1, hN2]
    have e4 : uc2 (f_MLineRows_write_L94 1 (Int32.toInt64 (nI b))) (0 + 1, N2) = some (.inr N2) := by
      show f_MLineRows_write_L94 1 (Int32.toInt64 (nI b)) (0 + 1) N2 = _
      unfold f_MLineRows_write_L94
      rw [if_pos (show (1 : Int32) ≤ 0 + 1 by decide)]
    have n25 : im_i N2 96 5 = nI (n + 1) := by rw [hN2]; exact hit
    rw [lp_l e3 (lp_r e4), bd1_s, n25, ← hN2]
  · rw [if_neg (show ¬ n + 1 ≤ 64 by omega), if_neg c]
theorem s_draftRow {M : im_M} {k s : Nat} {B : Nat → Nat} (q : OM M k s B) (h7 : im_i M 89 7 = 0) (t97 : im_i M 97 = im_i mm_341 97) : ed (f_M_draftRow (nI k) M) (fun r => fr (2 ^ 92 ||| 2 ^ 100 ||| 2 ^ 101 ||| 2 ^ 102 ||| 2 ^ 103) [(71, 0), (89, 0), (89, 7), (96, 3), (96, 5), (96, 8), (96, 10)] M r.2 ∧ r.1 = (if rwG s B = true then 1 else 0) ∧ (rwG s B = true → DFT r.2 (6 * rwK B s + 7) (rwVv (rwQ B s) (rwK B s)))) := by
  have s200 := q.2.1
  unfold f_M_draftRow f_MLineRows_wipe
  rw [bd2_s]
  have f1 : fr 0 [(96, 3), (96, 5)] M (im_setI (im_setI M 96 3 0) 96 5 0) := fr_F (by decide) (fr_F (by decide) fr_refl)
  rw [OM_size (OM_fr f1 (by decide +kernel) q), bd2_s]
  have f2 : fr (2 ^ 100) [(71, 0), (96, 3), (96, 5)] M (im_setI (im_setI (im_setI M 96 3 0) 96 5 0) 71 0 0) := fr_F (by decide) (fr_mono (by decide) (by decide) f1)
  apply bs1_mk
  refine ed_mono (lp_inv (fun m (x : Int32 × im_M) => ∃ i : Nat, i + m = s ∧ x.1 = nI i ∧ TX x.2 i B ∧ fr (2 ^ 100) [(71, 0), (96, 3), (96, 5)] M x.2) (Q := fun (u : im_M ⊕ (Int32 × im_M)) => match u with
    | .inl N => TX N s B ∧ fr (2 ^ 100) [(71, 0), (96, 3), (96, 5)] M N
    | .inr r => rwG s B = false ∧ r.1 = 0 ∧ fr (2 ^ 100) [(71, 0), (96, 3), (96, 5)] M r.2) ?_ (k := s) ⟨0, by omega, rfl, ⟨by rw [sk1 (by omega)]; exact hit, by omega, fun i hi => absurd hi (Nat.not_lt_zero _)⟩, f2⟩) ?_
  · rintro m ⟨x6, M7⟩ ⟨i, hi, e1, tx, f7⟩
    replace e1 : x6 = nI i := e1
    replace tx : TX M7 i B := tx
    replace f7 : fr (2 ^ 100) [(71, 0), (96, 3), (96, 5)] M M7 := f7
    subst e1
    show ed (f_M_draftRow_L22 (nI k) (nI s) (nI i) M7) _
    unfold f_M_draftRow_L22
    rw [if_nIl (by omega) (by omega)]
    by_cases d : s ≤ i
    · rw [if_pos d]
      obtain rfl : i = s := by omega
      exact lpo_r ⟨tx, f7⟩
    · have q7 := OM_fr f7 (by decide +kernel) q
      have b1 := (q.2.2.2 i (by omega)).1
      have k1 : ((128 : Int32) < nI (B i)) = (128 < B i) := nIlt (x := 128) (by omega) (by omega)
      have f8 : fr (2 ^ 100) [(71, 0), (96, 3), (96, 5)] M (im_setI M7 71 0 0) := fr_F (by decide) f7
      have no : ¬ (s ≤ 64 ∧ ∀ i, i < s → B i ≤ 128) → rwG s B = false := fun z => by
        cases g : rwG s B with
        | false => rfl
        | true => exact absurd (rwG_t.mp g) z
      rw [if_neg d, OM_byte q7 (by omega), bd2_s]
      simp only [k1]
      by_cases z : 128 < B i
      · rw [if_pos z]
        exact lpo_r ⟨no (fun y => by have := y.2 i (by omega); omega), rfl, f8⟩
      · obtain ⟨t1, t2, t3⟩ := tx
        rw [if_neg z, s_wrt1 (n := i) (by rw [sk1 (by omega)]; exact t1) t2 (by omega), bd2_s]
        by_cases c : i < 64
        · rw [if_pos c, if_pos (show (0 : Int32) ≤ (nI (i + 1), im_setI (im_setI (im_setI (im_setI (im_setI M7 71 0 0) 96 3 0) 96 3 0) 100 i (nI (B i))) 96 5 (nI (i + 1))).1 from by show nI 0 ≤ nI (i + 1); rw [nIl (by omega) (by omega)]; omega)]
          refine lpo_l (m - 1) (by omega) ⟨i + 1, by omega, nI_add i 1, ⟨hit, by omega, fun j hj => ?_⟩, fr_F (by decide) (fr_I (by decide) (fr_F (by decide) (fr_F (by decide) f8)))⟩
          show B j ≤ 128 ∧ im_i (im_setI (im_setI (im_setI (im_setI (im_setI M7 71 0 0) 96 3 0) 96 3 0) 100 i (nI (B i))) 96 5 (nI (i + 1))) 100 j = nI (B j)
          rw [sk1 (by omega)]
          by_cases e : j = i
          · subst e
            exact ⟨by omega, hit⟩
          · rw [sk1 (fun y => e y.2), sk1 (by omega), sk1 (by omega), sk1 (by omega)]
            exact t3 j (by omega)
        · rw [if_neg c, if_neg (show ¬ (0 : Int32) ≤ -1 by decide)]
          exact lpo_r ⟨no (fun y => by omega), rfl, fr_F (by decide) (fr_F (by decide) f8)⟩
  · rintro (M10 | ⟨z, N⟩) hr
    · obtain ⟨tx, f10⟩ := hr
      have g : rwG s B = true := rwG_t.mpr ⟨tx.2.1, fun i hi => (tx.2.2 i hi).1⟩
      have gg := rwG_t.mp g
      have kb := rwK_b gg.1 gg.2
      show ed (bd2 (f_MLineRows_pack M10) _) _
      apply bd2_mk
      refine ed_mono (s_pack tx) ?_
      rintro ⟨x11, M11⟩ ⟨y11, f11⟩
      replace y11 : SYr M11 (rwK B s + 1) (app (rwQ B s) (rwK B s) (fun _ => 106)) := y11
      replace f11 : fr (2 ^ 101 ||| 2 ^ 102) [(96, 3), (96, 8)] M10 M11 := f11
      apply bd2_mk
      refine ed_mono (s_barsRw y11 (by unfold rwK; omega) (rwQ_b gg.1 gg.2) (by rw [fr_c f11 97 (by decide) (by decide), fr_c f10 97 (by decide) (by decide)]; exact t97)) ?_
      rintro ⟨x12, M12⟩ ⟨b12, f12⟩
      replace b12 : LWQ M12 (6 * rwK B s + 7) (rwVv (rwQ B s) (rwK B s)) := b12
      replace f12 : fr (2 ^ 103) [(96, 3), (96, 10)] M11 M12 := f12
      apply bd1_mk
      refine ed_mono (s_draftWidths b12 (rwVv_p (rwQ_b gg.1 gg.2)) (by rw [f12.1 89 7 (by decide) (by decide), f11.1 89 7 (by decide) (by decide), f10.1 89 7 (by decide) (by decide)]; exact h7)) ?_
      rintro M13 ⟨d13, f13⟩
      refine ed_mk ⟨fr_tr (fr_mono (by decide) (by decide) f13) (fr_tr (fr_mono (by decide) (by decide) f12) (fr_tr (fr_mono (by decide) (by decide) f11) (fr_mono (by decide) (by decide) f10))), ?_, fun _ => d13⟩
      rw [if_pos g]
    · obtain ⟨g, hz, f6⟩ := hr
      replace hz : z = 0 := hz
      replace f6 : fr (2 ^ 100) [(71, 0), (96, 3), (96, 5)] M N := f6
      refine ed_mk ⟨fr_mono (by decide) (by decide) f6, ?_, fun y => ?_⟩
      · rw [g]; exact hz
      · rw [g] at y; cases y
