/-! ROWS OF TEXTS: THE FEWEST SYMBOLS, BY THE CLASS -/
/-- the symbol of the sign at i in the set s -/
def syT (t : Nat → Nat) (n i s : Nat) : Option Nat := if s = 2 then (if 48 ≤ t i ∧ t i ≤ 57 ∧ i + 1 < n ∧ 48 ≤ t (i + 1) ∧ t (i + 1) ≤ 57 then some (10 * (t i - 48) + (t (i + 1) - 48)) else none) else if t i < 32 then (if s = 0 then some (t i + 64) else none) else if t i < (if s = 0 then 96 else 128) then some (t i - 32) else none
theorem syT_lt {t : Nat → Nat} {n i s c : Nat} (h : syT t n i s = some c) : c < 100 ∧ (s ≠ 2 → c < 96) ∧ (s = 2 → i + 1 < n) ∧ t i < 128 := by
  unfold syT at h
  by_cases s2 : s = 2
  · rw [if_pos s2] at h
    by_cases q : 48 ≤ t i ∧ t i ≤ 57 ∧ i + 1 < n ∧ 48 ≤ t (i + 1) ∧ t (i + 1) ≤ 57
    · rw [if_pos q] at h
      injection h with h
      omega
    · rw [if_neg q] at h; cases h
  · rw [if_neg s2] at h
    by_cases a : t i < 32
    · rw [if_pos a] at h
      by_cases b : s = 0
      · rw [if_pos b] at h
        injection h with h
        omega
      · rw [if_neg b] at h; cases h
    · rw [if_neg a] at h
      by_cases b : s = 0
      · rw [if_pos b] at h
        by_cases d : t i < 96
        · rw [if_pos d] at h
          injection h with h
          omega
        · rw [if_neg d] at h; cases h
      · rw [if_neg b] at h
        by_cases d : t i < 128
        · rw [if_pos d] at h
          injection h with h
          omega
        · rw [if_neg d] at h; cases h
def SG (M : im_M) (n : Nat) (t : Nat → Nat) : Prop := im_i M 31 6 = nI n ∧ n ≤ 64 ∧ ∀ i, i < n → t i ≤ 128 ∧ im_i M 34 i = nI (t i)
theorem SG_fr {A : Nat} {F : List (Nat × Nat)} {M M' : im_M} {n : Nat} {t : Nat → Nat} (h : fr A F M M') (c : clr A F [34] [(31, 6)] [] = true) (q : SG M n t) : SG M' n t := by
  unfold SG at q ⊢
  rw [clr_a c h (a := 34) (by decide), clr_f c h (a := 31) (k := 6) (by decide)]
  exact q
theorem s_symbolFor {M : im_M} {t : Nat → Nat} {n i s : Nat} (h : SG M n t) (hi : i < n) (hs : s < 3) : f_HBars_symbolFor (nI i) (nI s) M = some (oI (syT t n i s)) := by
  obtain ⟨h0, h1, h2⟩ := h
  have ti := h2 i hi
  have k2 : (nI s = 2) = (s = 2) := nIe (c := 2) (by omega) (by omega)
  have k0 : (nI s = 0) = (s = 0) := nIe (c := 0) (by omega) (by omega)
  unfold f_HBars_symbolFor syT
  rw [gd_pos (by rw [inb_nI (by omega)]; omega), nI_clamp (by omega), ti.2, h0]
  simp only [k2, k0]
  by_cases s2 : s = 2
  · rw [if_neg (fun z => z s2), if_pos s2, show nI i + 1 = nI (i + 1) from nI_add i 1, if_nIl (by omega) (by omega)]
    have z0 : (0 : Int32) = iZ 0 := rfl
    have n9 : (9 : Int32) = iZ 9 := rfl
    have e1 : nI (t i) - 48 = iZ ((t i : Int) - 48) := by rw [iZ_nI, show (48 : Int32) = iZ 48 from rfl, iZ_sub]
    have a1 : (iZ ((t i : Int) - 48) < 0) = ((t i : Int) - 48 < 0) := iZ_lt (b := 0) (by omega) (by omega)
    have a2 : (9 < iZ ((t i : Int) - 48)) = (9 < (t i : Int) - 48) := iZ_lt (a := 9) (by omega) (by omega)
    rw [e1]
    by_cases c : n ≤ i + 1
    · rw [if_pos c, bd1_s, if_neg (show ¬ (48 ≤ t i ∧ t i ≤ 57 ∧ i + 1 < n ∧ 48 ≤ t (i + 1) ∧ t (i + 1) ≤ 57) by omega)]
      simp only [a1, a2]
      by_cases d1 : (t i : Int) - 48 < 0
      · rw [if_pos d1]; rfl
      · rw [if_neg d1]
        by_cases d2 : 9 < (t i : Int) - 48
        · rw [if_pos d2]; rfl
        · rw [if_neg d2, if_pos (by decide)]; rfl
    · have tj := h2 (i + 1) (by omega)
      have e2 : nI (t (i + 1)) - 48 = iZ ((t (i + 1) : Int) - 48) := by rw [iZ_nI, show (48 : Int32) = iZ 48 from rfl, iZ_sub]
      have a3 : (iZ ((t (i + 1) : Int) - 48) < 0) = ((t (i + 1) : Int) - 48 < 0) := iZ_lt (b := 0) (by omega) (by omega)
      have a4 : (9 < iZ ((t (i + 1) : Int) - 48)) = (9 < (t (i + 1) : Int) - 48) := iZ_lt (a := 9) (by omega) (by omega)
      rw [if_neg c, gd_pos (by rw [inb_nI (by omega)]; omega), nI_clamp (by omega), tj.2, e2, bd1_s]
      simp only [a1, a2, a3, a4]
      by_cases q : 48 ≤ t i ∧ t i ≤ 57 ∧ i + 1 < n ∧ 48 ≤ t (i + 1) ∧ t (i + 1) ≤ 57
      · rw [if_neg (by omega), if_neg (by omega), if_neg (by omega), if_neg (by omega), if_pos q, show (10 : Int32) = iZ 10 from rfl, iZ_mul, iZ_add]
        show some (iZ _) = some (nI _)
        rw [iZ_nI]
        congr 2
        omega
      · rw [if_neg q]
        by_cases d1 : (t i : Int) - 48 < 0
        · rw [if_pos d1]; rfl
        · rw [if_neg d1]
          by_cases d2 : 9 < (t i : Int) - 48
          · rw [if_pos d2]; rfl
          · rw [if_neg d2]
            by_cases d3 : (t (i + 1) : Int) - 48 < 0
            · rw [if_pos d3]; rfl
            · rw [if_neg d3, if_pos (by omega)]; rfl
  · rw [if_pos s2, if_neg s2]
    have l1 : ((32 : Int32) ≤ nI (t i)) = (32 ≤ t i) := nIl (x := 32) (by omega) (by omega)
    have l2 : ((if ¬ s = 0 then (128 : Int32) else 96) ≤ nI (t i)) = ((if s = 0 then 96 else 128) ≤ t i) := by
      by_cases z : s = 0
      · rw [if_neg (fun u => u z), if_pos z]; exact nIl (x := 96) (by omega) (by omega)
      · rw [if_pos z, if_neg z]; exact nIl (x := 128) (by omega) (by omega)
    simp only [l1, l2]
    by_cases a : t i < 32
    · rw [if_neg (by omega), if_pos a]
      by_cases b : s = 0
      · rw [if_neg (fun z => z b), if_pos b]
        exact congrArg some (nI_add (t i) 64)
      · rw [if_pos b, if_neg b]; rfl
    · rw [if_pos (by omega), if_neg a]
      by_cases b : t i < (if s = 0 then 96 else 128)
      · rw [if_neg (by omega), if_pos b]
        exact congrArg some (nI_sb (a := t i) (b := 32) (by omega))
      · rw [if_pos (by omega), if_neg b]; rfl
def byV (t : Nat → Nat) (n i s : Nat) (a b : Nat → Nat) : Nat := if t i = 128 then 1 + a s else min (if (syT t n i s).isSome = true then 1 + (if s = 2 then b s else a s) else 1000) (if ¬ s = 2 ∧ (syT t n i (1 - s)).isSome = true then 2 + a s else 1000)
def stepF (x : Nat → Nat) (s : Nat) : Nat := if s = 0 then min (x 0) (1 + min (x 1) (x 2)) else if s = 1 then min (x 1) (1 + min (x 0) (x 2)) else min (x 2) (1 + min (x 0) (x 1))
def FWp (t : Nat → Nat) (n : Nat) : Nat → (Nat → Nat) × (Nat → Nat)
  | 0 => (fun _ => 0, fun _ => 0)
  | m + 1 => (stepF (fun s => byV t n (n - (m + 1)) s (FWp t n m).1 (FWp t n m).2), (FWp t n m).1)
/-- the fewest symbols from sign i on, in the set s -/
def FW (t : Nat → Nat) (n i s : Nat) : Nat := (FWp t n (n - i)).1 s
theorem FW_n {t : Nat → Nat} {n s : Nat} : FW t n n s = 0 := by
  unfold FW
  rw [Nat.sub_self]
  rfl
theorem FW_s {t : Nat → Nat} {n i s : Nat} (hi : i < n) : FW t n i s = stepF (fun s => byV t n i s (FW t n (i + 1)) (FW t n (i + 2))) s := by
  obtain ⟨m, hm⟩ : ∃ m, n - i = m + 1 := ⟨n - i - 1, by omega⟩
  have e0 : n - (m + 1) = i := by omega
  have e1 : FW t n (i + 1) = (FWp t n m).1 := by
    funext s
    unfold FW
    rw [show n - (i + 1) = m by omega]
  have e2 : FW t n (i + 2) = (FWp t n m).2 := by
    funext s
    unfold FW
    cases m with
    | zero => rw [show n - (i + 2) = 0 by omega]; rfl
    | succ m => rw [show n - (i + 2) = m by omega]; rfl
  rw [e1, e2]
  unfold FW
  rw [hm]
  show stepF (fun s => byV t n (n - (m + 1)) s (FWp t n m).1 (FWp t n m).2) s = _
  rw [e0]
theorem byV_b {t : Nat → Nat} {n i s B : Nat} {a b : Nat → Nat} (ha : a s ≤ B) (hb : b s ≤ B) (hB : 1000 ≤ B) : byV t n i s a b ≤ B + 2 := by
  unfold byV
  split
  · omega
  · refine Nat.le_trans (Nat.min_le_left _ _) ?_
    split
    · split <;> omega
    · omega
theorem FW_b {t : Nat → Nat} {n : Nat} : ∀ m i s, n - i = m → s < 3 → FW t n i s ≤ 1000 + 2 * m := by
  intro m
  induction m using Nat.strongRecOn with
  | ind m ih =>
    intro i s hm hs
    by_cases c : i < n
    · have by2 : ∀ s, s < 3 → byV t n i s (FW t n (i + 1)) (FW t n (i + 2)) ≤ 1000 + 2 * (m - 1) + 2 := fun s hs => byV_b (ih (m - 1) (by omega) (i + 1) s (by omega) hs) (by
        by_cases d : m - 2 < m
        · exact Nat.le_trans (ih (n - (i + 2)) (by omega) (i + 2) s rfl hs) (by omega)
        · omega) (by omega)
      have b0 := by2 0 (by omega)
      have b1 := by2 1 (by omega)
      have b2 := by2 2 (by omega)
      rw [FW_s c]
      unfold stepF
      split
      · exact Nat.le_trans (Nat.min_le_left _ _) (Nat.le_trans b0 (by omega))
      · split
        · exact Nat.le_trans (Nat.min_le_left _ _) (Nat.le_trans b1 (by omega))
        · exact Nat.le_trans (Nat.min_le_left _ _) (Nat.le_trans b2 (by omega))
    · unfold FW
      rw [show n - i = 0 by omega]
      exact Nat.zero_le _
def CFW (M : im_M) (n : Nat) (t : Nat → Nat) (k : Nat) : Prop := ∀ i s, k ≤ i → i ≤ n → s < 3 → im_i M 35 (3 * i + s) = nI (FW t n i s)
theorem m_minN {a b : Nat} {M : im_M} (ha : a < 2147483648) (hb : b < 2147483648) : f_Math_min (nI a) (nI b) M = some (nI (min a b)) := by
  unfold f_Math_min
  rw [if_nIlt hb ha]
  by_cases c : b < a
  · rw [if_pos c, Nat.min_eq_right (by omega)]
  · rw [if_neg c, Nat.min_eq_left (by omega)]
theorem oI_m1 {o : Option Nat} (h : ∀ c, o = some c → c < 1000) : (oI o = -1) = (o.isSome = false) := by
  cases o with
  | none => exact propext ⟨fun _ => rfl, fun _ => rfl⟩
  | some c => exact propext ⟨fun z => absurd z (nI_nm1 (by have := h c rfl; omega)), fun z => by cases z⟩
theorem s_straight {M : im_M} {t : Nat → Nat} {n i s : Nat} (h : SG M n t) (hc : CFW M n t (i + 1)) (hi : i < n) (hs : s < 3) : f_HBars_straight (nI i) (nI s) M = some (nI (if (syT t n i s).isSome = true then 1 + (if s = 2 then FW t n (i + 2) s else FW t n (i + 1) s) else 1000)) := by
  have n64 := h.2.1
  have k2 : (nI s = 2) = (s = 2) := nIe (c := 2) (by omega) (by omega)
  unfold f_HBars_straight f_HBars_signsEach
  rw [s_symbolFor h hi hs, bd1_s]
  have om : (oI (syT t n i s) = -1) = ((syT t n i s).isSome = false) := oI_m1 (fun c hc => by have := (syT_lt hc).1; omega)
  simp only [om, k2]
  cases e : syT t n i s with
  | none => rfl
  | some c =>
    have l := syT_lt e
    rw [if_pos (by simp), if_pos (show (some c).isSome = true from rfl)]
    by_cases s2 : s = 2
    · have := l.2.2.1 s2
      have ei : (3 : Int32) * (nI i + 2) + nI s = nI (3 * (i + 2) + s) := by rw [show nI i + 2 = nI (i + 2) from nI_add i 2, nI_m, nI_add]
      rw [if_neg (fun z => z s2), bd1_s, if_pos s2, ei, gd_pos (by rw [inb_nI (by omega)]; omega), nI_clamp (by omega), hc (i + 2) s (by omega) (by omega) hs]
      exact congrArg some (nI_add 1 _)
    · have ei : (3 : Int32) * (nI i + 1) + nI s = nI (3 * (i + 1) + s) := by rw [show nI i + 1 = nI (i + 1) from nI_add i 1, nI_m, nI_add]
      rw [if_pos s2, bd1_s, if_neg s2, ei, gd_pos (by rw [inb_nI (by omega)]; omega), nI_clamp (by omega), hc (i + 1) s (by omega) (by omega) hs]
      exact congrArg some (nI_add 1 _)
theorem s_shifted {M : im_M} {t : Nat → Nat} {n i s : Nat} (h : SG M n t) (hc : CFW M n t (i + 1)) (hi : i < n) (hs : s < 3) : f_HBars_shifted (nI i) (nI s) M = some (nI (if ¬ s = 2 ∧ (syT t n i (1 - s)).isSome = true then 2 + FW t n (i + 1) s else 1000)) := by
  have n64 := h.2.1
  have k2 : (nI s = 2) = (s = 2) := nIe (c := 2) (by omega) (by omega)
  unfold f_HBars_shifted
  simp only [jn0, k2]
  by_cases s2 : s = 2
  · rw [if_pos s2, if_neg (fun z => z.1 s2)]; rfl
  · have e1 : (1 : Int32) - nI s = nI (1 - s) := nI_sb (a := 1) (by omega)
    rw [if_neg s2, e1, s_symbolFor h hi (by omega), bd1_s]
    have om : (oI (syT t n i (1 - s)) = -1) = ((syT t n i (1 - s)).isSome = false) := oI_m1 (fun c hc => by have := (syT_lt hc).1; omega)
    simp only [om]
    cases e : (syT t n i (1 - s)).isSome with
    | false => rw [if_neg (by decide), if_neg (fun z => absurd z.2 (by decide))]; rfl
    | true =>
      have ei : (3 : Int32) * (nI i + 1) + nI s = nI (3 * (i + 1) + s) := by rw [show nI i + 1 = nI (i + 1) from nI_add i 1, nI_m, nI_add]
      rw [if_pos (by decide), if_pos ⟨s2, rfl⟩, ei, gd_pos (by rw [inb_nI (by omega)]; omega), nI_clamp (by omega), hc (i + 1) s (by omega) (by omega) hs]
      exact congrArg some (nI_add 2 _)
theorem s_bySign {M : im_M} {t : Nat → Nat} {n i s : Nat} (h : SG M n t) (hc : CFW M n t (i + 1)) (hi : i < n) (hs : s < 3) : f_HBars_fewestBySign (nI i) (nI s) M = some (nI (byV t n i s (FW t n (i + 1)) (FW t n (i + 2)))) := by
  have n64 := h.2.1
  have ti := h.2.2 i hi
  have b1 := FW_b (t := t) (n := n) (n - (i + 1)) (i + 1) s rfl hs
  have b2 := FW_b (t := t) (n := n) (n - (i + 2)) (i + 2) s rfl hs
  unfold f_HBars_fewestBySign byV
  have k0 : (nI (t i) = 128) = (t i = 128) := nIe (c := 128) (by omega) (by omega)
  rw [gd_pos (by rw [inb_nI (by omega)]; omega), nI_clamp (by omega), ti.2]
  simp only [k0]
  by_cases c : t i = 128
  · have ei : (3 : Int32) * (nI i + 1) + nI s = nI (3 * (i + 1) + s) := by rw [show nI i + 1 = nI (i + 1) from nI_add i 1, nI_m, nI_add]
    rw [if_neg (fun z => z c), if_pos c, ei, gd_pos (by rw [inb_nI (by omega)]; omega), nI_clamp (by omega), hc (i + 1) s (by omega) (by omega) hs]
    exact congrArg some (nI_add 1 _)
  · have g1 : (if (syT t n i s).isSome = true then 1 + (if s = 2 then FW t n (i + 2) s else FW t n (i + 1) s) else 1000) < 2147483648 := by
      split
      · split <;> omega
      · omega
    have g2 : (if ¬ s = 2 ∧ (syT t n i (1 - s)).isSome = true then 2 + FW t n (i + 1) s else 1000) < 2147483648 := by split <;> omega
    rw [if_pos c, if_neg c, s_straight h hc hi hs, bd1_s, s_shifted h hc hi hs, bd1_s, m_minN g1 g2, bd1_s]
