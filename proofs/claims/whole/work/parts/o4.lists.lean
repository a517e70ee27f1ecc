/-! SEGMENTS AS ROWS OF BITS -/
def CW (v : Nat) : Nat := ((16 * v + 128) * v + 64 - (if 1 < v then (25 * (v / 7 + 2) - 10) * (v / 7 + 2) - 55 else 0) - (if 6 < v then 36 else 0)) / 8
theorem cw_c {M : im_M} (v : Fin 41) (h : 1 ≤ v.val) : f_HBlocks_codewordsOf (nI v.val) M = some (nI (CW v.val)) := by
  unfold f_HBlocks_codewordsOf
  revert v
  decide +kernel
theorem cw_r {M : im_M} (v : Fin 41) (h : 1 ≤ v.val) : f_MSquareRows_allCodewords (nI v.val) M = some (nI (CW v.val)) := by
  unfold f_MSquareRows_allCodewords
  revert v
  decide +kernel
def bcT (j : Nat) : Nat := (xa_11 (nI j)).toNatClampNeg
def ckT (j : Nat) : Nat := (xa_12 (nI j)).toNatClampNeg
theorem tb_bc : ∀ j : Fin 160, xa_11 (nI j.val) = nI (bcT j.val) ∧ xa_12 (nI j.val) = nI (ckT j.val) ∧ im_i mm_341 110 j.val = nI (bcT j.val) ∧ im_i mm_341 109 j.val = nI (ckT j.val) ∧ 1 ≤ bcT j.val ∧ bcT j.val ≤ 81 ∧ 7 ≤ ckT j.val ∧ ckT j.val ≤ 30 := by decide +kernel
def jx (v l : Nat) : Nat := 40 * l + v - 1
def HO (v l : Nat) : Nat := CW v - bcT (jx v l) * ckT (jx v l)
theorem tb_hold : ∀ (v : Fin 41) (l : Fin 4), 1 ≤ v.val → bcT (jx v.val l.val) * ckT (jx v.val l.val) ≤ CW v.val ∧ HO v.val l.val ≤ 2956 ∧ bcT (jx v.val l.val) ≤ HO v.val l.val ∧ HO v.val l.val / bcT (jx v.val l.val) + 1 + ckT (jx v.val l.val) ≤ 255 ∧ CW v.val ≤ 3706 ∧ (v.val = 40 → 1276 ≤ HO v.val l.val) := by decide +kernel
theorem ho_i {v l : Nat} (hv : 1 ≤ v ∧ v ≤ 40) : ((40 : Int32) * nI l + nI v) - 1 = nI (jx v l) := by
  unfold jx
  rw [nI_m, nI_add, nI_m1 (by omega)]
theorem jx_lt {v l : Nat} (hv : 1 ≤ v ∧ v ≤ 40) (hl : l < 4) : jx v l < 160 := by
  unfold jx
  omega
theorem s_holdsC {M : im_M} {v l : Nat} (hv : 1 ≤ v ∧ v ≤ 40) (hl : l < 4) : f_HBlocks_holds (nI v) (nI l) M = some (nI (HO v l)) := by
  have j := jx_lt hv hl
  obtain ⟨a1, a2, _⟩ := tb_bc ⟨jx v l, j⟩
  replace a1 : xa_11 (nI (jx v l)) = nI (bcT (jx v l)) := a1
  replace a2 : xa_12 (nI (jx v l)) = nI (ckT (jx v l)) := a2
  have b : bcT (jx v l) * ckT (jx v l) ≤ CW v := (tb_hold ⟨v, by omega⟩ ⟨l, hl⟩ hv.1).1
  have c : f_HBlocks_codewordsOf (nI v) M = some (nI (CW v)) := cw_c ⟨v, by omega⟩ hv.1
  unfold f_HBlocks_holds HO
  rw [c, bd1_s, ho_i hv, gd_pos (by rw [inb_nI (by omega)]; omega), gd_pos (by rw [inb_nI (by omega)]; omega), a1, a2, nI_mul, nI_sb b]
def TBR (M : im_M) : Prop := im_i M 109 = im_i mm_341 109 ∧ im_i M 110 = im_i mm_341 110
theorem TBR_fr {A : Nat} {F : List (Nat × Nat)} {M M' : im_M} (h : fr A F M M') (c : clr A F [109, 110] [] [] = true) (q : TBR M) : TBR M' := by
  unfold TBR at q ⊢
  rw [clr_a c h (a := 109) (by decide), clr_a c h (a := 110) (by decide)]
  exact q
theorem s_checkOf {M : im_M} {v l : Nat} (q : TBR M) (hv : 1 ≤ v ∧ v ≤ 40) (hl : l < 4) : f_MSquareRows_checkOf (nI v) (nI l) M = some (nI (ckT (jx v l))) := by
  have j := jx_lt hv hl
  have a : im_i mm_341 109 (jx v l) = nI (ckT (jx v l)) := (tb_bc ⟨jx v l, j⟩).2.2.2.1
  unfold f_MSquareRows_checkOf
  rw [ho_i hv, gd_pos (by rw [inb_nI (by omega)]; omega), nI_clamp (by omega), q.1, a]
theorem s_blocksOf {M : im_M} {v l : Nat} (q : TBR M) (hv : 1 ≤ v ∧ v ≤ 40) (hl : l < 4) : f_MSquareRows_blocksOf (nI v) (nI l) M = some (nI (bcT (jx v l))) := by
  have j := jx_lt hv hl
  have a : im_i mm_341 110 (jx v l) = nI (bcT (jx v l)) := (tb_bc ⟨jx v l, j⟩).2.2.1
  unfold f_MSquareRows_blocksOf
  rw [ho_i hv, gd_pos (by rw [inb_nI (by omega)]; omega), nI_clamp (by omega), q.2, a]
theorem s_holdsR {M : im_M} {v l : Nat} (q : TBR M) (hv : 1 ≤ v ∧ v ≤ 40) (hl : l < 4) : f_MSquareRows_holds (nI v) (nI l) M = some (nI (HO v l)) := by
  have b : bcT (jx v l) * ckT (jx v l) ≤ CW v := (tb_hold ⟨v, by omega⟩ ⟨l, hl⟩ hv.1).1
  have c : f_MSquareRows_allCodewords (nI v) M = some (nI (CW v)) := cw_r ⟨v, by omega⟩ hv.1
  unfold f_MSquareRows_holds HO
  rw [c, bd1_s, s_checkOf q hv hl, bd1_s, s_blocksOf q hv hl, bd1_s, nI_mul, Nat.mul_comm, nI_sb b]
def gp (v : Nat) : Nat := if v < 10 then 0 else if v < 27 then 1 else 2
theorem gp_3 {v : Nat} : gp v < 3 := by
  unfold gp
  split
  · omega
  · split <;> omega
theorem s_groupOf {M : im_M} {v : Nat} (hv : v ≤ 40) : f_HSegments_groupOf (nI v) M = some (nI (gp v)) := by
  unfold f_HSegments_groupOf gp
  have a : ((10 : Int32) ≤ nI v) = (10 ≤ v) := nIl (x := 10) (by omega) (by omega)
  have b : ((27 : Int32) ≤ nI v) = (27 ≤ v) := nIl (x := 27) (by omega) (by omega)
  simp only [a, b]
  by_cases c : 10 ≤ v
  · rw [if_pos c, if_neg (show ¬ v < 10 by omega)]
    by_cases d : 27 ≤ v
    · rw [if_pos d, if_neg (show ¬ v < 27 by omega)]; rfl
    · rw [if_neg d, if_pos (show v < 27 by omega)]; rfl
  · rw [if_neg c, if_pos (by omega)]; rfl
theorem s_rank {M : im_M} {v : Nat} (hv : v ≤ 40) : f_MSquareRows_rank (nI v) M = some (nI (gp v)) := by
  unfold f_MSquareRows_rank gp
  have a : ((10 : Int32) ≤ nI v) = (10 ≤ v) := nIl (x := 10) (by omega) (by omega)
  have b : ((27 : Int32) ≤ nI v) = (27 ≤ v) := nIl (x := 27) (by omega) (by omega)
  simp only [a, b]
  by_cases c : 10 ≤ v
  · rw [if_pos c, if_neg (show ¬ v < 10 by omega)]
    by_cases d : 27 ≤ v
    · rw [if_pos d, if_neg (show ¬ v < 27 by omega)]; rfl
    · rw [if_neg d, if_pos (show v < 27 by omega)]; rfl
  · rw [if_neg c, if_pos (by omega)]; rfl
/-- the version -/
def VR (t : Nat → Nat) (n l v : Nat) : Prop := 1 ≤ v ∧ v ≤ 40 ∧ TK t n (gp v) n 6 ≤ 8 * HO v l ∧ ∀ u, 1 ≤ u → u < v → 8 * HO u l < TK t n (gp u) n 6
theorem VR_1 {t : Nat → Nat} {n l v w : Nat} (h : VR t n l v) (k : VR t n l w) : v = w := by
  obtain ⟨a1, a2, a3, a4⟩ := h
  obtain ⟨b1, b2, b3, b4⟩ := k
  by_cases c : v < w
  · have := b4 v a1 c
    omega
  · by_cases d : w < v
    · have := a4 w b1 d
      omega
    · omega
theorem fit_40 {t : Nat → Nat} {n l : Nat} (hn : n ≤ 200) (hl : l < 4) : TK t n (gp 40) n 6 ≤ 8 * HO 40 l := by
  have a := TK_b (t := t) (n := n) (g := gp 40) gp_3 n 6 (by omega)
  have b : 1276 ≤ HO 40 l := (tb_hold ⟨40, by omega⟩ ⟨l, hl⟩ (show 1 ≤ 40 by omega)).2.2.2.2.2 rfl
  omega
/-- the parts of a segment -/
def bsM (m : Nat) : Nat := if m = 0 then 10 else 45
def vlP (m : Nat) (t : Nat → Nat) (p : Nat) : Nat → Nat
  | 0 => 0
  | k + 1 => if m = 2 then t (p + k) else vlP m t p k * bsM m + (sgN (t (p + k))).getD 0
def pbW (m k : Nat) : Nat := if m = 0 then 3 * k + 1 else if m = 1 then 5 * k + 1 else 8
def ptB (m : Nat) (t : Nat → Nat) (e : Nat) : Nat → Nat → List Bool
  | 0, _ => []
  | f + 1, p => if p < e then nB (vlP m t p (min (3 - m) (e - p))) (pbW m (min (3 - m) (e - p))) ++ ptB m t e f (p + (3 - m)) else []
def sgB (t : Nat → Nat) (g m p e : Nat) : List Bool := nB (2 ^ m) 4 ++ (nB (e - p) (cbS g m) ++ ptB m t e (e - p) p)
def plen (m k : Nat) : Nat := if m = 0 then 3 * k + (k + 2) / 3 else if m = 1 then 5 * k + (k + 1) / 2 else 8 * k
theorem ptB_l {m e : Nat} {t : Nat → Nat} (hm : m < 3) : ∀ f p, e - p ≤ f → (ptB m t e f p).length = plen m (e - p) := by
  have c : m = 0 ∨ m = 1 ∨ m = 2 := by omega
  have p0 : plen m 0 = 0 := by rcases c with rfl | rfl | rfl <;> rfl
  intro f
  induction f with
  | zero =>
    intro p hp
    rw [show e - p = 0 by omega, p0]
    rfl
  | succ f ih =>
    intro p hp
    unfold ptB
    by_cases d : p < e
    · have i := ih (p + (3 - m)) (by omega)
      rw [if_pos d, List.length_append, nB_l, i]
      unfold plen pbW
      rcases c with rfl | rfl | rfl
      · rw [if_pos rfl, if_pos rfl, if_pos rfl]; omega
      · rw [if_neg (by omega), if_pos rfl, if_neg (by omega), if_pos rfl, if_neg (by omega), if_pos rfl]; omega
      · rw [if_neg (by omega), if_neg (by omega), if_neg (by omega), if_neg (by omega), if_neg (by omega), if_neg (by omega)]; omega
    · rw [if_neg d, show e - p = 0 by omega, p0]
      rfl
theorem sgB_l {t : Nat → Nat} {g m p e : Nat} (hm : m < 3) : (sgB t g m p e).length = 4 + cbS g m + plen m (e - p) := by
  unfold sgB
  rw [List.length_append, List.length_append, nB_l, nB_l, ptB_l hm _ _ (Nat.le_refl _)]
  omega
/-- all segments that end at i or before: their bits, and where the next begins -/
def sgC (md t : Nat → Nat) (n g : Nat) : Nat → List Bool × Nat
  | 0 => ([], 0)
  | k + 1 => if k + 1 = n ∨ ¬ md (k + 1) = md (sgC md t n g k).2 then ((sgC md t n g k).1 ++ sgB t g (md (sgC md t n g k).2) (sgC md t n g k).2 (k + 1), k + 1) else sgC md t n g k
/-- what the bytes take, one after another -/
def CCs (t : Nat → Nat) (n g : Nat) : Nat → Nat
  | 0 => 0
  | i + 1 => CCs t n g i + csS g (stS t n g i) (mdS t n g i)
theorem CC_TK {t : Nat → Nat} {n g : Nat} : ∀ i, i ≤ n → CCs t n g i + TK t n g (n - i) (stS t n g i) = TK t n g n 6 := by
  intro i
  induction i with
  | zero => intro _; rw [Nat.sub_zero]; exact Nat.zero_add _
  | succ i ih =>
    intro hi
    have a := ih (by omega)
    have b : TK t n g (n - i) (stS t n g i) = csS g (stS t n g i) (mdS t n g i) + TK t n g (n - 1 - i) (stS t n g (i + 1)) := TK_s (by omega)
    show CCs t n g i + csS g (stS t n g i) (mdS t n g i) + TK t n g (n - (i + 1)) (stS t n g (i + 1)) = _
    rw [show n - (i + 1) = n - 1 - i by omega]
    omega
def stR (m k : Nat) : Nat := if m = 0 then k % 3 else if m = 1 then 3 + k % 2 else 5
theorem st_new : ∀ (g m : Fin 3) (s : Fin 7), moS s.val ≠ m.val → nxS m.val s.val = stR m.val 1 ∧ csS g.val s.val m.val = 4 + cbS g.val m.val + plen m.val 1 := by decide +kernel
theorem st_on : ∀ (g m : Fin 3) (k : Fin 6), nxS m.val (stR m.val k.val) = stR m.val (k.val + 1) ∧ moS (stR m.val k.val) = m.val ∧ csS g.val (stR m.val k.val) m.val + plen m.val k.val = plen m.val (k.val + 1) := by decide +kernel
theorem st_per {m k : Nat} : stR m k = stR m (k % 6) := by
  unfold stR
  split
  · omega
  · split
    · omega
    · rfl
theorem pl_per {m k : Nat} : plen m (k + 1) + plen m (k % 6) = plen m k + plen m (k % 6 + 1) := by
  unfold plen
  split
  · omega
  · split
    · omega
    · omega
theorem st_go {g m k : Nat} (hg : g < 3) (hm : m < 3) : nxS m (stR m k) = stR m (k + 1) ∧ moS (stR m k) = m ∧ csS g (stR m k) m + plen m k = plen m (k + 1) := by
  obtain ⟨a1, a2, a3⟩ := st_on ⟨g, hg⟩ ⟨m, hm⟩ ⟨k % 6, by omega⟩
  replace a1 : nxS m (stR m (k % 6)) = stR m (k % 6 + 1) := a1
  replace a2 : moS (stR m (k % 6)) = m := a2
  replace a3 : csS g (stR m (k % 6)) m + plen m (k % 6) = plen m (k % 6 + 1) := a3
  have e : stR m (k + 1) = stR m (k % 6 + 1) := by
    rw [st_per (k := k + 1), st_per (k := k % 6 + 1)]
    congr 1
    omega
  have p := pl_per (m := m) (k := k)
  rw [st_per (k := k), e]
  refine ⟨a1, a2, ?_⟩
  omega
theorem sg_inv {t : Nat → Nat} {n g : Nat} (hg : g < 3) : ∀ i, i ≤ n → (sgC (mdS t n g) t n g i).2 ≤ i ∧ (sgC (mdS t n g) t n g i).1.length = CCs t n g (sgC (mdS t n g) t n g i).2 ∧ ((sgC (mdS t n g) t n g i).2 = i → i < n → moS (stS t n g i) ≠ mdS t n g i) ∧ (i = n → (sgC (mdS t n g) t n g i).2 = i) ∧ ((sgC (mdS t n g) t n g i).2 < i → mdS t n g i = mdS t n g (sgC (mdS t n g) t n g i).2 ∧ (∀ j, (sgC (mdS t n g) t n g i).2 ≤ j → j < i → mdS t n g j = mdS t n g (sgC (mdS t n g) t n g i).2) ∧ stS t n g i = stR (mdS t n g (sgC (mdS t n g) t n g i).2) (i - (sgC (mdS t n g) t n g i).2) ∧ CCs t n g i = CCs t n g (sgC (mdS t n g) t n g i).2 + (4 + cbS g (mdS t n g (sgC (mdS t n g) t n g i).2) + plen (mdS t n g (sgC (mdS t n g) t n g i).2) (i - (sgC (mdS t n g) t n g i).2))) := by
  intro i
  induction i with
  | zero =>
    intro _
    refine ⟨Nat.le_refl _, rfl, fun _ _ => ?_, fun _ => rfl, fun z => absurd z (Nat.lt_irrefl _)⟩
    have := md_lt (t := t) (n := n) (g := g) (i := 0)
    show 3 ≠ mdS t n g 0
    omega
  | succ i ih =>
    intro hi
    obtain ⟨a1, a2, a3, _, a4⟩ := ih (by omega)
    have un : sgC (mdS t n g) t n g (i + 1) = if i + 1 = n ∨ ¬ mdS t n g (i + 1) = mdS t n g (sgC (mdS t n g) t n g i).2 then ((sgC (mdS t n g) t n g i).1 ++ sgB t g (mdS t n g (sgC (mdS t n g) t n g i).2) (sgC (mdS t n g) t n g i).2 (i + 1), i + 1) else sgC (mdS t n g) t n g i := rfl
    rw [un]
    generalize sgC (mdS t n g) t n g i = x at *
    obtain ⟨L, p⟩ := x
    replace a1 : p ≤ i := a1
    replace a2 : L.length = CCs t n g p := a2
    replace a3 : p = i → i < n → moS (stS t n g i) ≠ mdS t n g i := a3
    replace a4 : p < i → mdS t n g i = mdS t n g p ∧ (∀ j, p ≤ j → j < i → mdS t n g j = mdS t n g p) ∧ stS t n g i = stR (mdS t n g p) (i - p) ∧ CCs t n g i = CCs t n g p + (4 + cbS g (mdS t n g p) + plen (mdS t n g p) (i - p)) := a4
    have mp := md_lt (t := t) (n := n) (g := g) (i := p)
    -- the run to i + 1
    have run : (∀ j, p ≤ j → j < i + 1 → mdS t n g j = mdS t n g p) ∧ stS t n g (i + 1) = stR (mdS t n g p) (i + 1 - p) ∧ CCs t n g (i + 1) = CCs t n g p + (4 + cbS g (mdS t n g p) + plen (mdS t n g p) (i + 1 - p)) := by
      by_cases c : p = i
      · subst c
        obtain ⟨b1, b2⟩ := st_new ⟨g, hg⟩ ⟨mdS t n g p, mp⟩ ⟨stS t n g p, st_lt p⟩ (a3 rfl (by omega))
        rw [show p + 1 - p = 1 by omega]
        refine ⟨fun j h1 h2 => by rw [show j = p by omega], b1, ?_⟩
        show CCs t n g p + csS g (stS t n g p) (mdS t n g p) = _
        rw [show csS g (stS t n g p) (mdS t n g p) = 4 + cbS g (mdS t n g p) + plen (mdS t n g p) 1 from b2]
      · obtain ⟨c1, c2, c3, c4⟩ := a4 (by omega)
        obtain ⟨b1, _, b3⟩ := st_go (g := g) (m := mdS t n g p) (k := i - p) hg mp
        rw [show i + 1 - p = i - p + 1 by omega]
        refine ⟨fun j h1 h2 => ?_, ?_, ?_⟩
        · by_cases d : j = i
          · rw [d]; exact c1
          · exact c2 j h1 (by omega)
        · show nxS (mdS t n g i) (stS t n g i) = _
          rw [c1, c3]
          exact b1
        · show CCs t n g i + csS g (stS t n g i) (mdS t n g i) = _
          rw [c1, c3, c4]
          omega
    obtain ⟨r1, r2, r3⟩ := run
    by_cases c : i + 1 = n ∨ ¬ mdS t n g (i + 1) = mdS t n g p
    · rw [if_pos c]
      refine ⟨Nat.le_refl _, ?_, fun _ z => ?_, fun _ => rfl, fun z => absurd z (Nat.lt_irrefl _)⟩
      · show (L ++ sgB t g (mdS t n g p) p (i + 1)).length = CCs t n g (i + 1)
        rw [List.length_append, sgB_l mp, a2, r3]
      · have d : ¬ mdS t n g (i + 1) = mdS t n g p := by
          rcases c with c | c
          · omega
          · exact c
        rw [r2, (st_go (g := g) (k := i + 1 - p) hg mp).2.1]
        exact fun y => d y.symm
    · rw [if_neg c]
      have d : mdS t n g (i + 1) = mdS t n g p := Decidable.byContradiction fun z => c (Or.inr z)
      refine ⟨(show p ≤ i + 1 by omega), a2, fun z => absurd z (show ¬ p = i + 1 by omega), fun z => absurd z (fun y => c (Or.inl y)), fun _ => ⟨d, r1, r2, r3⟩⟩
theorem sg_len {t : Nat → Nat} {n g : Nat} (hg : g < 3) : (sgC (mdS t n g) t n g n).1.length = TK t n g n 6 := by
  obtain ⟨_, a2, _, a4, _⟩ := sg_inv (t := t) (n := n) hg n (Nat.le_refl _)
  rw [a2, a4 rfl]
  have := CC_TK (t := t) (n := n) (g := g) n (Nat.le_refl _)
  rw [Nat.sub_self] at this
  exact this
/-- lengths only grow -/
theorem sg_mono {md t : Nat → Nat} {n g : Nat} : ∀ d i, (sgC md t n g i).1.length ≤ (sgC md t n g (i + d)).1.length := by
  intro d
  induction d with
  | zero => intro i; exact Nat.le_refl _
  | succ d ih =>
    intro i
    refine Nat.le_trans (ih i) ?_
    show _ ≤ (if i + d + 1 = n ∨ ¬ md (i + d + 1) = md (sgC md t n g (i + d)).2 then ((sgC md t n g (i + d)).1 ++ sgB t g (md (sgC md t n g (i + d)).2) (sgC md t n g (i + d)).2 (i + d + 1), i + d + 1) else sgC md t n g (i + d)).1.length
    generalize sgC md t n g (i + d) = x
    split
    · show _ ≤ (x.1 ++ _).length
      rw [List.length_append]
      omega
    · exact Nat.le_refl _
/-- what is written at last: the bits, the four 0, the two bytes that fill -/
def aP (c h : Nat) : Nat := (min (c + 4) (8 * h) + 7) / 8
def DTb (L : List Bool) (h i : Nat) : Nat := if i < aP L.length h then byL L i else if (i - aP L.length h) % 2 = 0 then 236 else 17
theorem DTb_lt {L : List Bool} {h i : Nat} : DTb L h i < 256 := by
  unfold DTb
  split
  · exact byL_lt
  · split <;> omega
