/-! LINES BY THE CLASS -/
theorem iZ_half {a : Int} (h : -1000000 ≤ a ∧ a ≤ 1000000) : ∃ m : Int, iZ a / 2 = iZ m ∧ a - 1 ≤ 2 * m ∧ 2 * m ≤ a + 1 := by
  have dm := Int.mul_tdiv_add_tmod a 2
  have rb : (a.tmod 2).natAbs < 2 := by rw [Int.natAbs_tmod]; exact Nat.mod_lt _ (by omega)
  refine ⟨a.tdiv 2, iZ_div (b := 2) (by omega) (by omega) (by omega), by omega, by omega⟩
theorem m_abs {a : Int} {M : im_M} (h : -1000000 ≤ a ∧ a ≤ 1000000) : f_Math_abs (iZ a) M = some (iZ (if 0 ≤ a then a else -a)) := by
  unfold f_Math_abs
  have : (0 ≤ iZ a) = (0 ≤ a) := iZ_le (a := 0) (by omega) (by omega)
  simp only [this]
  by_cases c : 0 ≤ a
  · rw [if_pos c, if_pos c]
  · rw [if_neg c, if_neg c, iZ_neg]
theorem s_lastNear {M : im_M} {row dx dy t p o : Int} (hrow : -20000 ≤ row ∧ row ≤ 20000) (h3 : -10000 ≤ dx ∧ dx ≤ 10000) (h4 : -10000 ≤ dy ∧ dy ≤ 10000) (h5 : 0 ≤ t ∧ t ≤ 1000) (hp : -20000 ≤ p ∧ p ≤ 20000) (ho : -20000 ≤ o ∧ o ≤ 20000) (np : nearB p row dx dy t = true) (no : nearB o row dx dy t = false) : ∃ z : Int, f_HPen_lastNear (iZ p) (iZ o) (iZ row) (iZ dx) (iZ dy) (iZ t) M = some (iZ z) ∧ nearB z row dx dy t = true ∧ ((p < o ∧ p ≤ z ∧ z < o ∧ nearB (z + 1) row dx dy t = false) ∨ (o < p ∧ z ≤ p ∧ o < z ∧ nearB (z - 1) row dx dy t = false)) := by
  have run : ed (lp (uc3 (f_HPen_lastNear_L9 (iZ row) (iZ dx) (iZ dy) (iZ t) M)) (iZ p, iZ o, 0)) (fun r => ∃ z : Int, r = iZ z ∧ nearB z row dx dy t = true ∧ ((p < o ∧ p ≤ z ∧ z < o ∧ nearB (z + 1) row dx dy t = false) ∨ (o < p ∧ z ≤ p ∧ o < z ∧ nearB (z - 1) row dx dy t = false))) := by
    have ne : p ≠ o := fun z => by rw [z, no] at np; exact absurd np (by decide)
    refine lp_inv (fun m (s : Int32 × Int32 × Int32) => ∃ a b : Int, m ≤ 16 ∧ s.1 = iZ a ∧ s.2.1 = iZ b ∧ s.2.2 = nI (16 - m) ∧ nearB a row dx dy t = true ∧ nearB b row dx dy t = false ∧ ((p < o ∧ p ≤ a ∧ a < b ∧ b ≤ o ∧ b - a ≤ ((2 ^ m : Nat) : Int)) ∨ (o < p ∧ a ≤ p ∧ b < a ∧ o ≤ b ∧ a - b ≤ ((2 ^ m : Nat) : Int)))) (Q := fun r => ∃ z : Int, r = iZ z ∧ nearB z row dx dy t = true ∧ ((p < o ∧ p ≤ z ∧ z < o ∧ nearB (z + 1) row dx dy t = false) ∨ (o < p ∧ z ≤ p ∧ o < z ∧ nearB (z - 1) row dx dy t = false))) ?_ (k := 16) ⟨p, o, Nat.le_refl _, rfl, rfl, rfl, np, no, ?_⟩
    · rintro m ⟨x6, x7, x8⟩ ⟨a, b, hm, e1, e2, e3, na, nb, hd⟩
      replace e1 : x6 = iZ a := e1
      replace e2 : x7 = iZ b := e2
      replace e3 : x8 = nI (16 - m) := e3
      subst e1 e2 e3
      show ed (f_HPen_lastNear_L9 (iZ row) (iZ dx) (iZ dy) (iZ t) M (iZ a) (iZ b) (nI (16 - m))) _
      unfold f_HPen_lastNear_L9
      have stop : (b - a ≤ 1 ∧ a - b ≤ 1) → ed (some (Sum.inr (iZ a) : (Int32 × Int32 × Int32) ⊕ Int32)) (lpo (fun m (s : Int32 × Int32 × Int32) => ∃ a b : Int, m ≤ 16 ∧ s.1 = iZ a ∧ s.2.1 = iZ b ∧ s.2.2 = nI (16 - m) ∧ nearB a row dx dy t = true ∧ nearB b row dx dy t = false ∧ ((p < o ∧ p ≤ a ∧ a < b ∧ b ≤ o ∧ b - a ≤ ((2 ^ m : Nat) : Int)) ∨ (o < p ∧ a ≤ p ∧ b < a ∧ o ≤ b ∧ a - b ≤ ((2 ^ m : Nat) : Int)))) (fun r => ∃ z : Int, r = iZ z ∧ nearB z row dx dy t = true ∧ ((p < o ∧ p ≤ z ∧ z < o ∧ nearB (z + 1) row dx dy t = false) ∨ (o < p ∧ z ≤ p ∧ o < z ∧ nearB (z - 1) row dx dy t = false))) m) := fun hz => by
        refine lpo_r ⟨a, rfl, na, ?_⟩
        rcases hd with ⟨d1, d2, d3, d4, d5⟩ | ⟨d1, d2, d3, d4, d5⟩
        · left
          refine ⟨d1, d2, by omega, ?_⟩
          rw [show a + 1 = b by omega]; exact nb
        · right
          refine ⟨d1, d2, by omega, ?_⟩
          rw [show a - 1 = b by omega]; exact nb
      have k0 : ((16 : Int32) ≤ nI (16 - m)) = (16 ≤ 16 - m) := nIl (x := 16) (by omega) (by omega)
      simp only [k0]
      by_cases c1 : 16 ≤ 16 - m
      · rw [if_pos c1]
        obtain rfl : m = 0 := by omega
        rw [show (2 ^ 0 : Nat) = 1 from rfl] at hd
        exact stop (by omega)
      · rw [if_neg c1, iZ_sub, m_abs (by omega), bd1_s]
        have k1 : (iZ (if 0 ≤ b - a then b - a else -(b - a)) ≤ 1) = ((if 0 ≤ b - a then b - a else -(b - a)) ≤ 1) := iZ_le (b := 1) (by split <;> omega) (by omega)
        simp only [k1]
        by_cases c2 : (if 0 ≤ b - a then b - a else -(b - a)) ≤ 1
        · rw [if_pos c2]
          refine stop ?_
          split at c2 <;> omega
        · have c3 : 1 < b - a ∨ 1 < a - b := by split at c2 <;> omega
          obtain ⟨md, em, m1, m2⟩ := iZ_half (a := a + b) (by omega)
          obtain ⟨n, rfl⟩ : ∃ n, m = n + 1 := ⟨m - 1, by omega⟩
          have p2 : ((2 ^ (n + 1) : Nat) : Int) = 2 * ((2 ^ n : Nat) : Int) := by rw [Nat.pow_succ]; omega
          rw [p2] at hd
          have ei : nI (16 - (n + 1)) + 1 = nI (16 - n) := by rw [show nI (16 - (n + 1)) + 1 = nI (16 - (n + 1) + 1) from nI_add _ 1]; congr 1; omega
          rw [if_neg c2, iZ_add, em, iZ_l (by omega), iZ_l (by omega), iZ_l (by omega), iZ_l (by omega), iZ_l (by omega), s_isNear (by omega) hrow h3 h4 h5, bd1_s, ei]
          cases hn : nearB md row dx dy t with
          | true =>
            rw [if_pos rfl, if_neg (by decide), if_neg (by decide)]
            refine lpo_l n (by omega) ⟨md, b, by omega, rfl, rfl, rfl, hn, nb, ?_⟩
            omega
          | false =>
            rw [if_pos (by decide), if_pos (by decide)]
            refine lpo_l n (by omega) ⟨a, md, by omega, rfl, rfl, rfl, na, hn, ?_⟩
            omega
    · rw [show (2 ^ 16 : Nat) = 65536 from rfl]
      omega
  obtain ⟨r, hr, z, rfl, hz⟩ := run
  refine ⟨z, ?_, hz⟩
  unfold f_HPen_lastNear
  rw [hr, bd1_s]
/-- the dots of a line -/
def liB (X Y dx dy t : Int) (x y : Nat) : Bool := nearB ((x : Int) - X) ((y : Int) - Y) dx dy t
theorem near_cv {p1 p2 p3 py dx dy t : Int} (ht : 0 ≤ t) (h1 : nearB p1 py dx dy t = true) (h3 : nearB p3 py dx dy t = true) (g1 : p1 ≤ p2) (g2 : p2 ≤ p3) : nearB p2 py dx dy t = true := ne_to (NE_cv ht (ne_of h1) (ne_of h3) g1 g2)
/-- a row of the line -/
theorem s_lineRow {w : Bool} {M0 M : im_M} {W H q : Nat} {D P : Nat → Nat → Bool} {wy : Int32} {X Y dx dy t row : Int} (hC : CDS w M0 M W H D P wy) (hp : PN M0 X Y q) (hrow : -9000 ≤ row ∧ row ≤ 9000) (h3 : -8192 ≤ dx ∧ dx ≤ 8192) (h4 : -8192 ≤ dy ∧ dy ≤ 8192) (h5 : 1 ≤ t ∧ t ≤ 200) (hP : ∀ x y : Nat, (y : Int) = Y + row → P x y = false) (bot : Int) (hb : row ≤ bot ∧ bot ≤ 9000) {Q : ((Int32 × im_M) ⊕ im_M) → Prop} (hQ : ∀ R : im_M, CDS w M0 R W H D (fun x y => P x y || decide ((y : Int) = Y + row ∧ nearB ((x : Int) - X) row dx dy t = true)) wy → Q (Sum.inl (iZ (row + 1), R))) : ed (f_HPen_drawLine_L47 w (iZ dx) (iZ dy) (iZ t) (iZ bot) (iZ row) M) Q := by
  have n1 : (1 : Int32) = iZ 1 := rfl
  have pk : im_i M 56 5 = iZ X ∧ im_i M 56 6 = iZ Y := ⟨(hC.2.2.2.1 56 5 (by decide) (by decide)).trans hp.1, (hC.2.2.2.1 56 6 (by decide) (by decide)).trans hp.2.1⟩
  obtain ⟨_, _, _, _, X1, X2, Y1, Y2⟩ := hp
  have mn : ∀ d : Int, -8192 ≤ d ∧ d ≤ 8192 → f_Math_min 0 (iZ d) M = some (iZ (if d < 0 then d else 0)) := fun d hd => m_min (a := 0) (by omega) (by omega)
  have mx : ∀ d : Int, -8192 ≤ d ∧ d ≤ 8192 → f_Math_max 0 (iZ d) M = some (iZ (if 0 < d then d else 0)) := fun d hd => m_max (a := 0) (by omega) (by omega)
  obtain ⟨lo, hlo⟩ : ∃ lo : Int, lo = if dy < 0 then dy else 0 := ⟨_, rfl⟩
  obtain ⟨hi, hhi⟩ : ∃ hi : Int, hi = if 0 < dy then dy else 0 := ⟨_, rfl⟩
  obtain ⟨lx, hlx⟩ : ∃ lx : Int, lx = if dx < 0 then dx else 0 := ⟨_, rfl⟩
  obtain ⟨hx, hhx⟩ : ∃ hx : Int, hx = if 0 < dx then dx else 0 := ⟨_, rfl⟩
  have lob : (dy < 0 ∧ lo = dy) ∨ (0 ≤ dy ∧ lo = 0) := by rw [hlo]; split <;> omega
  have hib : (0 < dy ∧ hi = dy) ∨ (dy ≤ 0 ∧ hi = 0) := by rw [hhi]; split <;> omega
  have lxb : (dx < 0 ∧ lx = dx) ∨ (0 ≤ dx ∧ lx = 0) := by rw [hlx]; split <;> omega
  have hxb : (0 < dx ∧ hx = dx) ∨ (dx ≤ 0 ∧ hx = 0) := by rw [hhx]; split <;> omega
  obtain ⟨L1, hL1⟩ : ∃ L1 : Int, L1 = if row < hi then row else hi := ⟨_, rfl⟩
  have L1b : (row < hi ∧ L1 = row) ∨ (hi ≤ row ∧ L1 = hi) := by rw [hL1]; split <;> omega
  obtain ⟨L, hL⟩ : ∃ L : Int, L = if lo < L1 then L1 else lo := ⟨_, rfl⟩
  have Lb : (lo < L1 ∧ L = L1) ∨ (L1 ≤ lo ∧ L = lo) := by rw [hL]; split <;> omega
  unfold f_HPen_drawLine_L47
  have k0 : (iZ bot < iZ row) = (bot < row) := iZ_lt (by omega) (by omega)
  simp only [k0]
  rw [if_neg (by omega), mn dy h4, bd1_s, ← hlo, mx dy h4, bd1_s, ← hhi, m_min (by omega) (by omega), bd1_s, ← hL1, m_max (by omega) (by omega), bd1_s, ← hL]
  -- where the search begins
  have atq : ∃ q : Int, (if ¬ iZ dy = 0 then bd1 (f_Math_floorDiv (iZ dx * iZ L) (iZ dy) M) fun (x17 : Int32) => some x17 else some 0) = some (iZ q) ∧ (lx ≤ q ∧ q ≤ hx) ∧ ((∃ px, nearB px row dx dy t = true) → nearB q row dx dy t = true ∨ nearB (q + 1) row dx dy t = true) := by
    have z : (iZ dy = 0) = (dy = 0) := iZ_eq (b := 0) (by omega) (by omega)
    simp only [z]
    by_cases c : dy = 0
    · rw [if_neg (fun u => u c)]
      refine ⟨0, rfl, by omega, ?_⟩
      rintro ⟨px, hpx⟩
      left
      have k := NE_end (L := 0) (ne_of hpx) (by omega)
      rw [Int.sub_zero] at k
      exact ne_to ⟨0, 1, by omega, by omega, by omega, by rw [Int.zero_mul, Int.zero_mul, Int.sub_zero, Int.sub_zero, Int.one_mul, Int.one_mul, Int.mul_one, Int.mul_zero, Int.zero_add]; exact k⟩
    · have pb := pm_i (x := dx) (y := L) 8192 8192 (by omega) (by omega)
      obtain ⟨q, eq, hq⟩ := s_floorDiv (M := M) (a := dx * L) (b := dy) (by omega) c (by omega)
      rw [if_pos c, iZ_mul, eq, bd1_s]
      have b := at_b (L := L) (by omega) hq
      refine ⟨q, rfl, by omega, ?_⟩
      rintro ⟨px, hpx⟩
      rcases NE_at c (by omega) hq (ne_of hpx) with h | h
      · exact Or.inl (ne_to h)
      · exact Or.inr (ne_to h)
  obtain ⟨at0, ea, ab, hat⟩ := atq
  have isn : ∀ p : Int, -20000 ≤ p ∧ p ≤ 20000 → f_HPen_isNear (Int32.toInt64 (iZ p)) (Int32.toInt64 (iZ row)) (Int32.toInt64 (iZ dx)) (Int32.toInt64 (iZ dy)) (Int32.toInt64 (iZ t)) M = some (if nearB p row dx dy t = true then 1 else 0) := fun p hp => by
    rw [iZ_l (by omega), iZ_l (by omega), iZ_l (by omega), iZ_l (by omega), iZ_l (by omega)]
    exact s_isNear hp (by omega) (by omega) (by omega) (by omega)
  rw [ea, bd1_s, isn at0 (by omega), bd1_s]
  -- the dot from which both ends are looked for
  obtain ⟨a1, ha1, e1, na1⟩ : ∃ a1 : Int, (lx ≤ a1 ∧ a1 ≤ hx + 1) ∧ (if ¬ (if nearB at0 row dx dy t = true then (1 : Int32) else 0) = 0 then iZ at0 else iZ at0 + 1) = iZ a1 ∧ ((∃ px, nearB px row dx dy t = true) → nearB a1 row dx dy t = true) := by
    cases hn : nearB at0 row dx dy t with
    | true =>
      refine ⟨at0, by omega, ?_, fun _ => hn⟩
      rw [if_pos rfl, if_pos (by decide)]
    | false =>
      refine ⟨at0 + 1, by omega, ?_, fun hx => ?_⟩
      · rw [if_neg (by decide), n1, iZ_add]
      · rcases hat hx with z | z
        · rw [hn] at z; exact absurd z (by decide)
        · exact z
  rw [e1, isn a1 (by omega), bd1_s]
  cases hn : nearB a1 row dx dy t with
  | false =>
    rw [if_pos (by decide), bd1_s, n1, iZ_add]
    refine ed_mk (hQ M (CDS_c hC (fun x y _ _ => ?_)))
    rw [decide_eq_false, Bool.or_false]
    rintro ⟨_, z⟩
    rw [na1 ⟨_, z⟩] at hn
    exact absurd hn (by decide)
  | true =>
    have far : ∀ p : Int, p < lx - t ∨ hx + t < p → nearB p row dx dy t = false := fun p hp => by
      cases hz : nearB p row dx dy t with
      | false => rfl
      | true =>
        have := NE_x (lo := lx) (hi := hx) (ne_of hz) (by omega) (by omega) (by omega) (by omega) (by omega)
        omega
    obtain ⟨l, el, nl, hl⟩ := s_lastNear (M := M) (row := row) (dx := dx) (dy := dy) (t := t) (p := a1) (o := lx - t - 1) (by omega) (by omega) (by omega) (by omega) (by omega) (by omega) hn (far _ (by omega))
    obtain ⟨r, er, nr, hr⟩ := s_lastNear (M := M) (row := row) (dx := dx) (dy := dy) (t := t) (p := a1) (o := hx + t + 1) (by omega) (by omega) (by omega) (by omega) (by omega) (by omega) hn (far _ (by omega))
    have hl' : l ≤ a1 ∧ lx - t - 1 < l ∧ nearB (l - 1) row dx dy t = false := by
      rcases hl with z | z
      · omega
      · exact ⟨z.2.1, z.2.2.1, z.2.2.2⟩
    have hr' : a1 ≤ r ∧ r < hx + t + 1 ∧ nearB (r + 1) row dx dy t = false := by
      rcases hr with z | z
      · exact ⟨z.2.1, z.2.2.1, z.2.2.2⟩
      · omega
    rw [if_pos rfl, if_neg (by decide), mn dx h3, bd1_s, ← hlx, n1, iZ_sub, iZ_sub, el, bd1_s, mx dx h3, bd1_s, ← hhx, iZ_add, iZ_add, er, bd1_s, pk.1, pk.2, iZ_add, iZ_add, iZ_add, iZ_add]
    apply bd1_mk
    apply bd1_mk
    refine ed_mono (s_box hC (by omega) (by omega) (by omega) (by omega) (fun x y _ _ hz => ?_)) (fun R hR => ed_mk (ed_mk (hQ R (CDS_c hR (fun x y _ _ => ?_)))))
    · unfold bxB at hz
      have hz := of_decide_eq_true hz
      exact hP x y (by omega)
    · congr 1
      unfold bxB
      apply decide_eq_decide.mpr
      constructor
      · rintro ⟨z1, z2, z3, z4⟩
        exact ⟨by omega, near_cv (by omega) nl nr (by omega) (by omega)⟩
      · rintro ⟨z1, z2⟩
        have y1 : l ≤ (x : Int) - X := by
          by_cases c : l ≤ (x : Int) - X
          · exact c
          · have := near_cv (p2 := l - 1) (by omega) z2 nl (by omega) (by omega)
            rw [hl'.2.2] at this
            exact absurd this (by decide)
        have y2 : (x : Int) - X ≤ r := by
          by_cases c : (x : Int) - X ≤ r
          · exact c
          · have := near_cv (p2 := r + 1) (by omega) nr z2 (by omega) (by omega)
            rw [hr'.2.2] at this
            exact absurd this (by decide)
        omega
