/-! WHAT WRONG PLACES AND THEIR VALUES DO TO THE SYNDROMES -/
def GE (X : Nat → Fin 256) (E : List Nat) (e S : Nat → Fin 256) (c : Nat) : Prop := E.Nodup ∧ (∀ i, i ∈ E → ∀ j, j ∈ E → X i = X j → i = j) ∧ (∀ i, i ∈ E → X i ≠ 0) ∧ (∀ i, i ∈ E → e i ≠ 0) ∧ ∀ k, k < c → S k = sL (fun i => gx (e i) (px (X i) k)) E
theorem ge_cv {X e S : Nat → Fin 256} {E : List Nat} {c m : Nat} (h : GE X E e S c) (hm : m < c) : cv (lam X E) S m = sL (fun i => gx (e i) (lam X (E.erase i) m)) E := by
  rw [cv_congr (P' := lam X E) (fun _ _ => rfl) (fun j hj => h.2.2.2.2 j (by omega)), cv_sL (lam X E) e (fun i => px (X i))]
  exact sL_congr E (fun i hi => by rw [cv_erase X i E hi])
theorem ge_rec {X e S : Nat → Fin 256} {E : List Nat} {c m : Nat} (h : GE X E e S c) (h1 : E.length ≤ m) (hm : m < c) : cv (lam X E) S m = 0 := by
  rw [ge_cv h hm]
  refine sL_0 E (fun i hi => ?_)
  have l := List.length_pos_of_mem hi
  rw [lam_hi X _ m (by rw [List.length_erase_of_mem hi]; omega), gx_z]
theorem ge_hank {X e S : Nat → Fin 256} {E : List Nat} {c : Nat} (h : GE X E e S c) (hc : 2 * E.length ≤ c) (v : Nat → Fin 256) (hv : ∀ r, r < E.length → zS (fun j => gx (v j) (S (E.length + r - 1 - j))) E.length = 0) : ∀ j, j < E.length → v j = 0 := by
  have h1 : ∀ i, i ∈ E → gx (e i) (ev E.length (fun k => v (E.length - 1 - k)) (X i)) = 0 := by
    refine vand X E (fun i => gx (e i) (ev E.length (fun k => v (E.length - 1 - k)) (X i))) h.1 h.2.1 (fun r hr => ?_)
    rw [← hv r hr, zS_congr (g := fun j => sL (fun i => gx (v j) (gx (e i) (px (X i) (E.length + r - 1 - j)))) E) E.length (fun j hj => by rw [h.2.2.2.2 (E.length + r - 1 - j) (by omega), sL_mul]), ← sL_F (fun i j => gx (v j) (gx (e i) (px (X i) (E.length + r - 1 - j))))]
    refine sL_congr E (fun i hi => ?_)
    rw [ev_F, zS_rev (fun j => gx (v j) (gx (e i) (px (X i) (E.length + r - 1 - j)))), gx_comm, zS_mul, zS_mul]
    refine zS_congr _ (fun k hk => ?_)
    show gx (px (X i) r) (gx (e i) (gx (v (E.length - 1 - k)) (px (X i) k))) = gx (v (E.length - 1 - k)) (gx (e i) (px (X i) (E.length + r - 1 - (E.length - 1 - k))))
    rw [show E.length + r - 1 - (E.length - 1 - k) = r + k by omega, px_add, gx_left (px (X i) r) (e i), gx_left (px (X i) r) (v (E.length - 1 - k)), gx_left (e i)]
  intro j hj
  have h2 := roots X E.length E (fun k => v (E.length - 1 - k)) (Nat.le_refl _) h.1 h.2.1 (fun i hi => (gx_zero (h1 i hi)).resolve_left (h.2.2.2.1 i hi)) (E.length - 1 - j) (by omega)
  replace h2 : v (E.length - 1 - (E.length - 1 - j)) = 0 := h2
  rw [show E.length - 1 - (E.length - 1 - j) = j by omega] at h2
  exact h2
theorem ge_uniq {X e S P : Nat → Fin 256} {E : List Nat} {c : Nat} (h : GE X E e S c) (hc : 2 * E.length ≤ c) (hP0 : P 0 = 1) (hP : ∀ k, E.length < k → P k = 0) (hr : ∀ m, E.length ≤ m → m < 2 * E.length → cv P S m = 0) : ∀ k, P k = lam X E k := by
  have hv := ge_hank h hc (fun j => ga (P (j + 1)) (lam X E (j + 1))) (fun r hr' => ?_)
  · intro k
    cases k with
    | zero => rw [hP0, lam_0]
    | succ k =>
      by_cases c : k < E.length
      · exact ga_eq0 (hv k c)
      · rw [hP _ (by omega), lam_hi X E _ (by omega)]
  · have e1 := hr (E.length + r) (by omega) (by omega)
    have e2 := ge_rec h (m := E.length + r) (by omega) (by omega)
    have e3 : cv (fun k => ga (P k) (lam X E k)) S (E.length + r) = 0 := by rw [cv_add, e1, e2, ga_z]
    have e4 : ga (gx (ga (P 0) (lam X E 0)) (S (E.length + r - 0))) (zS (fun j => gx (ga (P (j + 1)) (lam X E (j + 1))) (S (E.length + r - (j + 1)))) (E.length + r)) = 0 := by
      rw [← e3]
      exact (zS_first (fun j => gx (ga (P j) (lam X E j)) (S (E.length + r - j))) _).symm
    rw [hP0, lam_0, ga_self, gx_q, ga_0, zS_ext (n := E.length) (fun i hi => by rw [hP _ (by omega), lam_hi X E _ (by omega), ga_z, gx_q]) (E.length + r) (by omega)] at e4
    rw [← e4]
    refine zS_congr _ (fun j hj => ?_)
    show gx (ga (P (j + 1)) (lam X E (j + 1))) (S (E.length + r - 1 - j)) = _
    rw [show E.length + r - 1 - j = E.length + r - (j + 1) by omega]
/-! BERLEKAMP AND MASSEY -/
def shN : Nat → (Nat → Fin 256) → Nat → Fin 256
  | 0, B => B
  | l + 1, B => sh1 (shN l B)
theorem shN_at (B : Nat → Fin 256) : ∀ l i, shN l B i = if l ≤ i then B (i - l) else 0 := by
  intro l
  induction l with
  | zero => intro i; rw [if_pos (by omega)]; rfl
  | succ l ih =>
    intro i
    cases i with
    | zero => rw [if_neg (by omega)]; rfl
    | succ i =>
      show shN l B i = _
      rw [ih]
      by_cases c : l ≤ i
      · rw [if_pos c, if_pos (by omega), show i + 1 - (l + 1) = i - l by omega]
      · rw [if_neg c, if_neg (by omega)]
theorem cv_shN (B S : Nat → Fin 256) (m : Nat) : ∀ l, cv (shN l B) S (m + l) = cv B S m := by
  intro l
  induction l with
  | zero => rfl
  | succ l ih =>
    show cv (sh1 (shN l B)) S (m + l + 1) = _
    rw [cv_sh, ih]
def bmG (S La : Nat → Fin 256) (L k : Nat) : Fin 256 := itN (fun i a => ga a (gx (La (i + 1)) (S (k - (i + 1))))) (S k) (min L k)
def bmL (La B : Nat → Fin 256) (lag : Nat) (f : Fin 256) (i : Nat) : Fin 256 := ga (La i) (gx f (shN lag B i))
abbrev BMs : Type := Nat × Nat × Fin 256 × (Nat → Fin 256) × (Nat → Fin 256)
def bmS (S : Nat → Fin 256) (k : Nat) : BMs → BMs := fun s =>
  if bmG S s.2.2.2.1 s.1 k = 0 then (s.1, s.2.1 + 1, s.2.2.1, s.2.2.2.1, s.2.2.2.2)
  else if 2 * s.1 ≤ k then (k + 1 - s.1, 1, bmG S s.2.2.2.1 s.1 k, bmL s.2.2.2.1 s.2.2.2.2 s.2.1 (gx (bmG S s.2.2.2.1 s.1 k) (gi s.2.2.1)), s.2.2.2.1)
  else (s.1, s.2.1 + 1, s.2.2.1, bmL s.2.2.2.1 s.2.2.2.2 s.2.1 (gx (bmG S s.2.2.2.1 s.1 k) (gi s.2.2.1)), s.2.2.2.2)
def dl0 (k : Nat) : Fin 256 := if k = 0 then 1 else 0
def bm0 : BMs := (0, 1, 1, dl0, dl0)
theorem itN_zS (f : Nat → Fin 256) (s : Fin 256) : ∀ n, itN (fun i a => ga a (f i)) s n = ga s (zS f n) := by
  intro n
  induction n with
  | zero => exact (ga_z s).symm
  | succ n ih =>
    show ga (itN (fun i a => ga a (f i)) s n) (f n) = ga s (ga (zS f n) (f n))
    rw [ih, ga_assoc]
theorem bmG_cv {S La : Nat → Fin 256} {L k : Nat} (h0 : La 0 = 1) (hL : ∀ i, L < i → La i = 0) : bmG S La L k = cv La S k := by
  unfold bmG cv
  rw [itN_zS (fun i => gx (La (i + 1)) (S (k - (i + 1)))), zS_first]
  show _ = ga (gx (La 0) (S k)) (zS (fun i => gx (La (i + 1)) (S (k - (i + 1)))) k)
  rw [h0, gx_1]
  congr 1
  by_cases c : k ≤ L
  · rw [Nat.min_eq_right c]
  · rw [Nat.min_eq_left (by omega)]
    exact (zS_ext (fun i hi => by rw [hL _ (by omega), gx_q]) k (by omega)).symm
theorem cv_bmL {La B S : Nat → Fin 256} {lag : Nat} {f : Fin 256} (m : Nat) : cv (bmL La B lag f) S (m + lag) = ga (cv La S (m + lag)) (gx f (cv B S m)) := by
  unfold bmL
  rw [cv_add, cv_mul, cv_shN]
def BI (S : Nat → Fin 256) (k : Nat) (s : BMs) : Prop := s.2.2.2.1 0 = 1 ∧ (∀ i, s.1 < i → s.2.2.2.1 i = 0) ∧ s.1 ≤ k ∧ (∀ m, s.1 ≤ m → m < k → cv s.2.2.2.1 S m = 0) ∧ s.2.2.1 ≠ 0 ∧ 1 ≤ s.2.1 ∧ s.2.1 ≤ k + 1 ∧ ((s.1 = 0 ∧ s.2.1 = k + 1 ∧ ∀ i, 0 < i → s.2.2.2.2 i = 0) ∨ ∃ kB LB, kB + s.2.1 = k ∧ s.1 + LB = kB + 1 ∧ (∀ i, LB < i → s.2.2.2.2 i = 0) ∧ (∀ m, LB ≤ m → m < kB → cv s.2.2.2.2 S m = 0) ∧ cv s.2.2.2.2 S kB = s.2.2.1)
theorem BI_0 (S : Nat → Fin 256) : BI S 0 bm0 := by
  refine ⟨rfl, fun i hi => ?_, Nat.le_refl _, fun m _ hm => ?_, fun z => absurd (congrArg Fin.val z) (by decide), Nat.le_refl _, by decide, Or.inl ⟨rfl, rfl, fun i hi => ?_⟩⟩
  · exact if_neg (by have : 0 < i := hi; omega)
  · omega
  · exact if_neg (by omega)
theorem BI_step {S : Nat → Fin 256} {k : Nat} {s : BMs} (h : BI S k s) : BI S (k + 1) (bmS S k s) := by
  obtain ⟨L, lag, fg, La, B⟩ := s
  obtain ⟨h0, hL, hk, hr, hf, hl1, hl2, hB⟩ := h
  dsimp only at h0 hL hk hr hf hl1 hl2 hB
  have hg := bmG_cv (S := S) (k := k) h0 hL
  unfold bmS
  dsimp only
  by_cases cg : bmG S La L k = 0
  · rw [if_pos cg]
    refine ⟨h0, hL, by show L ≤ k + 1; omega, fun m h1 h2 => ?_, hf, by show 1 ≤ lag + 1; omega, by show lag + 1 ≤ k + 1 + 1; omega, ?_⟩
    · replace h1 : L ≤ m := h1
      show cv La S m = 0
      by_cases c : m = k
      · rw [c, ← hg]; exact cg
      · exact hr m h1 (by omega)
    · rcases hB with ⟨b1, b2, b3⟩ | ⟨kB, LB, b1, b2, b3, b4, b5⟩
      · exact Or.inl ⟨b1, by show lag + 1 = k + 1 + 1; omega, b3⟩
      · exact Or.inr ⟨kB, LB, by show kB + (lag + 1) = k + 1; omega, b2, b3, b4, b5⟩
  · rw [if_neg cg]
    have La0 : bmL La B lag (gx (bmG S La L k) (gi fg)) 0 = 1 := by
      unfold bmL
      rw [shN_at, if_neg (by omega), gx_z, ga_z, h0]
    by_cases c2 : 2 * L ≤ k
    · rw [if_pos c2]
      have nB : (∀ i, L < i → La i = 0) ∧ (∀ m, L ≤ m → m < k → cv La S m = 0) ∧ cv La S k = bmG S La L k := ⟨hL, hr, hg.symm⟩
      rcases hB with ⟨b1, b2, b3⟩ | ⟨kB, LB, b1, b2, b3, b4, b5⟩
      · refine ⟨La0, fun i hi => ?_, by show k + 1 - L ≤ k + 1; omega, fun m h1 h2 => ?_, cg, Nat.le_refl _, by show 1 ≤ k + 1 + 1; omega, Or.inr ⟨k, L, rfl, by show k + 1 - L + L = k + 1; omega, nB⟩⟩
        · replace hi : k + 1 - L < i := hi
          show bmL La B lag _ i = 0
          unfold bmL
          rw [hL i (by omega), shN_at, if_pos (by omega), b3 _ (by omega), gx_z, ga_z]
        · replace h1 : k + 1 - L ≤ m := h1
          omega
      · refine ⟨La0, fun i hi => ?_, by show k + 1 - L ≤ k + 1; omega, fun m h1 h2 => ?_, cg, Nat.le_refl _, by show 1 ≤ k + 1 + 1; omega, Or.inr ⟨k, L, rfl, by show k + 1 - L + L = k + 1; omega, nB⟩⟩
        · replace hi : k + 1 - L < i := hi
          show bmL La B lag _ i = 0
          unfold bmL
          rw [hL i (by omega), shN_at, if_pos (by omega), b3 _ (by omega), gx_z, ga_z]
        · replace h1 : k + 1 - L ≤ m := h1
          show cv (bmL La B lag (gx (bmG S La L k) (gi fg))) S m = 0
          obtain ⟨d, rfl⟩ : ∃ d, m = d + lag := ⟨m - lag, by omega⟩
          rw [cv_bmL]
          by_cases c3 : d = kB
          · rw [c3, b5, show kB + lag = k by omega, ← hg, gx_assoc, gx_comm (gi fg), gx_gi hf, gx_o, ga_self]
          · rw [b4 d (by omega) (by omega), hr _ (by omega) (by omega), gx_z, ga_z]
    · rw [if_neg c2]
      rcases hB with ⟨b1, b2, b3⟩ | ⟨kB, LB, b1, b2, b3, b4, b5⟩
      · omega
      · refine ⟨La0, fun i hi => ?_, by show L ≤ k + 1; omega, fun m h1 h2 => ?_, hf, by show 1 ≤ lag + 1; omega, by show lag + 1 ≤ k + 1 + 1; omega, Or.inr ⟨kB, LB, by show kB + (lag + 1) = k + 1; omega, b2, b3, b4, b5⟩⟩
        · replace hi : L < i := hi
          show bmL La B lag _ i = 0
          unfold bmL
          rw [hL i (by omega), shN_at, if_pos (by omega), b3 _ (by omega), gx_z, ga_z]
        · replace h1 : L ≤ m := h1
          show cv (bmL La B lag (gx (bmG S La L k) (gi fg))) S m = 0
          obtain ⟨d, rfl⟩ : ∃ d, m = d + lag := ⟨m - lag, by omega⟩
          rw [cv_bmL]
          by_cases c3 : d = kB
          · rw [c3, b5, show kB + lag = k by omega, ← hg, gx_assoc, gx_comm (gi fg), gx_gi hf, gx_o, ga_self]
          · rw [b4 d (by omega) (by omega), hr _ (by omega) (by omega), gx_z, ga_z]
theorem cv_trunc {P S : Nat → Fin 256} {L m : Nat} (h : ∀ i, L < i → P i = 0) (hm : L ≤ m) : cv P S m = zS (fun j => gx (P j) (S (m - j))) (L + 1) := zS_ext (fun i hi => by rw [h i (by omega), gx_q]) _ (by omega)
theorem massey {La P S : Nat → Fin 256} {L w k : Nat} (hL : ∀ i, L < i → La i = 0) (h0 : ∀ m, L ≤ m → m < k → cv La S m = 0) (hg : cv La S k ≠ 0) (hw : ∀ i, w < i → P i = 0) (hP0 : P 0 = 1) (hP : ∀ m, w ≤ m → m ≤ k → cv P S m = 0) : k + 1 ≤ w + L := by
  refine Nat.le_of_not_lt (fun hlt => hg ?_)
  have e1 : zS (fun i => gx (P i) (cv La S (k - i))) (w + 1) = cv La S k := by
    rw [zS_one (k := 0) (w + 1) (by omega) (fun i hi hne => by rw [h0 (k - i) (by omega) (by omega), gx_z]), hP0, gx_1]
    rfl
  rw [← e1, zS_congr (g := fun i => zS (fun j => gx (La j) (gx (P i) (S (k - j - i)))) (L + 1)) (w + 1) (fun i hi => ?_), zS_swap (fun i j => gx (La j) (gx (P i) (S (k - j - i))))]
  · refine zS_0 _ (fun j hj => ?_)
    rw [← zS_mul, ← cv_trunc hw (by omega), hP (k - j) (by omega) (by omega), gx_z]
  · rw [cv_trunc hL (by omega), zS_mul]
    refine zS_congr _ (fun j hj => ?_)
    rw [gx_left, show k - i - j = k - j - i by omega]
theorem bm_inv {X e S : Nat → Fin 256} {E : List Nat} {c : Nat} (h : GE X E e S c) : ∀ k, k ≤ c → BI S k (itN (bmS S) bm0 k) ∧ (itN (bmS S) bm0 k).1 ≤ E.length := by
  intro k
  induction k with
  | zero => intro _; exact ⟨BI_0 S, Nat.zero_le _⟩
  | succ k ih =>
    intro hk
    obtain ⟨i1, i2⟩ := ih (by omega)
    refine ⟨BI_step i1, ?_⟩
    show (bmS S k (itN (bmS S) bm0 k)).1 ≤ E.length
    generalize itN (bmS S) bm0 k = s at i1 i2
    unfold bmS
    by_cases cg : bmG S s.2.2.2.1 s.1 k = 0
    · rw [if_pos cg]; exact i2
    · rw [if_neg cg]
      by_cases c2 : 2 * s.1 ≤ k
      · rw [if_pos c2]
        show k + 1 - s.1 ≤ E.length
        have := massey (w := E.length) (P := lam X E) i1.2.1 i1.2.2.2.1 (by rw [← bmG_cv i1.1 i1.2.1]; exact cg) (lam_hi X E) (lam_0 X E) (fun m h1 h2 => ge_rec h h1 (by omega))
        omega
      · rw [if_neg c2]; exact i2
theorem bi_all (S : Nat → Fin 256) : ∀ k, BI S k (itN (bmS S) bm0 k) := by
  intro k
  induction k with
  | zero => exact BI_0 S
  | succ k ih => exact BI_step ih
theorem bm_fin {X e S : Nat → Fin 256} {E : List Nat} {c : Nat} (h : GE X E e S c) (hc : 2 * E.length ≤ c) : (itN (bmS S) bm0 c).1 = E.length ∧ ∀ i, (itN (bmS S) bm0 c).2.2.2.1 i = lam X E i := by
  obtain ⟨i1, i2⟩ := bm_inv h c (Nat.le_refl _)
  generalize itN (bmS S) bm0 c = s at i1 i2
  have hu := ge_uniq h hc i1.1 (fun k hk => i1.2.1 k (by omega)) (fun m h1 h2 => i1.2.2.2.1 m (by omega) (by omega))
  refine ⟨Nat.le_antisymm i2 (Nat.le_of_not_lt (fun hlt => ?_)), hu⟩
  have := i1.2.1 E.length hlt
  rw [hu, lam_top] at this
  exact pd_ne E h.2.2.1 this
/-! FORNEY -/
theorem ge_fac {X e S : Nat → Fin 256} {E : List Nat} {c : Nat} (h : GE X E e S c) {j : Nat} (hj : j ∈ E) {z : Fin 256} (hz : gx (X j) z = 1) : pd (fun i => ga 1 (gx (X i) z)) (E.erase j) ≠ 0 := by
  refine pd_ne _ (fun a ha hq => ?_)
  have hq : ga 1 (gx (X a) z) = 0 := hq
  obtain ⟨a1, a2⟩ := (List.Nodup.mem_erase_iff h.1).mp ha
  have z0 : z ≠ 0 := fun q => by rw [q, gx_z] at hz; exact absurd (congrArg Fin.val hz) (by decide)
  have e : gx z (X a) = gx z (X j) := by rw [gx_comm z, gx_comm z, hz, ← ga_eq0 hq]
  exact a1 (h.2.1 a a2 j hj (gx_can z0 e))
theorem forney {X e S Om : Nat → Fin 256} {E : List Nat} {c n : Nat} (h : GE X E e S c) (hw : E.length ≤ c) (hn : E.length ≤ n) (hO : ∀ k, k < E.length → Om k = cv (lam X E) S k) (hO2 : ∀ k, E.length ≤ k → Om k = 0) {j : Nat} (hj : j ∈ E) {z : Fin 256} (hz : gx (X j) z = 1) : ev n Om z = gx (e j) (pd (fun i => ga 1 (gx (X i) z)) (E.erase j)) := by
  have hz1 : ga 1 (gx (X j) z) = 0 := by rw [hz, ga_self]
  rw [ev_ext z E.length n Om hn hO2, ev_congr z E.length Om (fun k => sL (fun i => gx (e i) (lam X (E.erase i) k)) E) (fun k hk => by rw [hO k hk, ge_cv h (by omega)]), ev_sL z (fun i k => gx (e i) (lam X (E.erase i) k))]
  rw [sL_one (k := j) E h.1 hj (fun i hi hne => ?_)]
  · rw [ev_mul, ev_lam X z _ _ (by rw [List.length_erase_of_mem hj]; have := List.length_pos_of_mem hj; omega)]
  · rw [ev_mul, ev_lam X z _ _ (by rw [List.length_erase_of_mem hi]; have := List.length_pos_of_mem hi; omega), pd_0 (g := fun i => ga 1 (gx (X i) z)) hz1 _ ((List.Nodup.mem_erase_iff h.1).mpr ⟨fun q => hne q.symm, hj⟩), gx_z]
theorem forney_e {a P q : Fin 256} (ha : a ≠ 0) (hP : P ≠ 0) : gx a (gx (gx q P) (gi (gx a P))) = q := by
  rw [← gx_assoc, gx_left a q P, gx_assoc, gx_gi (gx_ne ha hP), gx_o]
theorem root_iff {X e S : Nat → Fin 256} {E : List Nat} {c n i : Nat} (h : GE X E e S c) (hn : E.length < n) (hi : ∀ j, j ∈ E → X j = X i → j = i) {z : Fin 256} (hz : gx (X i) z = 1) : ev n (lam X E) z = 0 ↔ i ∈ E := by
  rw [ev_lam X z E n hn]
  constructor
  · intro q
    refine Classical.byContradiction (fun hne => pd_ne E (fun a ha hq => ?_) q)
    have hq : ga 1 (gx (X a) z) = 0 := hq
    have z0 : z ≠ 0 := fun q => by rw [q, gx_z] at hz; exact absurd (congrArg Fin.val hz) (by decide)
    have e : gx z (X a) = gx z (X i) := by rw [gx_comm z, gx_comm z, hz, ← ga_eq0 hq]
    exact hne (hi a ha (gx_can z0 e) ▸ ha)
  · intro q
    exact pd_0 (g := fun i => ga 1 (gx (X i) z)) (by show ga 1 (gx (X i) z) = 0; rw [hz, ga_self]) E q
