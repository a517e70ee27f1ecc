/-! POLYNOMIALS OVER THE FIELD -/
theorem vand (X : Nat → Fin 256) : ∀ (l : List Nat) (y : Nat → Fin 256), l.Nodup → (∀ i, i ∈ l → ∀ j, j ∈ l → X i = X j → i = j) → (∀ r, r < l.length → sL (fun i => gx (y i) (px (X i) r)) l = 0) → ∀ i, i ∈ l → y i = 0 := by
  intro l
  induction l with
  | nil => intro y _ _ _ i hi; exact absurd hi List.not_mem_nil
  | cons a t ih =>
    intro y hn hX h
    obtain ⟨n1, n2⟩ := List.nodup_cons.mp hn
    have h2 : ∀ i, i ∈ t → gx (y i) (ga (X i) (X a)) = 0 := by
      refine ih (fun i => gx (y i) (ga (X i) (X a))) n2 (fun i hi j hj => hX i (List.mem_cons_of_mem _ hi) j (List.mem_cons_of_mem _ hj)) (fun r hr => ?_)
      have e1 := h (r + 1) (by show r + 1 < t.length + 1; omega)
      have e0 := h r (by show r < t.length + 1; omega)
      have e2 : sL (fun i => gx (gx (y i) (ga (X i) (X a))) (px (X i) r)) (a :: t) = 0 := by
        have : ∀ i, gx (gx (y i) (ga (X i) (X a))) (px (X i) r) = ga (gx (y i) (px (X i) (r + 1))) (gx (X a) (gx (y i) (px (X i) r))) := by
          intro i
          rw [px_s, gx_add, gx_addr, gx_assoc, gx_assoc]
          congr 1
          rw [gx_left]
        rw [sL_congr (a :: t) (fun i _ => this i), sL_add, e1, ← sL_mul, e0, gx_z, ga_z]
      replace e2 : ga (gx (gx (y a) (ga (X a) (X a))) (px (X a) r)) (sL (fun i => gx (gx (y i) (ga (X i) (X a))) (px (X i) r)) t) = 0 := e2
      rw [ga_self, gx_z, gx_q, ga_0] at e2
      exact e2
    have h3 : ∀ i, i ∈ t → y i = 0 := by
      intro i hi
      rcases gx_zero (h2 i hi) with z | z
      · exact z
      · exact absurd (hX i (List.mem_cons_of_mem _ hi) a List.mem_cons_self (ga_eq0 z)) (fun q => n1 (q ▸ hi))
    intro i hi
    rcases List.mem_cons.mp hi with rfl | hi
    · have e0 := h 0 (by show 0 < t.length + 1; omega)
      replace e0 : ga (gx (y i) 1) (sL (fun i => gx (y i) (px (X i) 0)) t) = 0 := e0
      rw [sL_0 t (fun j hj => by rw [h3 j hj, gx_q]), ga_z, gx_o] at e0
      exact e0
    · exact h3 i hi
def ev : Nat → (Nat → Fin 256) → Fin 256 → Fin 256
  | 0, _, _ => 0
  | n + 1, v, x => ga (v 0) (gx x (ev n (fun k => v (k + 1)) x))
theorem ev_s (n : Nat) (v : Nat → Fin 256) (x : Fin 256) : ev (n + 1) v x = ga (v 0) (gx x (ev n (fun k => v (k + 1)) x)) := rfl
theorem ev_congr (x : Fin 256) : ∀ n (v u : Nat → Fin 256), (∀ k, k < n → v k = u k) → ev n v x = ev n u x := by
  intro n
  induction n with
  | zero => intro v u _; rfl
  | succ n ih =>
    intro v u h
    rw [ev_s, ev_s, h 0 (by omega), ih _ _ (fun k hk => h (k + 1) (by omega))]
theorem ev_0 (x : Fin 256) : ∀ n (v : Nat → Fin 256), (∀ k, k < n → v k = 0) → ev n v x = 0 := by
  intro n
  induction n with
  | zero => intro v _; rfl
  | succ n ih =>
    intro v h
    rw [ev_s, h 0 (by omega), ih _ (fun k hk => h (k + 1) (by omega)), gx_z, ga_z]
theorem ev_add (x : Fin 256) : ∀ n (v u : Nat → Fin 256), ev n (fun k => ga (v k) (u k)) x = ga (ev n v x) (ev n u x) := by
  intro n
  induction n with
  | zero => intro v u; exact (ga_z 0).symm
  | succ n ih =>
    intro v u
    rw [ev_s, ev_s, ev_s, ih (fun k => v (k + 1)) (fun k => u (k + 1)), gx_add, ga_4]
theorem ev_mul (x a : Fin 256) : ∀ n (v : Nat → Fin 256), ev n (fun k => gx a (v k)) x = gx a (ev n v x) := by
  intro n
  induction n with
  | zero => intro v; exact (gx_z a).symm
  | succ n ih =>
    intro v
    rw [ev_s, ev_s, ih (fun k => v (k + 1)), gx_add, gx_left]
theorem ev_ext (x : Fin 256) : ∀ n m (v : Nat → Fin 256), n ≤ m → (∀ k, n ≤ k → v k = 0) → ev m v x = ev n v x := by
  intro n
  induction n with
  | zero => intro m v _ h; exact ev_0 x m v (fun k _ => h k (by omega))
  | succ n ih =>
    intro m v hm h
    obtain ⟨m, rfl⟩ : ∃ m', m = m' + 1 := ⟨m - 1, by omega⟩
    rw [ev_s, ev_s, ih m _ (by omega) (fun k hk => h (k + 1) (by omega))]
theorem ev_sL (x : Fin 256) (f : Nat → Nat → Fin 256) (n : Nat) : ∀ l : List Nat, ev n (fun k => sL (fun i => f i k) l) x = sL (fun i => ev n (f i) x) l := by
  intro l
  induction l with
  | nil => exact ev_0 x n _ (fun _ _ => rfl)
  | cons a t ih =>
    show ev n (fun k => ga (f a k) (sL (fun i => f i k) t)) x = ga (ev n (f a) x) (sL (fun i => ev n (f i) x) t)
    rw [ev_add, ih]
theorem ev_F (x : Fin 256) : ∀ n (v : Nat → Fin 256), ev n v x = zS (fun k => gx (v k) (px x k)) n := by
  intro n
  induction n with
  | zero => intro v; rfl
  | succ n ih =>
    intro v
    rw [ev_s, ih, zS_first, zS_mul]
    show ga (v 0) _ = ga (gx (v 0) 1) _
    rw [gx_o]
    congr 1
    refine zS_congr n (fun i _ => ?_)
    show gx x (gx (v (i + 1)) (px x i)) = gx (v (i + 1)) (px x (i + 1))
    rw [px_s, gx_left]
theorem ev_div (a : Fin 256) : ∀ n (v : Nat → Fin 256), ∃ (q : Nat → Fin 256) (c : Fin 256), (∀ x, ev (n + 1) v x = ga c (gx (ga x a) (ev n q x))) ∧ ((∀ k, k < n → q k = 0) → c = 0 → ∀ k, k < n + 1 → v k = 0) := by
  intro n
  induction n with
  | zero =>
    intro v
    refine ⟨v, v 0, fun x => ?_, fun _ hc k hk => ?_⟩
    · show ga (v 0) (gx x 0) = ga (v 0) (gx (ga x a) 0)
      rw [gx_z, gx_z]
    · obtain rfl : k = 0 := by omega
      exact hc
  | succ n ih =>
    intro v
    obtain ⟨q, c, h1, h2⟩ := ih (fun k => v (k + 1))
    refine ⟨fun k => match k with | 0 => c | k + 1 => q k, ga (v 0) (gx a c), fun x => ?_, fun hq hc k hk => ?_⟩
    · rw [ev_s, h1 x, ev_s n]
      show ga (v 0) (gx x (ga c (gx (ga x a) (ev n q x)))) = ga (ga (v 0) (gx a c)) (gx (ga x a) (ga c (gx x (ev n q x))))
      rw [gx_add, gx_add (ga x a), gx_addr c x a, ga_assoc, ga_assoc (gx x c), ← ga_assoc (gx a c), ga_comm (gx a c) (gx x c), ga_assoc (gx x c), ga_ss, gx_left x]
    · have hc0 : c = 0 := hq 0 (by omega)
      have hv := h2 (fun k hk => hq (k + 1) (by omega)) hc0
      cases k with
      | zero =>
        rw [hc0, gx_z, ga_z] at hc
        exact hc
      | succ k => exact hv k (by omega)
theorem roots (X : Nat → Fin 256) : ∀ n (l : List Nat) (v : Nat → Fin 256), n ≤ l.length → l.Nodup → (∀ i, i ∈ l → ∀ j, j ∈ l → X i = X j → i = j) → (∀ i, i ∈ l → ev n v (X i) = 0) → ∀ k, k < n → v k = 0 := by
  intro n
  induction n with
  | zero => intro l v _ _ _ _ k hk; omega
  | succ n ih =>
    intro l v hl hn hX h
    cases l with
    | nil => exact absurd hl (by show ¬ n + 1 ≤ 0; omega)
    | cons a t =>
      obtain ⟨n1, n2⟩ := List.nodup_cons.mp hn
      obtain ⟨q, c, h1, h2⟩ := ev_div (X a) n v
      have hc : c = 0 := by
        have := h a List.mem_cons_self
        rw [h1, ga_self, gx_q, ga_z] at this
        exact this
      refine h2 (ih t q (by have : n + 1 ≤ t.length + 1 := hl; omega) n2 (fun i hi j hj => hX i (List.mem_cons_of_mem _ hi) j (List.mem_cons_of_mem _ hj)) (fun i hi => ?_)) hc
      have e := h i (List.mem_cons_of_mem _ hi)
      rw [h1, hc, ga_0] at e
      rcases gx_zero e with z | z
      · exact absurd (hX i (List.mem_cons_of_mem _ hi) a List.mem_cons_self (ga_eq0 z)) (fun q => n1 (q ▸ hi))
      · exact z
/-! the locator of a list of places -/
def sh1 (v : Nat → Fin 256) : Nat → Fin 256
  | 0 => 0
  | k + 1 => v k
def lam (X : Nat → Fin 256) : List Nat → Nat → Fin 256
  | [], k => if k = 0 then 1 else 0
  | i :: l, k => ga (lam X l k) (gx (X i) (sh1 (lam X l) k))
theorem lam_c (X : Nat → Fin 256) (i : Nat) (l : List Nat) (k : Nat) : lam X (i :: l) k = ga (lam X l k) (gx (X i) (sh1 (lam X l) k)) := rfl
theorem lam_cf (X : Nat → Fin 256) (i : Nat) (l : List Nat) : lam X (i :: l) = fun k => ga (lam X l k) (gx (X i) (sh1 (lam X l) k)) := rfl
def pd (g : Nat → Fin 256) : List Nat → Fin 256
  | [] => 1
  | i :: l => gx (g i) (pd g l)
theorem pd_ne {g : Nat → Fin 256} : ∀ l : List Nat, (∀ i, i ∈ l → g i ≠ 0) → pd g l ≠ 0 := by
  intro l
  induction l with
  | nil =>
    intro _ z
    replace z : (1 : Fin 256) = 0 := z
    exact absurd (congrArg Fin.val z) (by decide)
  | cons a t ih => intro h; exact gx_ne (h a List.mem_cons_self) (ih (fun i hi => h i (List.mem_cons_of_mem _ hi)))
theorem pd_0 {g : Nat → Fin 256} {j : Nat} (hj : g j = 0) : ∀ l : List Nat, j ∈ l → pd g l = 0 := by
  intro l
  induction l with
  | nil => intro h; exact absurd h List.not_mem_nil
  | cons a t ih =>
    intro h
    show gx (g a) (pd g t) = 0
    rcases List.mem_cons.mp h with rfl | h
    · rw [hj, gx_q]
    · rw [ih h, gx_z]
theorem lam_0 (X : Nat → Fin 256) : ∀ l, lam X l 0 = 1 := by
  intro l
  induction l with
  | nil => rfl
  | cons a t ih =>
    rw [lam_c, ih]
    show ga 1 (gx (X a) 0) = 1
    rw [gx_z, ga_z]
theorem lam_hi (X : Nat → Fin 256) : ∀ l k, l.length < k → lam X l k = 0 := by
  intro l
  induction l with
  | nil => intro k hk; exact if_neg (by have : 0 < k := hk; omega)
  | cons a t ih =>
    intro k hk
    replace hk : t.length + 1 < k := hk
    obtain ⟨k, rfl⟩ : ∃ k', k = k' + 1 := ⟨k - 1, by omega⟩
    rw [lam_c, ih _ (by omega)]
    show ga 0 (gx (X a) (lam X t k)) = 0
    rw [ih _ (by omega), gx_z, ga_z]
theorem lam_top (X : Nat → Fin 256) : ∀ l, lam X l l.length = pd X l := by
  intro l
  induction l with
  | nil => rfl
  | cons a t ih =>
    show ga (lam X t (t.length + 1)) (gx (X a) (lam X t t.length)) = gx (X a) (pd X t)
    rw [ih, lam_hi X t _ (by omega), ga_0]
theorem ev_sh (x : Fin 256) (n : Nat) (v : Nat → Fin 256) : ev (n + 1) (sh1 v) x = gx x (ev n v x) := by
  rw [ev_s]
  show ga 0 (gx x (ev n (fun k => v k) x)) = _
  rw [ga_0]
theorem ev_lam (X : Nat → Fin 256) (x : Fin 256) : ∀ l m, l.length < m → ev m (lam X l) x = pd (fun i => ga 1 (gx (X i) x)) l := by
  intro l
  induction l with
  | nil =>
    intro m hm
    obtain ⟨m, rfl⟩ : ∃ m', m = m' + 1 := ⟨m - 1, by have : 0 < m := hm; omega⟩
    rw [ev_s, ev_0 x m (fun k => lam X [] (k + 1)) (fun k _ => if_neg (by omega)), gx_z, ga_z]
    rfl
  | cons a t ih =>
    intro m hm
    replace hm : t.length + 1 < m := hm
    obtain ⟨m, rfl⟩ : ∃ m', m = m' + 1 := ⟨m - 1, by omega⟩
    rw [lam_cf, ev_add, ev_mul, ev_sh, ih _ (by omega), ih _ (by omega)]
    show _ = gx (ga 1 (gx (X a) x)) (pd (fun i => ga 1 (gx (X i) x)) t)
    rw [gx_addr, gx_1, gx_assoc]
/-! products of rows -/
def cv (P S : Nat → Fin 256) (m : Nat) : Fin 256 := zS (fun j => gx (P j) (S (m - j))) (m + 1)
theorem cv_congr {P P' S S' : Nat → Fin 256} {m : Nat} (h : ∀ j, j ≤ m → P j = P' j) (h2 : ∀ j, j ≤ m → S j = S' j) : cv P S m = cv P' S' m := zS_congr _ (fun i hi => by rw [h i (by omega), h2 (m - i) (by omega)])
theorem cv_sh (P S : Nat → Fin 256) (m : Nat) : cv (sh1 P) S (m + 1) = cv P S m := by
  unfold cv
  rw [zS_first]
  show ga (gx 0 _) _ = _
  rw [gx_q, ga_0]
  refine zS_congr _ (fun i hi => ?_)
  show gx (P i) (S (m + 1 - (i + 1))) = gx (P i) (S (m - i))
  rw [show m + 1 - (i + 1) = m - i by omega]
theorem cv_sh0 (P S : Nat → Fin 256) : cv (sh1 P) S 0 = 0 := by
  show ga 0 (gx 0 _) = 0
  rw [gx_q, ga_0]
theorem cv_add (P Q S : Nat → Fin 256) (m : Nat) : cv (fun k => ga (P k) (Q k)) S m = ga (cv P S m) (cv Q S m) := by
  unfold cv
  rw [← zS_add]
  exact zS_congr _ (fun i _ => gx_addr _ _ _)
theorem cv_mul (a : Fin 256) (P S : Nat → Fin 256) (m : Nat) : cv (fun k => gx a (P k)) S m = gx a (cv P S m) := by
  unfold cv
  rw [zS_mul]
  exact zS_congr _ (fun i _ => gx_assoc _ _ _)
theorem cv_sL (P : Nat → Fin 256) (e : Nat → Fin 256) (T : Nat → Nat → Fin 256) (l : List Nat) (m : Nat) : cv P (fun k => sL (fun i => gx (e i) (T i k)) l) m = sL (fun i => gx (e i) (cv P (T i) m)) l := by
  unfold cv
  have : ∀ i, gx (e i) (zS (fun j => gx (P j) (T i (m - j))) (m + 1)) = zS (fun j => gx (P j) (gx (e i) (T i (m - j)))) (m + 1) := by
    intro i
    rw [zS_mul]
    exact zS_congr _ (fun j _ => gx_left _ _ _)
  rw [sL_congr l (fun i _ => this i), sL_F (fun i j => gx (P j) (gx (e i) (T i (m - j))))]
  exact zS_congr _ (fun j _ => sL_mul _ _ _)
theorem cv_geo (P : Nat → Fin 256) (x : Fin 256) (m : Nat) : cv P (px x) (m + 1) = ga (gx x (cv P (px x) m)) (P (m + 1)) := by
  unfold cv
  show ga (zS (fun j => gx (P j) (px x (m + 1 - j))) (m + 1)) (gx (P (m + 1)) (px x (m + 1 - (m + 1)))) = _
  rw [Nat.sub_self]
  show ga _ (gx (P (m + 1)) 1) = _
  rw [gx_o, zS_mul]
  congr 1
  refine zS_congr _ (fun i hi => ?_)
  rw [show m + 1 - i = (m - i) + 1 by omega, px_s, gx_left]
theorem cv_erase (X : Nat → Fin 256) (i : Nat) : ∀ (l : List Nat), i ∈ l → ∀ m, cv (lam X l) (px (X i)) m = lam X (l.erase i) m := by
  intro l
  induction l with
  | nil => intro h; exact absurd h List.not_mem_nil
  | cons a t ih =>
    intro h m
    rw [lam_cf, cv_add, cv_mul]
    by_cases c : a = i
    · subst c
      rw [List.erase_cons_head]
      cases m with
      | zero =>
        rw [cv_sh0, gx_z, ga_z]
        show ga 0 (gx (lam X t 0) 1) = _
        rw [ga_0, gx_o]
      | succ m => rw [cv_sh, cv_geo, ga_comm, ga_ss]
    · have hi : i ∈ t := (List.mem_cons.mp h).resolve_left (fun z => c z.symm)
      rw [List.erase_cons_tail (by simpa using c), lam_c, ih hi]
      cases m with
      | zero => rw [cv_sh0]; rfl
      | succ m => rw [cv_sh, ih hi]; rfl
/-! the slope -/
def dc (v : Nat → Fin 256) (k : Nat) : Fin 256 := if k % 2 = 0 then v (k + 1) else 0
theorem dc_sh (v : Nat → Fin 256) (k : Nat) : dc (sh1 v) k = ga (v k) (sh1 (dc v) k) := by
  unfold dc
  cases k with
  | zero =>
    rw [if_pos (by decide)]
    show v 0 = ga (v 0) 0
    rw [ga_z]
  | succ k =>
    show (if (k + 1) % 2 = 0 then v (k + 1) else 0) = ga (v (k + 1)) (if k % 2 = 0 then v (k + 1) else 0)
    by_cases c : k % 2 = 0
    · rw [if_neg (by omega), if_pos c, ga_self]
    · rw [if_pos (by omega), if_neg c, ga_z]
theorem ev_dcsh (x : Fin 256) (n : Nat) (v : Nat → Fin 256) : ev (n + 1) (dc (sh1 v)) x = ga (ev (n + 1) v x) (gx x (ev n (dc v) x)) := by
  rw [show dc (sh1 v) = fun k => ga (v k) (sh1 (dc v) k) from funext (dc_sh v), ev_add, ev_sh]
theorem dc_add (v u : Nat → Fin 256) : dc (fun k => ga (v k) (u k)) = fun k => ga (dc v k) (dc u k) := by
  funext k
  unfold dc
  by_cases c : k % 2 = 0
  · rw [if_pos c, if_pos c, if_pos c]
  · rw [if_neg c, if_neg c, if_neg c, ga_z]
theorem dc_mul (a : Fin 256) (v : Nat → Fin 256) : dc (fun k => gx a (v k)) = fun k => gx a (dc v k) := by
  funext k
  unfold dc
  by_cases c : k % 2 = 0
  · rw [if_pos c, if_pos c]
  · rw [if_neg c, if_neg c, gx_z]
theorem dc_hi {v : Nat → Fin 256} {n : Nat} (h : ∀ k, n < k → v k = 0) : ∀ k, n ≤ k → dc v k = 0 := by
  intro k hk
  unfold dc
  rw [h (k + 1) (by omega)]
  split <;> rfl
theorem ev_slope (X : Nat → Fin 256) (j : Nat) {z : Fin 256} (hz : ga 1 (gx (X j) z) = 0) : ∀ l : List Nat, j ∈ l → ∀ m, l.length < m → ev m (dc (lam X l)) z = gx (X j) (pd (fun i => ga 1 (gx (X i) z)) (l.erase j)) := by
  intro l
  induction l with
  | nil => intro h; exact absurd h List.not_mem_nil
  | cons a t ih =>
    intro h m hm
    replace hm : t.length + 1 < m := hm
    obtain ⟨m, rfl⟩ : ∃ m', m = m' + 1 := ⟨m - 1, by omega⟩
    rw [lam_cf, dc_add, ev_add, dc_mul, ev_mul, ev_dcsh]
    by_cases c : a = j
    · subst c
      rw [List.erase_cons_head, ev_lam X z t _ (by omega), ev_ext z t.length (m + 1) _ (by omega) (dc_hi (lam_hi X t)), ev_ext z t.length m _ (by omega) (dc_hi (lam_hi X t)), gx_add, ← gx_assoc, ga_left, ← ga_assoc, ga_assoc]
      have e : ga (ev t.length (dc (lam X t)) z) (gx (gx (X a) z) (ev t.length (dc (lam X t)) z)) = 0 := by
        have : gx (ga 1 (gx (X a) z)) (ev t.length (dc (lam X t)) z) = 0 := by rw [hz, gx_q]
        rw [gx_addr, gx_1] at this
        exact this
      rw [e, ga_z]
    · have hj : j ∈ t := (List.mem_cons.mp h).resolve_left (fun q => c q.symm)
      rw [List.erase_cons_tail (by simpa using c), ih hj _ (by omega), ih hj _ (by omega), ev_lam X z t _ (by omega), pd_0 (g := fun i => ga 1 (gx (X i) z)) hz t hj, ga_0]
      show _ = gx (X j) (gx (ga 1 (gx (X a) z)) (pd (fun i => ga 1 (gx (X i) z)) (t.erase j)))
      rw [gx_left (X j), gx_addr, gx_1, gx_assoc]
