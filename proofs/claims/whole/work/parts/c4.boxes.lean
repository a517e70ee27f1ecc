/-! BOXES OF DOTS -/
def dt (D : Nat → Nat → Bool) (x y : Nat) : Int := if D x y = true then 1 else 0
theorem dt_nn {D : Nat → Nat → Bool} {x y : Nat} : 0 ≤ dt D x y := by unfold dt; split <;> omega
theorem dt_le {D : Nat → Nat → Bool} {x y : Nat} : dt D x y ≤ 1 := by unfold dt; split <;> omega
theorem bS_nn {X : Nat → Nat → Int} {a b w h : Nat} (hX : ∀ x y, 0 ≤ X x y) : 0 ≤ bS X a b w h := iS_nn h (fun _ _ => iS_nn w (fun _ _ => hX _ _))
theorem bS_c {X Y : Nat → Nat → Int} {a b w h : Nat} (hX : ∀ x y, x < w → y < h → X (a + x) (b + y) = Y (a + x) (b + y)) : bS X a b w h = bS Y a b w h := iS_c h (fun y hy => iS_c w (fun x hx => hX x y hx hy))
theorem bS_mono {X Y : Nat → Nat → Int} {a b w h : Nat} (hX : ∀ x y, x < w → y < h → X (a + x) (b + y) ≤ Y (a + x) (b + y)) : bS X a b w h ≤ bS Y a b w h := iS_le h (fun y hy => iS_le w (fun x hx => hX x y hx hy))
theorem bS_le {D : Nat → Nat → Bool} {a b w h : Nat} : bS (dt D) a b w h ≤ ((w * h : Nat) : Int) := by
  have := bS_mono (X := dt D) (Y := fun _ _ => 1) (a := a) (b := b) (w := w) (h := h) (fun _ _ _ _ => dt_le)
  rw [bS_k] at this
  rw [Int.mul_one] at this
  rw [Nat.mul_comm]
  exact_mod_cast this
theorem iS_in {f : Nat → Int} {a0 w0 a1 w1 : Nat} (h : a0 ≤ a1) (h2 : a1 + w1 ≤ a0 + w0) (hf : ∀ k, 0 ≤ f k) : iS (fun k => f (a1 + k)) w1 ≤ iS (fun k => f (a0 + k)) w0 := by
  obtain ⟨d, rfl⟩ := Nat.exists_eq_add_of_le h
  obtain ⟨e, rfl⟩ : ∃ e, w0 = d + (w1 + e) := ⟨w0 - d - w1, by omega⟩
  rw [iS_split, iS_split]
  have := iS_nn (f := fun k => f (a0 + k)) d (fun k _ => hf _)
  have := iS_nn (f := fun k => f (a0 + (d + (w1 + k)))) e (fun k _ => hf _)
  rw [iS_c w1 (fun k _ => show f (a0 + d + k) = f (a0 + (d + k)) by rw [Nat.add_assoc])]
  omega
theorem bS_in {X : Nat → Nat → Int} {a0 b0 w0 h0 a1 b1 w1 h1 : Nat} (hX : ∀ x y, 0 ≤ X x y) (h : a0 ≤ a1) (h2 : a1 + w1 ≤ a0 + w0) (h3 : b0 ≤ b1) (h4 : b1 + h1 ≤ b0 + h0) : bS X a1 b1 w1 h1 ≤ bS X a0 b0 w0 h0 := by
  unfold bS
  refine Int.le_trans (iS_le h1 (fun k _ => iS_in (f := fun a => X a (b1 + k)) h h2 (fun _ => hX _ _))) ?_
  exact iS_in (f := fun b => iS (fun a => X (a0 + a) b) w0) h3 h4 (fun _ => iS_nn w0 (fun _ _ => hX _ _))
/-- the blocks of m times m dots from (x, y) on -/
def BB (D : Nat → Nat → Bool) (m x y a b : Nat) : Int := bS (dt D) (x + m * a) (y + m * b) m m
theorem iS_blk {f : Nat → Int} (m w : Nat) : iS (fun a => iS (fun t => f (m * a + t)) m) w = iS f (m * w) := by
  induction w with
  | zero => rfl
  | succ w ih => rw [Nat.mul_succ, iS_split (f := f), ← ih]; rfl
theorem bS_BB {D : Nat → Nat → Bool} {m x y a b w h : Nat} : bS (BB D m x y) a b w h = bS (dt D) (x + m * a) (y + m * b) (m * w) (m * h) := by
  unfold bS
  rw [← iS_blk m h]
  refine iS_c h (fun k _ => ?_)
  rw [iS_c m (fun t _ => (iS_blk (f := fun i => dt D (x + m * a + i) (y + m * b + (m * k + t))) m w).symm), iS_swap]
  refine iS_c w (fun l _ => ?_)
  unfold BB bS
  refine iS_c m (fun t _ => iS_c m (fun i _ => ?_))
  rw [Nat.mul_add, Nat.mul_add]
  congr 1 <;> omega
theorem BB_nn {D : Nat → Nat → Bool} {m x y a b : Nat} : 0 ≤ BB D m x y a b := bS_nn (fun _ _ => dt_nn)
theorem BB_le {D : Nat → Nat → Bool} {m x y a b : Nat} : BB D m x y a b ≤ ((m * m : Nat) : Int) := bS_le
/-- the dark dots left of and above -/
def cs (D : Nat → Nat → Bool) (a b : Nat) : Int := bS (dt D) 0 0 a b
theorem bS_cs {D : Nat → Nat → Bool} {x y w h : Nat} : bS (dt D) x y w h = cs D (x + w) (y + h) - cs D x (y + h) - cs D (x + w) y + cs D x y := by
  unfold cs bS
  rw [iS_split y h, iS_split y h]
  have e : ∀ j, iS (fun i => dt D (0 + i) (0 + j)) (x + w) = iS (fun i => dt D (0 + i) (0 + j)) x + iS (fun i => dt D (x + i) j) w := fun j => by
    rw [iS_split]
    simp only [Nat.zero_add]
  rw [iS_c y (fun j _ => e j), iS_add, iS_c h (fun j _ => e (y + j)), iS_add]
  omega
theorem cs_nn {D : Nat → Nat → Bool} {a b : Nat} : 0 ≤ cs D a b := bS_nn (fun _ _ => dt_nn)
theorem cs_le {D : Nat → Nat → Bool} {a b : Nat} : cs D a b ≤ ((a * b : Nat) : Int) := bS_le
theorem cs_step {D : Nat → Nat → Bool} {x y : Nat} : cs D (x + 1) (y + 1) = cs D (x + 1) y + iS (fun i => dt D i y) (x + 1) := by
  unfold cs bS
  show iS _ y + iS (fun a => dt D (0 + a) (0 + y)) (x + 1) = _
  simp only [Nat.zero_add]
theorem cs_00 {D : Nat → Nat → Bool} {a : Nat} : cs D a 0 = 0 ∧ cs D 0 a = 0 := ⟨rfl, iS_0 a (fun _ _ => rfl)⟩
/-! NO PART IS LESS THAN NOTHING -/
theorem ring_ge {D : Nat → Nat → Bool} {m x y a b : Nat} : 0 ≤ 9 * ((m * m : Nat) : Int) - bS (BB D m x y) (a + 2) (b + 2) 3 3 ∧ 9 * ((m * m : Nat) : Int) - bS (BB D m x y) (a + 2) (b + 2) 3 3 ≤ ringE m (BB D m x y) a b ∧ 33 * ((m * m : Nat) : Int) - bS (BB D m x y) a b 7 7 ≤ ringE m (BB D m x y) a b := by
  unfold ringE
  have h3 := bS_mono (X := BB D m x y) (Y := fun _ _ => ((m * m : Nat) : Int)) (a := a + 2) (b := b + 2) (w := 3) (h := 3) (fun _ _ _ _ => BB_le)
  rw [bS_k] at h3
  have h35 := bS_in (X := BB D m x y) (a0 := a + 1) (b0 := b + 1) (w0 := 5) (h0 := 5) (a1 := a + 2) (b1 := b + 2) (w1 := 3) (h1 := 3) (fun _ _ => BB_nn) (by omega) (by omega) (by omega) (by omega)
  have h57 := bS_in (X := fun p q => ((m * m : Nat) : Int) - BB D m x y p q) (a0 := a) (b0 := b) (w0 := 7) (h0 := 7) (a1 := a + 1) (b1 := b + 1) (w1 := 5) (h1 := 5) (fun _ _ => Int.sub_nonneg_of_le BB_le) (by omega) (by omega) (by omega) (by omega)
  rw [bS_sub, bS_sub, bS_k, bS_k] at h57
  generalize ((m * m : Nat) : Int) = z at *
  omega
theorem edg_nn {D : Nat → Nat → Bool} {m x y v c : Nat} : 0 ≤ edgE (BB D m x y) v c := by
  unfold edgE
  have := bS_in (X := BB D m x y) (a0 := oX v (cnR c) - (if cnR c = true then 1 else 0)) (b0 := oX v (cnD c) - (if cnD c = true then 1 else 0)) (w0 := 8) (h0 := 8) (a1 := oX v (cnR c)) (b1 := oX v (cnD c)) (w1 := 7) (h1 := 7) (fun _ _ => BB_nn) (by omega) (by split <;> omega) (by omega) (by split <;> omega)
  omega
theorem tm_nn {v m : Nat} {B : Nat → Int} (h : ∀ a, 0 ≤ B a ∧ B a ≤ ((m * m : Nat) : Int)) (a : Nat) : 0 ≤ tmE v m B a := by
  unfold tmE
  have := h a
  repeat' split
  all_goals omega
/-! AS THE REFERENCE COUNTS THEM -/
def pX (s q i j : Nat) : Nat := if q = 0 then i else if q = 1 then s - 1 - j else if q = 2 then s - 1 - i else j
def pY (s q i j : Nat) : Nat := if q = 0 then j else if q = 1 then i else if q = 2 then s - 1 - j else s - 1 - i
def ER (s q m : Nat) (B : Nat → Nat → Int) : Int := iS (fun j => iS (fun i => ce m (mo0 (cl s i) (cl s j)) (B (pX s q i j) (pY s q i j))) s) s
theorem ER_EE {v q m : Nat} {B : Nat → Nat → Int} (hv : 1 ≤ v) (hq : q < 4) : ER (17 + 4 * v) q m B = EE (17 + 4 * v) q m B := by
  unfold ER EE
  have hq4 : q = 0 ∨ q = 1 ∨ q = 2 ∨ q = 3 := by omega
  rcases hq4 with rfl | rfl | rfl | rfl
  · rfl
  · rw [iS_swap]
    refine iS_c _ (fun b hb => ?_)
    rw [← iS_rev (f := fun a => ce m (moq 1 (cl (17 + 4 * v) a) (cl (17 + 4 * v) b)) (B a b))]
    refine iS_c _ (fun a ha => ?_)
    show ce m (mo0 (cl (17 + 4 * v) b) (cl (17 + 4 * v) a)) _ = ce m (mo0 (cl (17 + 4 * v) b) (rvc (cl (17 + 4 * v) (17 + 4 * v - 1 - a)))) _
    rw [cl_rv hv ha]
    rfl
  · rw [← iS_rev (f := fun b => iS (fun a => ce m (moq 2 (cl (17 + 4 * v) a) (cl (17 + 4 * v) b)) (B a b)) (17 + 4 * v))]
    refine iS_c _ (fun b hb => ?_)
    rw [← iS_rev (f := fun a => ce m (moq 2 (cl (17 + 4 * v) a) (cl (17 + 4 * v) (17 + 4 * v - 1 - b))) (B a (17 + 4 * v - 1 - b)))]
    refine iS_c _ (fun a ha => ?_)
    show ce m (mo0 (cl (17 + 4 * v) a) (cl (17 + 4 * v) b)) _ = ce m (mo0 (rvc (cl (17 + 4 * v) (17 + 4 * v - 1 - a))) (rvc (cl (17 + 4 * v) (17 + 4 * v - 1 - b)))) _
    rw [cl_rv hv ha, cl_rv hv hb]
    rfl
  · rw [iS_swap]
    rw [← iS_rev (f := fun b => iS (fun a => ce m (moq 3 (cl (17 + 4 * v) a) (cl (17 + 4 * v) b)) (B a b)) (17 + 4 * v))]
    refine iS_c _ (fun b hb => iS_c _ (fun a ha => ?_))
    show ce m (mo0 (cl (17 + 4 * v) b) (cl (17 + 4 * v) a)) _ = ce m (mo0 (rvc (cl (17 + 4 * v) (17 + 4 * v - 1 - b))) (cl (17 + 4 * v) a)) _
    rw [cl_rv hv hb]
    rfl
/-- a run of equal modules -/
def rnX (s q i j l : Nat) : Nat := if q = 2 then s - i - l else pX s q i j
def rnY (s q i j l : Nat) : Nat := if q = 3 then s - i - l else pY s q i j
theorem run_sum {s q i j l : Nat} {B : Nat → Nat → Int} (hq : q < 4) (hi : i + l ≤ s) : iS (fun t => B (pX s q (i + t) j) (pY s q (i + t) j)) l = bS B (rnX s q i j l) (rnY s q i j l) (if q % 2 = 1 then 1 else l) (if q % 2 = 1 then l else 1) := by
  have hq4 : q = 0 ∨ q = 1 ∨ q = 2 ∨ q = 3 := by omega
  rcases hq4 with rfl | rfl | rfl | rfl
  · show _ = 0 + _
    rw [Int.zero_add]
    exact iS_c l (fun t _ => rfl)
  · refine iS_c l (fun t _ => ?_)
    show _ = 0 + _
    rw [Int.zero_add]
    rfl
  · show _ = 0 + _
    rw [Int.zero_add, ← iS_rev]
    refine iS_c l (fun t ht => ?_)
    show B (s - 1 - (i + (l - 1 - t))) (s - 1 - j) = B (s - i - l + t) (s - 1 - j)
    congr 1; omega
  · rw [← iS_rev]
    refine iS_c l (fun t ht => ?_)
    show B j (s - 1 - (i + (l - 1 - t))) = 0 + B (j + 0) (s - i - l + t)
    rw [Int.zero_add]
    congr 1; omega
theorem ce_sum {m l : Nat} {c : Int} {f : Nat → Int} (hc : c = 0 ∨ c = 1) : iS (fun t => ce m c (f t)) l = if c = 1 then (m * m : Nat) * (l : Int) - iS f l else iS f l := by
  rcases hc with rfl | rfl
  · rfl
  · show iS (fun t => ((m * m : Nat) : Int) - f t) l = (m * m : Nat) * (l : Int) - iS f l
    rw [iS_sub, iS_k, Int.mul_comm]
theorem ce_nn {m : Nat} {c z : Int} (h : 0 ≤ z ∧ z ≤ ((m * m : Nat) : Int)) : 0 ≤ ce m c z := by
  unfold ce
  repeat' split
  all_goals omega
/-! ROWS OF NUMBERS IN ORDER -/
theorem nd_le : ∀ {l r : List Nat}, l.Nodup → (∀ k, k ∈ l → k ∈ r) → l.length ≤ r.length := by
  intro l
  induction l with
  | nil => intro r _ _; exact Nat.zero_le _
  | cons a l ih =>
    intro r h hr
    have ha : a ∈ r := hr a (List.mem_cons_self ..)
    have hn := List.nodup_cons.mp h
    have := ih (r := r.erase a) hn.2 (fun k hk => (List.mem_erase_of_ne (show k ≠ a from fun z => hn.1 (z ▸ hk))).mpr (hr k (List.mem_cons_of_mem _ hk)))
    rw [List.length_erase_of_mem ha] at this
    have hp : 0 < r.length := List.length_pos_of_mem ha
    show l.length + 1 ≤ r.length
    omega
theorem srt_nd {l : List Nat} (h : l.Pairwise (· < ·)) : l.Nodup := h.imp (fun h => Nat.ne_of_lt h)
theorem srt_eq : ∀ {l r : List Nat}, l.Pairwise (· < ·) → r.Pairwise (· < ·) → (∀ k, k ∈ l ↔ k ∈ r) → l = r := by
  intro l
  induction l with
  | nil =>
    intro r _ _ h
    cases r with
    | nil => rfl
    | cons b r => exact absurd ((h b).mpr (List.mem_cons_self ..)) (List.not_mem_nil)
  | cons a l ih =>
    intro r hl hr h
    cases r with
    | nil => exact absurd ((h a).mp (List.mem_cons_self ..)) (List.not_mem_nil)
    | cons b r =>
      have hl' := List.pairwise_cons.mp hl
      have hr' := List.pairwise_cons.mp hr
      have e : a = b := by
        have h1 := (h a).mp (List.mem_cons_self ..)
        have h2 := (h b).mpr (List.mem_cons_self ..)
        rcases List.mem_cons.mp h1 with e | e
        · exact e
        · rcases List.mem_cons.mp h2 with f | f
          · exact f.symm
          · have := hl'.1 b f; have := hr'.1 a e; omega
      subst e
      rw [ih hl'.2 hr'.2 (fun k => ⟨fun hk => by
        rcases List.mem_cons.mp ((h k).mp (List.mem_cons_of_mem _ hk)) with e | e
        · have := hl'.1 k hk; omega
        · exact e, fun hk => by
        rcases List.mem_cons.mp ((h k).mpr (List.mem_cons_of_mem _ hk)) with e | e
        · have := hr'.1 k hk; omega
        · exact e⟩)]
