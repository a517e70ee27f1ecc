/-! THE FIELD OF 256 -/
def xt (x : Nat) : Nat := if 2 * x ≤ 255 then 2 * x else (2 * x) ^^^ 285
def pwN : Nat → Nat
  | 0 => 1
  | k + 1 => xt (pwN k)
def lgL : List Nat := [0, 0, 1, 25, 2, 50, 26, 198, 3, 223, 51, 238, 27, 104, 199, 75, 4, 100, 224, 14, 52, 141, 239, 129, 28, 193, 105, 248, 200, 8, 76, 113, 5, 138, 101, 47, 225, 36, 15, 33, 53, 147, 142, 218, 240, 18, 130, 69, 29, 181, 194, 125, 106, 39, 249, 185, 201, 154, 9, 120, 77, 228, 114, 166, 6, 191, 139, 98, 102, 221, 48, 253, 226, 152, 37, 179, 16, 145, 34, 136, 54, 208, 148, 206, 143, 150, 219, 189, 241, 210, 19, 92, 131, 56, 70, 64, 30, 66, 182, 163, 195, 72, 126, 110, 107, 58, 40, 84, 250, 133, 186, 61, 202, 94, 155, 159, 10, 21, 121, 43, 78, 212, 229, 172, 115, 243, 167, 87, 7, 112, 192, 247, 140, 128, 99, 13, 103, 74, 222, 237, 49, 197, 254, 24, 227, 165, 153, 119, 38, 184, 180, 124, 17, 68, 146, 217, 35, 32, 137, 46, 55, 63, 209, 91, 149, 188, 207, 205, 144, 135, 151, 178, 220, 252, 190, 97, 242, 86, 211, 171, 20, 42, 93, 158, 132, 60, 57, 83, 71, 109, 65, 162, 31, 45, 67, 216, 183, 123, 164, 118, 196, 23, 73, 236, 127, 12, 111, 246, 108, 161, 59, 82, 41, 157, 85, 170, 251, 96, 134, 177, 187, 204, 62, 90, 203, 89, 95, 176, 156, 169, 160, 81, 11, 245, 22, 235, 122, 117, 44, 215, 79, 174, 213, 233, 230, 231, 173, 232, 116, 214, 244, 234, 168, 80, 88, 175]
def lgN (a : Nat) : Nat := lgL.getD a 0
theorem xt_lt : ∀ x : Fin 256, xt x.val < 256 := by decide +kernel
theorem pw_lt : ∀ k, pwN k < 256 := by
  intro k
  induction k with
  | zero => decide
  | succ k ih => exact xt_lt ⟨pwN k, ih⟩
theorem pw_255 : pwN 255 = 1 := by decide +kernel
theorem pw_per : ∀ i, pwN (255 + i) = pwN i := by
  intro i
  induction i with
  | zero => exact pw_255
  | succ i ih =>
    show xt (pwN (255 + i)) = xt (pwN i)
    rw [ih]
theorem lg_a : ∀ a : Fin 256, a.val ≠ 0 → pwN (lgN a.val) = a.val ∧ lgN a.val < 255 := by decide +kernel
theorem lg_p : ∀ i : Fin 255, lgN (pwN i.val) = i.val ∧ pwN i.val ≠ 0 := by decide +kernel
theorem pw_ne (i : Nat) : pwN i ≠ 0 := by
  have h : ∀ k, pwN (255 * k + i % 255) = pwN (i % 255) := by
    intro k
    induction k with
    | zero => rw [Nat.mul_zero, Nat.zero_add]
    | succ k ih =>
      rw [show 255 * (k + 1) + i % 255 = 255 + (255 * k + i % 255) by omega, pw_per, ih]
  have := h (i / 255)
  rw [show 255 * (i / 255) + i % 255 = i by omega] at this
  rw [this]
  exact (lg_p ⟨i % 255, by omega⟩).2
/-- the product -/
def gm (a b : Nat) : Nat := if a = 0 ∨ b = 0 then 0 else pwN (lgN a + lgN b)
theorem gm_lt {a b : Nat} : gm a b < 256 := by
  unfold gm
  split
  · omega
  · exact pw_lt _
theorem gm_0 {b : Nat} : gm 0 b = 0 := if_pos (Or.inl rfl)
theorem gm_z {a : Nat} : gm a 0 = 0 := if_pos (Or.inr rfl)
/-! the class's tables -/
theorem xt_i : ∀ x : Fin 256, (if 255 < nI x.val <<< ((1 : Int32) &&& 31) then (nI x.val <<< ((1 : Int32) &&& 31)) ^^^ 285 else nI x.val <<< ((1 : Int32) &&& 31)) = nI (xt x.val) := by decide +kernel
theorem bl_pw : ∀ k, bl_v k = nI (pwN k) := by
  intro k
  induction k with
  | zero => rfl
  | succ k ih =>
    show (if 255 < bl_v k <<< ((1 : Int32) &&& 31) then (bl_v k <<< ((1 : Int32) &&& 31)) ^^^ 285 else bl_v k <<< ((1 : Int32) &&& 31)) = nI (xt (pwN k))
    rw [ih]
    exact xt_i ⟨pwN k, pw_lt k⟩
theorem u2_hit {f : Nat → Nat → Int32} {a k : Nat} {v : Int32} : im_u2 f a k v a k = v := by
  unfold im_u2
  simp
theorem u2_a {f : Nat → Nat → Int32} {a k b j : Nat} {v : Int32} (h : ¬ (b = a ∧ j = k)) : im_u2 f a k v b j = f b j := by
  unfold im_u2
  by_cases c : b = a
  · have d : ¬ j = k := fun z => h ⟨c, z⟩
    simp [c, d]
  · simp [c]
theorem bl_s {k : Nat} : bl_i (k + 1) = if k < 255 then im_u2 (im_u2 (bl_i k) 45 k (bl_v k)) 46 (bl_v k).toNatClampNeg (nI k) else im_u2 (bl_i k) 45 k (bl_v k) := rfl
theorem bl_45 : ∀ k i, i < k → bl_i k 45 i = nI (pwN i) := by
  intro k
  induction k with
  | zero => intro i hi; omega
  | succ k ih =>
    intro i hi
    have core : im_u2 (bl_i k) 45 k (bl_v k) 45 i = nI (pwN i) := by
      by_cases e : i = k
      · subst e
        rw [u2_hit, bl_pw]
      · rw [u2_a (fun z => e z.2)]
        exact ih i (by omega)
    rw [bl_s]
    by_cases c : k < 255
    · rw [if_pos c, u2_a (fun z => by omega)]
      exact core
    · rw [if_neg c]
      exact core
theorem bl_46 : ∀ k i, i < k → i < 255 → bl_i k 46 (pwN i) = nI i := by
  intro k
  induction k with
  | zero => intro i hi; omega
  | succ k ih =>
    intro i hi h2
    rw [bl_s]
    by_cases c : k < 255
    · rw [if_pos c, bl_pw, nI_clamp (by have := pw_lt k; omega)]
      by_cases e : i = k
      · subst e
        exact u2_hit
      · rw [u2_a (fun z => e ?_), u2_a (fun z => by omega)]
        · exact ih i (by omega) h2
        · have a := (lg_p ⟨i, h2⟩).1
          have b := (lg_p ⟨k, c⟩).1
          rw [show pwN i = pwN k from z.2] at a
          exact a.symm.trans b
    · rw [if_neg c, u2_a (fun z => by omega)]
      exact ih i (by omega) h2
def PWL (M : im_M) : Prop := im_i M 45 = im_i mm_341 45 ∧ im_i M 46 = im_i mm_341 46
theorem PWL_fr {A : Nat} {F : List (Nat × Nat)} {M M' : im_M} (h : fr A F M M') (c : clr A F [45, 46] [] [] = true) (q : PWL M) : PWL M' := by
  unfold PWL at q ⊢
  rw [clr_a c h (a := 45) (by decide), clr_a c h (a := 46) (by decide)]
  exact q
theorem vz_up {f : Nat → Nat → Int32} {a b : Nat} {g : Nat → Int32} (h : ¬ b = a) : va_up f a g b = f b := if_neg h
theorem vz_u2 {f : Nat → Nat → Int32} {a k b : Nat} {v : Int32} (h : ¬ b = a) : im_u2 f a k v b = f b := funext fun _ => if_neg h
theorem vz_fl {f : Nat → Nat → Int32} {a k b : Nat} {v : List Int32} (h : ¬ b = a) : im_fl f a k v b = f b := funext fun _ => if_neg (fun z => h z.1)
theorem mz_199 : mv_i199 45 = mv_i198 45 ∧ mv_i199 46 = mv_i198 46 := ⟨vz_up (by decide), vz_up (by decide)⟩
theorem mz_198 : mv_i198 45 = mv_i197 45 ∧ mv_i198 46 = mv_i197 46 := ⟨vz_up (by decide), vz_up (by decide)⟩
theorem mz_197 : mv_i197 45 = mv_i196 45 ∧ mv_i197 46 = mv_i196 46 := ⟨vz_u2 (by decide), vz_u2 (by decide)⟩
theorem mz_196 : mv_i196 45 = mv_i195 45 ∧ mv_i196 46 = mv_i195 46 := ⟨vz_up (by decide), vz_up (by decide)⟩
theorem mz_195 : mv_i195 45 = mv_i194 45 ∧ mv_i195 46 = mv_i194 46 := ⟨vz_up (by decide), vz_up (by decide)⟩
theorem mz_194 : mv_i194 45 = mv_i193 45 ∧ mv_i194 46 = mv_i193 46 := ⟨vz_up (by decide), vz_up (by decide)⟩
theorem mz_193 : mv_i193 45 = mv_i192 45 ∧ mv_i193 46 = mv_i192 46 := ⟨vz_up (by decide), vz_up (by decide)⟩
theorem mz_192 : mv_i192 45 = mv_i191 45 ∧ mv_i192 46 = mv_i191 46 := ⟨vz_up (by decide), vz_up (by decide)⟩
theorem mz_191 : mv_i191 45 = mv_i190 45 ∧ mv_i191 46 = mv_i190 46 := ⟨vz_up (by decide), vz_up (by decide)⟩
theorem mz_190 : mv_i190 45 = mv_i189 45 ∧ mv_i190 46 = mv_i189 46 := ⟨vz_u2 (by decide), vz_u2 (by decide)⟩
theorem mz_189 : mv_i189 45 = mv_i188 45 ∧ mv_i189 46 = mv_i188 46 := ⟨vz_u2 (by decide), vz_u2 (by decide)⟩
theorem mz_188 : mv_i188 45 = mv_i187 45 ∧ mv_i188 46 = mv_i187 46 := ⟨vz_up (by decide), vz_up (by decide)⟩
theorem mz_187 : mv_i187 45 = mv_i186 45 ∧ mv_i187 46 = mv_i186 46 := ⟨vz_up (by decide), vz_up (by decide)⟩
theorem mz_186 : mv_i186 45 = mv_i185 45 ∧ mv_i186 46 = mv_i185 46 := ⟨vz_up (by decide), vz_up (by decide)⟩
theorem mz_185 : mv_i185 45 = mv_i184 45 ∧ mv_i185 46 = mv_i184 46 := ⟨vz_up (by decide), vz_up (by decide)⟩
theorem mz_184 : mv_i184 45 = mv_i183 45 ∧ mv_i184 46 = mv_i183 46 := ⟨vz_up (by decide), vz_up (by decide)⟩
theorem mz_183 : mv_i183 45 = mv_i182 45 ∧ mv_i183 46 = mv_i182 46 := ⟨vz_up (by decide), vz_up (by decide)⟩
theorem mz_182 : mv_i182 45 = mv_i181 45 ∧ mv_i182 46 = mv_i181 46 := ⟨vz_up (by decide), vz_up (by decide)⟩
theorem mz_181 : mv_i181 45 = mv_i180 45 ∧ mv_i181 46 = mv_i180 46 := ⟨vz_up (by decide), vz_up (by decide)⟩
theorem mz_180 : mv_i180 45 = mv_i179 45 ∧ mv_i180 46 = mv_i179 46 := ⟨vz_up (by decide), vz_up (by decide)⟩
theorem mz_179 : mv_i179 45 = mv_i178 45 ∧ mv_i179 46 = mv_i178 46 := ⟨vz_up (by decide), vz_up (by decide)⟩
theorem mz_178 : mv_i178 45 = mv_i177 45 ∧ mv_i178 46 = mv_i177 46 := ⟨vz_up (by decide), vz_up (by decide)⟩
theorem mz_177 : mv_i177 45 = mv_i176 45 ∧ mv_i177 46 = mv_i176 46 := ⟨vz_up (by decide), vz_up (by decide)⟩
theorem mz_176 : mv_i176 45 = mv_i175 45 ∧ mv_i176 46 = mv_i175 46 := ⟨vz_up (by decide), vz_up (by decide)⟩
theorem mz_175 : mv_i175 45 = mv_i174 45 ∧ mv_i175 46 = mv_i174 46 := ⟨vz_up (by decide), vz_up (by decide)⟩
theorem mz_174 : mv_i174 45 = mv_i173 45 ∧ mv_i174 46 = mv_i173 46 := ⟨vz_up (by decide), vz_up (by decide)⟩
theorem mz_173 : mv_i173 45 = mv_i172 45 ∧ mv_i173 46 = mv_i172 46 := ⟨vz_up (by decide), vz_up (by decide)⟩
theorem mz_172 : mv_i172 45 = mv_i171 45 ∧ mv_i172 46 = mv_i171 46 := ⟨vz_up (by decide), vz_up (by decide)⟩
theorem mz_171 : mv_i171 45 = mv_i170 45 ∧ mv_i171 46 = mv_i170 46 := ⟨vz_up (by decide), vz_up (by decide)⟩
theorem mz_170 : mv_i170 45 = mv_i169 45 ∧ mv_i170 46 = mv_i169 46 := ⟨vz_up (by decide), vz_up (by decide)⟩
theorem mz_169 : mv_i169 45 = mv_i168 45 ∧ mv_i169 46 = mv_i168 46 := ⟨vz_up (by decide), vz_up (by decide)⟩
theorem mz_168 : mv_i168 45 = mv_i167 45 ∧ mv_i168 46 = mv_i167 46 := ⟨vz_fl (by decide), vz_fl (by decide)⟩
theorem mz_167 : mv_i167 45 = mv_i166 45 ∧ mv_i167 46 = mv_i166 46 := ⟨vz_fl (by decide), vz_fl (by decide)⟩
theorem mz_166 : mv_i166 45 = mv_i165 45 ∧ mv_i166 46 = mv_i165 46 := ⟨vz_fl (by decide), vz_fl (by decide)⟩
theorem mz_165 : mv_i165 45 = mv_i164 45 ∧ mv_i165 46 = mv_i164 46 := ⟨vz_fl (by decide), vz_fl (by decide)⟩
theorem mz_164 : mv_i164 45 = mv_i163 45 ∧ mv_i164 46 = mv_i163 46 := ⟨vz_fl (by decide), vz_fl (by decide)⟩
theorem mz_163 : mv_i163 45 = mv_i162 45 ∧ mv_i163 46 = mv_i162 46 := ⟨vz_fl (by decide), vz_fl (by decide)⟩
theorem mz_162 : mv_i162 45 = mv_i161 45 ∧ mv_i162 46 = mv_i161 46 := ⟨vz_fl (by decide), vz_fl (by decide)⟩
theorem mz_161 : mv_i161 45 = mv_i160 45 ∧ mv_i161 46 = mv_i160 46 := ⟨vz_fl (by decide), vz_fl (by decide)⟩
theorem mz_160 : mv_i160 45 = mv_i159 45 ∧ mv_i160 46 = mv_i159 46 := ⟨vz_fl (by decide), vz_fl (by decide)⟩
theorem mz_159 : mv_i159 45 = mv_i158 45 ∧ mv_i159 46 = mv_i158 46 := ⟨vz_fl (by decide), vz_fl (by decide)⟩
theorem mz_158 : mv_i158 45 = mv_i157 45 ∧ mv_i158 46 = mv_i157 46 := ⟨vz_fl (by decide), vz_fl (by decide)⟩
theorem mz_157 : mv_i157 45 = mv_i156 45 ∧ mv_i157 46 = mv_i156 46 := ⟨vz_fl (by decide), vz_fl (by decide)⟩
theorem mz_156 : mv_i156 45 = mv_i155 45 ∧ mv_i156 46 = mv_i155 46 := ⟨vz_fl (by decide), vz_fl (by decide)⟩
theorem mz_155 : mv_i155 45 = mv_i154 45 ∧ mv_i155 46 = mv_i154 46 := ⟨vz_fl (by decide), vz_fl (by decide)⟩
theorem mz_154 : mv_i154 45 = mv_i153 45 ∧ mv_i154 46 = mv_i153 46 := ⟨vz_fl (by decide), vz_fl (by decide)⟩
theorem mz_153 : mv_i153 45 = mv_i152 45 ∧ mv_i153 46 = mv_i152 46 := ⟨vz_fl (by decide), vz_fl (by decide)⟩
theorem mz_152 : mv_i152 45 = mv_i151 45 ∧ mv_i152 46 = mv_i151 46 := ⟨vz_up (by decide), vz_up (by decide)⟩
theorem mz_151 : mv_i151 45 = mv_i150 45 ∧ mv_i151 46 = mv_i150 46 := ⟨vz_fl (by decide), vz_fl (by decide)⟩
theorem mz_150 : mv_i150 45 = mv_i149 45 ∧ mv_i150 46 = mv_i149 46 := ⟨vz_fl (by decide), vz_fl (by decide)⟩
theorem mz_149 : mv_i149 45 = mv_i148 45 ∧ mv_i149 46 = mv_i148 46 := ⟨vz_fl (by decide), vz_fl (by decide)⟩
theorem mz_148 : mv_i148 45 = mv_i147 45 ∧ mv_i148 46 = mv_i147 46 := ⟨vz_fl (by decide), vz_fl (by decide)⟩
theorem mz_147 : mv_i147 45 = mv_i146 45 ∧ mv_i147 46 = mv_i146 46 := ⟨vz_fl (by decide), vz_fl (by decide)⟩
theorem mz_146 : mv_i146 45 = mv_i145 45 ∧ mv_i146 46 = mv_i145 46 := ⟨vz_fl (by decide), vz_fl (by decide)⟩
theorem mz_145 : mv_i145 45 = mv_i144 45 ∧ mv_i145 46 = mv_i144 46 := ⟨vz_fl (by decide), vz_fl (by decide)⟩
theorem mz_144 : mv_i144 45 = mv_i143 45 ∧ mv_i144 46 = mv_i143 46 := ⟨vz_fl (by decide), vz_fl (by decide)⟩
theorem mz_143 : mv_i143 45 = mv_i142 45 ∧ mv_i143 46 = mv_i142 46 := ⟨vz_fl (by decide), vz_fl (by decide)⟩
theorem mz_142 : mv_i142 45 = mv_i141 45 ∧ mv_i142 46 = mv_i141 46 := ⟨vz_fl (by decide), vz_fl (by decide)⟩
theorem mz_141 : mv_i141 45 = mv_i140 45 ∧ mv_i141 46 = mv_i140 46 := ⟨vz_fl (by decide), vz_fl (by decide)⟩
theorem mz_140 : mv_i140 45 = mv_i139 45 ∧ mv_i140 46 = mv_i139 46 := ⟨vz_fl (by decide), vz_fl (by decide)⟩
theorem mz_139 : mv_i139 45 = mv_i138 45 ∧ mv_i139 46 = mv_i138 46 := ⟨vz_fl (by decide), vz_fl (by decide)⟩
theorem mz_138 : mv_i138 45 = mv_i137 45 ∧ mv_i138 46 = mv_i137 46 := ⟨vz_fl (by decide), vz_fl (by decide)⟩
theorem mz_137 : mv_i137 45 = mv_i136 45 ∧ mv_i137 46 = mv_i136 46 := ⟨vz_fl (by decide), vz_fl (by decide)⟩
theorem mz_136 : mv_i136 45 = mv_i135 45 ∧ mv_i136 46 = mv_i135 46 := ⟨vz_fl (by decide), vz_fl (by decide)⟩
theorem mz_135 : mv_i135 45 = mv_i134 45 ∧ mv_i135 46 = mv_i134 46 := ⟨vz_up (by decide), vz_up (by decide)⟩
theorem mz_134 : mv_i134 45 = mv_i133 45 ∧ mv_i134 46 = mv_i133 46 := ⟨vz_up (by decide), vz_up (by decide)⟩
theorem mz_133 : mv_i133 45 = mv_i132 45 ∧ mv_i133 46 = mv_i132 46 := ⟨vz_up (by decide), vz_up (by decide)⟩
theorem mz_132 : mv_i132 45 = mv_i131 45 ∧ mv_i132 46 = mv_i131 46 := ⟨vz_up (by decide), vz_up (by decide)⟩
theorem mz_131 : mv_i131 45 = mv_i130 45 ∧ mv_i131 46 = mv_i130 46 := ⟨vz_up (by decide), vz_up (by decide)⟩
theorem mz_130 : mv_i130 45 = mv_i129 45 ∧ mv_i130 46 = mv_i129 46 := ⟨vz_up (by decide), vz_up (by decide)⟩
theorem mz_129 : mv_i129 45 = mv_i128 45 ∧ mv_i129 46 = mv_i128 46 := ⟨vz_up (by decide), vz_up (by decide)⟩
theorem mz_128 : mv_i128 45 = mv_i127 45 ∧ mv_i128 46 = mv_i127 46 := ⟨vz_up (by decide), vz_up (by decide)⟩
theorem mz_127 : mv_i127 45 = mv_i126 45 ∧ mv_i127 46 = mv_i126 46 := ⟨vz_up (by decide), vz_up (by decide)⟩
theorem mz_126 : mv_i126 45 = mv_i125 45 ∧ mv_i126 46 = mv_i125 46 := ⟨vz_up (by decide), vz_up (by decide)⟩
theorem mz_125 : mv_i125 45 = mv_i124 45 ∧ mv_i125 46 = mv_i124 46 := ⟨vz_fl (by decide), vz_fl (by decide)⟩
theorem mz_124 : mv_i124 45 = mv_i123 45 ∧ mv_i124 46 = mv_i123 46 := ⟨vz_up (by decide), vz_up (by decide)⟩
theorem mz_123 : mv_i123 45 = mv_i122 45 ∧ mv_i123 46 = mv_i122 46 := ⟨vz_fl (by decide), vz_fl (by decide)⟩
theorem mz_122 : mv_i122 45 = mv_i121 45 ∧ mv_i122 46 = mv_i121 46 := ⟨vz_up (by decide), vz_up (by decide)⟩
theorem mz_121 : mv_i121 45 = mv_i120 45 ∧ mv_i121 46 = mv_i120 46 := ⟨vz_fl (by decide), vz_fl (by decide)⟩
theorem mz_120 : mv_i120 45 = mv_i119 45 ∧ mv_i120 46 = mv_i119 46 := ⟨vz_fl (by decide), vz_fl (by decide)⟩
theorem mz_119 : mv_i119 45 = mv_i118 45 ∧ mv_i119 46 = mv_i118 46 := ⟨vz_fl (by decide), vz_fl (by decide)⟩
theorem mz_118 : mv_i118 45 = mv_i117 45 ∧ mv_i118 46 = mv_i117 46 := ⟨vz_fl (by decide), vz_fl (by decide)⟩
theorem mz_117 : mv_i117 45 = mv_i116 45 ∧ mv_i117 46 = mv_i116 46 := ⟨vz_fl (by decide), vz_fl (by decide)⟩
theorem mz_116 : mv_i116 45 = mv_i115 45 ∧ mv_i116 46 = mv_i115 46 := ⟨vz_fl (by decide), vz_fl (by decide)⟩
theorem mz_115 : mv_i115 45 = mv_i114 45 ∧ mv_i115 46 = mv_i114 46 := ⟨vz_fl (by decide), vz_fl (by decide)⟩
theorem mz_114 : mv_i114 45 = mv_i113 45 ∧ mv_i114 46 = mv_i113 46 := ⟨vz_fl (by decide), vz_fl (by decide)⟩
theorem mz_113 : mv_i113 45 = mv_i112 45 ∧ mv_i113 46 = mv_i112 46 := ⟨vz_fl (by decide), vz_fl (by decide)⟩
theorem mz_112 : mv_i112 45 = mv_i111 45 ∧ mv_i112 46 = mv_i111 46 := ⟨vz_fl (by decide), vz_fl (by decide)⟩
theorem mz_111 : mv_i111 45 = mv_i110 45 ∧ mv_i111 46 = mv_i110 46 := ⟨vz_fl (by decide), vz_fl (by decide)⟩
theorem mz_110 : mv_i110 45 = mv_i109 45 ∧ mv_i110 46 = mv_i109 46 := ⟨vz_up (by decide), vz_up (by decide)⟩
theorem mz_109 : mv_i109 45 = mv_i108 45 ∧ mv_i109 46 = mv_i108 46 := ⟨vz_up (by decide), vz_up (by decide)⟩
theorem mz_108 : mv_i108 45 = mv_i107 45 ∧ mv_i108 46 = mv_i107 46 := ⟨vz_up (by decide), vz_up (by decide)⟩
theorem mz_107 : mv_i107 45 = mv_i106 45 ∧ mv_i107 46 = mv_i106 46 := ⟨vz_up (by decide), vz_up (by decide)⟩
theorem mz_106 : mv_i106 45 = mv_i105 45 ∧ mv_i106 46 = mv_i105 46 := ⟨vz_fl (by decide), vz_fl (by decide)⟩
theorem mz_105 : mv_i105 45 = mv_i104 45 ∧ mv_i105 46 = mv_i104 46 := ⟨vz_fl (by decide), vz_fl (by decide)⟩
theorem mz_104 : mv_i104 45 = mv_i103 45 ∧ mv_i104 46 = mv_i103 46 := ⟨vz_up (by decide), vz_up (by decide)⟩
theorem mz_103 : mv_i103 45 = mv_i102 45 ∧ mv_i103 46 = mv_i102 46 := ⟨vz_up (by decide), vz_up (by decide)⟩
theorem mz_102 : mv_i102 45 = mv_i101 45 ∧ mv_i102 46 = mv_i101 46 := ⟨vz_up (by decide), vz_up (by decide)⟩
theorem mz_101 : mv_i101 45 = mv_i100 45 ∧ mv_i101 46 = mv_i100 46 := ⟨vz_up (by decide), vz_up (by decide)⟩
theorem mz_100 : mv_i100 45 = mv_i99 45 ∧ mv_i100 46 = mv_i99 46 := ⟨vz_u2 (by decide), vz_u2 (by decide)⟩
theorem mz_99 : mv_i99 45 = mv_i98 45 ∧ mv_i99 46 = mv_i98 46 := ⟨vz_u2 (by decide), vz_u2 (by decide)⟩
theorem mz_98 : mv_i98 45 = mv_i97 45 ∧ mv_i98 46 = mv_i97 46 := ⟨vz_up (by decide), vz_up (by decide)⟩
theorem mz_97 : mv_i97 45 = mv_i96 45 ∧ mv_i97 46 = mv_i96 46 := ⟨vz_up (by decide), vz_up (by decide)⟩
theorem mz_96 : mv_i96 45 = mv_i95 45 ∧ mv_i96 46 = mv_i95 46 := ⟨vz_up (by decide), vz_up (by decide)⟩
theorem mz_95 : mv_i95 45 = mv_i94 45 ∧ mv_i95 46 = mv_i94 46 := ⟨vz_up (by decide), vz_up (by decide)⟩
theorem mz_94 : mv_i94 45 = mv_i93 45 ∧ mv_i94 46 = mv_i93 46 := ⟨vz_up (by decide), vz_up (by decide)⟩
theorem mz_93 : mv_i93 45 = mv_i92 45 ∧ mv_i93 46 = mv_i92 46 := ⟨vz_up (by decide), vz_up (by decide)⟩
theorem mz_92 : mv_i92 45 = mv_i91 45 ∧ mv_i92 46 = mv_i91 46 := ⟨vz_up (by decide), vz_up (by decide)⟩
theorem mz_91 : mv_i91 45 = mv_i90 45 ∧ mv_i91 46 = mv_i90 46 := ⟨vz_up (by decide), vz_up (by decide)⟩
theorem mz_90 : mv_i90 45 = mv_i89 45 ∧ mv_i90 46 = mv_i89 46 := ⟨vz_up (by decide), vz_up (by decide)⟩
theorem mz_89 : mv_i89 45 = mv_i88 45 ∧ mv_i89 46 = mv_i88 46 := ⟨vz_up (by decide), vz_up (by decide)⟩
theorem mz_88 : mv_i88 45 = mv_i87 45 ∧ mv_i88 46 = mv_i87 46 := ⟨vz_up (by decide), vz_up (by decide)⟩
theorem mz_87 : mv_i87 45 = mv_i86 45 ∧ mv_i87 46 = mv_i86 46 := ⟨vz_up (by decide), vz_up (by decide)⟩
theorem mz_86 : mv_i86 45 = mv_i85 45 ∧ mv_i86 46 = mv_i85 46 := ⟨vz_u2 (by decide), vz_u2 (by decide)⟩
theorem mz_85 : mv_i85 45 = mv_i84 45 ∧ mv_i85 46 = mv_i84 46 := ⟨vz_up (by decide), vz_up (by decide)⟩
theorem mz_84 : mv_i84 45 = mv_i83 45 ∧ mv_i84 46 = mv_i83 46 := ⟨vz_up (by decide), vz_up (by decide)⟩
theorem mz_83 : mv_i83 45 = mv_i82 45 ∧ mv_i83 46 = mv_i82 46 := ⟨vz_up (by decide), vz_up (by decide)⟩
theorem mz_82 : mv_i82 45 = mv_i81 45 ∧ mv_i82 46 = mv_i81 46 := ⟨vz_up (by decide), vz_up (by decide)⟩
theorem mz_81 : mv_i81 45 = mv_i80 45 ∧ mv_i81 46 = mv_i80 46 := ⟨vz_up (by decide), vz_up (by decide)⟩
theorem mz_80 : mv_i80 45 = mv_i79 45 ∧ mv_i80 46 = mv_i79 46 := ⟨vz_up (by decide), vz_up (by decide)⟩
theorem mz_79 : mv_i79 45 = mv_i78 45 ∧ mv_i79 46 = mv_i78 46 := ⟨vz_up (by decide), vz_up (by decide)⟩
theorem mz_78 : mv_i78 45 = mv_i77 45 ∧ mv_i78 46 = mv_i77 46 := ⟨vz_up (by decide), vz_up (by decide)⟩
theorem mz_77 : mv_i77 45 = mv_i76 45 ∧ mv_i77 46 = mv_i76 46 := ⟨vz_up (by decide), vz_up (by decide)⟩
theorem mz_76 : mv_i76 45 = mv_i75 45 ∧ mv_i76 46 = mv_i75 46 := ⟨vz_up (by decide), vz_up (by decide)⟩
theorem mz_75 : mv_i75 45 = mv_i74 45 ∧ mv_i75 46 = mv_i74 46 := ⟨vz_fl (by decide), vz_fl (by decide)⟩
theorem mz_74 : mv_i74 45 = mv_i73 45 ∧ mv_i74 46 = mv_i73 46 := ⟨vz_up (by decide), vz_up (by decide)⟩
theorem mz_73 : mv_i73 45 = mv_i72 45 ∧ mv_i73 46 = mv_i72 46 := ⟨vz_up (by decide), vz_up (by decide)⟩
theorem mz_72 : mv_i72 45 = mv_i71 45 ∧ mv_i72 46 = mv_i71 46 := ⟨vz_up (by decide), vz_up (by decide)⟩
theorem mz_71 : mv_i71 45 = mv_i70 45 ∧ mv_i71 46 = mv_i70 46 := ⟨vz_up (by decide), vz_up (by decide)⟩
theorem mz_70 : mv_i70 45 = mv_i69 45 ∧ mv_i70 46 = mv_i69 46 := ⟨vz_up (by decide), vz_up (by decide)⟩
theorem mz_69 : mv_i69 45 = mv_i68 45 ∧ mv_i69 46 = mv_i68 46 := ⟨vz_up (by decide), vz_up (by decide)⟩
theorem mz_68 : mv_i68 45 = mv_i67 45 ∧ mv_i68 46 = mv_i67 46 := ⟨vz_up (by decide), vz_up (by decide)⟩
theorem mz_67 : mv_i67 45 = mv_i66 45 ∧ mv_i67 46 = mv_i66 46 := ⟨vz_up (by decide), vz_up (by decide)⟩
theorem mz_66 : mv_i66 45 = mv_i65 45 ∧ mv_i66 46 = mv_i65 46 := ⟨vz_up (by decide), vz_up (by decide)⟩
theorem mz_65 : mv_i65 45 = mv_i64 45 ∧ mv_i65 46 = mv_i64 46 := ⟨vz_up (by decide), vz_up (by decide)⟩
theorem mz_64 : mv_i64 45 = mv_i63 45 ∧ mv_i64 46 = mv_i63 46 := ⟨vz_fl (by decide), vz_fl (by decide)⟩
theorem mz_63 : mv_i63 45 = mv_i62 45 ∧ mv_i63 46 = mv_i62 46 := ⟨vz_fl (by decide), vz_fl (by decide)⟩
theorem mz_62 : mv_i62 45 = mv_i61 45 ∧ mv_i62 46 = mv_i61 46 := ⟨vz_up (by decide), vz_up (by decide)⟩
theorem mz_61 : mv_i61 45 = mv_i60 45 ∧ mv_i61 46 = mv_i60 46 := ⟨vz_up (by decide), vz_up (by decide)⟩
theorem mz_60 : mv_i60 45 = mv_i59 45 ∧ mv_i60 46 = mv_i59 46 := ⟨vz_up (by decide), vz_up (by decide)⟩
theorem mz_59 : mv_i59 45 = mv_i58 45 ∧ mv_i59 46 = mv_i58 46 := ⟨vz_up (by decide), vz_up (by decide)⟩
theorem mm_i199 : im_i mm_341 = mv_i199 := rfl
theorem mv_510 : mv_i58 = bl_i 510 := by unfold mv_i58; exact Eq.refl _
theorem mmA_45 : im_i mm_341 45 = bl_i 510 45 := by
  rw [mm_i199, mz_199.1, mz_198.1, mz_197.1, mz_196.1, mz_195.1, mz_194.1, mz_193.1, mz_192.1, mz_191.1, mz_190.1, mz_189.1, mz_188.1, mz_187.1, mz_186.1, mz_185.1, mz_184.1, mz_183.1, mz_182.1, mz_181.1, mz_180.1, mz_179.1, mz_178.1, mz_177.1, mz_176.1, mz_175.1, mz_174.1, mz_173.1, mz_172.1, mz_171.1, mz_170.1, mz_169.1, mz_168.1, mz_167.1, mz_166.1, mz_165.1, mz_164.1, mz_163.1, mz_162.1, mz_161.1, mz_160.1, mz_159.1, mz_158.1, mz_157.1, mz_156.1, mz_155.1, mz_154.1, mz_153.1, mz_152.1, mz_151.1, mz_150.1, mz_149.1, mz_148.1, mz_147.1, mz_146.1, mz_145.1, mz_144.1, mz_143.1, mz_142.1, mz_141.1, mz_140.1, mz_139.1, mz_138.1, mz_137.1, mz_136.1, mz_135.1, mz_134.1, mz_133.1, mz_132.1, mz_131.1, mz_130.1, mz_129.1, mz_128.1, mz_127.1, mz_126.1, mz_125.1, mz_124.1, mz_123.1, mz_122.1, mz_121.1, mz_120.1, mz_119.1, mz_118.1, mz_117.1, mz_116.1, mz_115.1, mz_114.1, mz_113.1, mz_112.1, mz_111.1, mz_110.1, mz_109.1, mz_108.1, mz_107.1, mz_106.1, mz_105.1, mz_104.1, mz_103.1, mz_102.1, mz_101.1, mz_100.1, mz_99.1, mz_98.1, mz_97.1, mz_96.1, mz_95.1, mz_94.1, mz_93.1, mz_92.1, mz_91.1, mz_90.1, mz_89.1, mz_88.1, mz_87.1, mz_86.1, mz_85.1, mz_84.1, mz_83.1, mz_82.1, mz_81.1, mz_80.1, mz_79.1, mz_78.1, mz_77.1, mz_76.1, mz_75.1, mz_74.1, mz_73.1, mz_72.1, mz_71.1, mz_70.1, mz_69.1, mz_68.1, mz_67.1, mz_66.1, mz_65.1, mz_64.1, mz_63.1, mz_62.1, mz_61.1, mz_60.1, mz_59.1, mv_510]
theorem mmA_46 : im_i mm_341 46 = bl_i 510 46 := by
  rw [mm_i199, mz_199.2, mz_198.2, mz_197.2, mz_196.2, mz_195.2, mz_194.2, mz_193.2, mz_192.2, mz_191.2, mz_190.2, mz_189.2, mz_188.2, mz_187.2, mz_186.2, mz_185.2, mz_184.2, mz_183.2, mz_182.2, mz_181.2, mz_180.2, mz_179.2, mz_178.2, mz_177.2, mz_176.2, mz_175.2, mz_174.2, mz_173.2, mz_172.2, mz_171.2, mz_170.2, mz_169.2, mz_168.2, mz_167.2, mz_166.2, mz_165.2, mz_164.2, mz_163.2, mz_162.2, mz_161.2, mz_160.2, mz_159.2, mz_158.2, mz_157.2, mz_156.2, mz_155.2, mz_154.2, mz_153.2, mz_152.2, mz_151.2, mz_150.2, mz_149.2, mz_148.2, mz_147.2, mz_146.2, mz_145.2, mz_144.2, mz_143.2, mz_142.2, mz_141.2, mz_140.2, mz_139.2, mz_138.2, mz_137.2, mz_136.2, mz_135.2, mz_134.2, mz_133.2, mz_132.2, mz_131.2, mz_130.2, mz_129.2, mz_128.2, mz_127.2, mz_126.2, mz_125.2, mz_124.2, mz_123.2, mz_122.2, mz_121.2, mz_120.2, mz_119.2, mz_118.2, mz_117.2, mz_116.2, mz_115.2, mz_114.2, mz_113.2, mz_112.2, mz_111.2, mz_110.2, mz_109.2, mz_108.2, mz_107.2, mz_106.2, mz_105.2, mz_104.2, mz_103.2, mz_102.2, mz_101.2, mz_100.2, mz_99.2, mz_98.2, mz_97.2, mz_96.2, mz_95.2, mz_94.2, mz_93.2, mz_92.2, mz_91.2, mz_90.2, mz_89.2, mz_88.2, mz_87.2, mz_86.2, mz_85.2, mz_84.2, mz_83.2, mz_82.2, mz_81.2, mz_80.2, mz_79.2, mz_78.2, mz_77.2, mz_76.2, mz_75.2, mz_74.2, mz_73.2, mz_72.2, mz_71.2, mz_70.2, mz_69.2, mz_68.2, mz_67.2, mz_66.2, mz_65.2, mz_64.2, mz_63.2, mz_62.2, mz_61.2, mz_60.2, mz_59.2, mv_510]
theorem pw_M {M : im_M} {i : Nat} (q : PWL M) (hi : i < 510) : im_i M 45 i = nI (pwN i) := by
  rw [q.1, mmA_45]
  exact bl_45 510 i hi
theorem lg_M {M : im_M} {a : Nat} (q : PWL M) (ha : a < 256) (h0 : a ≠ 0) : im_i M 46 a = nI (lgN a) := by
  obtain ⟨a1, a2⟩ := lg_a ⟨a, ha⟩ h0
  replace a1 : pwN (lgN a) = a := a1
  replace a2 : lgN a < 255 := a2
  have := bl_46 510 (lgN a) (by omega) a2
  rw [a1] at this
  rw [q.2, mmA_46]
  exact this
theorem s_timesC {M : im_M} {a b : Nat} (q : PWL M) (ha : a < 256) (hb : b < 256) : f_HBlocks_times (nI a) (nI b) M = some (nI (gm a b)) := by
  unfold f_HBlocks_times gm
  have ka : (nI a = 0) = (a = 0) := nIe (c := 0) (by omega) (by omega)
  have kb : (nI b = 0) = (b = 0) := nIe (c := 0) (by omega) (by omega)
  simp only [jn0, ka, kb]
  by_cases ca : a = 0
  · rw [if_pos ca, if_pos (Or.inl ca)]
    rfl
  · rw [if_neg ca]
    by_cases cb : b = 0
    · rw [if_neg (fun z => z cb), if_pos (Or.inr cb)]
      rfl
    · have la := (lg_a ⟨a, ha⟩ ca).2
      have lb := (lg_a ⟨b, hb⟩ cb).2
      replace la : lgN a < 255 := la
      replace lb : lgN b < 255 := lb
      rw [if_pos cb, if_neg (fun z => z.elim ca cb), gd_pos (by rw [inb_nI (by omega)]; omega), gd_pos (by rw [inb_nI (by omega)]; omega), nI_clamp (by omega), nI_clamp (by omega), lg_M q ha ca, lg_M q hb cb, nI_add, gd_pos (by rw [inb_nI (by omega)]; omega), nI_clamp (by omega), pw_M q (by omega)]
/-! the reference's way -/
def gmR : Nat → Nat → Nat → Nat
  | 0, _, _ => 0
  | f + 1, x, k => (if k % 2 = 1 then x else 0) ^^^ gmR f (xt x) (k / 2)
theorem xt_xor : ∀ a b : Fin 256, xt (a.val ^^^ b.val) = xt a.val ^^^ xt b.val := by decide +kernel
theorem xor_lt {a b : Nat} (ha : a < 256) (hb : b < 256) : a ^^^ b < 256 := Nat.xor_lt_two_pow (n := 8) ha hb
theorem gmR_lt : ∀ f x k, x < 256 → gmR f x k < 256 := by
  intro f
  induction f with
  | zero => intro x k _; show 0 < 256; omega
  | succ f ih =>
    intro x k hx
    refine xor_lt ?_ (ih _ _ (xt_lt ⟨x, hx⟩))
    split <;> omega
theorem gmR_xt : ∀ f x k, x < 256 → gmR f (xt x) k = xt (gmR f x k) := by
  intro f
  induction f with
  | zero => intro x k _; rfl
  | succ f ih =>
    intro x k hx
    have hy := xt_lt ⟨x, hx⟩
    replace hy : xt x < 256 := hy
    show (if k % 2 = 1 then xt x else 0) ^^^ gmR f (xt (xt x)) (k / 2) = xt ((if k % 2 = 1 then x else 0) ^^^ gmR f (xt x) (k / 2))
    have l := gmR_lt f (xt x) (k / 2) hy
    have z : (if k % 2 = 1 then x else 0) < 256 := by split <;> omega
    rw [ih (xt x) (k / 2) hy, xt_xor ⟨_, z⟩ ⟨_, l⟩]
    congr 1
    show _ = xt (if k % 2 = 1 then x else 0)
    split
    · rfl
    · rfl
theorem gmR_1 : ∀ b : Fin 256, gmR 8 1 b.val = b.val := by decide +kernel
theorem gmR_p {b : Nat} (hb : b < 256) (j : Nat) (hj : b = pwN j) : ∀ i, gmR 8 (pwN i) b = pwN (i + j) := by
  intro i
  induction i with
  | zero =>
    rw [Nat.zero_add, ← hj]
    exact gmR_1 ⟨b, hb⟩
  | succ i ih =>
    show gmR 8 (xt (pwN i)) b = _
    rw [gmR_xt _ _ _ (pw_lt i), ih, show i + 1 + j = i + j + 1 by omega]
    rfl
theorem gmR_0 : ∀ f k, gmR f 0 k = 0 := by
  intro f
  induction f with
  | zero => intro k; rfl
  | succ f ih =>
    intro k
    show (if k % 2 = 1 then 0 else 0) ^^^ gmR f 0 (k / 2) = 0
    rw [ih]
    split <;> rfl
theorem gmR_z : ∀ f x, gmR f x 0 = 0 := by
  intro f
  induction f with
  | zero => intro x; rfl
  | succ f ih =>
    intro x
    show 0 ^^^ gmR f (xt x) 0 = 0
    rw [ih]
    rfl
theorem gmR_gm {a b : Nat} (ha : a < 256) (hb : b < 256) : gmR 8 a b = gm a b := by
  unfold gm
  by_cases ca : a = 0
  · rw [if_pos (Or.inl ca), ca, gmR_0]
  · by_cases cb : b = 0
    · rw [if_pos (Or.inr cb), cb, gmR_z]
    · rw [if_neg (fun z => z.elim ca cb)]
      have p := (lg_a ⟨a, ha⟩ ca).1
      have q := (lg_a ⟨b, hb⟩ cb).1
      have := gmR_p hb (lgN b) q.symm (lgN a)
      rw [show pwN (lgN a) = a from p] at this
      exact this
theorem xt_r : ∀ x : Fin 256, ((if (nI x.val <<< (1 &&& 31 : Int32) : Int32) ≤ 255 then (nI x.val <<< (1 &&& 31 : Int32) : Int32) else ((nI x.val <<< (1 &&& 31 : Int32) : Int32) ^^^ 285)) : Int32) = nI (xt x.val) := by decide +kernel
theorem kk_r : ∀ k : Fin 256, (nI k.val &&& 1) = nI (k.val % 2) ∧ (nI k.val >>> (1 &&& 31 : Int32) : Int32) = nI (k.val / 2) := by decide +kernel
theorem s_timesR {M : im_M} {a b : Nat} (ha : a < 256) (hb : b < 256) : f_MSquareRows_times (nI a) (nI b) M = some (nI (gm a b)) := by
  have run : ed (lp (uc3 (f_MSquareRows_times_L7 M)) (0, nI a, nI b)) (fun r => r = nI (gm a b)) := by
    refine lp_inv (fun f (s : Int32 × Int32 × Int32) => ∃ P X K : Nat, P < 256 ∧ X < 256 ∧ K < 256 ∧ K < 2 ^ f ∧ P ^^^ gmR f X K = gm a b ∧ s.1 = nI P ∧ s.2.1 = nI X ∧ s.2.2 = nI K) ?_ (k := 8) ⟨0, a, b, by omega, ha, hb, hb, by rw [Nat.zero_xor]; exact gmR_gm ha hb, rfl, rfl, rfl⟩
    rintro f ⟨x2, x3, x4⟩ ⟨P, X, K, hP, hX, hK, hK2, e, e1, e2, e3⟩
    replace e1 : x2 = nI P := e1
    replace e2 : x3 = nI X := e2
    replace e3 : x4 = nI K := e3
    subst e1 e2 e3
    show ed (f_MSquareRows_times_L7 M (nI P) (nI X) (nI K)) _
    unfold f_MSquareRows_times_L7
    have k0 : (nI K = 0) = (K = 0) := nIe (c := 0) (by omega) (by omega)
    have k1 : (nI (K % 2) = 1) = (K % 2 = 1) := nIe (c := 1) (by omega) (by omega)
    obtain ⟨t1, t2⟩ := kk_r ⟨K, hK⟩
    replace t1 : nI K &&& 1 = nI (K % 2) := t1
    replace t2 : (nI K >>> (1 &&& 31 : Int32) : Int32) = nI (K / 2) := t2
    rw [t1, t2, xt_r ⟨X, hX⟩, nI_xor]
    simp only [k0, k1]
    by_cases c : K = 0
    · rw [if_pos c]
      refine lpo_r ?_
      rw [c, gmR_z, Nat.xor_zero] at e
      rw [e]
    · rw [if_neg c]
      cases f with
      | zero => exact absurd hK2 (by show ¬ K < 2 ^ 0; omega)
      | succ f =>
        refine lpo_l f (by omega) ⟨if ¬ K % 2 = 1 then P else P ^^^ X, xt X, K / 2, ?_, xt_lt ⟨X, hX⟩, by omega, ?_, ?_, ?_, rfl, rfl⟩
        · split
          · exact hP
          · exact xor_lt hP hX
        · rw [Nat.pow_succ] at hK2
          omega
        · rw [← e]
          show _ = P ^^^ ((if K % 2 = 1 then X else 0) ^^^ gmR f (xt X) (K / 2))
          by_cases d : K % 2 = 1
          · rw [if_neg (fun z => z d), if_pos d, Nat.xor_assoc]
          · rw [if_pos d, if_neg d, Nat.zero_xor]
        · show (if ¬ K % 2 = 1 then nI P else nI (P ^^^ X)) = _
          by_cases d : K % 2 = 1
          · rw [if_neg (fun z => z d), if_neg (fun z => z d)]
          · rw [if_pos d, if_pos d]
  obtain ⟨r, hr, rfl⟩ := run
  unfold f_MSquareRows_times
  rw [hr, bd1_s]
theorem s_two {M : im_M} {k : Nat} (hk : k < 255) : f_MSquareRows_two (nI k) M = some (nI (pwN k)) := by
  have r : nI k - nI k / 255 * 255 = nI (k % 255) := nI_rem (b := 255) (by omega) (by omega) (by omega)
  have k0 : (0 : Int32) ≤ nI (k % 255) := by
    have : ((0 : Int32) ≤ nI (k % 255)) = (0 ≤ k % 255) := nIl (x := 0) (by omega) (by omega)
    rw [this]; omega
  unfold f_MSquareRows_two
  rw [r, if_pos k0, Nat.mod_eq_of_lt hk]
  have e : lp (uc2 (f_MSquareRows_two_L24 (nI k) M)) (1, 0) = some (nI (pwN k)) := by
    refine lp_row (fun i => (nI (pwN i), nI i)) k (fun i hi => ?_) ?_
    · show f_MSquareRows_two_L24 (nI k) M (nI (pwN i)) (nI i) = some (Sum.inl (nI (xt (pwN i)), nI (i + 1)))
      unfold f_MSquareRows_two_L24
      rw [if_nIl (by omega) (by omega), if_neg (by omega), xt_r ⟨pwN i, pw_lt i⟩]
      exact congrArg (fun z => some (Sum.inl (_, z))) (nI_add i 1)
    · show f_MSquareRows_two_L24 (nI k) M (nI (pwN k)) (nI k) = _
      unfold f_MSquareRows_two_L24
      rw [if_nIl (by omega) (by omega), if_pos (by omega)]
  rw [e, bd1_s]
