/-! THE CELLS ONCE EVERYTHING IS MADE -/
/-- the references; w: the sheet's two rows of words are exchanged -/
def lw_R (w : Bool) : Nat → Nat → Option Nat := if w = true then im_u2 (im_u2 mv_r281 28 4 (some 30)) 28 5 (some 29) else mv_r281
/-- everything is made, and nothing else -/
def lw_S (w : Bool) (M : im_M) : Prop := im_n M = 139 ∧ im_k M = mv_k139 ∧ im_r M = lw_R w
theorem lw_S0 : lw_S false mm_341 := ⟨rfl, rfl, rfl⟩
/-- 0: LabelHouse -/
theorem ka_0 {w : Bool} {M : im_M} (h : lw_S w M) : 0 < im_n M ∧ (im_k M 0).1 = 11 := by rw [h.1, h.2.1]; exact ⟨by decide, by decide +kernel⟩
/-- 1: LabelHouse$Tape -/
theorem ka_1 {w : Bool} {M : im_M} (h : lw_S w M) : 1 < im_n M ∧ (im_k M 1).1 = 10 := by rw [h.1, h.2.1]; exact ⟨by decide, by decide +kernel⟩
/-- 2: byte[] of 4096 -/
theorem ka_2 {w : Bool} {M : im_M} (h : lw_S w M) : 2 < im_n M ∧ (im_k M 2).1 = 32 := by rw [h.1, h.2.1]; exact ⟨by decide, by decide +kernel⟩
theorem kl_2 {w : Bool} {M : im_M} (h : lw_S w M) : (im_k M 2).2 = 4096 := by rw [h.2.1]; decide +kernel
/-- 3: byte[] of 3200 -/
theorem ka_3 {w : Bool} {M : im_M} (h : lw_S w M) : 3 < im_n M ∧ (im_k M 3).1 = 32 := by rw [h.1, h.2.1]; exact ⟨by decide, by decide +kernel⟩
theorem kl_3 {w : Bool} {M : im_M} (h : lw_S w M) : (im_k M 3).2 = 3200 := by rw [h.2.1]; decide +kernel
/-- 4: int[] of 8 -/
theorem ka_4 {w : Bool} {M : im_M} (h : lw_S w M) : 4 < im_n M ∧ (im_k M 4).1 = 33 := by rw [h.1, h.2.1]; exact ⟨by decide, by decide +kernel⟩
theorem kl_4 {w : Bool} {M : im_M} (h : lw_S w M) : (im_k M 4).2 = 8 := by rw [h.2.1]; decide +kernel
/-- 5: byte[] of 2000 -/
theorem ka_5 {w : Bool} {M : im_M} (h : lw_S w M) : 5 < im_n M ∧ (im_k M 5).1 = 32 := by rw [h.1, h.2.1]; exact ⟨by decide, by decide +kernel⟩
theorem kl_5 {w : Bool} {M : im_M} (h : lw_S w M) : (im_k M 5).2 = 2000 := by rw [h.2.1]; decide +kernel
/-- 6: int[] of 10 -/
theorem ka_6 {w : Bool} {M : im_M} (h : lw_S w M) : 6 < im_n M ∧ (im_k M 6).1 = 33 := by rw [h.1, h.2.1]; exact ⟨by decide, by decide +kernel⟩
theorem kl_6 {w : Bool} {M : im_M} (h : lw_S w M) : (im_k M 6).2 = 10 := by rw [h.2.1]; decide +kernel
/-- 7: int[] of 5 -/
theorem ka_7 {w : Bool} {M : im_M} (h : lw_S w M) : 7 < im_n M ∧ (im_k M 7).1 = 33 := by rw [h.1, h.2.1]; exact ⟨by decide, by decide +kernel⟩
theorem kl_7 {w : Bool} {M : im_M} (h : lw_S w M) : (im_k M 7).2 = 5 := by rw [h.2.1]; decide +kernel
/-- 8: int[] of 5 -/
theorem ka_8 {w : Bool} {M : im_M} (h : lw_S w M) : 8 < im_n M ∧ (im_k M 8).1 = 33 := by rw [h.1, h.2.1]; exact ⟨by decide, by decide +kernel⟩
theorem kl_8 {w : Bool} {M : im_M} (h : lw_S w M) : (im_k M 8).2 = 5 := by rw [h.2.1]; decide +kernel
/-- 9: int[] of 4 -/
theorem ka_9 {w : Bool} {M : im_M} (h : lw_S w M) : 9 < im_n M ∧ (im_k M 9).1 = 33 := by rw [h.1, h.2.1]; exact ⟨by decide, by decide +kernel⟩
theorem kl_9 {w : Bool} {M : im_M} (h : lw_S w M) : (im_k M 9).2 = 4 := by rw [h.2.1]; decide +kernel
/-- 10: byte[] of 200 -/
theorem ka_10 {w : Bool} {M : im_M} (h : lw_S w M) : 10 < im_n M ∧ (im_k M 10).1 = 32 := by rw [h.1, h.2.1]; exact ⟨by decide, by decide +kernel⟩
theorem kl_10 {w : Bool} {M : im_M} (h : lw_S w M) : (im_k M 10).2 = 200 := by rw [h.2.1]; decide +kernel
/-- 11: LabelHouse$Orders -/
theorem ka_11 {w : Bool} {M : im_M} (h : lw_S w M) : 11 < im_n M ∧ (im_k M 11).1 = 5 := by rw [h.1, h.2.1]; exact ⟨by decide, by decide +kernel⟩
/-- 12: byte[] of 200 -/
theorem ka_12 {w : Bool} {M : im_M} (h : lw_S w M) : 12 < im_n M ∧ (im_k M 12).1 = 32 := by rw [h.1, h.2.1]; exact ⟨by decide, by decide +kernel⟩
theorem kl_12 {w : Bool} {M : im_M} (h : lw_S w M) : (im_k M 12).2 = 200 := by rw [h.2.1]; decide +kernel
/-- 13: int[] of 1680 -/
theorem ka_13 {w : Bool} {M : im_M} (h : lw_S w M) : 13 < im_n M ∧ (im_k M 13).1 = 33 := by rw [h.1, h.2.1]; exact ⟨by decide, by decide +kernel⟩
theorem kl_13 {w : Bool} {M : im_M} (h : lw_S w M) : (im_k M 13).2 = 1680 := by rw [h.2.1]; decide +kernel
/-- 14: byte[] of 24000 -/
theorem ka_14 {w : Bool} {M : im_M} (h : lw_S w M) : 14 < im_n M ∧ (im_k M 14).1 = 32 := by rw [h.1, h.2.1]; exact ⟨by decide, by decide +kernel⟩
theorem kl_14 {w : Bool} {M : im_M} (h : lw_S w M) : (im_k M 14).2 = 24000 := by rw [h.2.1]; decide +kernel
/-- 15: LabelHouse$Setter -/
theorem ka_15 {w : Bool} {M : im_M} (h : lw_S w M) : 15 < im_n M ∧ (im_k M 15).1 = 8 := by rw [h.1, h.2.1]; exact ⟨by decide, by decide +kernel⟩
/-- 16: int[] of 48 -/
theorem ka_16 {w : Bool} {M : im_M} (h : lw_S w M) : 16 < im_n M ∧ (im_k M 16).1 = 33 := by rw [h.1, h.2.1]; exact ⟨by decide, by decide +kernel⟩
theorem kl_16 {w : Bool} {M : im_M} (h : lw_S w M) : (im_k M 16).2 = 48 := by rw [h.2.1]; decide +kernel
/-- 17: int[] of 2 -/
theorem ka_17 {w : Bool} {M : im_M} (h : lw_S w M) : 17 < im_n M ∧ (im_k M 17).1 = 33 := by rw [h.1, h.2.1]; exact ⟨by decide, by decide +kernel⟩
theorem kl_17 {w : Bool} {M : im_M} (h : lw_S w M) : (im_k M 17).2 = 2 := by rw [h.2.1]; decide +kernel
/-- 18: int[] of 4 -/
theorem ka_18 {w : Bool} {M : im_M} (h : lw_S w M) : 18 < im_n M ∧ (im_k M 18).1 = 33 := by rw [h.1, h.2.1]; exact ⟨by decide, by decide +kernel⟩
theorem kl_18 {w : Bool} {M : im_M} (h : lw_S w M) : (im_k M 18).2 = 4 := by rw [h.2.1]; decide +kernel
/-- 19: LabelHouse$Orders -/
theorem ka_19 {w : Bool} {M : im_M} (h : lw_S w M) : 19 < im_n M ∧ (im_k M 19).1 = 5 := by rw [h.1, h.2.1]; exact ⟨by decide, by decide +kernel⟩
/-- 20: byte[] of 200 -/
theorem ka_20 {w : Bool} {M : im_M} (h : lw_S w M) : 20 < im_n M ∧ (im_k M 20).1 = 32 := by rw [h.1, h.2.1]; exact ⟨by decide, by decide +kernel⟩
theorem kl_20 {w : Bool} {M : im_M} (h : lw_S w M) : (im_k M 20).2 = 200 := by rw [h.2.1]; decide +kernel
/-- 21: int[] of 1960 -/
theorem ka_21 {w : Bool} {M : im_M} (h : lw_S w M) : 21 < im_n M ∧ (im_k M 21).1 = 33 := by rw [h.1, h.2.1]; exact ⟨by decide, by decide +kernel⟩
theorem kl_21 {w : Bool} {M : im_M} (h : lw_S w M) : (im_k M 21).2 = 1960 := by rw [h.2.1]; decide +kernel
/-- 22: byte[] of 28000 -/
theorem ka_22 {w : Bool} {M : im_M} (h : lw_S w M) : 22 < im_n M ∧ (im_k M 22).1 = 32 := by rw [h.1, h.2.1]; exact ⟨by decide, by decide +kernel⟩
theorem kl_22 {w : Bool} {M : im_M} (h : lw_S w M) : (im_k M 22).2 = 28000 := by rw [h.2.1]; decide +kernel
/-- 23: LabelHouse$Field -/
theorem ka_23 {w : Bool} {M : im_M} (h : lw_S w M) : 23 < im_n M ∧ (im_k M 23).1 = 2 := by rw [h.1, h.2.1]; exact ⟨by decide, by decide +kernel⟩
/-- 24: int[] of 4 -/
theorem ka_24 {w : Bool} {M : im_M} (h : lw_S w M) : 24 < im_n M ∧ (im_k M 24).1 = 33 := by rw [h.1, h.2.1]; exact ⟨by decide, by decide +kernel⟩
theorem kl_24 {w : Bool} {M : im_M} (h : lw_S w M) : (im_k M 24).2 = 4 := by rw [h.2.1]; decide +kernel
/-- 25: byte[] of 200 -/
theorem ka_25 {w : Bool} {M : im_M} (h : lw_S w M) : 25 < im_n M ∧ (im_k M 25).1 = 32 := by rw [h.1, h.2.1]; exact ⟨by decide, by decide +kernel⟩
theorem kl_25 {w : Bool} {M : im_M} (h : lw_S w M) : (im_k M 25).2 = 200 := by rw [h.2.1]; decide +kernel
/-- 26: int[] of 20 -/
theorem ka_26 {w : Bool} {M : im_M} (h : lw_S w M) : 26 < im_n M ∧ (im_k M 26).1 = 33 := by rw [h.1, h.2.1]; exact ⟨by decide, by decide +kernel⟩
theorem kl_26 {w : Bool} {M : im_M} (h : lw_S w M) : (im_k M 26).2 = 20 := by rw [h.2.1]; decide +kernel
/-- 27: int[] of 20 -/
theorem ka_27 {w : Bool} {M : im_M} (h : lw_S w M) : 27 < im_n M ∧ (im_k M 27).1 = 33 := by rw [h.1, h.2.1]; exact ⟨by decide, by decide +kernel⟩
theorem kl_27 {w : Bool} {M : im_M} (h : lw_S w M) : (im_k M 27).2 = 20 := by rw [h.2.1]; decide +kernel
/-- 28: LabelHouse$Sheet -/
theorem ka_28 {w : Bool} {M : im_M} (h : lw_S w M) : 28 < im_n M ∧ (im_k M 28).1 = 9 := by rw [h.1, h.2.1]; exact ⟨by decide, by decide +kernel⟩
/-- 29: long[] of 4096 -/
theorem ka_29 {w : Bool} {M : im_M} (h : lw_S w M) : 29 < im_n M ∧ (im_k M 29).1 = 34 := by rw [h.1, h.2.1]; exact ⟨by decide, by decide +kernel⟩
theorem kl_29 {w : Bool} {M : im_M} (h : lw_S w M) : (im_k M 29).2 = 4096 := by rw [h.2.1]; decide +kernel
/-- 30: long[] of 4096 -/
theorem ka_30 {w : Bool} {M : im_M} (h : lw_S w M) : 30 < im_n M ∧ (im_k M 30).1 = 34 := by rw [h.1, h.2.1]; exact ⟨by decide, by decide +kernel⟩
theorem kl_30 {w : Bool} {M : im_M} (h : lw_S w M) : (im_k M 30).2 = 4096 := by rw [h.2.1]; decide +kernel
/-- 31: LabelHouse$Bars -/
theorem ka_31 {w : Bool} {M : im_M} (h : lw_S w M) : 31 < im_n M ∧ (im_k M 31).1 = 0 := by rw [h.1, h.2.1]; exact ⟨by decide, by decide +kernel⟩
/-- 32: int[] of 512 -/
theorem ka_32 {w : Bool} {M : im_M} (h : lw_S w M) : 32 < im_n M ∧ (im_k M 32).1 = 33 := by rw [h.1, h.2.1]; exact ⟨by decide, by decide +kernel⟩
theorem kl_32 {w : Bool} {M : im_M} (h : lw_S w M) : (im_k M 32).2 = 512 := by rw [h.2.1]; decide +kernel
/-- 33: int[] of 900 -/
theorem ka_33 {w : Bool} {M : im_M} (h : lw_S w M) : 33 < im_n M ∧ (im_k M 33).1 = 33 := by rw [h.1, h.2.1]; exact ⟨by decide, by decide +kernel⟩
theorem kl_33 {w : Bool} {M : im_M} (h : lw_S w M) : (im_k M 33).2 = 900 := by rw [h.2.1]; decide +kernel
/-- 34: int[] of 65 -/
theorem ka_34 {w : Bool} {M : im_M} (h : lw_S w M) : 34 < im_n M ∧ (im_k M 34).1 = 33 := by rw [h.1, h.2.1]; exact ⟨by decide, by decide +kernel⟩
theorem kl_34 {w : Bool} {M : im_M} (h : lw_S w M) : (im_k M 34).2 = 65 := by rw [h.2.1]; decide +kernel
/-- 35: int[] of 198 -/
theorem ka_35 {w : Bool} {M : im_M} (h : lw_S w M) : 35 < im_n M ∧ (im_k M 35).1 = 33 := by rw [h.1, h.2.1]; exact ⟨by decide, by decide +kernel⟩
theorem kl_35 {w : Bool} {M : im_M} (h : lw_S w M) : (im_k M 35).2 = 198 := by rw [h.2.1]; decide +kernel
/-- 36: int[] of 140 -/
theorem ka_36 {w : Bool} {M : im_M} (h : lw_S w M) : 36 < im_n M ∧ (im_k M 36).1 = 33 := by rw [h.1, h.2.1]; exact ⟨by decide, by decide +kernel⟩
theorem kl_36 {w : Bool} {M : im_M} (h : lw_S w M) : (im_k M 36).2 = 140 := by rw [h.2.1]; decide +kernel
/-- 37: int[] of 13 -/
theorem ka_37 {w : Bool} {M : im_M} (h : lw_S w M) : 37 < im_n M ∧ (im_k M 37).1 = 33 := by rw [h.1, h.2.1]; exact ⟨by decide, by decide +kernel⟩
theorem kl_37 {w : Bool} {M : im_M} (h : lw_S w M) : (im_k M 37).2 = 13 := by rw [h.2.1]; decide +kernel
/-- 38: LabelHouse$Grid -/
theorem ka_38 {w : Bool} {M : im_M} (h : lw_S w M) : 38 < im_n M ∧ (im_k M 38).1 = 4 := by rw [h.1, h.2.1]; exact ⟨by decide, by decide +kernel⟩
/-- 39: LabelHouse$Segments -/
theorem ka_39 {w : Bool} {M : im_M} (h : lw_S w M) : 39 < im_n M ∧ (im_k M 39).1 = 7 := by rw [h.1, h.2.1]; exact ⟨by decide, by decide +kernel⟩
/-- 40: byte[] of 2956 -/
theorem ka_40 {w : Bool} {M : im_M} (h : lw_S w M) : 40 < im_n M ∧ (im_k M 40).1 = 32 := by rw [h.1, h.2.1]; exact ⟨by decide, by decide +kernel⟩
theorem kl_40 {w : Bool} {M : im_M} (h : lw_S w M) : (im_k M 40).2 = 2956 := by rw [h.2.1]; decide +kernel
/-- 41: int[] of 1407 -/
theorem ka_41 {w : Bool} {M : im_M} (h : lw_S w M) : 41 < im_n M ∧ (im_k M 41).1 = 33 := by rw [h.1, h.2.1]; exact ⟨by decide, by decide +kernel⟩
theorem kl_41 {w : Bool} {M : im_M} (h : lw_S w M) : (im_k M 41).2 = 1407 := by rw [h.2.1]; decide +kernel
/-- 42: byte[] of 200 -/
theorem ka_42 {w : Bool} {M : im_M} (h : lw_S w M) : 42 < im_n M ∧ (im_k M 42).1 = 32 := by rw [h.1, h.2.1]; exact ⟨by decide, by decide +kernel⟩
theorem kl_42 {w : Bool} {M : im_M} (h : lw_S w M) : (im_k M 42).2 = 200 := by rw [h.2.1]; decide +kernel
/-- 43: LabelHouse$Blocks -/
theorem ka_43 {w : Bool} {M : im_M} (h : lw_S w M) : 43 < im_n M ∧ (im_k M 43).1 = 1 := by rw [h.1, h.2.1]; exact ⟨by decide, by decide +kernel⟩
/-- 44: byte[] of 3706 -/
theorem ka_44 {w : Bool} {M : im_M} (h : lw_S w M) : 44 < im_n M ∧ (im_k M 44).1 = 32 := by rw [h.1, h.2.1]; exact ⟨by decide, by decide +kernel⟩
theorem kl_44 {w : Bool} {M : im_M} (h : lw_S w M) : (im_k M 44).2 = 3706 := by rw [h.2.1]; decide +kernel
/-- 45: int[] of 510 -/
theorem ka_45 {w : Bool} {M : im_M} (h : lw_S w M) : 45 < im_n M ∧ (im_k M 45).1 = 33 := by rw [h.1, h.2.1]; exact ⟨by decide, by decide +kernel⟩
theorem kl_45 {w : Bool} {M : im_M} (h : lw_S w M) : (im_k M 45).2 = 510 := by rw [h.2.1]; decide +kernel
/-- 46: int[] of 256 -/
theorem ka_46 {w : Bool} {M : im_M} (h : lw_S w M) : 46 < im_n M ∧ (im_k M 46).1 = 33 := by rw [h.1, h.2.1]; exact ⟨by decide, by decide +kernel⟩
theorem kl_46 {w : Bool} {M : im_M} (h : lw_S w M) : (im_k M 46).2 = 256 := by rw [h.2.1]; decide +kernel
/-- 47: int[] of 31 -/
theorem ka_47 {w : Bool} {M : im_M} (h : lw_S w M) : 47 < im_n M ∧ (im_k M 47).1 = 33 := by rw [h.1, h.2.1]; exact ⟨by decide, by decide +kernel⟩
theorem kl_47 {w : Bool} {M : im_M} (h : lw_S w M) : (im_k M 47).2 = 31 := by rw [h.2.1]; decide +kernel
/-- 48: int[] of 255 -/
theorem ka_48 {w : Bool} {M : im_M} (h : lw_S w M) : 48 < im_n M ∧ (im_k M 48).1 = 33 := by rw [h.1, h.2.1]; exact ⟨by decide, by decide +kernel⟩
theorem kl_48 {w : Bool} {M : im_M} (h : lw_S w M) : (im_k M 48).2 = 255 := by rw [h.2.1]; decide +kernel
/-- 49: int[] of 30 -/
theorem ka_49 {w : Bool} {M : im_M} (h : lw_S w M) : 49 < im_n M ∧ (im_k M 49).1 = 33 := by rw [h.1, h.2.1]; exact ⟨by decide, by decide +kernel⟩
theorem kl_49 {w : Bool} {M : im_M} (h : lw_S w M) : (im_k M 49).2 = 30 := by rw [h.2.1]; decide +kernel
/-- 50: int[] of 31 -/
theorem ka_50 {w : Bool} {M : im_M} (h : lw_S w M) : 50 < im_n M ∧ (im_k M 50).1 = 33 := by rw [h.1, h.2.1]; exact ⟨by decide, by decide +kernel⟩
theorem kl_50 {w : Bool} {M : im_M} (h : lw_S w M) : (im_k M 50).2 = 31 := by rw [h.2.1]; decide +kernel
/-- 51: int[] of 31 -/
theorem ka_51 {w : Bool} {M : im_M} (h : lw_S w M) : 51 < im_n M ∧ (im_k M 51).1 = 33 := by rw [h.1, h.2.1]; exact ⟨by decide, by decide +kernel⟩
theorem kl_51 {w : Bool} {M : im_M} (h : lw_S w M) : (im_k M 51).2 = 31 := by rw [h.2.1]; decide +kernel
/-- 52: int[] of 31 -/
theorem ka_52 {w : Bool} {M : im_M} (h : lw_S w M) : 52 < im_n M ∧ (im_k M 52).1 = 33 := by rw [h.1, h.2.1]; exact ⟨by decide, by decide +kernel⟩
theorem kl_52 {w : Bool} {M : im_M} (h : lw_S w M) : (im_k M 52).2 = 31 := by rw [h.2.1]; decide +kernel
/-- 53: int[] of 30 -/
theorem ka_53 {w : Bool} {M : im_M} (h : lw_S w M) : 53 < im_n M ∧ (im_k M 53).1 = 33 := by rw [h.1, h.2.1]; exact ⟨by decide, by decide +kernel⟩
theorem kl_53 {w : Bool} {M : im_M} (h : lw_S w M) : (im_k M 53).2 = 30 := by rw [h.2.1]; decide +kernel
/-- 54: byte[] of 31329 -/
theorem ka_54 {w : Bool} {M : im_M} (h : lw_S w M) : 54 < im_n M ∧ (im_k M 54).1 = 32 := by rw [h.1, h.2.1]; exact ⟨by decide, by decide +kernel⟩
theorem kl_54 {w : Bool} {M : im_M} (h : lw_S w M) : (im_k M 54).2 = 31329 := by rw [h.2.1]; decide +kernel
/-- 55: byte[] of 31329 -/
theorem ka_55 {w : Bool} {M : im_M} (h : lw_S w M) : 55 < im_n M ∧ (im_k M 55).1 = 32 := by rw [h.1, h.2.1]; exact ⟨by decide, by decide +kernel⟩
theorem kl_55 {w : Bool} {M : im_M} (h : lw_S w M) : (im_k M 55).2 = 31329 := by rw [h.2.1]; decide +kernel
/-- 56: LabelHouse$Pen -/
theorem ka_56 {w : Bool} {M : im_M} (h : lw_S w M) : 56 < im_n M ∧ (im_k M 56).1 = 6 := by rw [h.1, h.2.1]; exact ⟨by decide, by decide +kernel⟩
/-- 57: int[] of 12 -/
theorem ka_57 {w : Bool} {M : im_M} (h : lw_S w M) : 57 < im_n M ∧ (im_k M 57).1 = 33 := by rw [h.1, h.2.1]; exact ⟨by decide, by decide +kernel⟩
theorem kl_57 {w : Bool} {M : im_M} (h : lw_S w M) : (im_k M 57).2 = 12 := by rw [h.2.1]; decide +kernel
/-- 58: int[] of 32768 -/
theorem ka_58 {w : Bool} {M : im_M} (h : lw_S w M) : 58 < im_n M ∧ (im_k M 58).1 = 33 := by rw [h.1, h.2.1]; exact ⟨by decide, by decide +kernel⟩
theorem kl_58 {w : Bool} {M : im_M} (h : lw_S w M) : (im_k M 58).2 = 32768 := by rw [h.2.1]; decide +kernel
/-- 59: LabelHouse$Finder -/
theorem ka_59 {w : Bool} {M : im_M} (h : lw_S w M) : 59 < im_n M ∧ (im_k M 59).1 = 3 := by rw [h.1, h.2.1]; exact ⟨by decide, by decide +kernel⟩
/-- 60: int[] of 263169 -/
theorem ka_60 {w : Bool} {M : im_M} (h : lw_S w M) : 60 < im_n M ∧ (im_k M 60).1 = 33 := by rw [h.1, h.2.1]; exact ⟨by decide, by decide +kernel⟩
theorem kl_60 {w : Bool} {M : im_M} (h : lw_S w M) : (im_k M 60).2 = 263169 := by rw [h.2.1]; decide +kernel
/-- 61: short[] of 262144 -/
theorem ka_61 {w : Bool} {M : im_M} (h : lw_S w M) : 61 < im_n M ∧ (im_k M 61).1 = 35 := by rw [h.1, h.2.1]; exact ⟨by decide, by decide +kernel⟩
theorem kl_61 {w : Bool} {M : im_M} (h : lw_S w M) : (im_k M 61).2 = 262144 := by rw [h.2.1]; decide +kernel
/-- 62: long[] of 300 -/
theorem ka_62 {w : Bool} {M : im_M} (h : lw_S w M) : 62 < im_n M ∧ (im_k M 62).1 = 34 := by rw [h.1, h.2.1]; exact ⟨by decide, by decide +kernel⟩
theorem kl_62 {w : Bool} {M : im_M} (h : lw_S w M) : (im_k M 62).2 = 300 := by rw [h.2.1]; decide +kernel
/-- 63: int[] of 300 -/
theorem ka_63 {w : Bool} {M : im_M} (h : lw_S w M) : 63 < im_n M ∧ (im_k M 63).1 = 33 := by rw [h.1, h.2.1]; exact ⟨by decide, by decide +kernel⟩
theorem kl_63 {w : Bool} {M : im_M} (h : lw_S w M) : (im_k M 63).2 = 300 := by rw [h.2.1]; decide +kernel
/-- 64: boolean[] of 300 -/
theorem ka_64 {w : Bool} {M : im_M} (h : lw_S w M) : 64 < im_n M ∧ (im_k M 64).1 = 36 := by rw [h.1, h.2.1]; exact ⟨by decide, by decide +kernel⟩
theorem kl_64 {w : Bool} {M : im_M} (h : lw_S w M) : (im_k M 64).2 = 300 := by rw [h.2.1]; decide +kernel
/-- 65: int[] of 4 -/
theorem ka_65 {w : Bool} {M : im_M} (h : lw_S w M) : 65 < im_n M ∧ (im_k M 65).1 = 33 := by rw [h.1, h.2.1]; exact ⟨by decide, by decide +kernel⟩
theorem kl_65 {w : Bool} {M : im_M} (h : lw_S w M) : (im_k M 65).2 = 4 := by rw [h.2.1]; decide +kernel
/-- 66: int[] of 120 -/
theorem ka_66 {w : Bool} {M : im_M} (h : lw_S w M) : 66 < im_n M ∧ (im_k M 66).1 = 33 := by rw [h.1, h.2.1]; exact ⟨by decide, by decide +kernel⟩
theorem kl_66 {w : Bool} {M : im_M} (h : lw_S w M) : (im_k M 66).2 = 120 := by rw [h.2.1]; decide +kernel
/-- 67: int[] of 7 -/
theorem ka_67 {w : Bool} {M : im_M} (h : lw_S w M) : 67 < im_n M ∧ (im_k M 67).1 = 33 := by rw [h.1, h.2.1]; exact ⟨by decide, by decide +kernel⟩
theorem kl_67 {w : Bool} {M : im_M} (h : lw_S w M) : (im_k M 67).2 = 7 := by rw [h.2.1]; decide +kernel
/-- 68: byte[] of 3000 -/
theorem ka_68 {w : Bool} {M : im_M} (h : lw_S w M) : 68 < im_n M ∧ (im_k M 68).1 = 32 := by rw [h.1, h.2.1]; exact ⟨by decide, by decide +kernel⟩
theorem kl_68 {w : Bool} {M : im_M} (h : lw_S w M) : (im_k M 68).2 = 3000 := by rw [h.2.1]; decide +kernel
/-- 69: LabelHouseModel -/
theorem ka_69 {w : Bool} {M : im_M} (h : lw_S w M) : 69 < im_n M ∧ (im_k M 69).1 = 17 := by rw [h.1, h.2.1]; exact ⟨by decide, by decide +kernel⟩
/-- 70: int[] of 4096 -/
theorem ka_70 {w : Bool} {M : im_M} (h : lw_S w M) : 70 < im_n M ∧ (im_k M 70).1 = 33 := by rw [h.1, h.2.1]; exact ⟨by decide, by decide +kernel⟩
theorem kl_70 {w : Bool} {M : im_M} (h : lw_S w M) : (im_k M 70).2 = 4096 := by rw [h.2.1]; decide +kernel
/-- 71: LabelHouseModel$ScriptRows -/
theorem ka_71 {w : Bool} {M : im_M} (h : lw_S w M) : 71 < im_n M ∧ (im_k M 71).1 = 15 := by rw [h.1, h.2.1]; exact ⟨by decide, by decide +kernel⟩
/-- 72: int[] of 4096 -/
theorem ka_72 {w : Bool} {M : im_M} (h : lw_S w M) : 72 < im_n M ∧ (im_k M 72).1 = 33 := by rw [h.1, h.2.1]; exact ⟨by decide, by decide +kernel⟩
theorem kl_72 {w : Bool} {M : im_M} (h : lw_S w M) : (im_k M 72).2 = 4096 := by rw [h.2.1]; decide +kernel
/-- 73: int[] of 3200 -/
theorem ka_73 {w : Bool} {M : im_M} (h : lw_S w M) : 73 < im_n M ∧ (im_k M 73).1 = 33 := by rw [h.1, h.2.1]; exact ⟨by decide, by decide +kernel⟩
theorem kl_73 {w : Bool} {M : im_M} (h : lw_S w M) : (im_k M 73).2 = 3200 := by rw [h.2.1]; decide +kernel
/-- 74: int[] of 8 -/
theorem ka_74 {w : Bool} {M : im_M} (h : lw_S w M) : 74 < im_n M ∧ (im_k M 74).1 = 33 := by rw [h.1, h.2.1]; exact ⟨by decide, by decide +kernel⟩
theorem kl_74 {w : Bool} {M : im_M} (h : lw_S w M) : (im_k M 74).2 = 8 := by rw [h.2.1]; decide +kernel
/-- 75: int[] of 2000 -/
theorem ka_75 {w : Bool} {M : im_M} (h : lw_S w M) : 75 < im_n M ∧ (im_k M 75).1 = 33 := by rw [h.1, h.2.1]; exact ⟨by decide, by decide +kernel⟩
theorem kl_75 {w : Bool} {M : im_M} (h : lw_S w M) : (im_k M 75).2 = 2000 := by rw [h.2.1]; decide +kernel
/-- 76: int[] of 10 -/
theorem ka_76 {w : Bool} {M : im_M} (h : lw_S w M) : 76 < im_n M ∧ (im_k M 76).1 = 33 := by rw [h.1, h.2.1]; exact ⟨by decide, by decide +kernel⟩
theorem kl_76 {w : Bool} {M : im_M} (h : lw_S w M) : (im_k M 76).2 = 10 := by rw [h.2.1]; decide +kernel
/-- 77: int[] of 5800 -/
theorem ka_77 {w : Bool} {M : im_M} (h : lw_S w M) : 77 < im_n M ∧ (im_k M 77).1 = 33 := by rw [h.1, h.2.1]; exact ⟨by decide, by decide +kernel⟩
theorem kl_77 {w : Bool} {M : im_M} (h : lw_S w M) : (im_k M 77).2 = 5800 := by rw [h.2.1]; decide +kernel
/-- 78: int[] of 4 -/
theorem ka_78 {w : Bool} {M : im_M} (h : lw_S w M) : 78 < im_n M ∧ (im_k M 78).1 = 33 := by rw [h.1, h.2.1]; exact ⟨by decide, by decide +kernel⟩
theorem kl_78 {w : Bool} {M : im_M} (h : lw_S w M) : (im_k M 78).2 = 4 := by rw [h.2.1]; decide +kernel
/-- 79: int[] of 200 -/
theorem ka_79 {w : Bool} {M : im_M} (h : lw_S w M) : 79 < im_n M ∧ (im_k M 79).1 = 33 := by rw [h.1, h.2.1]; exact ⟨by decide, by decide +kernel⟩
theorem kl_79 {w : Bool} {M : im_M} (h : lw_S w M) : (im_k M 79).2 = 200 := by rw [h.2.1]; decide +kernel
/-- 80: int[] of 4 -/
theorem ka_80 {w : Bool} {M : im_M} (h : lw_S w M) : 80 < im_n M ∧ (im_k M 80).1 = 33 := by rw [h.1, h.2.1]; exact ⟨by decide, by decide +kernel⟩
theorem kl_80 {w : Bool} {M : im_M} (h : lw_S w M) : (im_k M 80).2 = 4 := by rw [h.2.1]; decide +kernel
/-- 81: int[] of 16 -/
theorem ka_81 {w : Bool} {M : im_M} (h : lw_S w M) : 81 < im_n M ∧ (im_k M 81).1 = 33 := by rw [h.1, h.2.1]; exact ⟨by decide, by decide +kernel⟩
theorem kl_81 {w : Bool} {M : im_M} (h : lw_S w M) : (im_k M 81).2 = 16 := by rw [h.2.1]; decide +kernel
/-- 82: int[] of 2000 -/
theorem ka_82 {w : Bool} {M : im_M} (h : lw_S w M) : 82 < im_n M ∧ (im_k M 82).1 = 33 := by rw [h.1, h.2.1]; exact ⟨by decide, by decide +kernel⟩
theorem kl_82 {w : Bool} {M : im_M} (h : lw_S w M) : (im_k M 82).2 = 2000 := by rw [h.2.1]; decide +kernel
/-- 83: int[] of 200 -/
theorem ka_83 {w : Bool} {M : im_M} (h : lw_S w M) : 83 < im_n M ∧ (im_k M 83).1 = 33 := by rw [h.1, h.2.1]; exact ⟨by decide, by decide +kernel⟩
theorem kl_83 {w : Bool} {M : im_M} (h : lw_S w M) : (im_k M 83).2 = 200 := by rw [h.2.1]; decide +kernel
/-- 84: int[] of 24200 -/
theorem ka_84 {w : Bool} {M : im_M} (h : lw_S w M) : 84 < im_n M ∧ (im_k M 84).1 = 33 := by rw [h.1, h.2.1]; exact ⟨by decide, by decide +kernel⟩
theorem kl_84 {w : Bool} {M : im_M} (h : lw_S w M) : (im_k M 84).2 = 24200 := by rw [h.2.1]; decide +kernel
/-- 85: int[] of 200 -/
theorem ka_85 {w : Bool} {M : im_M} (h : lw_S w M) : 85 < im_n M ∧ (im_k M 85).1 = 33 := by rw [h.1, h.2.1]; exact ⟨by decide, by decide +kernel⟩
theorem kl_85 {w : Bool} {M : im_M} (h : lw_S w M) : (im_k M 85).2 = 200 := by rw [h.2.1]; decide +kernel
/-- 86: int[] of 48 -/
theorem ka_86 {w : Bool} {M : im_M} (h : lw_S w M) : 86 < im_n M ∧ (im_k M 86).1 = 33 := by rw [h.1, h.2.1]; exact ⟨by decide, by decide +kernel⟩
theorem kl_86 {w : Bool} {M : im_M} (h : lw_S w M) : (im_k M 86).2 = 48 := by rw [h.2.1]; decide +kernel
/-- 87: int[] of 1080 -/
theorem ka_87 {w : Bool} {M : im_M} (h : lw_S w M) : 87 < im_n M ∧ (im_k M 87).1 = 33 := by rw [h.1, h.2.1]; exact ⟨by decide, by decide +kernel⟩
theorem kl_87 {w : Bool} {M : im_M} (h : lw_S w M) : (im_k M 87).2 = 1080 := by rw [h.2.1]; decide +kernel
/-- 88: int[] of 24000 -/
theorem ka_88 {w : Bool} {M : im_M} (h : lw_S w M) : 88 < im_n M ∧ (im_k M 88).1 = 33 := by rw [h.1, h.2.1]; exact ⟨by decide, by decide +kernel⟩
theorem kl_88 {w : Bool} {M : im_M} (h : lw_S w M) : (im_k M 88).2 = 24000 := by rw [h.2.1]; decide +kernel
/-- 89: LabelHouseModel$DotRows -/
theorem ka_89 {w : Bool} {M : im_M} (h : lw_S w M) : 89 < im_n M ∧ (im_k M 89).1 = 12 := by rw [h.1, h.2.1]; exact ⟨by decide, by decide +kernel⟩
/-- 90: int[] of 32768 -/
theorem ka_90 {w : Bool} {M : im_M} (h : lw_S w M) : 90 < im_n M ∧ (im_k M 90).1 = 33 := by rw [h.1, h.2.1]; exact ⟨by decide, by decide +kernel⟩
theorem kl_90 {w : Bool} {M : im_M} (h : lw_S w M) : (im_k M 90).2 = 32768 := by rw [h.2.1]; decide +kernel
/-- 91: int[] of 32768 -/
theorem ka_91 {w : Bool} {M : im_M} (h : lw_S w M) : 91 < im_n M ∧ (im_k M 91).1 = 33 := by rw [h.1, h.2.1]; exact ⟨by decide, by decide +kernel⟩
theorem kl_91 {w : Bool} {M : im_M} (h : lw_S w M) : (im_k M 91).2 = 32768 := by rw [h.2.1]; decide +kernel
/-- 92: int[] of 4096 -/
theorem ka_92 {w : Bool} {M : im_M} (h : lw_S w M) : 92 < im_n M ∧ (im_k M 92).1 = 33 := by rw [h.1, h.2.1]; exact ⟨by decide, by decide +kernel⟩
theorem kl_92 {w : Bool} {M : im_M} (h : lw_S w M) : (im_k M 92).2 = 4096 := by rw [h.2.1]; decide +kernel
/-- 93: int[] of 12 -/
theorem ka_93 {w : Bool} {M : im_M} (h : lw_S w M) : 93 < im_n M ∧ (im_k M 93).1 = 33 := by rw [h.1, h.2.1]; exact ⟨by decide, by decide +kernel⟩
theorem kl_93 {w : Bool} {M : im_M} (h : lw_S w M) : (im_k M 93).2 = 12 := by rw [h.2.1]; decide +kernel
/-- 94: int[] of 32768 -/
theorem ka_94 {w : Bool} {M : im_M} (h : lw_S w M) : 94 < im_n M ∧ (im_k M 94).1 = 33 := by rw [h.1, h.2.1]; exact ⟨by decide, by decide +kernel⟩
theorem kl_94 {w : Bool} {M : im_M} (h : lw_S w M) : (im_k M 94).2 = 32768 := by rw [h.2.1]; decide +kernel
/-- 95: boolean[] of 5200 -/
theorem ka_95 {w : Bool} {M : im_M} (h : lw_S w M) : 95 < im_n M ∧ (im_k M 95).1 = 36 := by rw [h.1, h.2.1]; exact ⟨by decide, by decide +kernel⟩
theorem kl_95 {w : Bool} {M : im_M} (h : lw_S w M) : (im_k M 95).2 = 5200 := by rw [h.2.1]; decide +kernel
/-- 96: LabelHouseModel$LineRows -/
theorem ka_96 {w : Bool} {M : im_M} (h : lw_S w M) : 96 < im_n M ∧ (im_k M 96).1 = 13 := by rw [h.1, h.2.1]; exact ⟨by decide, by decide +kernel⟩
/-- 97: int[] of 106 -/
theorem ka_97 {w : Bool} {M : im_M} (h : lw_S w M) : 97 < im_n M ∧ (im_k M 97).1 = 33 := by rw [h.1, h.2.1]; exact ⟨by decide, by decide +kernel⟩
theorem kl_97 {w : Bool} {M : im_M} (h : lw_S w M) : (im_k M 97).2 = 106 := by rw [h.2.1]; decide +kernel
/-- 98: int[] of 10 -/
theorem ka_98 {w : Bool} {M : im_M} (h : lw_S w M) : 98 < im_n M ∧ (im_k M 98).1 = 33 := by rw [h.1, h.2.1]; exact ⟨by decide, by decide +kernel⟩
theorem kl_98 {w : Bool} {M : im_M} (h : lw_S w M) : (im_k M 98).2 = 10 := by rw [h.2.1]; decide +kernel
/-- 99: int[] of 10 -/
theorem ka_99 {w : Bool} {M : im_M} (h : lw_S w M) : 99 < im_n M ∧ (im_k M 99).1 = 33 := by rw [h.1, h.2.1]; exact ⟨by decide, by decide +kernel⟩
theorem kl_99 {w : Bool} {M : im_M} (h : lw_S w M) : (im_k M 99).2 = 10 := by rw [h.2.1]; decide +kernel
/-- 100: int[] of 64 -/
theorem ka_100 {w : Bool} {M : im_M} (h : lw_S w M) : 100 < im_n M ∧ (im_k M 100).1 = 33 := by rw [h.1, h.2.1]; exact ⟨by decide, by decide +kernel⟩
theorem kl_100 {w : Bool} {M : im_M} (h : lw_S w M) : (im_k M 100).2 = 64 := by rw [h.2.1]; decide +kernel
/-- 101: int[] of 198 -/
theorem ka_101 {w : Bool} {M : im_M} (h : lw_S w M) : 101 < im_n M ∧ (im_k M 101).1 = 33 := by rw [h.1, h.2.1]; exact ⟨by decide, by decide +kernel⟩
theorem kl_101 {w : Bool} {M : im_M} (h : lw_S w M) : (im_k M 101).2 = 198 := by rw [h.2.1]; decide +kernel
/-- 102: int[] of 200 -/
theorem ka_102 {w : Bool} {M : im_M} (h : lw_S w M) : 102 < im_n M ∧ (im_k M 102).1 = 33 := by rw [h.1, h.2.1]; exact ⟨by decide, by decide +kernel⟩
theorem kl_102 {w : Bool} {M : im_M} (h : lw_S w M) : (im_k M 102).2 = 200 := by rw [h.2.1]; decide +kernel
/-- 103: int[] of 800 -/
theorem ka_103 {w : Bool} {M : im_M} (h : lw_S w M) : 103 < im_n M ∧ (im_k M 103).1 = 33 := by rw [h.1, h.2.1]; exact ⟨by decide, by decide +kernel⟩
theorem kl_103 {w : Bool} {M : im_M} (h : lw_S w M) : (im_k M 103).2 = 800 := by rw [h.2.1]; decide +kernel
/-- 104: int[] of 800 -/
theorem ka_104 {w : Bool} {M : im_M} (h : lw_S w M) : 104 < im_n M ∧ (im_k M 104).1 = 33 := by rw [h.1, h.2.1]; exact ⟨by decide, by decide +kernel⟩
theorem kl_104 {w : Bool} {M : im_M} (h : lw_S w M) : (im_k M 104).2 = 800 := by rw [h.2.1]; decide +kernel
/-- 105: int[] of 140 -/
theorem ka_105 {w : Bool} {M : im_M} (h : lw_S w M) : 105 < im_n M ∧ (im_k M 105).1 = 33 := by rw [h.1, h.2.1]; exact ⟨by decide, by decide +kernel⟩
theorem kl_105 {w : Bool} {M : im_M} (h : lw_S w M) : (im_k M 105).2 = 140 := by rw [h.2.1]; decide +kernel
/-- 106: int[] of 300 -/
theorem ka_106 {w : Bool} {M : im_M} (h : lw_S w M) : 106 < im_n M ∧ (im_k M 106).1 = 33 := by rw [h.1, h.2.1]; exact ⟨by decide, by decide +kernel⟩
theorem kl_106 {w : Bool} {M : im_M} (h : lw_S w M) : (im_k M 106).2 = 300 := by rw [h.2.1]; decide +kernel
/-- 107: int[] of 300 -/
theorem ka_107 {w : Bool} {M : im_M} (h : lw_S w M) : 107 < im_n M ∧ (im_k M 107).1 = 33 := by rw [h.1, h.2.1]; exact ⟨by decide, by decide +kernel⟩
theorem kl_107 {w : Bool} {M : im_M} (h : lw_S w M) : (im_k M 107).2 = 300 := by rw [h.2.1]; decide +kernel
/-- 108: LabelHouseModel$SquareRows -/
theorem ka_108 {w : Bool} {M : im_M} (h : lw_S w M) : 108 < im_n M ∧ (im_k M 108).1 = 16 := by rw [h.1, h.2.1]; exact ⟨by decide, by decide +kernel⟩
/-- 109: int[] of 160 -/
theorem ka_109 {w : Bool} {M : im_M} (h : lw_S w M) : 109 < im_n M ∧ (im_k M 109).1 = 33 := by rw [h.1, h.2.1]; exact ⟨by decide, by decide +kernel⟩
theorem kl_109 {w : Bool} {M : im_M} (h : lw_S w M) : (im_k M 109).2 = 160 := by rw [h.2.1]; decide +kernel
/-- 110: int[] of 160 -/
theorem ka_110 {w : Bool} {M : im_M} (h : lw_S w M) : 110 < im_n M ∧ (im_k M 110).1 = 33 := by rw [h.1, h.2.1]; exact ⟨by decide, by decide +kernel⟩
theorem kl_110 {w : Bool} {M : im_M} (h : lw_S w M) : (im_k M 110).2 = 160 := by rw [h.2.1]; decide +kernel
/-- 111: int[] of 3000 -/
theorem ka_111 {w : Bool} {M : im_M} (h : lw_S w M) : 111 < im_n M ∧ (im_k M 111).1 = 33 := by rw [h.1, h.2.1]; exact ⟨by decide, by decide +kernel⟩
theorem kl_111 {w : Bool} {M : im_M} (h : lw_S w M) : (im_k M 111).2 = 3000 := by rw [h.2.1]; decide +kernel
/-- 112: int[] of 31329 -/
theorem ka_112 {w : Bool} {M : im_M} (h : lw_S w M) : 112 < im_n M ∧ (im_k M 112).1 = 33 := by rw [h.1, h.2.1]; exact ⟨by decide, by decide +kernel⟩
theorem kl_112 {w : Bool} {M : im_M} (h : lw_S w M) : (im_k M 112).2 = 31329 := by rw [h.2.1]; decide +kernel
/-- 113: int[] of 31329 -/
theorem ka_113 {w : Bool} {M : im_M} (h : lw_S w M) : 113 < im_n M ∧ (im_k M 113).1 = 33 := by rw [h.1, h.2.1]; exact ⟨by decide, by decide +kernel⟩
theorem kl_113 {w : Bool} {M : im_M} (h : lw_S w M) : (im_k M 113).2 = 31329 := by rw [h.2.1]; decide +kernel
/-- 114: int[] of 6 -/
theorem ka_114 {w : Bool} {M : im_M} (h : lw_S w M) : 114 < im_n M ∧ (im_k M 114).1 = 33 := by rw [h.1, h.2.1]; exact ⟨by decide, by decide +kernel⟩
theorem kl_114 {w : Bool} {M : im_M} (h : lw_S w M) : (im_k M 114).2 = 6 := by rw [h.2.1]; decide +kernel
/-- 115: int[] of 3000 -/
theorem ka_115 {w : Bool} {M : im_M} (h : lw_S w M) : 115 < im_n M ∧ (im_k M 115).1 = 33 := by rw [h.1, h.2.1]; exact ⟨by decide, by decide +kernel⟩
theorem kl_115 {w : Bool} {M : im_M} (h : lw_S w M) : (im_k M 115).2 = 3000 := by rw [h.2.1]; decide +kernel
/-- 116: int[] of 3000 -/
theorem ka_116 {w : Bool} {M : im_M} (h : lw_S w M) : 116 < im_n M ∧ (im_k M 116).1 = 33 := by rw [h.1, h.2.1]; exact ⟨by decide, by decide +kernel⟩
theorem kl_116 {w : Bool} {M : im_M} (h : lw_S w M) : (im_k M 116).2 = 3000 := by rw [h.2.1]; decide +kernel
/-- 117: int[] of 3000 -/
theorem ka_117 {w : Bool} {M : im_M} (h : lw_S w M) : 117 < im_n M ∧ (im_k M 117).1 = 33 := by rw [h.1, h.2.1]; exact ⟨by decide, by decide +kernel⟩
theorem kl_117 {w : Bool} {M : im_M} (h : lw_S w M) : (im_k M 117).2 = 3000 := by rw [h.2.1]; decide +kernel
/-- 118: int[] of 18006 -/
theorem ka_118 {w : Bool} {M : im_M} (h : lw_S w M) : 118 < im_n M ∧ (im_k M 118).1 = 33 := by rw [h.1, h.2.1]; exact ⟨by decide, by decide +kernel⟩
theorem kl_118 {w : Bool} {M : im_M} (h : lw_S w M) : (im_k M 118).2 = 18006 := by rw [h.2.1]; decide +kernel
/-- 119: int[] of 3800 -/
theorem ka_119 {w : Bool} {M : im_M} (h : lw_S w M) : 119 < im_n M ∧ (im_k M 119).1 = 33 := by rw [h.1, h.2.1]; exact ⟨by decide, by decide +kernel⟩
theorem kl_119 {w : Bool} {M : im_M} (h : lw_S w M) : (im_k M 119).2 = 3800 := by rw [h.2.1]; decide +kernel
/-- 120: int[] of 3800 -/
theorem ka_120 {w : Bool} {M : im_M} (h : lw_S w M) : 120 < im_n M ∧ (im_k M 120).1 = 33 := by rw [h.1, h.2.1]; exact ⟨by decide, by decide +kernel⟩
theorem kl_120 {w : Bool} {M : im_M} (h : lw_S w M) : (im_k M 120).2 = 3800 := by rw [h.2.1]; decide +kernel
/-- 121: int[] of 256 -/
theorem ka_121 {w : Bool} {M : im_M} (h : lw_S w M) : 121 < im_n M ∧ (im_k M 121).1 = 33 := by rw [h.1, h.2.1]; exact ⟨by decide, by decide +kernel⟩
theorem kl_121 {w : Bool} {M : im_M} (h : lw_S w M) : (im_k M 121).2 = 256 := by rw [h.2.1]; decide +kernel
/-- 122: int[] of 256 -/
theorem ka_122 {w : Bool} {M : im_M} (h : lw_S w M) : 122 < im_n M ∧ (im_k M 122).1 = 33 := by rw [h.1, h.2.1]; exact ⟨by decide, by decide +kernel⟩
theorem kl_122 {w : Bool} {M : im_M} (h : lw_S w M) : (im_k M 122).2 = 256 := by rw [h.2.1]; decide +kernel
/-- 123: int[] of 32 -/
theorem ka_123 {w : Bool} {M : im_M} (h : lw_S w M) : 123 < im_n M ∧ (im_k M 123).1 = 33 := by rw [h.1, h.2.1]; exact ⟨by decide, by decide +kernel⟩
theorem kl_123 {w : Bool} {M : im_M} (h : lw_S w M) : (im_k M 123).2 = 32 := by rw [h.2.1]; decide +kernel
/-- 124: int[] of 272 -/
theorem ka_124 {w : Bool} {M : im_M} (h : lw_S w M) : 124 < im_n M ∧ (im_k M 124).1 = 33 := by rw [h.1, h.2.1]; exact ⟨by decide, by decide +kernel⟩
theorem kl_124 {w : Bool} {M : im_M} (h : lw_S w M) : (im_k M 124).2 = 272 := by rw [h.2.1]; decide +kernel
/-- 125: int[] of 16 -/
theorem ka_125 {w : Bool} {M : im_M} (h : lw_S w M) : 125 < im_n M ∧ (im_k M 125).1 = 33 := by rw [h.1, h.2.1]; exact ⟨by decide, by decide +kernel⟩
theorem kl_125 {w : Bool} {M : im_M} (h : lw_S w M) : (im_k M 125).2 = 16 := by rw [h.2.1]; decide +kernel
/-- 126: int[] of 16 -/
theorem ka_126 {w : Bool} {M : im_M} (h : lw_S w M) : 126 < im_n M ∧ (im_k M 126).1 = 33 := by rw [h.1, h.2.1]; exact ⟨by decide, by decide +kernel⟩
theorem kl_126 {w : Bool} {M : im_M} (h : lw_S w M) : (im_k M 126).2 = 16 := by rw [h.2.1]; decide +kernel
/-- 127: int[] of 32 -/
theorem ka_127 {w : Bool} {M : im_M} (h : lw_S w M) : 127 < im_n M ∧ (im_k M 127).1 = 33 := by rw [h.1, h.2.1]; exact ⟨by decide, by decide +kernel⟩
theorem kl_127 {w : Bool} {M : im_M} (h : lw_S w M) : (im_k M 127).2 = 32 := by rw [h.2.1]; decide +kernel
/-- 128: int[] of 3000 -/
theorem ka_128 {w : Bool} {M : im_M} (h : lw_S w M) : 128 < im_n M ∧ (im_k M 128).1 = 33 := by rw [h.1, h.2.1]; exact ⟨by decide, by decide +kernel⟩
theorem kl_128 {w : Bool} {M : im_M} (h : lw_S w M) : (im_k M 128).2 = 3000 := by rw [h.2.1]; decide +kernel
/-- 129: int[] of 4 -/
theorem ka_129 {w : Bool} {M : im_M} (h : lw_S w M) : 129 < im_n M ∧ (im_k M 129).1 = 33 := by rw [h.1, h.2.1]; exact ⟨by decide, by decide +kernel⟩
theorem kl_129 {w : Bool} {M : im_M} (h : lw_S w M) : (im_k M 129).2 = 4 := by rw [h.2.1]; decide +kernel
/-- 130: LabelHouseModel$PlaceRows -/
theorem ka_130 {w : Bool} {M : im_M} (h : lw_S w M) : 130 < im_n M ∧ (im_k M 130).1 = 14 := by rw [h.1, h.2.1]; exact ⟨by decide, by decide +kernel⟩
/-- 131: boolean[] of 262144 -/
theorem ka_131 {w : Bool} {M : im_M} (h : lw_S w M) : 131 < im_n M ∧ (im_k M 131).1 = 36 := by rw [h.1, h.2.1]; exact ⟨by decide, by decide +kernel⟩
theorem kl_131 {w : Bool} {M : im_M} (h : lw_S w M) : (im_k M 131).2 = 262144 := by rw [h.2.1]; decide +kernel
/-- 132: int[] of 263169 -/
theorem ka_132 {w : Bool} {M : im_M} (h : lw_S w M) : 132 < im_n M ∧ (im_k M 132).1 = 33 := by rw [h.1, h.2.1]; exact ⟨by decide, by decide +kernel⟩
theorem kl_132 {w : Bool} {M : im_M} (h : lw_S w M) : (im_k M 132).2 = 263169 := by rw [h.2.1]; decide +kernel
/-- 133: int[] of 2100 -/
theorem ka_133 {w : Bool} {M : im_M} (h : lw_S w M) : 133 < im_n M ∧ (im_k M 133).1 = 33 := by rw [h.1, h.2.1]; exact ⟨by decide, by decide +kernel⟩
theorem kl_133 {w : Bool} {M : im_M} (h : lw_S w M) : (im_k M 133).2 = 2100 := by rw [h.2.1]; decide +kernel
/-- 134: int[] of 1800 -/
theorem ka_134 {w : Bool} {M : im_M} (h : lw_S w M) : 134 < im_n M ∧ (im_k M 134).1 = 33 := by rw [h.1, h.2.1]; exact ⟨by decide, by decide +kernel⟩
theorem kl_134 {w : Bool} {M : im_M} (h : lw_S w M) : (im_k M 134).2 = 1800 := by rw [h.2.1]; decide +kernel
/-- 135: int[] of 1800 -/
theorem ka_135 {w : Bool} {M : im_M} (h : lw_S w M) : 135 < im_n M ∧ (im_k M 135).1 = 33 := by rw [h.1, h.2.1]; exact ⟨by decide, by decide +kernel⟩
theorem kl_135 {w : Bool} {M : im_M} (h : lw_S w M) : (im_k M 135).2 = 1800 := by rw [h.2.1]; decide +kernel
/-- 136: int[] of 120 -/
theorem ka_136 {w : Bool} {M : im_M} (h : lw_S w M) : 136 < im_n M ∧ (im_k M 136).1 = 33 := by rw [h.1, h.2.1]; exact ⟨by decide, by decide +kernel⟩
theorem kl_136 {w : Bool} {M : im_M} (h : lw_S w M) : (im_k M 136).2 = 120 := by rw [h.2.1]; decide +kernel
/-- 137: int[] of 3000 -/
theorem ka_137 {w : Bool} {M : im_M} (h : lw_S w M) : 137 < im_n M ∧ (im_k M 137).1 = 33 := by rw [h.1, h.2.1]; exact ⟨by decide, by decide +kernel⟩
theorem kl_137 {w : Bool} {M : im_M} (h : lw_S w M) : (im_k M 137).2 = 3000 := by rw [h.2.1]; decide +kernel
/-- 138: long[] of 1 -/
theorem ka_138 {w : Bool} {M : im_M} (h : lw_S w M) : 138 < im_n M ∧ (im_k M 138).1 = 34 := by rw [h.1, h.2.1]; exact ⟨by decide, by decide +kernel⟩
theorem kl_138 {w : Bool} {M : im_M} (h : lw_S w M) : (im_k M 138).2 = 1 := by rw [h.2.1]; decide +kernel
theorem ra_0_0 {w : Bool} {M : im_M} (h : lw_S w M) : im_r M 0 0 = some 1 := by rw [h.2.2]; exact (by decide +kernel : ∀ w : Bool, lw_R w 0 0 = some 1) w
theorem ra_0_1 {w : Bool} {M : im_M} (h : lw_S w M) : im_r M 0 1 = some 11 := by rw [h.2.2]; exact (by decide +kernel : ∀ w : Bool, lw_R w 0 1 = some 11) w
theorem ra_0_2 {w : Bool} {M : im_M} (h : lw_S w M) : im_r M 0 2 = some 15 := by rw [h.2.2]; exact (by decide +kernel : ∀ w : Bool, lw_R w 0 2 = some 15) w
theorem ra_0_3 {w : Bool} {M : im_M} (h : lw_S w M) : im_r M 0 3 = some 28 := by rw [h.2.2]; exact (by decide +kernel : ∀ w : Bool, lw_R w 0 3 = some 28) w
theorem ra_0_4 {w : Bool} {M : im_M} (h : lw_S w M) : im_r M 0 4 = some 56 := by rw [h.2.2]; exact (by decide +kernel : ∀ w : Bool, lw_R w 0 4 = some 56) w
theorem ra_0_5 {w : Bool} {M : im_M} (h : lw_S w M) : im_r M 0 5 = some 31 := by rw [h.2.2]; exact (by decide +kernel : ∀ w : Bool, lw_R w 0 5 = some 31) w
theorem ra_0_6 {w : Bool} {M : im_M} (h : lw_S w M) : im_r M 0 6 = some 38 := by rw [h.2.2]; exact (by decide +kernel : ∀ w : Bool, lw_R w 0 6 = some 38) w
theorem ra_0_7 {w : Bool} {M : im_M} (h : lw_S w M) : im_r M 0 7 = some 59 := by rw [h.2.2]; exact (by decide +kernel : ∀ w : Bool, lw_R w 0 7 = some 59) w
theorem ra_0_8 {w : Bool} {M : im_M} (h : lw_S w M) : im_r M 0 8 = some 66 := by rw [h.2.2]; exact (by decide +kernel : ∀ w : Bool, lw_R w 0 8 = some 66) w
theorem ra_0_10 {w : Bool} {M : im_M} (h : lw_S w M) : im_r M 0 10 = some 67 := by rw [h.2.2]; exact (by decide +kernel : ∀ w : Bool, lw_R w 0 10 = some 67) w
theorem ra_0_11 {w : Bool} {M : im_M} (h : lw_S w M) : im_r M 0 11 = some 68 := by rw [h.2.2]; exact (by decide +kernel : ∀ w : Bool, lw_R w 0 11 = some 68) w
theorem ra_1_0 {w : Bool} {M : im_M} (h : lw_S w M) : im_r M 1 0 = some 2 := by rw [h.2.2]; exact (by decide +kernel : ∀ w : Bool, lw_R w 1 0 = some 2) w
theorem ra_1_2 {w : Bool} {M : im_M} (h : lw_S w M) : im_r M 1 2 = some 3 := by rw [h.2.2]; exact (by decide +kernel : ∀ w : Bool, lw_R w 1 2 = some 3) w
theorem ra_1_3 {w : Bool} {M : im_M} (h : lw_S w M) : im_r M 1 3 = some 4 := by rw [h.2.2]; exact (by decide +kernel : ∀ w : Bool, lw_R w 1 3 = some 4) w
theorem ra_1_4 {w : Bool} {M : im_M} (h : lw_S w M) : im_r M 1 4 = some 5 := by rw [h.2.2]; exact (by decide +kernel : ∀ w : Bool, lw_R w 1 4 = some 5) w
theorem ra_1_5 {w : Bool} {M : im_M} (h : lw_S w M) : im_r M 1 5 = some 6 := by rw [h.2.2]; exact (by decide +kernel : ∀ w : Bool, lw_R w 1 5 = some 6) w
theorem ra_1_7 {w : Bool} {M : im_M} (h : lw_S w M) : im_r M 1 7 = some 7 := by rw [h.2.2]; exact (by decide +kernel : ∀ w : Bool, lw_R w 1 7 = some 7) w
theorem ra_1_8 {w : Bool} {M : im_M} (h : lw_S w M) : im_r M 1 8 = some 8 := by rw [h.2.2]; exact (by decide +kernel : ∀ w : Bool, lw_R w 1 8 = some 8) w
theorem ra_1_9 {w : Bool} {M : im_M} (h : lw_S w M) : im_r M 1 9 = some 9 := by rw [h.2.2]; exact (by decide +kernel : ∀ w : Bool, lw_R w 1 9 = some 9) w
theorem ra_1_10 {w : Bool} {M : im_M} (h : lw_S w M) : im_r M 1 10 = some 10 := by rw [h.2.2]; exact (by decide +kernel : ∀ w : Bool, lw_R w 1 10 = some 10) w
theorem ra_11_0 {w : Bool} {M : im_M} (h : lw_S w M) : im_r M 11 0 = some 13 := by rw [h.2.2]; exact (by decide +kernel : ∀ w : Bool, lw_R w 11 0 = some 13) w
theorem ra_11_1 {w : Bool} {M : im_M} (h : lw_S w M) : im_r M 11 1 = some 14 := by rw [h.2.2]; exact (by decide +kernel : ∀ w : Bool, lw_R w 11 1 = some 14) w
theorem ra_11_2 {w : Bool} {M : im_M} (h : lw_S w M) : im_r M 11 2 = some 12 := by rw [h.2.2]; exact (by decide +kernel : ∀ w : Bool, lw_R w 11 2 = some 12) w
theorem ra_15_0 {w : Bool} {M : im_M} (h : lw_S w M) : im_r M 15 0 = some 1 := by rw [h.2.2]; exact (by decide +kernel : ∀ w : Bool, lw_R w 15 0 = some 1) w
theorem ra_15_1 {w : Bool} {M : im_M} (h : lw_S w M) : im_r M 15 1 = some 11 := by rw [h.2.2]; exact (by decide +kernel : ∀ w : Bool, lw_R w 15 1 = some 11) w
theorem ra_15_2 {w : Bool} {M : im_M} (h : lw_S w M) : im_r M 15 2 = some 19 := by rw [h.2.2]; exact (by decide +kernel : ∀ w : Bool, lw_R w 15 2 = some 19) w
theorem ra_15_3 {w : Bool} {M : im_M} (h : lw_S w M) : im_r M 15 3 = some 23 := by rw [h.2.2]; exact (by decide +kernel : ∀ w : Bool, lw_R w 15 3 = some 23) w
theorem ra_15_5 {w : Bool} {M : im_M} (h : lw_S w M) : im_r M 15 5 = some 16 := by rw [h.2.2]; exact (by decide +kernel : ∀ w : Bool, lw_R w 15 5 = some 16) w
theorem ra_15_13 {w : Bool} {M : im_M} (h : lw_S w M) : im_r M 15 13 = some 17 := by rw [h.2.2]; exact (by decide +kernel : ∀ w : Bool, lw_R w 15 13 = some 17) w
theorem ra_15_14 {w : Bool} {M : im_M} (h : lw_S w M) : im_r M 15 14 = some 18 := by rw [h.2.2]; exact (by decide +kernel : ∀ w : Bool, lw_R w 15 14 = some 18) w
theorem ra_19_0 {w : Bool} {M : im_M} (h : lw_S w M) : im_r M 19 0 = some 21 := by rw [h.2.2]; exact (by decide +kernel : ∀ w : Bool, lw_R w 19 0 = some 21) w
theorem ra_19_1 {w : Bool} {M : im_M} (h : lw_S w M) : im_r M 19 1 = some 22 := by rw [h.2.2]; exact (by decide +kernel : ∀ w : Bool, lw_R w 19 1 = some 22) w
theorem ra_19_2 {w : Bool} {M : im_M} (h : lw_S w M) : im_r M 19 2 = some 20 := by rw [h.2.2]; exact (by decide +kernel : ∀ w : Bool, lw_R w 19 2 = some 20) w
theorem ra_23_3 {w : Bool} {M : im_M} (h : lw_S w M) : im_r M 23 3 = some 24 := by rw [h.2.2]; exact (by decide +kernel : ∀ w : Bool, lw_R w 23 3 = some 24) w
theorem ra_23_7 {w : Bool} {M : im_M} (h : lw_S w M) : im_r M 23 7 = some 25 := by rw [h.2.2]; exact (by decide +kernel : ∀ w : Bool, lw_R w 23 7 = some 25) w
theorem ra_23_10 {w : Bool} {M : im_M} (h : lw_S w M) : im_r M 23 10 = some 26 := by rw [h.2.2]; exact (by decide +kernel : ∀ w : Bool, lw_R w 23 10 = some 26) w
theorem ra_23_11 {w : Bool} {M : im_M} (h : lw_S w M) : im_r M 23 11 = some 27 := by rw [h.2.2]; exact (by decide +kernel : ∀ w : Bool, lw_R w 23 11 = some 27) w
theorem ra_28_4 {w : Bool} {M : im_M} (h : lw_S w M) : im_r M 28 4 = some (if w = true then 30 else 29) := by rw [h.2.2]; exact (by decide +kernel : ∀ w : Bool, lw_R w 28 4 = some (if w = true then 30 else 29)) w
theorem ra_28_5 {w : Bool} {M : im_M} (h : lw_S w M) : im_r M 28 5 = some (if w = true then 29 else 30) := by rw [h.2.2]; exact (by decide +kernel : ∀ w : Bool, lw_R w 28 5 = some (if w = true then 29 else 30)) w
theorem ra_31_0 {w : Bool} {M : im_M} (h : lw_S w M) : im_r M 31 0 = some 32 := by rw [h.2.2]; exact (by decide +kernel : ∀ w : Bool, lw_R w 31 0 = some 32) w
theorem ra_31_1 {w : Bool} {M : im_M} (h : lw_S w M) : im_r M 31 1 = some 33 := by rw [h.2.2]; exact (by decide +kernel : ∀ w : Bool, lw_R w 31 1 = some 33) w
theorem ra_31_5 {w : Bool} {M : im_M} (h : lw_S w M) : im_r M 31 5 = some 34 := by rw [h.2.2]; exact (by decide +kernel : ∀ w : Bool, lw_R w 31 5 = some 34) w
theorem ra_31_7 {w : Bool} {M : im_M} (h : lw_S w M) : im_r M 31 7 = some 35 := by rw [h.2.2]; exact (by decide +kernel : ∀ w : Bool, lw_R w 31 7 = some 35) w
theorem ra_31_8 {w : Bool} {M : im_M} (h : lw_S w M) : im_r M 31 8 = some 36 := by rw [h.2.2]; exact (by decide +kernel : ∀ w : Bool, lw_R w 31 8 = some 36) w
theorem ra_31_10 {w : Bool} {M : im_M} (h : lw_S w M) : im_r M 31 10 = some 37 := by rw [h.2.2]; exact (by decide +kernel : ∀ w : Bool, lw_R w 31 10 = some 37) w
theorem ra_38_0 {w : Bool} {M : im_M} (h : lw_S w M) : im_r M 38 0 = some 39 := by rw [h.2.2]; exact (by decide +kernel : ∀ w : Bool, lw_R w 38 0 = some 39) w
theorem ra_38_5 {w : Bool} {M : im_M} (h : lw_S w M) : im_r M 38 5 = some 43 := by rw [h.2.2]; exact (by decide +kernel : ∀ w : Bool, lw_R w 38 5 = some 43) w
theorem ra_38_7 {w : Bool} {M : im_M} (h : lw_S w M) : im_r M 38 7 = some 54 := by rw [h.2.2]; exact (by decide +kernel : ∀ w : Bool, lw_R w 38 7 = some 54) w
theorem ra_38_8 {w : Bool} {M : im_M} (h : lw_S w M) : im_r M 38 8 = some 55 := by rw [h.2.2]; exact (by decide +kernel : ∀ w : Bool, lw_R w 38 8 = some 55) w
theorem ra_39_0 {w : Bool} {M : im_M} (h : lw_S w M) : im_r M 39 0 = some 40 := by rw [h.2.2]; exact (by decide +kernel : ∀ w : Bool, lw_R w 39 0 = some 40) w
theorem ra_39_3 {w : Bool} {M : im_M} (h : lw_S w M) : im_r M 39 3 = some 41 := by rw [h.2.2]; exact (by decide +kernel : ∀ w : Bool, lw_R w 39 3 = some 41) w
theorem ra_39_4 {w : Bool} {M : im_M} (h : lw_S w M) : im_r M 39 4 = some 42 := by rw [h.2.2]; exact (by decide +kernel : ∀ w : Bool, lw_R w 39 4 = some 42) w
theorem ra_43_0 {w : Bool} {M : im_M} (h : lw_S w M) : im_r M 43 0 = some 44 := by rw [h.2.2]; exact (by decide +kernel : ∀ w : Bool, lw_R w 43 0 = some 44) w
theorem ra_43_1 {w : Bool} {M : im_M} (h : lw_S w M) : im_r M 43 1 = some 45 := by rw [h.2.2]; exact (by decide +kernel : ∀ w : Bool, lw_R w 43 1 = some 45) w
theorem ra_43_2 {w : Bool} {M : im_M} (h : lw_S w M) : im_r M 43 2 = some 46 := by rw [h.2.2]; exact (by decide +kernel : ∀ w : Bool, lw_R w 43 2 = some 46) w
theorem ra_43_3 {w : Bool} {M : im_M} (h : lw_S w M) : im_r M 43 3 = some 47 := by rw [h.2.2]; exact (by decide +kernel : ∀ w : Bool, lw_R w 43 3 = some 47) w
theorem ra_43_4 {w : Bool} {M : im_M} (h : lw_S w M) : im_r M 43 4 = some 48 := by rw [h.2.2]; exact (by decide +kernel : ∀ w : Bool, lw_R w 43 4 = some 48) w
theorem ra_43_5 {w : Bool} {M : im_M} (h : lw_S w M) : im_r M 43 5 = some 49 := by rw [h.2.2]; exact (by decide +kernel : ∀ w : Bool, lw_R w 43 5 = some 49) w
theorem ra_43_6 {w : Bool} {M : im_M} (h : lw_S w M) : im_r M 43 6 = some 50 := by rw [h.2.2]; exact (by decide +kernel : ∀ w : Bool, lw_R w 43 6 = some 50) w
theorem ra_43_7 {w : Bool} {M : im_M} (h : lw_S w M) : im_r M 43 7 = some 51 := by rw [h.2.2]; exact (by decide +kernel : ∀ w : Bool, lw_R w 43 7 = some 51) w
theorem ra_43_8 {w : Bool} {M : im_M} (h : lw_S w M) : im_r M 43 8 = some 52 := by rw [h.2.2]; exact (by decide +kernel : ∀ w : Bool, lw_R w 43 8 = some 52) w
theorem ra_43_9 {w : Bool} {M : im_M} (h : lw_S w M) : im_r M 43 9 = some 53 := by rw [h.2.2]; exact (by decide +kernel : ∀ w : Bool, lw_R w 43 9 = some 53) w
theorem ra_56_0 {w : Bool} {M : im_M} (h : lw_S w M) : im_r M 56 0 = some 28 := by rw [h.2.2]; exact (by decide +kernel : ∀ w : Bool, lw_R w 56 0 = some 28) w
theorem ra_56_1 {w : Bool} {M : im_M} (h : lw_S w M) : im_r M 56 1 = some 31 := by rw [h.2.2]; exact (by decide +kernel : ∀ w : Bool, lw_R w 56 1 = some 31) w
theorem ra_56_2 {w : Bool} {M : im_M} (h : lw_S w M) : im_r M 56 2 = some 38 := by rw [h.2.2]; exact (by decide +kernel : ∀ w : Bool, lw_R w 56 2 = some 38) w
theorem ra_56_3 {w : Bool} {M : im_M} (h : lw_S w M) : im_r M 56 3 = some 57 := by rw [h.2.2]; exact (by decide +kernel : ∀ w : Bool, lw_R w 56 3 = some 57) w
theorem ra_56_4 {w : Bool} {M : im_M} (h : lw_S w M) : im_r M 56 4 = some 58 := by rw [h.2.2]; exact (by decide +kernel : ∀ w : Bool, lw_R w 56 4 = some 58) w
theorem ra_59_1 {w : Bool} {M : im_M} (h : lw_S w M) : im_r M 59 1 = some 28 := by rw [h.2.2]; exact (by decide +kernel : ∀ w : Bool, lw_R w 59 1 = some 28) w
theorem ra_59_2 {w : Bool} {M : im_M} (h : lw_S w M) : im_r M 59 2 = some 60 := by rw [h.2.2]; exact (by decide +kernel : ∀ w : Bool, lw_R w 59 2 = some 60) w
theorem ra_59_3 {w : Bool} {M : im_M} (h : lw_S w M) : im_r M 59 3 = some 61 := by rw [h.2.2]; exact (by decide +kernel : ∀ w : Bool, lw_R w 59 3 = some 61) w
theorem ra_59_4 {w : Bool} {M : im_M} (h : lw_S w M) : im_r M 59 4 = some 62 := by rw [h.2.2]; exact (by decide +kernel : ∀ w : Bool, lw_R w 59 4 = some 62) w
theorem ra_59_5 {w : Bool} {M : im_M} (h : lw_S w M) : im_r M 59 5 = some 63 := by rw [h.2.2]; exact (by decide +kernel : ∀ w : Bool, lw_R w 59 5 = some 63) w
theorem ra_59_6 {w : Bool} {M : im_M} (h : lw_S w M) : im_r M 59 6 = some 64 := by rw [h.2.2]; exact (by decide +kernel : ∀ w : Bool, lw_R w 59 6 = some 64) w
theorem ra_59_7 {w : Bool} {M : im_M} (h : lw_S w M) : im_r M 59 7 = some 65 := by rw [h.2.2]; exact (by decide +kernel : ∀ w : Bool, lw_R w 59 7 = some 65) w
theorem ra_69_1 {w : Bool} {M : im_M} (h : lw_S w M) : im_r M 69 1 = some 70 := by rw [h.2.2]; exact (by decide +kernel : ∀ w : Bool, lw_R w 69 1 = some 70) w
theorem ra_69_3 {w : Bool} {M : im_M} (h : lw_S w M) : im_r M 69 3 = some 71 := by rw [h.2.2]; exact (by decide +kernel : ∀ w : Bool, lw_R w 69 3 = some 71) w
theorem ra_69_4 {w : Bool} {M : im_M} (h : lw_S w M) : im_r M 69 4 = some 89 := by rw [h.2.2]; exact (by decide +kernel : ∀ w : Bool, lw_R w 69 4 = some 89) w
theorem ra_69_5 {w : Bool} {M : im_M} (h : lw_S w M) : im_r M 69 5 = some 96 := by rw [h.2.2]; exact (by decide +kernel : ∀ w : Bool, lw_R w 69 5 = some 96) w
theorem ra_69_6 {w : Bool} {M : im_M} (h : lw_S w M) : im_r M 69 6 = some 108 := by rw [h.2.2]; exact (by decide +kernel : ∀ w : Bool, lw_R w 69 6 = some 108) w
theorem ra_69_7 {w : Bool} {M : im_M} (h : lw_S w M) : im_r M 69 7 = some 130 := by rw [h.2.2]; exact (by decide +kernel : ∀ w : Bool, lw_R w 69 7 = some 130) w
theorem ra_69_8 {w : Bool} {M : im_M} (h : lw_S w M) : im_r M 69 8 = some 136 := by rw [h.2.2]; exact (by decide +kernel : ∀ w : Bool, lw_R w 69 8 = some 136) w
theorem ra_69_11 {w : Bool} {M : im_M} (h : lw_S w M) : im_r M 69 11 = some 137 := by rw [h.2.2]; exact (by decide +kernel : ∀ w : Bool, lw_R w 69 11 = some 137) w
theorem ra_71_1 {w : Bool} {M : im_M} (h : lw_S w M) : im_r M 71 1 = some 72 := by rw [h.2.2]; exact (by decide +kernel : ∀ w : Bool, lw_R w 71 1 = some 72) w
theorem ra_71_3 {w : Bool} {M : im_M} (h : lw_S w M) : im_r M 71 3 = some 73 := by rw [h.2.2]; exact (by decide +kernel : ∀ w : Bool, lw_R w 71 3 = some 73) w
theorem ra_71_4 {w : Bool} {M : im_M} (h : lw_S w M) : im_r M 71 4 = some 74 := by rw [h.2.2]; exact (by decide +kernel : ∀ w : Bool, lw_R w 71 4 = some 74) w
theorem ra_71_5 {w : Bool} {M : im_M} (h : lw_S w M) : im_r M 71 5 = some 75 := by rw [h.2.2]; exact (by decide +kernel : ∀ w : Bool, lw_R w 71 5 = some 75) w
theorem ra_71_6 {w : Bool} {M : im_M} (h : lw_S w M) : im_r M 71 6 = some 76 := by rw [h.2.2]; exact (by decide +kernel : ∀ w : Bool, lw_R w 71 6 = some 76) w
theorem ra_71_7 {w : Bool} {M : im_M} (h : lw_S w M) : im_r M 71 7 = some 77 := by rw [h.2.2]; exact (by decide +kernel : ∀ w : Bool, lw_R w 71 7 = some 77) w
theorem ra_71_15 {w : Bool} {M : im_M} (h : lw_S w M) : im_r M 71 15 = some 78 := by rw [h.2.2]; exact (by decide +kernel : ∀ w : Bool, lw_R w 71 15 = some 78) w
theorem ra_71_16 {w : Bool} {M : im_M} (h : lw_S w M) : im_r M 71 16 = some 79 := by rw [h.2.2]; exact (by decide +kernel : ∀ w : Bool, lw_R w 71 16 = some 79) w
theorem ra_71_24 {w : Bool} {M : im_M} (h : lw_S w M) : im_r M 71 24 = some 80 := by rw [h.2.2]; exact (by decide +kernel : ∀ w : Bool, lw_R w 71 24 = some 80) w
theorem ra_71_27 {w : Bool} {M : im_M} (h : lw_S w M) : im_r M 71 27 = some 81 := by rw [h.2.2]; exact (by decide +kernel : ∀ w : Bool, lw_R w 71 27 = some 81) w
theorem ra_71_28 {w : Bool} {M : im_M} (h : lw_S w M) : im_r M 71 28 = some 82 := by rw [h.2.2]; exact (by decide +kernel : ∀ w : Bool, lw_R w 71 28 = some 82) w
theorem ra_71_29 {w : Bool} {M : im_M} (h : lw_S w M) : im_r M 71 29 = some 83 := by rw [h.2.2]; exact (by decide +kernel : ∀ w : Bool, lw_R w 71 29 = some 83) w
theorem ra_71_30 {w : Bool} {M : im_M} (h : lw_S w M) : im_r M 71 30 = some 84 := by rw [h.2.2]; exact (by decide +kernel : ∀ w : Bool, lw_R w 71 30 = some 84) w
theorem ra_71_31 {w : Bool} {M : im_M} (h : lw_S w M) : im_r M 71 31 = some 85 := by rw [h.2.2]; exact (by decide +kernel : ∀ w : Bool, lw_R w 71 31 = some 85) w
theorem ra_71_36 {w : Bool} {M : im_M} (h : lw_S w M) : im_r M 71 36 = some 86 := by rw [h.2.2]; exact (by decide +kernel : ∀ w : Bool, lw_R w 71 36 = some 86) w
theorem ra_71_38 {w : Bool} {M : im_M} (h : lw_S w M) : im_r M 71 38 = some 87 := by rw [h.2.2]; exact (by decide +kernel : ∀ w : Bool, lw_R w 71 38 = some 87) w
theorem ra_71_39 {w : Bool} {M : im_M} (h : lw_S w M) : im_r M 71 39 = some 88 := by rw [h.2.2]; exact (by decide +kernel : ∀ w : Bool, lw_R w 71 39 = some 88) w
theorem ra_89_4 {w : Bool} {M : im_M} (h : lw_S w M) : im_r M 89 4 = some 90 := by rw [h.2.2]; exact (by decide +kernel : ∀ w : Bool, lw_R w 89 4 = some 90) w
theorem ra_89_5 {w : Bool} {M : im_M} (h : lw_S w M) : im_r M 89 5 = some 91 := by rw [h.2.2]; exact (by decide +kernel : ∀ w : Bool, lw_R w 89 5 = some 91) w
theorem ra_89_6 {w : Bool} {M : im_M} (h : lw_S w M) : im_r M 89 6 = some 92 := by rw [h.2.2]; exact (by decide +kernel : ∀ w : Bool, lw_R w 89 6 = some 92) w
theorem ra_89_8 {w : Bool} {M : im_M} (h : lw_S w M) : im_r M 89 8 = some 93 := by rw [h.2.2]; exact (by decide +kernel : ∀ w : Bool, lw_R w 89 8 = some 93) w
theorem ra_89_9 {w : Bool} {M : im_M} (h : lw_S w M) : im_r M 89 9 = some 94 := by rw [h.2.2]; exact (by decide +kernel : ∀ w : Bool, lw_R w 89 9 = some 94) w
theorem ra_89_17 {w : Bool} {M : im_M} (h : lw_S w M) : im_r M 89 17 = some 95 := by rw [h.2.2]; exact (by decide +kernel : ∀ w : Bool, lw_R w 89 17 = some 95) w
theorem ra_96_0 {w : Bool} {M : im_M} (h : lw_S w M) : im_r M 96 0 = some 97 := by rw [h.2.2]; exact (by decide +kernel : ∀ w : Bool, lw_R w 96 0 = some 97) w
theorem ra_96_1 {w : Bool} {M : im_M} (h : lw_S w M) : im_r M 96 1 = some 98 := by rw [h.2.2]; exact (by decide +kernel : ∀ w : Bool, lw_R w 96 1 = some 98) w
theorem ra_96_2 {w : Bool} {M : im_M} (h : lw_S w M) : im_r M 96 2 = some 99 := by rw [h.2.2]; exact (by decide +kernel : ∀ w : Bool, lw_R w 96 2 = some 99) w
theorem ra_96_4 {w : Bool} {M : im_M} (h : lw_S w M) : im_r M 96 4 = some 100 := by rw [h.2.2]; exact (by decide +kernel : ∀ w : Bool, lw_R w 96 4 = some 100) w
theorem ra_96_6 {w : Bool} {M : im_M} (h : lw_S w M) : im_r M 96 6 = some 101 := by rw [h.2.2]; exact (by decide +kernel : ∀ w : Bool, lw_R w 96 6 = some 101) w
theorem ra_96_7 {w : Bool} {M : im_M} (h : lw_S w M) : im_r M 96 7 = some 102 := by rw [h.2.2]; exact (by decide +kernel : ∀ w : Bool, lw_R w 96 7 = some 102) w
theorem ra_96_9 {w : Bool} {M : im_M} (h : lw_S w M) : im_r M 96 9 = some 103 := by rw [h.2.2]; exact (by decide +kernel : ∀ w : Bool, lw_R w 96 9 = some 103) w
theorem ra_96_11 {w : Bool} {M : im_M} (h : lw_S w M) : im_r M 96 11 = some 104 := by rw [h.2.2]; exact (by decide +kernel : ∀ w : Bool, lw_R w 96 11 = some 104) w
theorem ra_96_12 {w : Bool} {M : im_M} (h : lw_S w M) : im_r M 96 12 = some 105 := by rw [h.2.2]; exact (by decide +kernel : ∀ w : Bool, lw_R w 96 12 = some 105) w
theorem ra_96_13 {w : Bool} {M : im_M} (h : lw_S w M) : im_r M 96 13 = some 106 := by rw [h.2.2]; exact (by decide +kernel : ∀ w : Bool, lw_R w 96 13 = some 106) w
theorem ra_96_16 {w : Bool} {M : im_M} (h : lw_S w M) : im_r M 96 16 = some 107 := by rw [h.2.2]; exact (by decide +kernel : ∀ w : Bool, lw_R w 96 16 = some 107) w
theorem ra_108_1 {w : Bool} {M : im_M} (h : lw_S w M) : im_r M 108 1 = some 109 := by rw [h.2.2]; exact (by decide +kernel : ∀ w : Bool, lw_R w 108 1 = some 109) w
theorem ra_108_2 {w : Bool} {M : im_M} (h : lw_S w M) : im_r M 108 2 = some 110 := by rw [h.2.2]; exact (by decide +kernel : ∀ w : Bool, lw_R w 108 2 = some 110) w
theorem ra_108_3 {w : Bool} {M : im_M} (h : lw_S w M) : im_r M 108 3 = some 111 := by rw [h.2.2]; exact (by decide +kernel : ∀ w : Bool, lw_R w 108 3 = some 111) w
theorem ra_108_5 {w : Bool} {M : im_M} (h : lw_S w M) : im_r M 108 5 = some 112 := by rw [h.2.2]; exact (by decide +kernel : ∀ w : Bool, lw_R w 108 5 = some 112) w
theorem ra_108_6 {w : Bool} {M : im_M} (h : lw_S w M) : im_r M 108 6 = some 113 := by rw [h.2.2]; exact (by decide +kernel : ∀ w : Bool, lw_R w 108 6 = some 113) w
theorem ra_108_10 {w : Bool} {M : im_M} (h : lw_S w M) : im_r M 108 10 = some 114 := by rw [h.2.2]; exact (by decide +kernel : ∀ w : Bool, lw_R w 108 10 = some 114) w
theorem ra_108_11 {w : Bool} {M : im_M} (h : lw_S w M) : im_r M 108 11 = some 115 := by rw [h.2.2]; exact (by decide +kernel : ∀ w : Bool, lw_R w 108 11 = some 115) w
theorem ra_108_12 {w : Bool} {M : im_M} (h : lw_S w M) : im_r M 108 12 = some 116 := by rw [h.2.2]; exact (by decide +kernel : ∀ w : Bool, lw_R w 108 12 = some 116) w
theorem ra_108_14 {w : Bool} {M : im_M} (h : lw_S w M) : im_r M 108 14 = some 117 := by rw [h.2.2]; exact (by decide +kernel : ∀ w : Bool, lw_R w 108 14 = some 117) w
theorem ra_108_15 {w : Bool} {M : im_M} (h : lw_S w M) : im_r M 108 15 = some 118 := by rw [h.2.2]; exact (by decide +kernel : ∀ w : Bool, lw_R w 108 15 = some 118) w
theorem ra_108_17 {w : Bool} {M : im_M} (h : lw_S w M) : im_r M 108 17 = some 119 := by rw [h.2.2]; exact (by decide +kernel : ∀ w : Bool, lw_R w 108 17 = some 119) w
theorem ra_108_18 {w : Bool} {M : im_M} (h : lw_S w M) : im_r M 108 18 = some 120 := by rw [h.2.2]; exact (by decide +kernel : ∀ w : Bool, lw_R w 108 18 = some 120) w
theorem ra_108_20 {w : Bool} {M : im_M} (h : lw_S w M) : im_r M 108 20 = some 121 := by rw [h.2.2]; exact (by decide +kernel : ∀ w : Bool, lw_R w 108 20 = some 121) w
theorem ra_108_21 {w : Bool} {M : im_M} (h : lw_S w M) : im_r M 108 21 = some 122 := by rw [h.2.2]; exact (by decide +kernel : ∀ w : Bool, lw_R w 108 21 = some 122) w
theorem ra_108_22 {w : Bool} {M : im_M} (h : lw_S w M) : im_r M 108 22 = some 123 := by rw [h.2.2]; exact (by decide +kernel : ∀ w : Bool, lw_R w 108 22 = some 123) w
theorem ra_108_23 {w : Bool} {M : im_M} (h : lw_S w M) : im_r M 108 23 = some 124 := by rw [h.2.2]; exact (by decide +kernel : ∀ w : Bool, lw_R w 108 23 = some 124) w
theorem ra_108_24 {w : Bool} {M : im_M} (h : lw_S w M) : im_r M 108 24 = some 125 := by rw [h.2.2]; exact (by decide +kernel : ∀ w : Bool, lw_R w 108 24 = some 125) w
theorem ra_108_25 {w : Bool} {M : im_M} (h : lw_S w M) : im_r M 108 25 = some 126 := by rw [h.2.2]; exact (by decide +kernel : ∀ w : Bool, lw_R w 108 25 = some 126) w
theorem ra_108_26 {w : Bool} {M : im_M} (h : lw_S w M) : im_r M 108 26 = some 127 := by rw [h.2.2]; exact (by decide +kernel : ∀ w : Bool, lw_R w 108 26 = some 127) w
theorem ra_108_27 {w : Bool} {M : im_M} (h : lw_S w M) : im_r M 108 27 = some 128 := by rw [h.2.2]; exact (by decide +kernel : ∀ w : Bool, lw_R w 108 27 = some 128) w
theorem ra_108_33 {w : Bool} {M : im_M} (h : lw_S w M) : im_r M 108 33 = some 129 := by rw [h.2.2]; exact (by decide +kernel : ∀ w : Bool, lw_R w 108 33 = some 129) w
theorem ra_130_3 {w : Bool} {M : im_M} (h : lw_S w M) : im_r M 130 3 = some 131 := by rw [h.2.2]; exact (by decide +kernel : ∀ w : Bool, lw_R w 130 3 = some 131) w
theorem ra_130_4 {w : Bool} {M : im_M} (h : lw_S w M) : im_r M 130 4 = some 132 := by rw [h.2.2]; exact (by decide +kernel : ∀ w : Bool, lw_R w 130 4 = some 132) w
theorem ra_130_5 {w : Bool} {M : im_M} (h : lw_S w M) : im_r M 130 5 = some 133 := by rw [h.2.2]; exact (by decide +kernel : ∀ w : Bool, lw_R w 130 5 = some 133) w
theorem ra_130_7 {w : Bool} {M : im_M} (h : lw_S w M) : im_r M 130 7 = some 134 := by rw [h.2.2]; exact (by decide +kernel : ∀ w : Bool, lw_R w 130 7 = some 134) w
theorem ra_130_9 {w : Bool} {M : im_M} (h : lw_S w M) : im_r M 130 9 = some 135 := by rw [h.2.2]; exact (by decide +kernel : ∀ w : Bool, lw_R w 130 9 = some 135) w
theorem lw_tot {w : Bool} {M : im_M} {L : Nat} {xs : Nat → Int32} (h : lw_S w M) : im_tt (tb_G L xs) M = 1530716 := by
  show im_tot tb_cl (im_k M) (im_n M) = 1530716
  rw [h.1, h.2.1]
  decide +kernel
