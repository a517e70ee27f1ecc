/-! WHAT IS KNOWN OF A FINISHED ORDER'S NUMBERS -/
def loZ (w k : Nat) : Int := (xa_0 (((12 : Int32) * nI w + (3 : Int32) * nI k) + 1)).toInt
def hiZ (w k : Nat) : Int := (xa_0 (((12 : Int32) * nI w + (3 : Int32) * nI k) + 2)).toInt
theorem NR_z {q : Nat → Int32} {w k : Nat} (h : NR q w) (hk : k < hs w) : ∃ z : Int, q (1 + k) = iZ z ∧ loZ w k ≤ z ∧ z ≤ hiZ w k := by
  obtain ⟨a, b⟩ := h k hk
  exact rg_int a b
theorem Z_t : (hs 13 = 4 ∧ loZ 13 0 = 0 ∧ hiZ 13 0 = 3 ∧ loZ 13 1 = 1 ∧ hiZ 13 1 = 10 ∧ loZ 13 2 = 1 ∧ hiZ 13 2 = 10 ∧ loZ 13 3 = 0 ∧ hiZ 13 3 = 3) ∧ (hs 15 = 4 ∧ loZ 15 0 = 1 ∧ hiZ 15 0 = 50 ∧ loZ 15 1 = 1 ∧ hiZ 15 1 = 2048 ∧ loZ 15 2 = 0 ∧ hiZ 15 2 = 3) ∧ (hs 16 = 3 ∧ loZ 16 0 = 1 ∧ hiZ 16 0 = 50 ∧ loZ 16 1 = 1 ∧ hiZ 16 1 = 2048 ∧ loZ 16 2 = 0 ∧ hiZ 16 2 = 3) ∧ (hs 17 = 4 ∧ loZ 17 0 = 1 ∧ hiZ 17 0 = 50 ∧ loZ 17 1 = 0 ∧ hiZ 17 1 = 3 ∧ loZ 17 2 = -1 ∧ hiZ 17 2 = 7 ∧ loZ 17 3 = 0 ∧ hiZ 17 3 = 3) ∧ (hs 18 = 3 ∧ loZ 18 0 = 1 ∧ hiZ 18 0 = 2048 ∧ loZ 18 1 = 1 ∧ hiZ 18 1 = 2048 ∧ loZ 18 2 = 1 ∧ hiZ 18 2 = 200) ∧ (hs 19 = 3 ∧ loZ 19 0 = 1 ∧ hiZ 19 0 = 2048 ∧ loZ 19 1 = 1 ∧ hiZ 19 1 = 2048 ∧ loZ 19 2 = 1 ∧ hiZ 19 2 = 200) ∧ (hs 20 = 3 ∧ loZ 20 0 = -4096 ∧ hiZ 20 0 = 4096 ∧ loZ 20 1 = -4096 ∧ hiZ 20 1 = 4096 ∧ loZ 20 2 = 1 ∧ hiZ 20 2 = 200) ∧ (hs 21 = 1 ∧ loZ 21 0 = 1 ∧ hiZ 21 0 = 1024) := by decide +kernel
theorem far_z {v : Int32} (h : farI v = false) : ∃ z : Int, v = iZ z ∧ -4096 ≤ z ∧ z ≤ 4096 := by
  unfold farI at h
  rw [Bool.or_eq_false_iff] at h
  obtain ⟨h1, h2⟩ := h
  have a : ¬ v < -4096 := of_decide_eq_false h1
  have b : v ≤ 4096 := of_decide_eq_true (by simpa using h2)
  obtain ⟨z, e, l1, l2⟩ := rg_int a b
  have c1 : (-4096 : Int32).toInt = -4096 := by decide
  have c2 : (4096 : Int32).toInt = 4096 := by decide
  exact ⟨z, e, by omega, by omega⟩
theorem iZ_qd {z : Int} {lo hi : Int} (h1 : lo ≤ z) (h2 : z ≤ hi) (h3 : lo = 0) (h4 : hi = 3) : ∃ n : Nat, n < 4 ∧ iZ z = nI n := ⟨z.toNat, by omega, by rw [iZ_nI, Int.toNat_of_nonneg (by omega)]⟩
/-- an order whose kind is that of a text -/
theorem og_text {F : FDt} {o : OD} {r b : Nat → Int32} {c : Nat} (hF : FV F) (ho : o ∈ fO F) (hr : ∀ u, u < 9 → r u = zR (F, o, c) u) (k0 : o.1.1 = 0) (hq : ∃ n : Nat, n < 4 ∧ o.1.2.1 = nI n) (hp : ∃ z : Int, o.2.2.1 = iZ z ∧ 0 ≤ z ∧ z ≤ 3) (hs1 : ∃ z : Int, o.2.2.2.1 = iZ z ∧ 1 ≤ z ∧ z ≤ 10) (ht : ∃ z : Int, o.2.2.2.2 = iZ z ∧ 1 ≤ z ∧ z ≤ 10) : OG r b := by
  obtain ⟨n, hn, en⟩ := hq
  obtain ⟨p, ep, p1, p2⟩ := hp
  obtain ⟨s, es, s1, s2⟩ := hs1
  obtain ⟨t, et, t1, t2⟩ := ht
  have nr := hF.2.2.2.2.1.2.1 o ho
  obtain ⟨x, ex, x1, x2⟩ := far_z nr.1
  obtain ⟨y, ey, y1, y2⟩ := far_z nr.2
  refine ⟨0, n, o.2.1.2, x, y, p, s, t, ⟨?_, ?_, ?_, ?_, ?_, ?_, ?_, ?_⟩, ?_, ⟨x1, x2, y1, y2, hn, (od_in hF ho).1⟩, Or.inl ⟨rfl, p1, p2, s1, s2, t1, t2⟩⟩
  · rw [hr 0 (by omega)]; exact k0
  · rw [hr 1 (by omega)]; exact ex
  · rw [hr 2 (by omega)]; exact ey
  · rw [hr 3 (by omega)]; exact en
  · rw [hr 5 (by omega)]; exact ep
  · rw [hr 6 (by omega)]; exact es
  · rw [hr 7 (by omega)]; exact et
  · rw [hr 8 (by omega)]; rfl
  · rw [hr 4 (by omega)]; exact hF.2.1.2.2.2.2
theorem tx_z {t : Nat → Int32} (h : TXR t) : (∃ z : Int, t 0 = iZ z ∧ 0 ≤ z ∧ z ≤ 3) ∧ (∃ z : Int, t 1 = iZ z ∧ 1 ≤ z ∧ z ≤ 10) ∧ (∃ z : Int, t 2 = iZ z ∧ 1 ≤ z ∧ z ≤ 10) ∧ ∃ n : Nat, n < 4 ∧ t 3 = nI n := by
  obtain ⟨a, b, c, d, e0, a3, e1, b1, b2, e2, c1, c2, e3, d4⟩ := h
  exact ⟨⟨a, by rw [e0, iZ_nI], by omega, by omega⟩, ⟨b, by rw [e1, iZ_nI], by omega, by omega⟩, ⟨c, by rw [e2, iZ_nI], by omega, by omega⟩, d, d4, e3⟩
theorem kdW_inv {w : Nat} (h1 : 13 ≤ w) (h2 : w < 22) : (kdW w = 0 → w = 13) ∧ (kdW w = 8 → w = 14) ∧ (1 ≤ kdW w → kdW w ≤ 7 → w = kdW w + 14) := by
  unfold kdW
  by_cases a : w = 13
  · rw [if_pos a]
    exact ⟨fun _ => a, fun z => by omega, fun z => by omega⟩
  · rw [if_neg a]
    by_cases b : w = 14
    · rw [if_pos b]
      exact ⟨fun z => by omega, fun _ => b, fun _ z => by omega⟩
    · rw [if_neg b]
      exact ⟨fun z => by omega, fun z => by omega, fun _ _ => by omega⟩
theorem og_of {z : FDt × OD × Nat} {r b : Nat → Int32} (hz : ZV z) (hr : ∀ u, u < 9 → r u = zR z u) (hb : CB b (zB z) z.2.1.2.1.2) : OG r b := by
  obtain ⟨F, o, c⟩ := z
  obtain ⟨hF, ho, _⟩ := hz
  replace hF : FV F := hF
  replace ho : o ∈ fO F := ho
  have oi := od_in hF ho
  obtain ⟨w, w1, w2, ew, hNR⟩ := hF.2.2.2.2.2.1
  have tx := tx_z hF.2.2.2.2.2.2.1
  have dt := hF.2.2.2.2.2.2.2
  have ki := kdW_inv w1 w2
  have ho' := ho
  unfold fO at ho'
  by_cases c8 : F.2.2.1 = 8
  · rw [c8, ods_8] at ho'
    obtain ⟨x, l, hx, rfl⟩ := blkO_mem ho'
    exact og_text hF ho hr rfl tx.2.2.2 tx.1 tx.2.1 tx.2.2.1
  · have k7 : F.2.2.1 ≤ 7 := by have := hF.1.1; omega
    rw [ods_1 k7] at ho'
    rcases List.mem_cons.mp ho' with rfl | ho'
    · -- the first order
      have nr := hF.2.2.2.2.1.2.1 _ ho
      obtain ⟨x, ex, x1, x2⟩ := far_z nr.1
      obtain ⟨y, ey, y1, y2⟩ := far_z nr.2
      have r0 : r 0 = nI F.2.2.1 := hr 0 (by omega)
      have r1 : r 1 = iZ x := by rw [hr 1 (by omega)]; exact ex
      have r2 : r 2 = iZ y := by rw [hr 2 (by omega)]; exact ey
      have r3 : r 3 = (od1 F.1 F.2.2.1 F.2.2.2.1).1.2.1 := hr 3 (by omega)
      have r4 : r 4 = 0 ∨ r 4 = 2 := by rw [hr 4 (by omega)]; exact hF.2.1.2.2.2.2
      have r5 : r 5 = F.1 1 := hr 5 (by omega)
      have r6 : r 6 = (od1 F.1 F.2.2.1 F.2.2.2.1).2.2.2.1 := hr 6 (by omega)
      have r7 : r 7 = (od1 F.1 F.2.2.1 F.2.2.2.1).2.2.2.2 := hr 7 (by omega)
      have r8 : r 8 = nI (od1 F.1 F.2.2.1 F.2.2.2.1).2.1.2 := hr 8 (by omega)
      have kds : F.2.2.1 = 0 ∨ F.2.2.1 = 1 ∨ F.2.2.1 = 2 ∨ F.2.2.1 = 3 ∨ F.2.2.1 = 4 ∨ F.2.2.1 = 5 ∨ F.2.2.1 = 6 ∨ F.2.2.1 = 7 := by omega
      have n200 := hF.1.2.2.2
      have ze : (0 : Int32) = iZ 0 := rfl
      rcases kds with k | k | k | k | k | k | k | k
      · -- a text
        have e13 : w = 13 := ki.1 (by rw [← ew]; exact k)
        rw [e13] at hNR
        have t := Z_t.1
        obtain ⟨z0, q0, l0, h0⟩ := NR_z hNR (k := 0) (by rw [t.1]; omega)
        obtain ⟨z1, q1, l1, h1⟩ := NR_z hNR (k := 1) (by rw [t.1]; omega)
        obtain ⟨z2, q2, l2, h2⟩ := NR_z hNR (k := 2) (by rw [t.1]; omega)
        obtain ⟨z3, q3, l3, h3⟩ := NR_z hNR (k := 3) (by rw [t.1]; omega)
        obtain ⟨n, hn, en⟩ := iZ_qd l3 h3 t.2.2.2.2.2.2.2.1 t.2.2.2.2.2.2.2.2
        refine og_text hF ho hr ?_ ⟨n, hn, ?_⟩ ⟨z0, q0, by omega, by omega⟩ ⟨z1, ?_, by omega, by omega⟩ ⟨z2, ?_, by omega, by omega⟩
        · show nI F.2.2.1 = 0
          rw [k]; rfl
        · rw [k]
          exact q3.trans en
        · rw [k]
          exact q1
        · rw [k]
          exact q2
      · have e15 : w = 15 := by rw [ki.2.2 (by omega) (by omega), ← ew, k]
        rw [e15] at hNR
        have t := Z_t.2.1
        obtain ⟨z0, q0, l0, h0⟩ := NR_z hNR (k := 0) (by rw [t.1]; omega)
        obtain ⟨z1, q1, l1, h1⟩ := NR_z hNR (k := 1) (by rw [t.1]; omega)
        obtain ⟨z2, q2, l2, h2⟩ := NR_z hNR (k := 2) (by rw [t.1]; omega)
        obtain ⟨n, hn, en⟩ := iZ_qd l2 h2 t.2.2.2.2.2.1 t.2.2.2.2.2.2
        rw [k] at r0 r3 r6 r7 r8
        have d1 := dt.1 (by omega)
        refine ⟨1, n, F.2.2.2.1, x, y, z0, z1, 0, ⟨r0, r1, r2, r3.trans (q2.trans en), r5.trans q0, r6.trans q1, r7, r8⟩, r4, ⟨x1, x2, y1, y2, hn, n200⟩, Or.inr (Or.inl ⟨rfl, by omega, by omega, by omega, by omega, rfl, d1⟩)⟩
      · have e16 : w = 16 := by rw [ki.2.2 (by omega) (by omega), ← ew, k]
        rw [e16] at hNR
        have t := Z_t.2.2.1
        obtain ⟨z0, q0, l0, h0⟩ := NR_z hNR (k := 0) (by rw [t.1]; omega)
        obtain ⟨z1, q1, l1, h1⟩ := NR_z hNR (k := 1) (by rw [t.1]; omega)
        obtain ⟨z2, q2, l2, h2⟩ := NR_z hNR (k := 2) (by rw [t.1]; omega)
        obtain ⟨n, hn, en⟩ := iZ_qd l2 h2 t.2.2.2.2.2.1 t.2.2.2.2.2.2
        rw [k] at r0 r3 r6 r7 r8 ho
        obtain ⟨n12, dg⟩ := dt.2.1 k
        have s12 : (od1 F.1 2 F.2.2.2.1).2.1.2 = 12 := n12
        refine ⟨2, n, 12, x, y, z0, z1, 0, ⟨r0, r1, r2, r3.trans (q2.trans en), r5.trans q0, r6.trans q1, r7, r8.trans (by rw [s12])⟩, r4, ⟨x1, x2, y1, y2, hn, by omega⟩, Or.inr (Or.inr (Or.inl ⟨rfl, by omega, by omega, by omega, by omega, rfl, rfl, fun i hi => ?_⟩))⟩
        have zb : zB (F, od1 F.1 F.2.2.1 F.2.2.2.1, c) i = zC (F, od1 F.1 F.2.2.1 F.2.2.2.1, c) i := by
          have n7 : ¬ (F, od1 F.1 F.2.2.1 F.2.2.2.1, c).2.1.1.1 = 7 := by
            show ¬ nI F.2.2.1 = 7
            rw [k]
            decide
          unfold zB
          rw [if_neg n7]
          show zC _ (0 + i) = _
          rw [Nat.zero_add]
        have zk := (zC_k (z := (F, od1 F.1 F.2.2.1 F.2.2.2.1, c)) hF (i := i) (by show i < F.2.2.2.1; omega)).2.2.2.1
        have zd := zk.mpr (dg i hi)
        have hs2 : (od1 F.1 F.2.2.1 F.2.2.2.1).2.1.2 = 12 := by rw [k]; exact n12
        have bd := (CB_d hb (i := i) (by show i < (od1 F.1 F.2.2.1 F.2.2.2.1).2.1.2; rw [hs2]; exact hi)).1 (by rw [zb]; exact zd)
        rw [zb] at bd
        refine ⟨zC (F, od1 F.1 F.2.2.1 F.2.2.2.1, c) i - 48, by omega, ?_⟩
        rw [bd.1]
        congr 1
        omega
      · have e17 : w = 17 := by rw [ki.2.2 (by omega) (by omega), ← ew, k]
        rw [e17] at hNR
        have t := Z_t.2.2.2.1
        obtain ⟨z0, q0, l0, h0⟩ := NR_z hNR (k := 0) (by rw [t.1]; omega)
        obtain ⟨z1, q1, l1, h1⟩ := NR_z hNR (k := 1) (by rw [t.1]; omega)
        obtain ⟨z2, q2, l2, h2⟩ := NR_z hNR (k := 2) (by rw [t.1]; omega)
        obtain ⟨z3, q3, l3, h3⟩ := NR_z hNR (k := 3) (by rw [t.1]; omega)
        obtain ⟨n, hn, en⟩ := iZ_qd l3 h3 t.2.2.2.2.2.2.2.1 t.2.2.2.2.2.2.2.2
        rw [k] at r0 r3 r6 r7 r8
        have d1 := dt.1 (by omega)
        refine ⟨3, n, F.2.2.2.1, x, y, z0, z1, z2, ⟨r0, r1, r2, r3.trans (q3.trans en), r5.trans q0, r6.trans q1, r7.trans q2, r8⟩, r4, ⟨x1, x2, y1, y2, hn, n200⟩, Or.inr (Or.inr (Or.inr (Or.inl ⟨rfl, by omega, by omega, by omega, by omega, by omega, by omega, d1⟩)))⟩
      · have e18 : w = 18 := by rw [ki.2.2 (by omega) (by omega), ← ew, k]
        rw [e18] at hNR
        have t := Z_t.2.2.2.2.1
        obtain ⟨z0, q0, l0, h0⟩ := NR_z hNR (k := 0) (by rw [t.1]; omega)
        obtain ⟨z1, q1, l1, h1⟩ := NR_z hNR (k := 1) (by rw [t.1]; omega)
        obtain ⟨z2, q2, l2, h2⟩ := NR_z hNR (k := 2) (by rw [t.1]; omega)
        rw [k] at r0 r3 r6 r7 r8
        refine ⟨4, 0, 0, x, y, z0, z1, z2, ⟨r0, r1, r2, r3, r5.trans q0, r6.trans q1, r7.trans q2, r8⟩, r4, ⟨x1, x2, y1, y2, by omega, by omega⟩, Or.inr (Or.inr (Or.inr (Or.inr (Or.inl ⟨Or.inl rfl, by omega, by omega, by omega, by omega, by omega, by omega, rfl⟩))))⟩
      · have e19 : w = 19 := by rw [ki.2.2 (by omega) (by omega), ← ew, k]
        rw [e19] at hNR
        have t := Z_t.2.2.2.2.2.1
        obtain ⟨z0, q0, l0, h0⟩ := NR_z hNR (k := 0) (by rw [t.1]; omega)
        obtain ⟨z1, q1, l1, h1⟩ := NR_z hNR (k := 1) (by rw [t.1]; omega)
        obtain ⟨z2, q2, l2, h2⟩ := NR_z hNR (k := 2) (by rw [t.1]; omega)
        rw [k] at r0 r3 r6 r7 r8
        refine ⟨5, 0, 0, x, y, z0, z1, z2, ⟨r0, r1, r2, r3, r5.trans q0, r6.trans q1, r7.trans q2, r8⟩, r4, ⟨x1, x2, y1, y2, by omega, by omega⟩, Or.inr (Or.inr (Or.inr (Or.inr (Or.inl ⟨Or.inr rfl, by omega, by omega, by omega, by omega, by omega, by omega, rfl⟩))))⟩
      · have e20 : w = 20 := by rw [ki.2.2 (by omega) (by omega), ← ew, k]
        rw [e20] at hNR
        have t := Z_t.2.2.2.2.2.2.1
        obtain ⟨z0, q0, l0, h0⟩ := NR_z hNR (k := 0) (by rw [t.1]; omega)
        obtain ⟨z1, q1, l1, h1⟩ := NR_z hNR (k := 1) (by rw [t.1]; omega)
        obtain ⟨z2, q2, l2, h2⟩ := NR_z hNR (k := 2) (by rw [t.1]; omega)
        obtain ⟨f1, f2⟩ := hF.2.2.2.2.1.2.2 k
        have e5 : F.1 5 = iZ x := by
          have := ex
          rw [show (od1 F.1 F.2.2.1 F.2.2.2.1).1.2.2.1 = 0 from rfl, show (od1 F.1 F.2.2.1 F.2.2.2.1).1.2.2.2 = 0 from rfl, sx0] at this
          exact this
        have e6 : F.1 6 = iZ y := by
          have := ey
          rw [show (od1 F.1 F.2.2.1 F.2.2.2.1).1.2.2.1 = 0 from rfl, show (od1 F.1 F.2.2.1 F.2.2.2.1).1.2.2.2 = 0 from rfl, sy0] at this
          exact this
        obtain ⟨a1, g1, b1, b2⟩ := far_z f1
        obtain ⟨a2, g2, b3, b4⟩ := far_z f2
        have q0' : F.1 1 = iZ z0 := q0
        have q1' : F.1 2 = iZ z1 := q1
        rw [e5, q0', iZ_add, iZ_eq (by omega) (by omega)] at g1
        rw [e6, q1', iZ_add, iZ_eq (by omega) (by omega)] at g2
        rw [k] at r0 r3 r6 r7 r8
        refine ⟨6, 0, 0, x, y, z0, z1, z2, ⟨r0, r1, r2, r3, r5.trans q0, r6.trans q1, r7.trans q2, r8⟩, r4, ⟨x1, x2, y1, y2, by omega, by omega⟩, Or.inr (Or.inr (Or.inr (Or.inr (Or.inr (Or.inl ⟨rfl, by omega, by omega, by omega, by omega, by omega, by omega, rfl, by omega, by omega, by omega, by omega⟩)))))⟩
      · obtain ⟨_, n2, P, eP, P1, P2, nP⟩ := dt.2.2 k
        rw [k] at r0 r3 r6 r7 r8
        have d1 := dt.1 (by omega)
        have r5' : r 5 = iZ ((P : Nat) : Int) := by rw [r5, eP, iZ_nI]
        refine ⟨7, 0, F.2.2.2.1 / 2, x, y, ((P : Nat) : Int), 0, 0, ⟨r0, r1, r2, r3, r5', r6, r7, r8⟩, r4, ⟨x1, x2, y1, y2, by omega, by omega⟩, Or.inr (Or.inr (Or.inr (Or.inr (Or.inr (Or.inr ⟨rfl, by omega, by omega, rfl, rfl, by omega, by omega, ?_⟩)))))⟩
        rw [Int.toNat_natCast]
        exact nP
    · by_cases d : F.2.2.1 = 1 ∧ F.1 4 = 1
      · rw [if_pos d] at ho'
        rcases List.mem_cons.mp ho' with rfl | ho'
        · have e15 : w = 15 := by rw [ki.2.2 (by omega) (by omega), ← ew, d.1]
          rw [e15] at hNR
          have t := Z_t.2.1
          obtain ⟨z2, q2, l2, h2⟩ := NR_z hNR (k := 2) (by rw [t.1]; omega)
          obtain ⟨n, hn, en⟩ := iZ_qd l2 h2 t.2.2.2.2.2.1 t.2.2.2.2.2.2
          exact og_text hF ho hr rfl ⟨n, hn, q2.trans en⟩ tx.1 tx.2.1 tx.2.2.1
        · cases ho'
      · rw [if_neg d] at ho'
        cases ho'
