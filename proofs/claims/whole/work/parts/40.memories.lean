/-! THE MEMORIES ON THE WAY OF THE CONSTRUCTORS -/
def mv_k0 : Nat → Nat × Nat := fun _ => (0, 0)
def mv_i0 : Nat → Nat → Int32 := fun _ _ => 0
def mv_l0 : Nat → Nat → Int64 := fun _ _ => 0
def mv_r0 : Nat → Nat → Option Nat := fun _ _ => none
def mm_0 : im_M := (0, true, mv_k0, mv_i0, mv_l0, mv_r0)
def mv_k1 : Nat → Nat × Nat := va_up mv_k0 0 (11, 0)
def mv_i1 : Nat → Nat → Int32 := va_up mv_i0 0 (fun _ => 0)
def mv_l1 : Nat → Nat → Int64 := va_up mv_l0 0 (fun _ => 0)
def mv_r1 : Nat → Nat → Option Nat := va_up mv_r0 0 (fun _ => none)
def mm_1 : im_M := (1, true, mv_k1, mv_i1, mv_l1, mv_r1)
def mv_k2 : Nat → Nat × Nat := va_up mv_k1 1 (10, 0)
def mv_i2 : Nat → Nat → Int32 := va_up mv_i1 1 (fun _ => 0)
def mv_l2 : Nat → Nat → Int64 := va_up mv_l1 1 (fun _ => 0)
def mv_r2 : Nat → Nat → Option Nat := va_up mv_r1 1 (fun _ => none)
def mm_2 : im_M := (2, true, mv_k2, mv_i2, mv_l2, mv_r2)
def mv_k3 : Nat → Nat × Nat := va_up mv_k2 2 (32, 4096)
def mv_i3 : Nat → Nat → Int32 := va_up mv_i2 2 (fun _ => 0)
def mv_l3 : Nat → Nat → Int64 := va_up mv_l2 2 (fun _ => 0)
def mv_r3 : Nat → Nat → Option Nat := va_up mv_r2 2 (fun _ => none)
def mm_3 : im_M := (3, true, mv_k3, mv_i3, mv_l3, mv_r3)
def mv_r4 : Nat → Nat → Option Nat := im_u2 mv_r3 1 0 (some 2)
def mm_4 : im_M := (3, true, mv_k3, mv_i3, mv_l3, mv_r4)
def mv_k4 : Nat → Nat × Nat := va_up mv_k3 3 (32, 3200)
def mv_i4 : Nat → Nat → Int32 := va_up mv_i3 3 (fun _ => 0)
def mv_l4 : Nat → Nat → Int64 := va_up mv_l3 3 (fun _ => 0)
def mv_r5 : Nat → Nat → Option Nat := va_up mv_r4 3 (fun _ => none)
def mm_5 : im_M := (4, true, mv_k4, mv_i4, mv_l4, mv_r5)
def mv_r6 : Nat → Nat → Option Nat := im_u2 mv_r5 1 2 (some 3)
def mm_6 : im_M := (4, true, mv_k4, mv_i4, mv_l4, mv_r6)
def mv_k5 : Nat → Nat × Nat := va_up mv_k4 4 (33, 8)
def mv_i5 : Nat → Nat → Int32 := va_up mv_i4 4 (fun _ => 0)
def mv_l5 : Nat → Nat → Int64 := va_up mv_l4 4 (fun _ => 0)
def mv_r7 : Nat → Nat → Option Nat := va_up mv_r6 4 (fun _ => none)
def mm_7 : im_M := (5, true, mv_k5, mv_i5, mv_l5, mv_r7)
def mv_r8 : Nat → Nat → Option Nat := im_u2 mv_r7 1 3 (some 4)
def mm_8 : im_M := (5, true, mv_k5, mv_i5, mv_l5, mv_r8)
def mv_k6 : Nat → Nat × Nat := va_up mv_k5 5 (32, 2000)
def mv_i6 : Nat → Nat → Int32 := va_up mv_i5 5 (fun _ => 0)
def mv_l6 : Nat → Nat → Int64 := va_up mv_l5 5 (fun _ => 0)
def mv_r9 : Nat → Nat → Option Nat := va_up mv_r8 5 (fun _ => none)
def mm_9 : im_M := (6, true, mv_k6, mv_i6, mv_l6, mv_r9)
def mv_r10 : Nat → Nat → Option Nat := im_u2 mv_r9 1 4 (some 5)
def mm_10 : im_M := (6, true, mv_k6, mv_i6, mv_l6, mv_r10)
def mv_k7 : Nat → Nat × Nat := va_up mv_k6 6 (33, 10)
def mv_i7 : Nat → Nat → Int32 := va_up mv_i6 6 (fun _ => 0)
def mv_l7 : Nat → Nat → Int64 := va_up mv_l6 6 (fun _ => 0)
def mv_r11 : Nat → Nat → Option Nat := va_up mv_r10 6 (fun _ => none)
def mm_11 : im_M := (7, true, mv_k7, mv_i7, mv_l7, mv_r11)
def mv_r12 : Nat → Nat → Option Nat := im_u2 mv_r11 1 5 (some 6)
def mm_12 : im_M := (7, true, mv_k7, mv_i7, mv_l7, mv_r12)
def mv_k8 : Nat → Nat × Nat := va_up mv_k7 7 (33, 5)
def mv_i8 : Nat → Nat → Int32 := va_up mv_i7 7 (fun _ => 0)
def mv_l8 : Nat → Nat → Int64 := va_up mv_l7 7 (fun _ => 0)
def mv_r13 : Nat → Nat → Option Nat := va_up mv_r12 7 (fun _ => none)
def mm_13 : im_M := (8, true, mv_k8, mv_i8, mv_l8, mv_r13)
def mv_r14 : Nat → Nat → Option Nat := im_u2 mv_r13 1 7 (some 7)
def mm_14 : im_M := (8, true, mv_k8, mv_i8, mv_l8, mv_r14)
def mv_k9 : Nat → Nat × Nat := va_up mv_k8 8 (33, 5)
def mv_i9 : Nat → Nat → Int32 := va_up mv_i8 8 (fun _ => 0)
def mv_l9 : Nat → Nat → Int64 := va_up mv_l8 8 (fun _ => 0)
def mv_r15 : Nat → Nat → Option Nat := va_up mv_r14 8 (fun _ => none)
def mm_15 : im_M := (9, true, mv_k9, mv_i9, mv_l9, mv_r15)
def mv_r16 : Nat → Nat → Option Nat := im_u2 mv_r15 1 8 (some 8)
def mm_16 : im_M := (9, true, mv_k9, mv_i9, mv_l9, mv_r16)
def mv_k10 : Nat → Nat × Nat := va_up mv_k9 9 (33, 4)
def mv_i10 : Nat → Nat → Int32 := va_up mv_i9 9 (fun _ => 0)
def mv_l10 : Nat → Nat → Int64 := va_up mv_l9 9 (fun _ => 0)
def mv_r17 : Nat → Nat → Option Nat := va_up mv_r16 9 (fun _ => none)
def mm_17 : im_M := (10, true, mv_k10, mv_i10, mv_l10, mv_r17)
def mv_r18 : Nat → Nat → Option Nat := im_u2 mv_r17 1 9 (some 9)
def mm_18 : im_M := (10, true, mv_k10, mv_i10, mv_l10, mv_r18)
def mv_k11 : Nat → Nat × Nat := va_up mv_k10 10 (32, 200)
def mv_i11 : Nat → Nat → Int32 := va_up mv_i10 10 (fun _ => 0)
def mv_l11 : Nat → Nat → Int64 := va_up mv_l10 10 (fun _ => 0)
def mv_r19 : Nat → Nat → Option Nat := va_up mv_r18 10 (fun _ => none)
def mm_19 : im_M := (11, true, mv_k11, mv_i11, mv_l11, mv_r19)
def mv_r20 : Nat → Nat → Option Nat := im_u2 mv_r19 1 10 (some 10)
def mm_20 : im_M := (11, true, mv_k11, mv_i11, mv_l11, mv_r20)
def mv_r21 : Nat → Nat → Option Nat := im_u2 mv_r20 0 0 (some 1)
def mm_21 : im_M := (11, true, mv_k11, mv_i11, mv_l11, mv_r21)
def mv_k12 : Nat → Nat × Nat := va_up mv_k11 11 (5, 0)
def mv_i12 : Nat → Nat → Int32 := va_up mv_i11 11 (fun _ => 0)
def mv_l12 : Nat → Nat → Int64 := va_up mv_l11 11 (fun _ => 0)
def mv_r22 : Nat → Nat → Option Nat := va_up mv_r21 11 (fun _ => none)
def mm_22 : im_M := (12, true, mv_k12, mv_i12, mv_l12, mv_r22)
def mv_k13 : Nat → Nat × Nat := va_up mv_k12 12 (32, 200)
def mv_i13 : Nat → Nat → Int32 := va_up mv_i12 12 (fun _ => 0)
def mv_l13 : Nat → Nat → Int64 := va_up mv_l12 12 (fun _ => 0)
def mv_r23 : Nat → Nat → Option Nat := va_up mv_r22 12 (fun _ => none)
def mm_23 : im_M := (13, true, mv_k13, mv_i13, mv_l13, mv_r23)
def mv_r24 : Nat → Nat → Option Nat := im_u2 mv_r23 11 2 (some 12)
def mm_24 : im_M := (13, true, mv_k13, mv_i13, mv_l13, mv_r24)
def mv_k14 : Nat → Nat × Nat := va_up mv_k13 13 (33, 1680)
def mv_i14 : Nat → Nat → Int32 := va_up mv_i13 13 (fun _ => 0)
def mv_l14 : Nat → Nat → Int64 := va_up mv_l13 13 (fun _ => 0)
def mv_r25 : Nat → Nat → Option Nat := va_up mv_r24 13 (fun _ => none)
def mm_25 : im_M := (14, true, mv_k14, mv_i14, mv_l14, mv_r25)
def mv_r26 : Nat → Nat → Option Nat := im_u2 mv_r25 11 0 (some 13)
def mm_26 : im_M := (14, true, mv_k14, mv_i14, mv_l14, mv_r26)
def mv_k15 : Nat → Nat × Nat := va_up mv_k14 14 (32, 24000)
def mv_i15 : Nat → Nat → Int32 := va_up mv_i14 14 (fun _ => 0)
def mv_l15 : Nat → Nat → Int64 := va_up mv_l14 14 (fun _ => 0)
def mv_r27 : Nat → Nat → Option Nat := va_up mv_r26 14 (fun _ => none)
def mm_27 : im_M := (15, true, mv_k15, mv_i15, mv_l15, mv_r27)
def mv_r28 : Nat → Nat → Option Nat := im_u2 mv_r27 11 1 (some 14)
def mm_28 : im_M := (15, true, mv_k15, mv_i15, mv_l15, mv_r28)
def mv_r29 : Nat → Nat → Option Nat := im_u2 mv_r28 0 1 (some 11)
def mm_29 : im_M := (15, true, mv_k15, mv_i15, mv_l15, mv_r29)
def mv_k16 : Nat → Nat × Nat := va_up mv_k15 15 (8, 0)
def mv_i16 : Nat → Nat → Int32 := va_up mv_i15 15 (fun _ => 0)
def mv_l16 : Nat → Nat → Int64 := va_up mv_l15 15 (fun _ => 0)
def mv_r30 : Nat → Nat → Option Nat := va_up mv_r29 15 (fun _ => none)
def mm_30 : im_M := (16, true, mv_k16, mv_i16, mv_l16, mv_r30)
def mv_k17 : Nat → Nat × Nat := va_up mv_k16 16 (33, 48)
def mv_i17 : Nat → Nat → Int32 := va_up mv_i16 16 (fun _ => 0)
def mv_l17 : Nat → Nat → Int64 := va_up mv_l16 16 (fun _ => 0)
def mv_r31 : Nat → Nat → Option Nat := va_up mv_r30 16 (fun _ => none)
def mm_31 : im_M := (17, true, mv_k17, mv_i17, mv_l17, mv_r31)
def mv_r32 : Nat → Nat → Option Nat := im_u2 mv_r31 15 5 (some 16)
def mm_32 : im_M := (17, true, mv_k17, mv_i17, mv_l17, mv_r32)
def mv_i18 : Nat → Nat → Int32 := im_u2 mv_i17 15 7 (-1)
def mm_33 : im_M := (17, true, mv_k17, mv_i18, mv_l17, mv_r32)
def mv_k18 : Nat → Nat × Nat := va_up mv_k17 17 (33, 2)
def mv_i19 : Nat → Nat → Int32 := va_up mv_i18 17 (fun _ => 0)
def mv_l18 : Nat → Nat → Int64 := va_up mv_l17 17 (fun _ => 0)
def mv_r33 : Nat → Nat → Option Nat := va_up mv_r32 17 (fun _ => none)
def mm_34 : im_M := (18, true, mv_k18, mv_i19, mv_l18, mv_r33)
def mv_r34 : Nat → Nat → Option Nat := im_u2 mv_r33 15 13 (some 17)
def mm_35 : im_M := (18, true, mv_k18, mv_i19, mv_l18, mv_r34)
def mv_k19 : Nat → Nat × Nat := va_up mv_k18 18 (33, 4)
def mv_i20 : Nat → Nat → Int32 := va_up mv_i19 18 (fun _ => 0)
def mv_l19 : Nat → Nat → Int64 := va_up mv_l18 18 (fun _ => 0)
def mv_r35 : Nat → Nat → Option Nat := va_up mv_r34 18 (fun _ => none)
def mm_36 : im_M := (19, true, mv_k19, mv_i20, mv_l19, mv_r35)
def mv_r36 : Nat → Nat → Option Nat := im_u2 mv_r35 15 14 (some 18)
def mm_37 : im_M := (19, true, mv_k19, mv_i20, mv_l19, mv_r36)
def mv_r37 : Nat → Nat → Option Nat := im_u2 mv_r36 15 0 (some 1)
def mm_38 : im_M := (19, true, mv_k19, mv_i20, mv_l19, mv_r37)
def mv_r38 : Nat → Nat → Option Nat := im_u2 mv_r37 15 1 (some 11)
def mm_39 : im_M := (19, true, mv_k19, mv_i20, mv_l19, mv_r38)
def mv_k20 : Nat → Nat × Nat := va_up mv_k19 19 (5, 0)
def mv_i21 : Nat → Nat → Int32 := va_up mv_i20 19 (fun _ => 0)
def mv_l20 : Nat → Nat → Int64 := va_up mv_l19 19 (fun _ => 0)
def mv_r39 : Nat → Nat → Option Nat := va_up mv_r38 19 (fun _ => none)
def mm_40 : im_M := (20, true, mv_k20, mv_i21, mv_l20, mv_r39)
def mv_k21 : Nat → Nat × Nat := va_up mv_k20 20 (32, 200)
def mv_i22 : Nat → Nat → Int32 := va_up mv_i21 20 (fun _ => 0)
def mv_l21 : Nat → Nat → Int64 := va_up mv_l20 20 (fun _ => 0)
def mv_r40 : Nat → Nat → Option Nat := va_up mv_r39 20 (fun _ => none)
def mm_41 : im_M := (21, true, mv_k21, mv_i22, mv_l21, mv_r40)
def mv_r41 : Nat → Nat → Option Nat := im_u2 mv_r40 19 2 (some 20)
def mm_42 : im_M := (21, true, mv_k21, mv_i22, mv_l21, mv_r41)
def mv_k22 : Nat → Nat × Nat := va_up mv_k21 21 (33, 1960)
def mv_i23 : Nat → Nat → Int32 := va_up mv_i22 21 (fun _ => 0)
def mv_l22 : Nat → Nat → Int64 := va_up mv_l21 21 (fun _ => 0)
def mv_r42 : Nat → Nat → Option Nat := va_up mv_r41 21 (fun _ => none)
def mm_43 : im_M := (22, true, mv_k22, mv_i23, mv_l22, mv_r42)
def mv_r43 : Nat → Nat → Option Nat := im_u2 mv_r42 19 0 (some 21)
def mm_44 : im_M := (22, true, mv_k22, mv_i23, mv_l22, mv_r43)
def mv_k23 : Nat → Nat × Nat := va_up mv_k22 22 (32, 28000)
def mv_i24 : Nat → Nat → Int32 := va_up mv_i23 22 (fun _ => 0)
def mv_l23 : Nat → Nat → Int64 := va_up mv_l22 22 (fun _ => 0)
def mv_r44 : Nat → Nat → Option Nat := va_up mv_r43 22 (fun _ => none)
def mm_45 : im_M := (23, true, mv_k23, mv_i24, mv_l23, mv_r44)
def mv_r45 : Nat → Nat → Option Nat := im_u2 mv_r44 19 1 (some 22)
def mm_46 : im_M := (23, true, mv_k23, mv_i24, mv_l23, mv_r45)
def mv_r46 : Nat → Nat → Option Nat := im_u2 mv_r45 15 2 (some 19)
def mm_47 : im_M := (23, true, mv_k23, mv_i24, mv_l23, mv_r46)
def mv_k24 : Nat → Nat × Nat := va_up mv_k23 23 (2, 0)
def mv_i25 : Nat → Nat → Int32 := va_up mv_i24 23 (fun _ => 0)
def mv_l24 : Nat → Nat → Int64 := va_up mv_l23 23 (fun _ => 0)
def mv_r47 : Nat → Nat → Option Nat := va_up mv_r46 23 (fun _ => none)
def mm_48 : im_M := (24, true, mv_k24, mv_i25, mv_l24, mv_r47)
def mv_k25 : Nat → Nat × Nat := va_up mv_k24 24 (33, 4)
def mv_i26 : Nat → Nat → Int32 := va_up mv_i25 24 (fun _ => 0)
def mv_l25 : Nat → Nat → Int64 := va_up mv_l24 24 (fun _ => 0)
def mv_r48 : Nat → Nat → Option Nat := va_up mv_r47 24 (fun _ => none)
def mm_49 : im_M := (25, true, mv_k25, mv_i26, mv_l25, mv_r48)
def mv_r49 : Nat → Nat → Option Nat := im_u2 mv_r48 23 3 (some 24)
def mm_50 : im_M := (25, true, mv_k25, mv_i26, mv_l25, mv_r49)
def mv_k26 : Nat → Nat × Nat := va_up mv_k25 25 (32, 200)
def mv_i27 : Nat → Nat → Int32 := va_up mv_i26 25 (fun _ => 0)
def mv_l26 : Nat → Nat → Int64 := va_up mv_l25 25 (fun _ => 0)
def mv_r50 : Nat → Nat → Option Nat := va_up mv_r49 25 (fun _ => none)
def mm_51 : im_M := (26, true, mv_k26, mv_i27, mv_l26, mv_r50)
def mv_r51 : Nat → Nat → Option Nat := im_u2 mv_r50 23 7 (some 25)
def mm_52 : im_M := (26, true, mv_k26, mv_i27, mv_l26, mv_r51)
def mv_k27 : Nat → Nat × Nat := va_up mv_k26 26 (33, 20)
def mv_i28 : Nat → Nat → Int32 := va_up mv_i27 26 (fun _ => 0)
def mv_l27 : Nat → Nat → Int64 := va_up mv_l26 26 (fun _ => 0)
def mv_r52 : Nat → Nat → Option Nat := va_up mv_r51 26 (fun _ => none)
def mm_53 : im_M := (27, true, mv_k27, mv_i28, mv_l27, mv_r52)
def mv_r53 : Nat → Nat → Option Nat := im_u2 mv_r52 23 10 (some 26)
def mm_54 : im_M := (27, true, mv_k27, mv_i28, mv_l27, mv_r53)
def mv_k28 : Nat → Nat × Nat := va_up mv_k27 27 (33, 20)
def mv_i29 : Nat → Nat → Int32 := va_up mv_i28 27 (fun _ => 0)
def mv_l28 : Nat → Nat → Int64 := va_up mv_l27 27 (fun _ => 0)
def mv_r54 : Nat → Nat → Option Nat := va_up mv_r53 27 (fun _ => none)
def mm_55 : im_M := (28, true, mv_k28, mv_i29, mv_l28, mv_r54)
def mv_r55 : Nat → Nat → Option Nat := im_u2 mv_r54 23 11 (some 27)
def mm_56 : im_M := (28, true, mv_k28, mv_i29, mv_l28, mv_r55)
def mv_r56 : Nat → Nat → Option Nat := im_u2 mv_r55 15 3 (some 23)
def mm_57 : im_M := (28, true, mv_k28, mv_i29, mv_l28, mv_r56)
def mv_r57 : Nat → Nat → Option Nat := im_u2 mv_r56 0 2 (some 15)
def mm_58 : im_M := (28, true, mv_k28, mv_i29, mv_l28, mv_r57)
def mv_k29 : Nat → Nat × Nat := va_up mv_k28 28 (9, 0)
def mv_i30 : Nat → Nat → Int32 := va_up mv_i29 28 (fun _ => 0)
def mv_l29 : Nat → Nat → Int64 := va_up mv_l28 28 (fun _ => 0)
def mv_r58 : Nat → Nat → Option Nat := va_up mv_r57 28 (fun _ => none)
def mm_59 : im_M := (29, true, mv_k29, mv_i30, mv_l29, mv_r58)
def mv_i31 : Nat → Nat → Int32 := im_u2 mv_i30 28 0 64
def mm_60 : im_M := (29, true, mv_k29, mv_i31, mv_l29, mv_r58)
def mv_i32 : Nat → Nat → Int32 := im_u2 mv_i31 28 1 64
def mm_61 : im_M := (29, true, mv_k29, mv_i32, mv_l29, mv_r58)
def mv_k30 : Nat → Nat × Nat := va_up mv_k29 29 (34, 4096)
def mv_i33 : Nat → Nat → Int32 := va_up mv_i32 29 (fun _ => 0)
def mv_l30 : Nat → Nat → Int64 := va_up mv_l29 29 (fun _ => 0)
def mv_r59 : Nat → Nat → Option Nat := va_up mv_r58 29 (fun _ => none)
def mm_62 : im_M := (30, true, mv_k30, mv_i33, mv_l30, mv_r59)
def mv_r60 : Nat → Nat → Option Nat := im_u2 mv_r59 28 4 (some 29)
def mm_63 : im_M := (30, true, mv_k30, mv_i33, mv_l30, mv_r60)
def mv_k31 : Nat → Nat × Nat := va_up mv_k30 30 (34, 4096)
def mv_i34 : Nat → Nat → Int32 := va_up mv_i33 30 (fun _ => 0)
def mv_l31 : Nat → Nat → Int64 := va_up mv_l30 30 (fun _ => 0)
def mv_r61 : Nat → Nat → Option Nat := va_up mv_r60 30 (fun _ => none)
def mm_64 : im_M := (31, true, mv_k31, mv_i34, mv_l31, mv_r61)
def mv_r62 : Nat → Nat → Option Nat := im_u2 mv_r61 28 5 (some 30)
def mm_65 : im_M := (31, true, mv_k31, mv_i34, mv_l31, mv_r62)
def mv_r63 : Nat → Nat → Option Nat := im_u2 mv_r62 0 3 (some 28)
def mm_66 : im_M := (31, true, mv_k31, mv_i34, mv_l31, mv_r63)
def mv_k32 : Nat → Nat × Nat := va_up mv_k31 31 (0, 0)
def mv_i35 : Nat → Nat → Int32 := va_up mv_i34 31 (fun _ => 0)
def mv_l32 : Nat → Nat → Int64 := va_up mv_l31 31 (fun _ => 0)
def mv_r64 : Nat → Nat → Option Nat := va_up mv_r63 31 (fun _ => none)
def mm_67 : im_M := (32, true, mv_k32, mv_i35, mv_l32, mv_r64)
def mv_k33 : Nat → Nat × Nat := va_up mv_k32 32 (33, 512)
def mv_i36 : Nat → Nat → Int32 := va_up mv_i35 32 (fun _ => 0)
def mv_l33 : Nat → Nat → Int64 := va_up mv_l32 32 (fun _ => 0)
def mv_r65 : Nat → Nat → Option Nat := va_up mv_r64 32 (fun _ => none)
def mm_68 : im_M := (33, true, mv_k33, mv_i36, mv_l33, mv_r65)
def mv_r66 : Nat → Nat → Option Nat := im_u2 mv_r65 31 0 (some 32)
def mm_69 : im_M := (33, true, mv_k33, mv_i36, mv_l33, mv_r66)
def mv_k34 : Nat → Nat × Nat := va_up mv_k33 33 (33, 900)
def mv_i37 : Nat → Nat → Int32 := va_up mv_i36 33 (fun _ => 0)
def mv_l34 : Nat → Nat → Int64 := va_up mv_l33 33 (fun _ => 0)
def mv_r67 : Nat → Nat → Option Nat := va_up mv_r66 33 (fun _ => none)
def mm_70 : im_M := (34, true, mv_k34, mv_i37, mv_l34, mv_r67)
def mv_r68 : Nat → Nat → Option Nat := im_u2 mv_r67 31 1 (some 33)
def mm_71 : im_M := (34, true, mv_k34, mv_i37, mv_l34, mv_r68)
def mv_k35 : Nat → Nat × Nat := va_up mv_k34 34 (33, 65)
def mv_i38 : Nat → Nat → Int32 := va_up mv_i37 34 (fun _ => 0)
def mv_l35 : Nat → Nat → Int64 := va_up mv_l34 34 (fun _ => 0)
def mv_r69 : Nat → Nat → Option Nat := va_up mv_r68 34 (fun _ => none)
def mm_72 : im_M := (35, true, mv_k35, mv_i38, mv_l35, mv_r69)
def mv_r70 : Nat → Nat → Option Nat := im_u2 mv_r69 31 5 (some 34)
def mm_73 : im_M := (35, true, mv_k35, mv_i38, mv_l35, mv_r70)
def mv_k36 : Nat → Nat × Nat := va_up mv_k35 35 (33, 198)
def mv_i39 : Nat → Nat → Int32 := va_up mv_i38 35 (fun _ => 0)
def mv_l36 : Nat → Nat → Int64 := va_up mv_l35 35 (fun _ => 0)
def mv_r71 : Nat → Nat → Option Nat := va_up mv_r70 35 (fun _ => none)
def mm_74 : im_M := (36, true, mv_k36, mv_i39, mv_l36, mv_r71)
def mv_r72 : Nat → Nat → Option Nat := im_u2 mv_r71 31 7 (some 35)
def mm_75 : im_M := (36, true, mv_k36, mv_i39, mv_l36, mv_r72)
def mv_k37 : Nat → Nat × Nat := va_up mv_k36 36 (33, 140)
def mv_i40 : Nat → Nat → Int32 := va_up mv_i39 36 (fun _ => 0)
def mv_l37 : Nat → Nat → Int64 := va_up mv_l36 36 (fun _ => 0)
def mv_r73 : Nat → Nat → Option Nat := va_up mv_r72 36 (fun _ => none)
def mm_76 : im_M := (37, true, mv_k37, mv_i40, mv_l37, mv_r73)
def mv_r74 : Nat → Nat → Option Nat := im_u2 mv_r73 31 8 (some 36)
def mm_77 : im_M := (37, true, mv_k37, mv_i40, mv_l37, mv_r74)
def mv_k38 : Nat → Nat × Nat := va_up mv_k37 37 (33, 13)
def mv_i41 : Nat → Nat → Int32 := va_up mv_i40 37 (fun _ => 0)
def mv_l38 : Nat → Nat → Int64 := va_up mv_l37 37 (fun _ => 0)
def mv_r75 : Nat → Nat → Option Nat := va_up mv_r74 37 (fun _ => none)
def mm_78 : im_M := (38, true, mv_k38, mv_i41, mv_l38, mv_r75)
def mv_r76 : Nat → Nat → Option Nat := im_u2 mv_r75 31 10 (some 37)
def mm_79 : im_M := (38, true, mv_k38, mv_i41, mv_l38, mv_r76)
def mv_r77 : Nat → Nat → Option Nat := im_u2 mv_r76 0 5 (some 31)
def mm_80 : im_M := (38, true, mv_k38, mv_i41, mv_l38, mv_r77)
def mv_k39 : Nat → Nat × Nat := va_up mv_k38 38 (4, 0)
def mv_i42 : Nat → Nat → Int32 := va_up mv_i41 38 (fun _ => 0)
def mv_l39 : Nat → Nat → Int64 := va_up mv_l38 38 (fun _ => 0)
def mv_r78 : Nat → Nat → Option Nat := va_up mv_r77 38 (fun _ => none)
def mm_81 : im_M := (39, true, mv_k39, mv_i42, mv_l39, mv_r78)
def mv_k40 : Nat → Nat × Nat := va_up mv_k39 39 (7, 0)
def mv_i43 : Nat → Nat → Int32 := va_up mv_i42 39 (fun _ => 0)
def mv_l40 : Nat → Nat → Int64 := va_up mv_l39 39 (fun _ => 0)
def mv_r79 : Nat → Nat → Option Nat := va_up mv_r78 39 (fun _ => none)
def mm_82 : im_M := (40, true, mv_k40, mv_i43, mv_l40, mv_r79)
def mv_k41 : Nat → Nat × Nat := va_up mv_k40 40 (32, 2956)
def mv_i44 : Nat → Nat → Int32 := va_up mv_i43 40 (fun _ => 0)
def mv_l41 : Nat → Nat → Int64 := va_up mv_l40 40 (fun _ => 0)
def mv_r80 : Nat → Nat → Option Nat := va_up mv_r79 40 (fun _ => none)
def mm_83 : im_M := (41, true, mv_k41, mv_i44, mv_l41, mv_r80)
def mv_r81 : Nat → Nat → Option Nat := im_u2 mv_r80 39 0 (some 40)
def mm_84 : im_M := (41, true, mv_k41, mv_i44, mv_l41, mv_r81)
def mv_k42 : Nat → Nat × Nat := va_up mv_k41 41 (33, 1407)
def mv_i45 : Nat → Nat → Int32 := va_up mv_i44 41 (fun _ => 0)
def mv_l42 : Nat → Nat → Int64 := va_up mv_l41 41 (fun _ => 0)
def mv_r82 : Nat → Nat → Option Nat := va_up mv_r81 41 (fun _ => none)
def mm_85 : im_M := (42, true, mv_k42, mv_i45, mv_l42, mv_r82)
def mv_r83 : Nat → Nat → Option Nat := im_u2 mv_r82 39 3 (some 41)
def mm_86 : im_M := (42, true, mv_k42, mv_i45, mv_l42, mv_r83)
def mv_k43 : Nat → Nat × Nat := va_up mv_k42 42 (32, 200)
def mv_i46 : Nat → Nat → Int32 := va_up mv_i45 42 (fun _ => 0)
def mv_l43 : Nat → Nat → Int64 := va_up mv_l42 42 (fun _ => 0)
def mv_r84 : Nat → Nat → Option Nat := va_up mv_r83 42 (fun _ => none)
def mm_87 : im_M := (43, true, mv_k43, mv_i46, mv_l43, mv_r84)
def mv_r85 : Nat → Nat → Option Nat := im_u2 mv_r84 39 4 (some 42)
def mm_88 : im_M := (43, true, mv_k43, mv_i46, mv_l43, mv_r85)
def mv_r86 : Nat → Nat → Option Nat := im_u2 mv_r85 38 0 (some 39)
def mm_89 : im_M := (43, true, mv_k43, mv_i46, mv_l43, mv_r86)
def mv_k44 : Nat → Nat × Nat := va_up mv_k43 43 (1, 0)
def mv_i47 : Nat → Nat → Int32 := va_up mv_i46 43 (fun _ => 0)
def mv_l44 : Nat → Nat → Int64 := va_up mv_l43 43 (fun _ => 0)
def mv_r87 : Nat → Nat → Option Nat := va_up mv_r86 43 (fun _ => none)
def mm_90 : im_M := (44, true, mv_k44, mv_i47, mv_l44, mv_r87)
def mv_k45 : Nat → Nat × Nat := va_up mv_k44 44 (32, 3706)
def mv_i48 : Nat → Nat → Int32 := va_up mv_i47 44 (fun _ => 0)
def mv_l45 : Nat → Nat → Int64 := va_up mv_l44 44 (fun _ => 0)
def mv_r88 : Nat → Nat → Option Nat := va_up mv_r87 44 (fun _ => none)
def mm_91 : im_M := (45, true, mv_k45, mv_i48, mv_l45, mv_r88)
def mv_r89 : Nat → Nat → Option Nat := im_u2 mv_r88 43 0 (some 44)
def mm_92 : im_M := (45, true, mv_k45, mv_i48, mv_l45, mv_r89)
def mv_k46 : Nat → Nat × Nat := va_up mv_k45 45 (33, 510)
def mv_i49 : Nat → Nat → Int32 := va_up mv_i48 45 (fun _ => 0)
def mv_l46 : Nat → Nat → Int64 := va_up mv_l45 45 (fun _ => 0)
def mv_r90 : Nat → Nat → Option Nat := va_up mv_r89 45 (fun _ => none)
def mm_93 : im_M := (46, true, mv_k46, mv_i49, mv_l46, mv_r90)
def mv_r91 : Nat → Nat → Option Nat := im_u2 mv_r90 43 1 (some 45)
def mm_94 : im_M := (46, true, mv_k46, mv_i49, mv_l46, mv_r91)
def mv_k47 : Nat → Nat × Nat := va_up mv_k46 46 (33, 256)
def mv_i50 : Nat → Nat → Int32 := va_up mv_i49 46 (fun _ => 0)
def mv_l47 : Nat → Nat → Int64 := va_up mv_l46 46 (fun _ => 0)
def mv_r92 : Nat → Nat → Option Nat := va_up mv_r91 46 (fun _ => none)
def mm_95 : im_M := (47, true, mv_k47, mv_i50, mv_l47, mv_r92)
def mv_r93 : Nat → Nat → Option Nat := im_u2 mv_r92 43 2 (some 46)
def mm_96 : im_M := (47, true, mv_k47, mv_i50, mv_l47, mv_r93)
def mv_k48 : Nat → Nat × Nat := va_up mv_k47 47 (33, 31)
def mv_i51 : Nat → Nat → Int32 := va_up mv_i50 47 (fun _ => 0)
def mv_l48 : Nat → Nat → Int64 := va_up mv_l47 47 (fun _ => 0)
def mv_r94 : Nat → Nat → Option Nat := va_up mv_r93 47 (fun _ => none)
def mm_97 : im_M := (48, true, mv_k48, mv_i51, mv_l48, mv_r94)
def mv_r95 : Nat → Nat → Option Nat := im_u2 mv_r94 43 3 (some 47)
def mm_98 : im_M := (48, true, mv_k48, mv_i51, mv_l48, mv_r95)
def mv_k49 : Nat → Nat × Nat := va_up mv_k48 48 (33, 255)
def mv_i52 : Nat → Nat → Int32 := va_up mv_i51 48 (fun _ => 0)
def mv_l49 : Nat → Nat → Int64 := va_up mv_l48 48 (fun _ => 0)
def mv_r96 : Nat → Nat → Option Nat := va_up mv_r95 48 (fun _ => none)
def mm_99 : im_M := (49, true, mv_k49, mv_i52, mv_l49, mv_r96)
def mv_r97 : Nat → Nat → Option Nat := im_u2 mv_r96 43 4 (some 48)
def mm_100 : im_M := (49, true, mv_k49, mv_i52, mv_l49, mv_r97)
def mv_k50 : Nat → Nat × Nat := va_up mv_k49 49 (33, 30)
def mv_i53 : Nat → Nat → Int32 := va_up mv_i52 49 (fun _ => 0)
def mv_l50 : Nat → Nat → Int64 := va_up mv_l49 49 (fun _ => 0)
def mv_r98 : Nat → Nat → Option Nat := va_up mv_r97 49 (fun _ => none)
def mm_101 : im_M := (50, true, mv_k50, mv_i53, mv_l50, mv_r98)
def mv_r99 : Nat → Nat → Option Nat := im_u2 mv_r98 43 5 (some 49)
def mm_102 : im_M := (50, true, mv_k50, mv_i53, mv_l50, mv_r99)
def mv_k51 : Nat → Nat × Nat := va_up mv_k50 50 (33, 31)
def mv_i54 : Nat → Nat → Int32 := va_up mv_i53 50 (fun _ => 0)
def mv_l51 : Nat → Nat → Int64 := va_up mv_l50 50 (fun _ => 0)
def mv_r100 : Nat → Nat → Option Nat := va_up mv_r99 50 (fun _ => none)
def mm_103 : im_M := (51, true, mv_k51, mv_i54, mv_l51, mv_r100)
def mv_r101 : Nat → Nat → Option Nat := im_u2 mv_r100 43 6 (some 50)
def mm_104 : im_M := (51, true, mv_k51, mv_i54, mv_l51, mv_r101)
def mv_k52 : Nat → Nat × Nat := va_up mv_k51 51 (33, 31)
def mv_i55 : Nat → Nat → Int32 := va_up mv_i54 51 (fun _ => 0)
def mv_l52 : Nat → Nat → Int64 := va_up mv_l51 51 (fun _ => 0)
def mv_r102 : Nat → Nat → Option Nat := va_up mv_r101 51 (fun _ => none)
def mm_105 : im_M := (52, true, mv_k52, mv_i55, mv_l52, mv_r102)
def mv_r103 : Nat → Nat → Option Nat := im_u2 mv_r102 43 7 (some 51)
def mm_106 : im_M := (52, true, mv_k52, mv_i55, mv_l52, mv_r103)
def mv_k53 : Nat → Nat × Nat := va_up mv_k52 52 (33, 31)
def mv_i56 : Nat → Nat → Int32 := va_up mv_i55 52 (fun _ => 0)
def mv_l53 : Nat → Nat → Int64 := va_up mv_l52 52 (fun _ => 0)
def mv_r104 : Nat → Nat → Option Nat := va_up mv_r103 52 (fun _ => none)
def mm_107 : im_M := (53, true, mv_k53, mv_i56, mv_l53, mv_r104)
def mv_r105 : Nat → Nat → Option Nat := im_u2 mv_r104 43 8 (some 52)
def mm_108 : im_M := (53, true, mv_k53, mv_i56, mv_l53, mv_r105)
def mv_k54 : Nat → Nat × Nat := va_up mv_k53 53 (33, 30)
def mv_i57 : Nat → Nat → Int32 := va_up mv_i56 53 (fun _ => 0)
def mv_l54 : Nat → Nat → Int64 := va_up mv_l53 53 (fun _ => 0)
def mv_r106 : Nat → Nat → Option Nat := va_up mv_r105 53 (fun _ => none)
def mm_109 : im_M := (54, true, mv_k54, mv_i57, mv_l54, mv_r106)
def mv_r107 : Nat → Nat → Option Nat := im_u2 mv_r106 43 9 (some 53)
def mm_110 : im_M := (54, true, mv_k54, mv_i57, mv_l54, mv_r107)
def bl_v : Nat → Int32
  | 0 => 1
  | k + 1 => if 255 < bl_v k <<< ((1 : Int32) &&& 31) then (bl_v k <<< ((1 : Int32) &&& 31)) ^^^ 285 else bl_v k <<< ((1 : Int32) &&& 31)
def bl_i : Nat → (Nat → Nat → Int32)
  | 0 => mv_i57
  | k + 1 => if k < 255 then im_u2 (im_u2 (bl_i k) 45 k (bl_v k)) 46 (bl_v k).toNatClampNeg (nI k) else im_u2 (bl_i k) 45 k (bl_v k)
def bl_M (k : Nat) : im_M := (54, true, mv_k54, bl_i k, mv_l54, mv_r107)
def mv_i58 : Nat → Nat → Int32 := bl_i 510
def mm_111 : im_M := (54, true, mv_k54, mv_i58, mv_l54, mv_r107)
def mv_r108 : Nat → Nat → Option Nat := im_u2 mv_r107 38 5 (some 43)
def mm_112 : im_M := (54, true, mv_k54, mv_i58, mv_l54, mv_r108)
def mv_k55 : Nat → Nat × Nat := va_up mv_k54 54 (32, 31329)
def mv_i59 : Nat → Nat → Int32 := va_up mv_i58 54 (fun _ => 0)
def mv_l55 : Nat → Nat → Int64 := va_up mv_l54 54 (fun _ => 0)
def mv_r109 : Nat → Nat → Option Nat := va_up mv_r108 54 (fun _ => none)
def mm_113 : im_M := (55, true, mv_k55, mv_i59, mv_l55, mv_r109)
def mv_r110 : Nat → Nat → Option Nat := im_u2 mv_r109 38 7 (some 54)
def mm_114 : im_M := (55, true, mv_k55, mv_i59, mv_l55, mv_r110)
def mv_k56 : Nat → Nat × Nat := va_up mv_k55 55 (32, 31329)
def mv_i60 : Nat → Nat → Int32 := va_up mv_i59 55 (fun _ => 0)
def mv_l56 : Nat → Nat → Int64 := va_up mv_l55 55 (fun _ => 0)
def mv_r111 : Nat → Nat → Option Nat := va_up mv_r110 55 (fun _ => none)
def mm_115 : im_M := (56, true, mv_k56, mv_i60, mv_l56, mv_r111)
def mv_r112 : Nat → Nat → Option Nat := im_u2 mv_r111 38 8 (some 55)
def mm_116 : im_M := (56, true, mv_k56, mv_i60, mv_l56, mv_r112)
def mv_r113 : Nat → Nat → Option Nat := im_u2 mv_r112 0 6 (some 38)
def mm_117 : im_M := (56, true, mv_k56, mv_i60, mv_l56, mv_r113)
def mv_k57 : Nat → Nat × Nat := va_up mv_k56 56 (6, 0)
def mv_i61 : Nat → Nat → Int32 := va_up mv_i60 56 (fun _ => 0)
def mv_l57 : Nat → Nat → Int64 := va_up mv_l56 56 (fun _ => 0)
def mv_r114 : Nat → Nat → Option Nat := va_up mv_r113 56 (fun _ => none)
def mm_118 : im_M := (57, true, mv_k57, mv_i61, mv_l57, mv_r114)
def mv_k58 : Nat → Nat × Nat := va_up mv_k57 57 (33, 12)
def mv_i62 : Nat → Nat → Int32 := va_up mv_i61 57 (fun _ => 0)
def mv_l58 : Nat → Nat → Int64 := va_up mv_l57 57 (fun _ => 0)
def mv_r115 : Nat → Nat → Option Nat := va_up mv_r114 57 (fun _ => none)
def mm_119 : im_M := (58, true, mv_k58, mv_i62, mv_l58, mv_r115)
def mv_i63 : Nat → Nat → Int32 := im_u2 mv_i62 57 0 8
def mm_120 : im_M := (58, true, mv_k58, mv_i63, mv_l58, mv_r115)
def mv_i64 : Nat → Nat → Int32 := im_u2 mv_i63 57 1 8
def mm_121 : im_M := (58, true, mv_k58, mv_i64, mv_l58, mv_r115)
def mv_i65 : Nat → Nat → Int32 := im_u2 mv_i64 57 2 0
def mm_122 : im_M := (58, true, mv_k58, mv_i65, mv_l58, mv_r115)
def mv_i66 : Nat → Nat → Int32 := im_u2 mv_i65 57 3 8
def mm_123 : im_M := (58, true, mv_k58, mv_i66, mv_l58, mv_r115)
def mv_i67 : Nat → Nat → Int32 := im_u2 mv_i66 57 4 8
def mm_124 : im_M := (58, true, mv_k58, mv_i67, mv_l58, mv_r115)
def mv_i68 : Nat → Nat → Int32 := im_u2 mv_i67 57 5 0
def mm_125 : im_M := (58, true, mv_k58, mv_i68, mv_l58, mv_r115)
def mv_i69 : Nat → Nat → Int32 := im_u2 mv_i68 57 6 8
def mm_126 : im_M := (58, true, mv_k58, mv_i69, mv_l58, mv_r115)
def mv_i70 : Nat → Nat → Int32 := im_u2 mv_i69 57 7 8
def mm_127 : im_M := (58, true, mv_k58, mv_i70, mv_l58, mv_r115)
def mv_i71 : Nat → Nat → Int32 := im_u2 mv_i70 57 8 0
def mm_128 : im_M := (58, true, mv_k58, mv_i71, mv_l58, mv_r115)
def mv_i72 : Nat → Nat → Int32 := im_u2 mv_i71 57 9 8
def mm_129 : im_M := (58, true, mv_k58, mv_i72, mv_l58, mv_r115)
def mv_i73 : Nat → Nat → Int32 := im_u2 mv_i72 57 10 8
def mm_130 : im_M := (58, true, mv_k58, mv_i73, mv_l58, mv_r115)
def mv_i74 : Nat → Nat → Int32 := im_u2 mv_i73 57 11 0
def mm_131 : im_M := (58, true, mv_k58, mv_i74, mv_l58, mv_r115)
def mv_r116 : Nat → Nat → Option Nat := im_u2 mv_r115 56 3 (some 57)
def mm_132 : im_M := (58, true, mv_k58, mv_i74, mv_l58, mv_r116)
def mv_k59 : Nat → Nat × Nat := va_up mv_k58 58 (33, 32768)
def mv_i75 : Nat → Nat → Int32 := va_up mv_i74 58 (fun _ => 0)
def mv_l59 : Nat → Nat → Int64 := va_up mv_l58 58 (fun _ => 0)
def mv_r117 : Nat → Nat → Option Nat := va_up mv_r116 58 (fun _ => none)
def mm_133 : im_M := (59, true, mv_k59, mv_i75, mv_l59, mv_r117)
def mv_r118 : Nat → Nat → Option Nat := im_u2 mv_r117 56 4 (some 58)
def mm_134 : im_M := (59, true, mv_k59, mv_i75, mv_l59, mv_r118)
def mv_r119 : Nat → Nat → Option Nat := im_u2 mv_r118 56 0 (some 28)
def mm_135 : im_M := (59, true, mv_k59, mv_i75, mv_l59, mv_r119)
def mv_r120 : Nat → Nat → Option Nat := im_u2 mv_r119 56 1 (some 31)
def mm_136 : im_M := (59, true, mv_k59, mv_i75, mv_l59, mv_r120)
def mv_r121 : Nat → Nat → Option Nat := im_u2 mv_r120 56 2 (some 38)
def mm_137 : im_M := (59, true, mv_k59, mv_i75, mv_l59, mv_r121)
def mv_r122 : Nat → Nat → Option Nat := im_u2 mv_r121 0 4 (some 56)
def mm_138 : im_M := (59, true, mv_k59, mv_i75, mv_l59, mv_r122)
def mv_k60 : Nat → Nat × Nat := va_up mv_k59 59 (3, 0)
def mv_i76 : Nat → Nat → Int32 := va_up mv_i75 59 (fun _ => 0)
def mv_l60 : Nat → Nat → Int64 := va_up mv_l59 59 (fun _ => 0)
def mv_r123 : Nat → Nat → Option Nat := va_up mv_r122 59 (fun _ => none)
def mm_139 : im_M := (60, true, mv_k60, mv_i76, mv_l60, mv_r123)
def mv_k61 : Nat → Nat × Nat := va_up mv_k60 60 (33, 263169)
def mv_i77 : Nat → Nat → Int32 := va_up mv_i76 60 (fun _ => 0)
def mv_l61 : Nat → Nat → Int64 := va_up mv_l60 60 (fun _ => 0)
def mv_r124 : Nat → Nat → Option Nat := va_up mv_r123 60 (fun _ => none)
def mm_140 : im_M := (61, true, mv_k61, mv_i77, mv_l61, mv_r124)
def mv_r125 : Nat → Nat → Option Nat := im_u2 mv_r124 59 2 (some 60)
def mm_141 : im_M := (61, true, mv_k61, mv_i77, mv_l61, mv_r125)
def mv_k62 : Nat → Nat × Nat := va_up mv_k61 61 (35, 262144)
def mv_i78 : Nat → Nat → Int32 := va_up mv_i77 61 (fun _ => 0)
def mv_l62 : Nat → Nat → Int64 := va_up mv_l61 61 (fun _ => 0)
def mv_r126 : Nat → Nat → Option Nat := va_up mv_r125 61 (fun _ => none)
def mm_142 : im_M := (62, true, mv_k62, mv_i78, mv_l62, mv_r126)
def mv_r127 : Nat → Nat → Option Nat := im_u2 mv_r126 59 3 (some 61)
def mm_143 : im_M := (62, true, mv_k62, mv_i78, mv_l62, mv_r127)
def mv_k63 : Nat → Nat × Nat := va_up mv_k62 62 (34, 300)
def mv_i79 : Nat → Nat → Int32 := va_up mv_i78 62 (fun _ => 0)
def mv_l63 : Nat → Nat → Int64 := va_up mv_l62 62 (fun _ => 0)
def mv_r128 : Nat → Nat → Option Nat := va_up mv_r127 62 (fun _ => none)
def mm_144 : im_M := (63, true, mv_k63, mv_i79, mv_l63, mv_r128)
def mv_r129 : Nat → Nat → Option Nat := im_u2 mv_r128 59 4 (some 62)
def mm_145 : im_M := (63, true, mv_k63, mv_i79, mv_l63, mv_r129)
def mv_k64 : Nat → Nat × Nat := va_up mv_k63 63 (33, 300)
def mv_i80 : Nat → Nat → Int32 := va_up mv_i79 63 (fun _ => 0)
def mv_l64 : Nat → Nat → Int64 := va_up mv_l63 63 (fun _ => 0)
def mv_r130 : Nat → Nat → Option Nat := va_up mv_r129 63 (fun _ => none)
def mm_146 : im_M := (64, true, mv_k64, mv_i80, mv_l64, mv_r130)
def mv_r131 : Nat → Nat → Option Nat := im_u2 mv_r130 59 5 (some 63)
def mm_147 : im_M := (64, true, mv_k64, mv_i80, mv_l64, mv_r131)
def mv_k65 : Nat → Nat × Nat := va_up mv_k64 64 (36, 300)
def mv_i81 : Nat → Nat → Int32 := va_up mv_i80 64 (fun _ => 0)
def mv_l65 : Nat → Nat → Int64 := va_up mv_l64 64 (fun _ => 0)
def mv_r132 : Nat → Nat → Option Nat := va_up mv_r131 64 (fun _ => none)
def mm_148 : im_M := (65, true, mv_k65, mv_i81, mv_l65, mv_r132)
def mv_r133 : Nat → Nat → Option Nat := im_u2 mv_r132 59 6 (some 64)
def mm_149 : im_M := (65, true, mv_k65, mv_i81, mv_l65, mv_r133)
def mv_k66 : Nat → Nat × Nat := va_up mv_k65 65 (33, 4)
def mv_i82 : Nat → Nat → Int32 := va_up mv_i81 65 (fun _ => 0)
def mv_l66 : Nat → Nat → Int64 := va_up mv_l65 65 (fun _ => 0)
def mv_r134 : Nat → Nat → Option Nat := va_up mv_r133 65 (fun _ => none)
def mm_150 : im_M := (66, true, mv_k66, mv_i82, mv_l66, mv_r134)
def mv_r135 : Nat → Nat → Option Nat := im_u2 mv_r134 59 7 (some 65)
def mm_151 : im_M := (66, true, mv_k66, mv_i82, mv_l66, mv_r135)
def mv_r136 : Nat → Nat → Option Nat := im_u2 mv_r135 59 1 (some 28)
def mm_152 : im_M := (66, true, mv_k66, mv_i82, mv_l66, mv_r136)
def mv_r137 : Nat → Nat → Option Nat := im_u2 mv_r136 0 7 (some 59)
def mm_153 : im_M := (66, true, mv_k66, mv_i82, mv_l66, mv_r137)
def mv_k67 : Nat → Nat × Nat := va_up mv_k66 66 (33, 120)
def mv_i83 : Nat → Nat → Int32 := va_up mv_i82 66 (fun _ => 0)
def mv_l67 : Nat → Nat → Int64 := va_up mv_l66 66 (fun _ => 0)
def mv_r138 : Nat → Nat → Option Nat := va_up mv_r137 66 (fun _ => none)
def mm_154 : im_M := (67, true, mv_k67, mv_i83, mv_l67, mv_r138)
def mv_r139 : Nat → Nat → Option Nat := im_u2 mv_r138 0 8 (some 66)
def mm_155 : im_M := (67, true, mv_k67, mv_i83, mv_l67, mv_r139)
def mv_k68 : Nat → Nat × Nat := va_up mv_k67 67 (33, 7)
def mv_i84 : Nat → Nat → Int32 := va_up mv_i83 67 (fun _ => 0)
def mv_l68 : Nat → Nat → Int64 := va_up mv_l67 67 (fun _ => 0)
def mv_r140 : Nat → Nat → Option Nat := va_up mv_r139 67 (fun _ => none)
def mm_156 : im_M := (68, true, mv_k68, mv_i84, mv_l68, mv_r140)
def mv_i85 : Nat → Nat → Int32 := im_u2 mv_i84 67 0 (-1)
def mm_157 : im_M := (68, true, mv_k68, mv_i85, mv_l68, mv_r140)
def mv_i86 : Nat → Nat → Int32 := im_u2 mv_i85 67 1 (-1)
def mm_158 : im_M := (68, true, mv_k68, mv_i86, mv_l68, mv_r140)
def mv_i87 : Nat → Nat → Int32 := im_u2 mv_i86 67 2 (-1)
def mm_159 : im_M := (68, true, mv_k68, mv_i87, mv_l68, mv_r140)
def mv_i88 : Nat → Nat → Int32 := im_u2 mv_i87 67 3 (-1)
def mm_160 : im_M := (68, true, mv_k68, mv_i88, mv_l68, mv_r140)
def mv_i89 : Nat → Nat → Int32 := im_u2 mv_i88 67 4 (-1)
def mm_161 : im_M := (68, true, mv_k68, mv_i89, mv_l68, mv_r140)
def mv_i90 : Nat → Nat → Int32 := im_u2 mv_i89 67 5 (-1)
def mm_162 : im_M := (68, true, mv_k68, mv_i90, mv_l68, mv_r140)
def mv_i91 : Nat → Nat → Int32 := im_u2 mv_i90 67 6 0
def mm_163 : im_M := (68, true, mv_k68, mv_i91, mv_l68, mv_r140)
def mv_r141 : Nat → Nat → Option Nat := im_u2 mv_r140 0 10 (some 67)
def mm_164 : im_M := (68, true, mv_k68, mv_i91, mv_l68, mv_r141)
def mv_k69 : Nat → Nat × Nat := va_up mv_k68 68 (32, 3000)
def mv_i92 : Nat → Nat → Int32 := va_up mv_i91 68 (fun _ => 0)
def mv_l69 : Nat → Nat → Int64 := va_up mv_l68 68 (fun _ => 0)
def mv_r142 : Nat → Nat → Option Nat := va_up mv_r141 68 (fun _ => none)
def mm_165 : im_M := (69, true, mv_k69, mv_i92, mv_l69, mv_r142)
def mv_r143 : Nat → Nat → Option Nat := im_u2 mv_r142 0 11 (some 68)
def mm_166 : im_M := (69, true, mv_k69, mv_i92, mv_l69, mv_r143)
def mv_k70 : Nat → Nat × Nat := va_up mv_k69 69 (17, 0)
def mv_i93 : Nat → Nat → Int32 := va_up mv_i92 69 (fun _ => 0)
def mv_l70 : Nat → Nat → Int64 := va_up mv_l69 69 (fun _ => 0)
def mv_r144 : Nat → Nat → Option Nat := va_up mv_r143 69 (fun _ => none)
def mm_167 : im_M := (70, true, mv_k70, mv_i93, mv_l70, mv_r144)
def mv_k71 : Nat → Nat × Nat := va_up mv_k70 70 (33, 4096)
def mv_i94 : Nat → Nat → Int32 := va_up mv_i93 70 (fun _ => 0)
def mv_l71 : Nat → Nat → Int64 := va_up mv_l70 70 (fun _ => 0)
def mv_r145 : Nat → Nat → Option Nat := va_up mv_r144 70 (fun _ => none)
def mm_168 : im_M := (71, true, mv_k71, mv_i94, mv_l71, mv_r145)
def mv_r146 : Nat → Nat → Option Nat := im_u2 mv_r145 69 1 (some 70)
def mm_169 : im_M := (71, true, mv_k71, mv_i94, mv_l71, mv_r146)
def mv_k72 : Nat → Nat × Nat := va_up mv_k71 71 (15, 0)
def mv_i95 : Nat → Nat → Int32 := va_up mv_i94 71 (fun _ => 0)
def mv_l72 : Nat → Nat → Int64 := va_up mv_l71 71 (fun _ => 0)
def mv_r147 : Nat → Nat → Option Nat := va_up mv_r146 71 (fun _ => none)
def mm_170 : im_M := (72, true, mv_k72, mv_i95, mv_l72, mv_r147)
def mv_k73 : Nat → Nat × Nat := va_up mv_k72 72 (33, 4096)
def mv_i96 : Nat → Nat → Int32 := va_up mv_i95 72 (fun _ => 0)
def mv_l73 : Nat → Nat → Int64 := va_up mv_l72 72 (fun _ => 0)
def mv_r148 : Nat → Nat → Option Nat := va_up mv_r147 72 (fun _ => none)
def mm_171 : im_M := (73, true, mv_k73, mv_i96, mv_l73, mv_r148)
def mv_r149 : Nat → Nat → Option Nat := im_u2 mv_r148 71 1 (some 72)
def mm_172 : im_M := (73, true, mv_k73, mv_i96, mv_l73, mv_r149)
def mv_k74 : Nat → Nat × Nat := va_up mv_k73 73 (33, 3200)
def mv_i97 : Nat → Nat → Int32 := va_up mv_i96 73 (fun _ => 0)
def mv_l74 : Nat → Nat → Int64 := va_up mv_l73 73 (fun _ => 0)
def mv_r150 : Nat → Nat → Option Nat := va_up mv_r149 73 (fun _ => none)
def mm_173 : im_M := (74, true, mv_k74, mv_i97, mv_l74, mv_r150)
def mv_r151 : Nat → Nat → Option Nat := im_u2 mv_r150 71 3 (some 73)
def mm_174 : im_M := (74, true, mv_k74, mv_i97, mv_l74, mv_r151)
def mv_k75 : Nat → Nat × Nat := va_up mv_k74 74 (33, 8)
def mv_i98 : Nat → Nat → Int32 := va_up mv_i97 74 (fun _ => 0)
def mv_l75 : Nat → Nat → Int64 := va_up mv_l74 74 (fun _ => 0)
def mv_r152 : Nat → Nat → Option Nat := va_up mv_r151 74 (fun _ => none)
def mm_175 : im_M := (75, true, mv_k75, mv_i98, mv_l75, mv_r152)
def mv_r153 : Nat → Nat → Option Nat := im_u2 mv_r152 71 4 (some 74)
def mm_176 : im_M := (75, true, mv_k75, mv_i98, mv_l75, mv_r153)
def mv_k76 : Nat → Nat × Nat := va_up mv_k75 75 (33, 2000)
def mv_i99 : Nat → Nat → Int32 := va_up mv_i98 75 (fun _ => 0)
def mv_l76 : Nat → Nat → Int64 := va_up mv_l75 75 (fun _ => 0)
def mv_r154 : Nat → Nat → Option Nat := va_up mv_r153 75 (fun _ => none)
def mm_177 : im_M := (76, true, mv_k76, mv_i99, mv_l76, mv_r154)
def mv_r155 : Nat → Nat → Option Nat := im_u2 mv_r154 71 5 (some 75)
def mm_178 : im_M := (76, true, mv_k76, mv_i99, mv_l76, mv_r155)
def mv_k77 : Nat → Nat × Nat := va_up mv_k76 76 (33, 10)
def mv_i100 : Nat → Nat → Int32 := va_up mv_i99 76 (fun _ => 0)
def mv_l77 : Nat → Nat → Int64 := va_up mv_l76 76 (fun _ => 0)
def mv_r156 : Nat → Nat → Option Nat := va_up mv_r155 76 (fun _ => none)
def mm_179 : im_M := (77, true, mv_k77, mv_i100, mv_l77, mv_r156)
def mv_r157 : Nat → Nat → Option Nat := im_u2 mv_r156 71 6 (some 76)
def mm_180 : im_M := (77, true, mv_k77, mv_i100, mv_l77, mv_r157)
def mv_k78 : Nat → Nat × Nat := va_up mv_k77 77 (33, 5800)
def mv_i101 : Nat → Nat → Int32 := va_up mv_i100 77 (fun _ => 0)
def mv_l78 : Nat → Nat → Int64 := va_up mv_l77 77 (fun _ => 0)
def mv_r158 : Nat → Nat → Option Nat := va_up mv_r157 77 (fun _ => none)
def mm_181 : im_M := (78, true, mv_k78, mv_i101, mv_l78, mv_r158)
def mv_r159 : Nat → Nat → Option Nat := im_u2 mv_r158 71 7 (some 77)
def mm_182 : im_M := (78, true, mv_k78, mv_i101, mv_l78, mv_r159)
def mv_i102 : Nat → Nat → Int32 := im_u2 mv_i101 71 14 (-1)
def mm_183 : im_M := (78, true, mv_k78, mv_i102, mv_l78, mv_r159)
def mv_k79 : Nat → Nat × Nat := va_up mv_k78 78 (33, 4)
def mv_i103 : Nat → Nat → Int32 := va_up mv_i102 78 (fun _ => 0)
def mv_l79 : Nat → Nat → Int64 := va_up mv_l78 78 (fun _ => 0)
def mv_r160 : Nat → Nat → Option Nat := va_up mv_r159 78 (fun _ => none)
def mm_184 : im_M := (79, true, mv_k79, mv_i103, mv_l79, mv_r160)
def mv_r161 : Nat → Nat → Option Nat := im_u2 mv_r160 71 15 (some 78)
def mm_185 : im_M := (79, true, mv_k79, mv_i103, mv_l79, mv_r161)
def mv_k80 : Nat → Nat × Nat := va_up mv_k79 79 (33, 200)
def mv_i104 : Nat → Nat → Int32 := va_up mv_i103 79 (fun _ => 0)
def mv_l80 : Nat → Nat → Int64 := va_up mv_l79 79 (fun _ => 0)
def mv_r162 : Nat → Nat → Option Nat := va_up mv_r161 79 (fun _ => none)
def mm_186 : im_M := (80, true, mv_k80, mv_i104, mv_l80, mv_r162)
def mv_r163 : Nat → Nat → Option Nat := im_u2 mv_r162 71 16 (some 79)
def mm_187 : im_M := (80, true, mv_k80, mv_i104, mv_l80, mv_r163)
def mv_k81 : Nat → Nat × Nat := va_up mv_k80 80 (33, 4)
def mv_i105 : Nat → Nat → Int32 := va_up mv_i104 80 (fun _ => 0)
def mv_l81 : Nat → Nat → Int64 := va_up mv_l80 80 (fun _ => 0)
def mv_r164 : Nat → Nat → Option Nat := va_up mv_r163 80 (fun _ => none)
def mm_188 : im_M := (81, true, mv_k81, mv_i105, mv_l81, mv_r164)
def mv_r165 : Nat → Nat → Option Nat := im_u2 mv_r164 71 24 (some 80)
def mm_189 : im_M := (81, true, mv_k81, mv_i105, mv_l81, mv_r165)
def mv_k82 : Nat → Nat × Nat := va_up mv_k81 81 (33, 16)
def mv_i106 : Nat → Nat → Int32 := va_up mv_i105 81 (fun _ => 0)
def mv_l82 : Nat → Nat → Int64 := va_up mv_l81 81 (fun _ => 0)
def mv_r166 : Nat → Nat → Option Nat := va_up mv_r165 81 (fun _ => none)
def mm_190 : im_M := (82, true, mv_k82, mv_i106, mv_l82, mv_r166)
def mv_r167 : Nat → Nat → Option Nat := im_u2 mv_r166 71 27 (some 81)
def mm_191 : im_M := (82, true, mv_k82, mv_i106, mv_l82, mv_r167)
def mv_k83 : Nat → Nat × Nat := va_up mv_k82 82 (33, 2000)
def mv_i107 : Nat → Nat → Int32 := va_up mv_i106 82 (fun _ => 0)
def mv_l83 : Nat → Nat → Int64 := va_up mv_l82 82 (fun _ => 0)
def mv_r168 : Nat → Nat → Option Nat := va_up mv_r167 82 (fun _ => none)
def mm_192 : im_M := (83, true, mv_k83, mv_i107, mv_l83, mv_r168)
def mv_r169 : Nat → Nat → Option Nat := im_u2 mv_r168 71 28 (some 82)
def mm_193 : im_M := (83, true, mv_k83, mv_i107, mv_l83, mv_r169)
def mv_k84 : Nat → Nat × Nat := va_up mv_k83 83 (33, 200)
def mv_i108 : Nat → Nat → Int32 := va_up mv_i107 83 (fun _ => 0)
def mv_l84 : Nat → Nat → Int64 := va_up mv_l83 83 (fun _ => 0)
def mv_r170 : Nat → Nat → Option Nat := va_up mv_r169 83 (fun _ => none)
def mm_194 : im_M := (84, true, mv_k84, mv_i108, mv_l84, mv_r170)
def mv_r171 : Nat → Nat → Option Nat := im_u2 mv_r170 71 29 (some 83)
def mm_195 : im_M := (84, true, mv_k84, mv_i108, mv_l84, mv_r171)
def mv_k85 : Nat → Nat × Nat := va_up mv_k84 84 (33, 24200)
def mv_i109 : Nat → Nat → Int32 := va_up mv_i108 84 (fun _ => 0)
def mv_l85 : Nat → Nat → Int64 := va_up mv_l84 84 (fun _ => 0)
def mv_r172 : Nat → Nat → Option Nat := va_up mv_r171 84 (fun _ => none)
def mm_196 : im_M := (85, true, mv_k85, mv_i109, mv_l85, mv_r172)
def mv_r173 : Nat → Nat → Option Nat := im_u2 mv_r172 71 30 (some 84)
def mm_197 : im_M := (85, true, mv_k85, mv_i109, mv_l85, mv_r173)
def mv_k86 : Nat → Nat × Nat := va_up mv_k85 85 (33, 200)
def mv_i110 : Nat → Nat → Int32 := va_up mv_i109 85 (fun _ => 0)
def mv_l86 : Nat → Nat → Int64 := va_up mv_l85 85 (fun _ => 0)
def mv_r174 : Nat → Nat → Option Nat := va_up mv_r173 85 (fun _ => none)
def mm_198 : im_M := (86, true, mv_k86, mv_i110, mv_l86, mv_r174)
def mv_r175 : Nat → Nat → Option Nat := im_u2 mv_r174 71 31 (some 85)
def mm_199 : im_M := (86, true, mv_k86, mv_i110, mv_l86, mv_r175)
def mv_k87 : Nat → Nat × Nat := va_up mv_k86 86 (33, 48)
def mv_i111 : Nat → Nat → Int32 := va_up mv_i110 86 (fun _ => 0)
def mv_l87 : Nat → Nat → Int64 := va_up mv_l86 86 (fun _ => 0)
def mv_r176 : Nat → Nat → Option Nat := va_up mv_r175 86 (fun _ => none)
def mm_200 : im_M := (87, true, mv_k87, mv_i111, mv_l87, mv_r176)
def mv_r177 : Nat → Nat → Option Nat := im_u2 mv_r176 71 36 (some 86)
def mm_201 : im_M := (87, true, mv_k87, mv_i111, mv_l87, mv_r177)
def mv_k88 : Nat → Nat × Nat := va_up mv_k87 87 (33, 1080)
def mv_i112 : Nat → Nat → Int32 := va_up mv_i111 87 (fun _ => 0)
def mv_l88 : Nat → Nat → Int64 := va_up mv_l87 87 (fun _ => 0)
def mv_r178 : Nat → Nat → Option Nat := va_up mv_r177 87 (fun _ => none)
def mm_202 : im_M := (88, true, mv_k88, mv_i112, mv_l88, mv_r178)
def mv_r179 : Nat → Nat → Option Nat := im_u2 mv_r178 71 38 (some 87)
def mm_203 : im_M := (88, true, mv_k88, mv_i112, mv_l88, mv_r179)
def mv_k89 : Nat → Nat × Nat := va_up mv_k88 88 (33, 24000)
def mv_i113 : Nat → Nat → Int32 := va_up mv_i112 88 (fun _ => 0)
def mv_l89 : Nat → Nat → Int64 := va_up mv_l88 88 (fun _ => 0)
def mv_r180 : Nat → Nat → Option Nat := va_up mv_r179 88 (fun _ => none)
def mm_204 : im_M := (89, true, mv_k89, mv_i113, mv_l89, mv_r180)
def mv_r181 : Nat → Nat → Option Nat := im_u2 mv_r180 71 39 (some 88)
def mm_205 : im_M := (89, true, mv_k89, mv_i113, mv_l89, mv_r181)
def mv_r182 : Nat → Nat → Option Nat := im_u2 mv_r181 69 3 (some 71)
def mm_206 : im_M := (89, true, mv_k89, mv_i113, mv_l89, mv_r182)
def mv_k90 : Nat → Nat × Nat := va_up mv_k89 89 (12, 0)
def mv_i114 : Nat → Nat → Int32 := va_up mv_i113 89 (fun _ => 0)
def mv_l90 : Nat → Nat → Int64 := va_up mv_l89 89 (fun _ => 0)
def mv_r183 : Nat → Nat → Option Nat := va_up mv_r182 89 (fun _ => none)
def mm_207 : im_M := (90, true, mv_k90, mv_i114, mv_l90, mv_r183)
def mv_i115 : Nat → Nat → Int32 := im_u2 mv_i114 89 1 64
def mm_208 : im_M := (90, true, mv_k90, mv_i115, mv_l90, mv_r183)
def mv_i116 : Nat → Nat → Int32 := im_u2 mv_i115 89 2 64
def mm_209 : im_M := (90, true, mv_k90, mv_i116, mv_l90, mv_r183)
def mv_k91 : Nat → Nat × Nat := va_up mv_k90 90 (33, 32768)
def mv_i117 : Nat → Nat → Int32 := va_up mv_i116 90 (fun _ => 0)
def mv_l91 : Nat → Nat → Int64 := va_up mv_l90 90 (fun _ => 0)
def mv_r184 : Nat → Nat → Option Nat := va_up mv_r183 90 (fun _ => none)
def mm_210 : im_M := (91, true, mv_k91, mv_i117, mv_l91, mv_r184)
def mv_r185 : Nat → Nat → Option Nat := im_u2 mv_r184 89 4 (some 90)
def mm_211 : im_M := (91, true, mv_k91, mv_i117, mv_l91, mv_r185)
def mv_k92 : Nat → Nat × Nat := va_up mv_k91 91 (33, 32768)
def mv_i118 : Nat → Nat → Int32 := va_up mv_i117 91 (fun _ => 0)
def mv_l92 : Nat → Nat → Int64 := va_up mv_l91 91 (fun _ => 0)
def mv_r186 : Nat → Nat → Option Nat := va_up mv_r185 91 (fun _ => none)
def mm_212 : im_M := (92, true, mv_k92, mv_i118, mv_l92, mv_r186)
def mv_r187 : Nat → Nat → Option Nat := im_u2 mv_r186 89 5 (some 91)
def mm_213 : im_M := (92, true, mv_k92, mv_i118, mv_l92, mv_r187)
def mv_k93 : Nat → Nat × Nat := va_up mv_k92 92 (33, 4096)
def mv_i119 : Nat → Nat → Int32 := va_up mv_i118 92 (fun _ => 0)
def mv_l93 : Nat → Nat → Int64 := va_up mv_l92 92 (fun _ => 0)
def mv_r188 : Nat → Nat → Option Nat := va_up mv_r187 92 (fun _ => none)
def mm_214 : im_M := (93, true, mv_k93, mv_i119, mv_l93, mv_r188)
def mv_r189 : Nat → Nat → Option Nat := im_u2 mv_r188 89 6 (some 92)
def mm_215 : im_M := (93, true, mv_k93, mv_i119, mv_l93, mv_r189)
def mv_k94 : Nat → Nat × Nat := va_up mv_k93 93 (33, 12)
def mv_i120 : Nat → Nat → Int32 := va_up mv_i119 93 (fun _ => 0)
def mv_l94 : Nat → Nat → Int64 := va_up mv_l93 93 (fun _ => 0)
def mv_r190 : Nat → Nat → Option Nat := va_up mv_r189 93 (fun _ => none)
def mm_216 : im_M := (94, true, mv_k94, mv_i120, mv_l94, mv_r190)
def mv_i121 : Nat → Nat → Int32 := im_u2 mv_i120 93 0 8
def mm_217 : im_M := (94, true, mv_k94, mv_i121, mv_l94, mv_r190)
def mv_i122 : Nat → Nat → Int32 := im_u2 mv_i121 93 1 8
def mm_218 : im_M := (94, true, mv_k94, mv_i122, mv_l94, mv_r190)
def mv_i123 : Nat → Nat → Int32 := im_u2 mv_i122 93 2 0
def mm_219 : im_M := (94, true, mv_k94, mv_i123, mv_l94, mv_r190)
def mv_i124 : Nat → Nat → Int32 := im_u2 mv_i123 93 3 8
def mm_220 : im_M := (94, true, mv_k94, mv_i124, mv_l94, mv_r190)
def mv_i125 : Nat → Nat → Int32 := im_u2 mv_i124 93 4 8
def mm_221 : im_M := (94, true, mv_k94, mv_i125, mv_l94, mv_r190)
def mv_i126 : Nat → Nat → Int32 := im_u2 mv_i125 93 5 0
def mm_222 : im_M := (94, true, mv_k94, mv_i126, mv_l94, mv_r190)
def mv_i127 : Nat → Nat → Int32 := im_u2 mv_i126 93 6 8
def mm_223 : im_M := (94, true, mv_k94, mv_i127, mv_l94, mv_r190)
def mv_i128 : Nat → Nat → Int32 := im_u2 mv_i127 93 7 8
def mm_224 : im_M := (94, true, mv_k94, mv_i128, mv_l94, mv_r190)
def mv_i129 : Nat → Nat → Int32 := im_u2 mv_i128 93 8 0
def mm_225 : im_M := (94, true, mv_k94, mv_i129, mv_l94, mv_r190)
def mv_i130 : Nat → Nat → Int32 := im_u2 mv_i129 93 9 8
def mm_226 : im_M := (94, true, mv_k94, mv_i130, mv_l94, mv_r190)
def mv_i131 : Nat → Nat → Int32 := im_u2 mv_i130 93 10 8
def mm_227 : im_M := (94, true, mv_k94, mv_i131, mv_l94, mv_r190)
def mv_i132 : Nat → Nat → Int32 := im_u2 mv_i131 93 11 0
def mm_228 : im_M := (94, true, mv_k94, mv_i132, mv_l94, mv_r190)
def mv_r191 : Nat → Nat → Option Nat := im_u2 mv_r190 89 8 (some 93)
def mm_229 : im_M := (94, true, mv_k94, mv_i132, mv_l94, mv_r191)
def mv_k95 : Nat → Nat × Nat := va_up mv_k94 94 (33, 32768)
def mv_i133 : Nat → Nat → Int32 := va_up mv_i132 94 (fun _ => 0)
def mv_l95 : Nat → Nat → Int64 := va_up mv_l94 94 (fun _ => 0)
def mv_r192 : Nat → Nat → Option Nat := va_up mv_r191 94 (fun _ => none)
def mm_230 : im_M := (95, true, mv_k95, mv_i133, mv_l95, mv_r192)
def mv_r193 : Nat → Nat → Option Nat := im_u2 mv_r192 89 9 (some 94)
def mm_231 : im_M := (95, true, mv_k95, mv_i133, mv_l95, mv_r193)
def mv_k96 : Nat → Nat × Nat := va_up mv_k95 95 (36, 5200)
def mv_i134 : Nat → Nat → Int32 := va_up mv_i133 95 (fun _ => 0)
def mv_l96 : Nat → Nat → Int64 := va_up mv_l95 95 (fun _ => 0)
def mv_r194 : Nat → Nat → Option Nat := va_up mv_r193 95 (fun _ => none)
def mm_232 : im_M := (96, true, mv_k96, mv_i134, mv_l96, mv_r194)
def mv_r195 : Nat → Nat → Option Nat := im_u2 mv_r194 89 17 (some 95)
def mm_233 : im_M := (96, true, mv_k96, mv_i134, mv_l96, mv_r195)
def mv_r196 : Nat → Nat → Option Nat := im_u2 mv_r195 69 4 (some 89)
def mm_234 : im_M := (96, true, mv_k96, mv_i134, mv_l96, mv_r196)
def mv_k97 : Nat → Nat × Nat := va_up mv_k96 96 (13, 0)
def mv_i135 : Nat → Nat → Int32 := va_up mv_i134 96 (fun _ => 0)
def mv_l97 : Nat → Nat → Int64 := va_up mv_l96 96 (fun _ => 0)
def mv_r197 : Nat → Nat → Option Nat := va_up mv_r196 96 (fun _ => none)
def mm_235 : im_M := (97, true, mv_k97, mv_i135, mv_l97, mv_r197)
def mv_k98 : Nat → Nat × Nat := va_up mv_k97 97 (33, 106)
def mv_i136 : Nat → Nat → Int32 := va_up mv_i135 97 (fun _ => 0)
def mv_l98 : Nat → Nat → Int64 := va_up mv_l97 97 (fun _ => 0)
def mv_r198 : Nat → Nat → Option Nat := va_up mv_r197 97 (fun _ => none)
def mm_236 : im_M := (98, true, mv_k98, mv_i136, mv_l98, mv_r198)
def mv_i137 : Nat → Nat → Int32 := im_u2 mv_i136 97 0 212222
def mm_237 : im_M := (98, true, mv_k98, mv_i137, mv_l98, mv_r198)
def mv_i138 : Nat → Nat → Int32 := im_u2 mv_i137 97 1 222122
def mm_238 : im_M := (98, true, mv_k98, mv_i138, mv_l98, mv_r198)
def mv_i139 : Nat → Nat → Int32 := im_u2 mv_i138 97 2 222221
def mm_239 : im_M := (98, true, mv_k98, mv_i139, mv_l98, mv_r198)
def mv_i140 : Nat → Nat → Int32 := im_u2 mv_i139 97 3 121223
def mm_240 : im_M := (98, true, mv_k98, mv_i140, mv_l98, mv_r198)
def mv_i141 : Nat → Nat → Int32 := im_u2 mv_i140 97 4 121322
def mm_241 : im_M := (98, true, mv_k98, mv_i141, mv_l98, mv_r198)
def mv_i142 : Nat → Nat → Int32 := im_u2 mv_i141 97 5 131222
def mm_242 : im_M := (98, true, mv_k98, mv_i142, mv_l98, mv_r198)
def mv_i143 : Nat → Nat → Int32 := im_u2 mv_i142 97 6 122213
def mm_243 : im_M := (98, true, mv_k98, mv_i143, mv_l98, mv_r198)
def mv_i144 : Nat → Nat → Int32 := im_u2 mv_i143 97 7 122312
def mm_244 : im_M := (98, true, mv_k98, mv_i144, mv_l98, mv_r198)
def mv_i145 : Nat → Nat → Int32 := im_u2 mv_i144 97 8 132212
def mm_245 : im_M := (98, true, mv_k98, mv_i145, mv_l98, mv_r198)
def mv_i146 : Nat → Nat → Int32 := im_u2 mv_i145 97 9 221213
def mm_246 : im_M := (98, true, mv_k98, mv_i146, mv_l98, mv_r198)
def mv_i147 : Nat → Nat → Int32 := im_u2 mv_i146 97 10 221312
def mm_247 : im_M := (98, true, mv_k98, mv_i147, mv_l98, mv_r198)
def mv_i148 : Nat → Nat → Int32 := im_u2 mv_i147 97 11 231212
def mm_248 : im_M := (98, true, mv_k98, mv_i148, mv_l98, mv_r198)
def mv_i149 : Nat → Nat → Int32 := im_u2 mv_i148 97 12 112232
def mm_249 : im_M := (98, true, mv_k98, mv_i149, mv_l98, mv_r198)
def mv_i150 : Nat → Nat → Int32 := im_u2 mv_i149 97 13 122132
def mm_250 : im_M := (98, true, mv_k98, mv_i150, mv_l98, mv_r198)
def mv_i151 : Nat → Nat → Int32 := im_u2 mv_i150 97 14 122231
def mm_251 : im_M := (98, true, mv_k98, mv_i151, mv_l98, mv_r198)
def mv_i152 : Nat → Nat → Int32 := im_u2 mv_i151 97 15 113222
def mm_252 : im_M := (98, true, mv_k98, mv_i152, mv_l98, mv_r198)
def mv_i153 : Nat → Nat → Int32 := im_u2 mv_i152 97 16 123122
def mm_253 : im_M := (98, true, mv_k98, mv_i153, mv_l98, mv_r198)
def mv_i154 : Nat → Nat → Int32 := im_u2 mv_i153 97 17 123221
def mm_254 : im_M := (98, true, mv_k98, mv_i154, mv_l98, mv_r198)
def mv_i155 : Nat → Nat → Int32 := im_u2 mv_i154 97 18 223211
def mm_255 : im_M := (98, true, mv_k98, mv_i155, mv_l98, mv_r198)
def mv_i156 : Nat → Nat → Int32 := im_u2 mv_i155 97 19 221132
def mm_256 : im_M := (98, true, mv_k98, mv_i156, mv_l98, mv_r198)
def mv_i157 : Nat → Nat → Int32 := im_u2 mv_i156 97 20 221231
def mm_257 : im_M := (98, true, mv_k98, mv_i157, mv_l98, mv_r198)
def mv_i158 : Nat → Nat → Int32 := im_u2 mv_i157 97 21 213212
def mm_258 : im_M := (98, true, mv_k98, mv_i158, mv_l98, mv_r198)
def mv_i159 : Nat → Nat → Int32 := im_u2 mv_i158 97 22 223112
def mm_259 : im_M := (98, true, mv_k98, mv_i159, mv_l98, mv_r198)
def mv_i160 : Nat → Nat → Int32 := im_u2 mv_i159 97 23 312131
def mm_260 : im_M := (98, true, mv_k98, mv_i160, mv_l98, mv_r198)
def mv_i161 : Nat → Nat → Int32 := im_u2 mv_i160 97 24 311222
def mm_261 : im_M := (98, true, mv_k98, mv_i161, mv_l98, mv_r198)
def mv_i162 : Nat → Nat → Int32 := im_u2 mv_i161 97 25 321122
def mm_262 : im_M := (98, true, mv_k98, mv_i162, mv_l98, mv_r198)
def mv_i163 : Nat → Nat → Int32 := im_u2 mv_i162 97 26 321221
def mm_263 : im_M := (98, true, mv_k98, mv_i163, mv_l98, mv_r198)
def mv_i164 : Nat → Nat → Int32 := im_u2 mv_i163 97 27 312212
def mm_264 : im_M := (98, true, mv_k98, mv_i164, mv_l98, mv_r198)
def mv_i165 : Nat → Nat → Int32 := im_u2 mv_i164 97 28 322112
def mm_265 : im_M := (98, true, mv_k98, mv_i165, mv_l98, mv_r198)
def mv_i166 : Nat → Nat → Int32 := im_u2 mv_i165 97 29 322211
def mm_266 : im_M := (98, true, mv_k98, mv_i166, mv_l98, mv_r198)
def mv_i167 : Nat → Nat → Int32 := im_u2 mv_i166 97 30 212123
def mm_267 : im_M := (98, true, mv_k98, mv_i167, mv_l98, mv_r198)
def mv_i168 : Nat → Nat → Int32 := im_u2 mv_i167 97 31 212321
def mm_268 : im_M := (98, true, mv_k98, mv_i168, mv_l98, mv_r198)
def mv_i169 : Nat → Nat → Int32 := im_u2 mv_i168 97 32 232121
def mm_269 : im_M := (98, true, mv_k98, mv_i169, mv_l98, mv_r198)
def mv_i170 : Nat → Nat → Int32 := im_u2 mv_i169 97 33 111323
def mm_270 : im_M := (98, true, mv_k98, mv_i170, mv_l98, mv_r198)
def mv_i171 : Nat → Nat → Int32 := im_u2 mv_i170 97 34 131123
def mm_271 : im_M := (98, true, mv_k98, mv_i171, mv_l98, mv_r198)
def mv_i172 : Nat → Nat → Int32 := im_u2 mv_i171 97 35 131321
def mm_272 : im_M := (98, true, mv_k98, mv_i172, mv_l98, mv_r198)
def mv_i173 : Nat → Nat → Int32 := im_u2 mv_i172 97 36 112313
def mm_273 : im_M := (98, true, mv_k98, mv_i173, mv_l98, mv_r198)
def mv_i174 : Nat → Nat → Int32 := im_u2 mv_i173 97 37 132113
def mm_274 : im_M := (98, true, mv_k98, mv_i174, mv_l98, mv_r198)
def mv_i175 : Nat → Nat → Int32 := im_u2 mv_i174 97 38 132311
def mm_275 : im_M := (98, true, mv_k98, mv_i175, mv_l98, mv_r198)
def mv_i176 : Nat → Nat → Int32 := im_u2 mv_i175 97 39 211313
def mm_276 : im_M := (98, true, mv_k98, mv_i176, mv_l98, mv_r198)
def mv_i177 : Nat → Nat → Int32 := im_u2 mv_i176 97 40 231113
def mm_277 : im_M := (98, true, mv_k98, mv_i177, mv_l98, mv_r198)
def mv_i178 : Nat → Nat → Int32 := im_u2 mv_i177 97 41 231311
def mm_278 : im_M := (98, true, mv_k98, mv_i178, mv_l98, mv_r198)
def mv_i179 : Nat → Nat → Int32 := im_u2 mv_i178 97 42 112133
def mm_279 : im_M := (98, true, mv_k98, mv_i179, mv_l98, mv_r198)
def mv_i180 : Nat → Nat → Int32 := im_u2 mv_i179 97 43 112331
def mm_280 : im_M := (98, true, mv_k98, mv_i180, mv_l98, mv_r198)
def mv_i181 : Nat → Nat → Int32 := im_u2 mv_i180 97 44 132131
def mm_281 : im_M := (98, true, mv_k98, mv_i181, mv_l98, mv_r198)
def mv_i182 : Nat → Nat → Int32 := im_u2 mv_i181 97 45 113123
def mm_282 : im_M := (98, true, mv_k98, mv_i182, mv_l98, mv_r198)
def mv_i183 : Nat → Nat → Int32 := im_u2 mv_i182 97 46 113321
def mm_283 : im_M := (98, true, mv_k98, mv_i183, mv_l98, mv_r198)
def mv_i184 : Nat → Nat → Int32 := im_u2 mv_i183 97 47 133121
def mm_284 : im_M := (98, true, mv_k98, mv_i184, mv_l98, mv_r198)
def mv_i185 : Nat → Nat → Int32 := im_u2 mv_i184 97 48 313121
def mm_285 : im_M := (98, true, mv_k98, mv_i185, mv_l98, mv_r198)
def mv_i186 : Nat → Nat → Int32 := im_u2 mv_i185 97 49 211331
def mm_286 : im_M := (98, true, mv_k98, mv_i186, mv_l98, mv_r198)
def mv_i187 : Nat → Nat → Int32 := im_u2 mv_i186 97 50 231131
def mm_287 : im_M := (98, true, mv_k98, mv_i187, mv_l98, mv_r198)
def mv_i188 : Nat → Nat → Int32 := im_u2 mv_i187 97 51 213113
def mm_288 : im_M := (98, true, mv_k98, mv_i188, mv_l98, mv_r198)
def mv_i189 : Nat → Nat → Int32 := im_u2 mv_i188 97 52 213311
def mm_289 : im_M := (98, true, mv_k98, mv_i189, mv_l98, mv_r198)
def mv_i190 : Nat → Nat → Int32 := im_u2 mv_i189 97 53 213131
def mm_290 : im_M := (98, true, mv_k98, mv_i190, mv_l98, mv_r198)
def mv_i191 : Nat → Nat → Int32 := im_u2 mv_i190 97 54 311123
def mm_291 : im_M := (98, true, mv_k98, mv_i191, mv_l98, mv_r198)
def mv_i192 : Nat → Nat → Int32 := im_u2 mv_i191 97 55 311321
def mm_292 : im_M := (98, true, mv_k98, mv_i192, mv_l98, mv_r198)
def mv_i193 : Nat → Nat → Int32 := im_u2 mv_i192 97 56 331121
def mm_293 : im_M := (98, true, mv_k98, mv_i193, mv_l98, mv_r198)
def mv_i194 : Nat → Nat → Int32 := im_u2 mv_i193 97 57 312113
def mm_294 : im_M := (98, true, mv_k98, mv_i194, mv_l98, mv_r198)
def mv_i195 : Nat → Nat → Int32 := im_u2 mv_i194 97 58 312311
def mm_295 : im_M := (98, true, mv_k98, mv_i195, mv_l98, mv_r198)
def mv_i196 : Nat → Nat → Int32 := im_u2 mv_i195 97 59 332111
def mm_296 : im_M := (98, true, mv_k98, mv_i196, mv_l98, mv_r198)
def mv_i197 : Nat → Nat → Int32 := im_u2 mv_i196 97 60 314111
def mm_297 : im_M := (98, true, mv_k98, mv_i197, mv_l98, mv_r198)
def mv_i198 : Nat → Nat → Int32 := im_u2 mv_i197 97 61 221411
def mm_298 : im_M := (98, true, mv_k98, mv_i198, mv_l98, mv_r198)
def mv_i199 : Nat → Nat → Int32 := im_u2 mv_i198 97 62 431111
def mm_299 : im_M := (98, true, mv_k98, mv_i199, mv_l98, mv_r198)
def mv_i200 : Nat → Nat → Int32 := im_u2 mv_i199 97 63 111224
def mm_300 : im_M := (98, true, mv_k98, mv_i200, mv_l98, mv_r198)
def mv_i201 : Nat → Nat → Int32 := im_u2 mv_i200 97 64 111422
def mm_301 : im_M := (98, true, mv_k98, mv_i201, mv_l98, mv_r198)
def mv_i202 : Nat → Nat → Int32 := im_u2 mv_i201 97 65 121124
def mm_302 : im_M := (98, true, mv_k98, mv_i202, mv_l98, mv_r198)
def mv_i203 : Nat → Nat → Int32 := im_u2 mv_i202 97 66 121421
def mm_303 : im_M := (98, true, mv_k98, mv_i203, mv_l98, mv_r198)
def mv_i204 : Nat → Nat → Int32 := im_u2 mv_i203 97 67 141122
def mm_304 : im_M := (98, true, mv_k98, mv_i204, mv_l98, mv_r198)
def mv_i205 : Nat → Nat → Int32 := im_u2 mv_i204 97 68 141221
def mm_305 : im_M := (98, true, mv_k98, mv_i205, mv_l98, mv_r198)
def mv_i206 : Nat → Nat → Int32 := im_u2 mv_i205 97 69 112214
def mm_306 : im_M := (98, true, mv_k98, mv_i206, mv_l98, mv_r198)
def mv_i207 : Nat → Nat → Int32 := im_u2 mv_i206 97 70 112412
def mm_307 : im_M := (98, true, mv_k98, mv_i207, mv_l98, mv_r198)
def mv_i208 : Nat → Nat → Int32 := im_u2 mv_i207 97 71 122114
def mm_308 : im_M := (98, true, mv_k98, mv_i208, mv_l98, mv_r198)
def mv_i209 : Nat → Nat → Int32 := im_u2 mv_i208 97 72 122411
def mm_309 : im_M := (98, true, mv_k98, mv_i209, mv_l98, mv_r198)
def mv_i210 : Nat → Nat → Int32 := im_u2 mv_i209 97 73 142112
def mm_310 : im_M := (98, true, mv_k98, mv_i210, mv_l98, mv_r198)
def mv_i211 : Nat → Nat → Int32 := im_u2 mv_i210 97 74 142211
def mm_311 : im_M := (98, true, mv_k98, mv_i211, mv_l98, mv_r198)
def mv_i212 : Nat → Nat → Int32 := im_u2 mv_i211 97 75 241211
def mm_312 : im_M := (98, true, mv_k98, mv_i212, mv_l98, mv_r198)
def mv_i213 : Nat → Nat → Int32 := im_u2 mv_i212 97 76 221114
def mm_313 : im_M := (98, true, mv_k98, mv_i213, mv_l98, mv_r198)
def mv_i214 : Nat → Nat → Int32 := im_u2 mv_i213 97 77 413111
def mm_314 : im_M := (98, true, mv_k98, mv_i214, mv_l98, mv_r198)
def mv_i215 : Nat → Nat → Int32 := im_u2 mv_i214 97 78 241112
def mm_315 : im_M := (98, true, mv_k98, mv_i215, mv_l98, mv_r198)
def mv_i216 : Nat → Nat → Int32 := im_u2 mv_i215 97 79 134111
def mm_316 : im_M := (98, true, mv_k98, mv_i216, mv_l98, mv_r198)
def mv_i217 : Nat → Nat → Int32 := im_u2 mv_i216 97 80 111242
def mm_317 : im_M := (98, true, mv_k98, mv_i217, mv_l98, mv_r198)
def mv_i218 : Nat → Nat → Int32 := im_u2 mv_i217 97 81 121142
def mm_318 : im_M := (98, true, mv_k98, mv_i218, mv_l98, mv_r198)
def mv_i219 : Nat → Nat → Int32 := im_u2 mv_i218 97 82 121241
def mm_319 : im_M := (98, true, mv_k98, mv_i219, mv_l98, mv_r198)
def mv_i220 : Nat → Nat → Int32 := im_u2 mv_i219 97 83 114212
def mm_320 : im_M := (98, true, mv_k98, mv_i220, mv_l98, mv_r198)
def mv_i221 : Nat → Nat → Int32 := im_u2 mv_i220 97 84 124112
def mm_321 : im_M := (98, true, mv_k98, mv_i221, mv_l98, mv_r198)
def mv_i222 : Nat → Nat → Int32 := im_u2 mv_i221 97 85 124211
def mm_322 : im_M := (98, true, mv_k98, mv_i222, mv_l98, mv_r198)
def mv_i223 : Nat → Nat → Int32 := im_u2 mv_i222 97 86 411212
def mm_323 : im_M := (98, true, mv_k98, mv_i223, mv_l98, mv_r198)
def mv_i224 : Nat → Nat → Int32 := im_u2 mv_i223 97 87 421112
def mm_324 : im_M := (98, true, mv_k98, mv_i224, mv_l98, mv_r198)
def mv_i225 : Nat → Nat → Int32 := im_u2 mv_i224 97 88 421211
def mm_325 : im_M := (98, true, mv_k98, mv_i225, mv_l98, mv_r198)
def mv_i226 : Nat → Nat → Int32 := im_u2 mv_i225 97 89 212141
def mm_326 : im_M := (98, true, mv_k98, mv_i226, mv_l98, mv_r198)
def mv_i227 : Nat → Nat → Int32 := im_u2 mv_i226 97 90 214121
def mm_327 : im_M := (98, true, mv_k98, mv_i227, mv_l98, mv_r198)
def mv_i228 : Nat → Nat → Int32 := im_u2 mv_i227 97 91 412121
def mm_328 : im_M := (98, true, mv_k98, mv_i228, mv_l98, mv_r198)
def mv_i229 : Nat → Nat → Int32 := im_u2 mv_i228 97 92 111143
def mm_329 : im_M := (98, true, mv_k98, mv_i229, mv_l98, mv_r198)
def mv_i230 : Nat → Nat → Int32 := im_u2 mv_i229 97 93 111341
def mm_330 : im_M := (98, true, mv_k98, mv_i230, mv_l98, mv_r198)
def mv_i231 : Nat → Nat → Int32 := im_u2 mv_i230 97 94 131141
def mm_331 : im_M := (98, true, mv_k98, mv_i231, mv_l98, mv_r198)
def mv_i232 : Nat → Nat → Int32 := im_u2 mv_i231 97 95 114113
def mm_332 : im_M := (98, true, mv_k98, mv_i232, mv_l98, mv_r198)
def mv_i233 : Nat → Nat → Int32 := im_u2 mv_i232 97 96 114311
def mm_333 : im_M := (98, true, mv_k98, mv_i233, mv_l98, mv_r198)
def mv_i234 : Nat → Nat → Int32 := im_u2 mv_i233 97 97 411113
def mm_334 : im_M := (98, true, mv_k98, mv_i234, mv_l98, mv_r198)
def mv_i235 : Nat → Nat → Int32 := im_u2 mv_i234 97 98 411311
def mm_335 : im_M := (98, true, mv_k98, mv_i235, mv_l98, mv_r198)
def mv_i236 : Nat → Nat → Int32 := im_u2 mv_i235 97 99 113141
def mm_336 : im_M := (98, true, mv_k98, mv_i236, mv_l98, mv_r198)
def mv_i237 : Nat → Nat → Int32 := im_u2 mv_i236 97 100 114131
def mm_337 : im_M := (98, true, mv_k98, mv_i237, mv_l98, mv_r198)
def mv_i238 : Nat → Nat → Int32 := im_u2 mv_i237 97 101 311141
def mm_338 : im_M := (98, true, mv_k98, mv_i238, mv_l98, mv_r198)
def mv_i239 : Nat → Nat → Int32 := im_u2 mv_i238 97 102 411131
def mm_339 : im_M := (98, true, mv_k98, mv_i239, mv_l98, mv_r198)
def mv_i240 : Nat → Nat → Int32 := im_u2 mv_i239 97 103 211412
def mm_340 : im_M := (98, true, mv_k98, mv_i240, mv_l98, mv_r198)
def mv_i241 : Nat → Nat → Int32 := im_u2 mv_i240 97 104 211214
def mm_341 : im_M := (98, true, mv_k98, mv_i241, mv_l98, mv_r198)
def mv_i242 : Nat → Nat → Int32 := im_u2 mv_i241 97 105 211232
def mm_342 : im_M := (98, true, mv_k98, mv_i242, mv_l98, mv_r198)
def mv_r199 : Nat → Nat → Option Nat := im_u2 mv_r198 96 0 (some 97)
def mm_343 : im_M := (98, true, mv_k98, mv_i242, mv_l98, mv_r199)
def mv_k99 : Nat → Nat × Nat := va_up mv_k98 98 (33, 10)
def mv_i243 : Nat → Nat → Int32 := va_up mv_i242 98 (fun _ => 0)
def mv_l99 : Nat → Nat → Int64 := va_up mv_l98 98 (fun _ => 0)
def mv_r200 : Nat → Nat → Option Nat := va_up mv_r199 98 (fun _ => none)
def mm_344 : im_M := (99, true, mv_k99, mv_i243, mv_l99, mv_r200)
def mv_i244 : Nat → Nat → Int32 := im_u2 mv_i243 98 0 3211
def mm_345 : im_M := (99, true, mv_k99, mv_i244, mv_l99, mv_r200)
def mv_i245 : Nat → Nat → Int32 := im_u2 mv_i244 98 1 2221
def mm_346 : im_M := (99, true, mv_k99, mv_i245, mv_l99, mv_r200)
def mv_i246 : Nat → Nat → Int32 := im_u2 mv_i245 98 2 2122
def mm_347 : im_M := (99, true, mv_k99, mv_i246, mv_l99, mv_r200)
def mv_i247 : Nat → Nat → Int32 := im_u2 mv_i246 98 3 1411
def mm_348 : im_M := (99, true, mv_k99, mv_i247, mv_l99, mv_r200)
def mv_i248 : Nat → Nat → Int32 := im_u2 mv_i247 98 4 1132
def mm_349 : im_M := (99, true, mv_k99, mv_i248, mv_l99, mv_r200)
def mv_i249 : Nat → Nat → Int32 := im_u2 mv_i248 98 5 1231
def mm_350 : im_M := (99, true, mv_k99, mv_i249, mv_l99, mv_r200)
def mv_i250 : Nat → Nat → Int32 := im_u2 mv_i249 98 6 1114
def mm_351 : im_M := (99, true, mv_k99, mv_i250, mv_l99, mv_r200)
def mv_i251 : Nat → Nat → Int32 := im_u2 mv_i250 98 7 1312
def mm_352 : im_M := (99, true, mv_k99, mv_i251, mv_l99, mv_r200)
def mv_i252 : Nat → Nat → Int32 := im_u2 mv_i251 98 8 1213
def mm_353 : im_M := (99, true, mv_k99, mv_i252, mv_l99, mv_r200)
def mv_i253 : Nat → Nat → Int32 := im_u2 mv_i252 98 9 3112
def mm_354 : im_M := (99, true, mv_k99, mv_i253, mv_l99, mv_r200)
def mv_r201 : Nat → Nat → Option Nat := im_u2 mv_r200 96 1 (some 98)
def mm_355 : im_M := (99, true, mv_k99, mv_i253, mv_l99, mv_r201)
def mv_k100 : Nat → Nat × Nat := va_up mv_k99 99 (33, 10)
def mv_i254 : Nat → Nat → Int32 := va_up mv_i253 99 (fun _ => 0)
def mv_l100 : Nat → Nat → Int64 := va_up mv_l99 99 (fun _ => 0)
def mv_r202 : Nat → Nat → Option Nat := va_up mv_r201 99 (fun _ => none)
def mm_356 : im_M := (100, true, mv_k100, mv_i254, mv_l100, mv_r202)
def mv_i255 : Nat → Nat → Int32 := im_u2 mv_i254 99 0 0
def mm_357 : im_M := (100, true, mv_k100, mv_i255, mv_l100, mv_r202)
def mv_i256 : Nat → Nat → Int32 := im_u2 mv_i255 99 1 11
def mm_358 : im_M := (100, true, mv_k100, mv_i256, mv_l100, mv_r202)
def mv_i257 : Nat → Nat → Int32 := im_u2 mv_i256 99 2 13
def mm_359 : im_M := (100, true, mv_k100, mv_i257, mv_l100, mv_r202)
def mv_i258 : Nat → Nat → Int32 := im_u2 mv_i257 99 3 14
def mm_360 : im_M := (100, true, mv_k100, mv_i258, mv_l100, mv_r202)
def mv_i259 : Nat → Nat → Int32 := im_u2 mv_i258 99 4 19
def mm_361 : im_M := (100, true, mv_k100, mv_i259, mv_l100, mv_r202)
def mv_i260 : Nat → Nat → Int32 := im_u2 mv_i259 99 5 25
def mm_362 : im_M := (100, true, mv_k100, mv_i260, mv_l100, mv_r202)
def mv_i261 : Nat → Nat → Int32 := im_u2 mv_i260 99 6 28
def mm_363 : im_M := (100, true, mv_k100, mv_i261, mv_l100, mv_r202)
def mv_i262 : Nat → Nat → Int32 := im_u2 mv_i261 99 7 21
def mm_364 : im_M := (100, true, mv_k100, mv_i262, mv_l100, mv_r202)
def mv_i263 : Nat → Nat → Int32 := im_u2 mv_i262 99 8 22
def mm_365 : im_M := (100, true, mv_k100, mv_i263, mv_l100, mv_r202)
def mv_i264 : Nat → Nat → Int32 := im_u2 mv_i263 99 9 26
def mm_366 : im_M := (100, true, mv_k100, mv_i264, mv_l100, mv_r202)
def mv_r203 : Nat → Nat → Option Nat := im_u2 mv_r202 96 2 (some 99)
def mm_367 : im_M := (100, true, mv_k100, mv_i264, mv_l100, mv_r203)
def mv_k101 : Nat → Nat × Nat := va_up mv_k100 100 (33, 64)
def mv_i265 : Nat → Nat → Int32 := va_up mv_i264 100 (fun _ => 0)
def mv_l101 : Nat → Nat → Int64 := va_up mv_l100 100 (fun _ => 0)
def mv_r204 : Nat → Nat → Option Nat := va_up mv_r203 100 (fun _ => none)
def mm_368 : im_M := (101, true, mv_k101, mv_i265, mv_l101, mv_r204)
def mv_r205 : Nat → Nat → Option Nat := im_u2 mv_r204 96 4 (some 100)
def mm_369 : im_M := (101, true, mv_k101, mv_i265, mv_l101, mv_r205)
def mv_k102 : Nat → Nat × Nat := va_up mv_k101 101 (33, 198)
def mv_i266 : Nat → Nat → Int32 := va_up mv_i265 101 (fun _ => 0)
def mv_l102 : Nat → Nat → Int64 := va_up mv_l101 101 (fun _ => 0)
def mv_r206 : Nat → Nat → Option Nat := va_up mv_r205 101 (fun _ => none)
def mm_370 : im_M := (102, true, mv_k102, mv_i266, mv_l102, mv_r206)
def mv_r207 : Nat → Nat → Option Nat := im_u2 mv_r206 96 6 (some 101)
def mm_371 : im_M := (102, true, mv_k102, mv_i266, mv_l102, mv_r207)
def mv_k103 : Nat → Nat × Nat := va_up mv_k102 102 (33, 200)
def mv_i267 : Nat → Nat → Int32 := va_up mv_i266 102 (fun _ => 0)
def mv_l103 : Nat → Nat → Int64 := va_up mv_l102 102 (fun _ => 0)
def mv_r208 : Nat → Nat → Option Nat := va_up mv_r207 102 (fun _ => none)
def mm_372 : im_M := (103, true, mv_k103, mv_i267, mv_l103, mv_r208)
def mv_r209 : Nat → Nat → Option Nat := im_u2 mv_r208 96 7 (some 102)
def mm_373 : im_M := (103, true, mv_k103, mv_i267, mv_l103, mv_r209)
def mv_k104 : Nat → Nat × Nat := va_up mv_k103 103 (33, 800)
def mv_i268 : Nat → Nat → Int32 := va_up mv_i267 103 (fun _ => 0)
def mv_l104 : Nat → Nat → Int64 := va_up mv_l103 103 (fun _ => 0)
def mv_r210 : Nat → Nat → Option Nat := va_up mv_r209 103 (fun _ => none)
def mm_374 : im_M := (104, true, mv_k104, mv_i268, mv_l104, mv_r210)
def mv_r211 : Nat → Nat → Option Nat := im_u2 mv_r210 96 9 (some 103)
def mm_375 : im_M := (104, true, mv_k104, mv_i268, mv_l104, mv_r211)
def mv_k105 : Nat → Nat × Nat := va_up mv_k104 104 (33, 800)
def mv_i269 : Nat → Nat → Int32 := va_up mv_i268 104 (fun _ => 0)
def mv_l105 : Nat → Nat → Int64 := va_up mv_l104 104 (fun _ => 0)
def mv_r212 : Nat → Nat → Option Nat := va_up mv_r211 104 (fun _ => none)
def mm_376 : im_M := (105, true, mv_k105, mv_i269, mv_l105, mv_r212)
def mv_r213 : Nat → Nat → Option Nat := im_u2 mv_r212 96 11 (some 104)
def mm_377 : im_M := (105, true, mv_k105, mv_i269, mv_l105, mv_r213)
def mv_k106 : Nat → Nat × Nat := va_up mv_k105 105 (33, 140)
def mv_i270 : Nat → Nat → Int32 := va_up mv_i269 105 (fun _ => 0)
def mv_l106 : Nat → Nat → Int64 := va_up mv_l105 105 (fun _ => 0)
def mv_r214 : Nat → Nat → Option Nat := va_up mv_r213 105 (fun _ => none)
def mm_378 : im_M := (106, true, mv_k106, mv_i270, mv_l106, mv_r214)
def mv_r215 : Nat → Nat → Option Nat := im_u2 mv_r214 96 12 (some 105)
def mm_379 : im_M := (106, true, mv_k106, mv_i270, mv_l106, mv_r215)
def mv_k107 : Nat → Nat × Nat := va_up mv_k106 106 (33, 300)
def mv_i271 : Nat → Nat → Int32 := va_up mv_i270 106 (fun _ => 0)
def mv_l107 : Nat → Nat → Int64 := va_up mv_l106 106 (fun _ => 0)
def mv_r216 : Nat → Nat → Option Nat := va_up mv_r215 106 (fun _ => none)
def mm_380 : im_M := (107, true, mv_k107, mv_i271, mv_l107, mv_r216)
def mv_r217 : Nat → Nat → Option Nat := im_u2 mv_r216 96 13 (some 106)
def mm_381 : im_M := (107, true, mv_k107, mv_i271, mv_l107, mv_r217)
def mv_k108 : Nat → Nat × Nat := va_up mv_k107 107 (33, 300)
def mv_i272 : Nat → Nat → Int32 := va_up mv_i271 107 (fun _ => 0)
def mv_l108 : Nat → Nat → Int64 := va_up mv_l107 107 (fun _ => 0)
def mv_r218 : Nat → Nat → Option Nat := va_up mv_r217 107 (fun _ => none)
def mm_382 : im_M := (108, true, mv_k108, mv_i272, mv_l108, mv_r218)
def mv_r219 : Nat → Nat → Option Nat := im_u2 mv_r218 96 16 (some 107)
def mm_383 : im_M := (108, true, mv_k108, mv_i272, mv_l108, mv_r219)
def mv_r220 : Nat → Nat → Option Nat := im_u2 mv_r219 69 5 (some 96)
def mm_384 : im_M := (108, true, mv_k108, mv_i272, mv_l108, mv_r220)
def mv_k109 : Nat → Nat × Nat := va_up mv_k108 108 (16, 0)
def mv_i273 : Nat → Nat → Int32 := va_up mv_i272 108 (fun _ => 0)
def mv_l109 : Nat → Nat → Int64 := va_up mv_l108 108 (fun _ => 0)
def mv_r221 : Nat → Nat → Option Nat := va_up mv_r220 108 (fun _ => none)
def mm_385 : im_M := (109, true, mv_k109, mv_i273, mv_l109, mv_r221)
def mv_k110 : Nat → Nat × Nat := va_up mv_k109 109 (33, 160)
def mv_i274 : Nat → Nat → Int32 := va_up mv_i273 109 (fun _ => 0)
def mv_l110 : Nat → Nat → Int64 := va_up mv_l109 109 (fun _ => 0)
def mv_r222 : Nat → Nat → Option Nat := va_up mv_r221 109 (fun _ => none)
def mm_386 : im_M := (110, true, mv_k110, mv_i274, mv_l110, mv_r222)
def mv_i275 : Nat → Nat → Int32 := im_u2 mv_i274 109 0 7
def mm_387 : im_M := (110, true, mv_k110, mv_i275, mv_l110, mv_r222)
def mv_i276 : Nat → Nat → Int32 := im_u2 mv_i275 109 1 10
def mm_388 : im_M := (110, true, mv_k110, mv_i276, mv_l110, mv_r222)
def mv_i277 : Nat → Nat → Int32 := im_u2 mv_i276 109 2 15
def mm_389 : im_M := (110, true, mv_k110, mv_i277, mv_l110, mv_r222)
def mv_i278 : Nat → Nat → Int32 := im_u2 mv_i277 109 3 20
def mm_390 : im_M := (110, true, mv_k110, mv_i278, mv_l110, mv_r222)
def mv_i279 : Nat → Nat → Int32 := im_u2 mv_i278 109 4 26
def mm_391 : im_M := (110, true, mv_k110, mv_i279, mv_l110, mv_r222)
def mv_i280 : Nat → Nat → Int32 := im_u2 mv_i279 109 5 18
def mm_392 : im_M := (110, true, mv_k110, mv_i280, mv_l110, mv_r222)
def mv_i281 : Nat → Nat → Int32 := im_u2 mv_i280 109 6 20
def mm_393 : im_M := (110, true, mv_k110, mv_i281, mv_l110, mv_r222)
def mv_i282 : Nat → Nat → Int32 := im_u2 mv_i281 109 7 24
def mm_394 : im_M := (110, true, mv_k110, mv_i282, mv_l110, mv_r222)
def mv_i283 : Nat → Nat → Int32 := im_u2 mv_i282 109 8 30
def mm_395 : im_M := (110, true, mv_k110, mv_i283, mv_l110, mv_r222)
def mv_i284 : Nat → Nat → Int32 := im_u2 mv_i283 109 9 18
def mm_396 : im_M := (110, true, mv_k110, mv_i284, mv_l110, mv_r222)
def mv_i285 : Nat → Nat → Int32 := im_u2 mv_i284 109 10 20
def mm_397 : im_M := (110, true, mv_k110, mv_i285, mv_l110, mv_r222)
def mv_i286 : Nat → Nat → Int32 := im_u2 mv_i285 109 11 24
def mm_398 : im_M := (110, true, mv_k110, mv_i286, mv_l110, mv_r222)
def mv_i287 : Nat → Nat → Int32 := im_u2 mv_i286 109 12 26
def mm_399 : im_M := (110, true, mv_k110, mv_i287, mv_l110, mv_r222)
def mv_i288 : Nat → Nat → Int32 := im_u2 mv_i287 109 13 30
def mm_400 : im_M := (110, true, mv_k110, mv_i288, mv_l110, mv_r222)
def mv_i289 : Nat → Nat → Int32 := im_u2 mv_i288 109 14 22
def mm_401 : im_M := (110, true, mv_k110, mv_i289, mv_l110, mv_r222)
def mv_i290 : Nat → Nat → Int32 := im_u2 mv_i289 109 15 24
def mm_402 : im_M := (110, true, mv_k110, mv_i290, mv_l110, mv_r222)
def mv_i291 : Nat → Nat → Int32 := im_u2 mv_i290 109 16 28
def mm_403 : im_M := (110, true, mv_k110, mv_i291, mv_l110, mv_r222)
def mv_i292 : Nat → Nat → Int32 := im_u2 mv_i291 109 17 30
def mm_404 : im_M := (110, true, mv_k110, mv_i292, mv_l110, mv_r222)
def mv_i293 : Nat → Nat → Int32 := im_u2 mv_i292 109 18 28
def mm_405 : im_M := (110, true, mv_k110, mv_i293, mv_l110, mv_r222)
def mv_i294 : Nat → Nat → Int32 := im_u2 mv_i293 109 19 28
def mm_406 : im_M := (110, true, mv_k110, mv_i294, mv_l110, mv_r222)
def mv_i295 : Nat → Nat → Int32 := im_u2 mv_i294 109 20 28
def mm_407 : im_M := (110, true, mv_k110, mv_i295, mv_l110, mv_r222)
def mv_i296 : Nat → Nat → Int32 := im_u2 mv_i295 109 21 28
def mm_408 : im_M := (110, true, mv_k110, mv_i296, mv_l110, mv_r222)
def mv_i297 : Nat → Nat → Int32 := im_u2 mv_i296 109 22 30
def mm_409 : im_M := (110, true, mv_k110, mv_i297, mv_l110, mv_r222)
def mv_i298 : Nat → Nat → Int32 := im_u2 mv_i297 109 23 30
def mm_410 : im_M := (110, true, mv_k110, mv_i298, mv_l110, mv_r222)
def mv_i299 : Nat → Nat → Int32 := im_u2 mv_i298 109 24 26
def mm_411 : im_M := (110, true, mv_k110, mv_i299, mv_l110, mv_r222)
def mv_i300 : Nat → Nat → Int32 := im_u2 mv_i299 109 25 28
def mm_412 : im_M := (110, true, mv_k110, mv_i300, mv_l110, mv_r222)
def mv_i301 : Nat → Nat → Int32 := im_u2 mv_i300 109 26 30
def mm_413 : im_M := (110, true, mv_k110, mv_i301, mv_l110, mv_r222)
def mv_i302 : Nat → Nat → Int32 := im_u2 mv_i301 109 27 30
def mm_414 : im_M := (110, true, mv_k110, mv_i302, mv_l110, mv_r222)
def mv_i303 : Nat → Nat → Int32 := im_u2 mv_i302 109 28 30
def mm_415 : im_M := (110, true, mv_k110, mv_i303, mv_l110, mv_r222)
def mv_i304 : Nat → Nat → Int32 := im_u2 mv_i303 109 29 30
def mm_416 : im_M := (110, true, mv_k110, mv_i304, mv_l110, mv_r222)
def mv_i305 : Nat → Nat → Int32 := im_u2 mv_i304 109 30 30
def mm_417 : im_M := (110, true, mv_k110, mv_i305, mv_l110, mv_r222)
def mv_i306 : Nat → Nat → Int32 := im_u2 mv_i305 109 31 30
def mm_418 : im_M := (110, true, mv_k110, mv_i306, mv_l110, mv_r222)
def mv_i307 : Nat → Nat → Int32 := im_u2 mv_i306 109 32 30
def mm_419 : im_M := (110, true, mv_k110, mv_i307, mv_l110, mv_r222)
def mv_i308 : Nat → Nat → Int32 := im_u2 mv_i307 109 33 30
def mm_420 : im_M := (110, true, mv_k110, mv_i308, mv_l110, mv_r222)
def mv_i309 : Nat → Nat → Int32 := im_u2 mv_i308 109 34 30
def mm_421 : im_M := (110, true, mv_k110, mv_i309, mv_l110, mv_r222)
def mv_i310 : Nat → Nat → Int32 := im_u2 mv_i309 109 35 30
def mm_422 : im_M := (110, true, mv_k110, mv_i310, mv_l110, mv_r222)
def mv_i311 : Nat → Nat → Int32 := im_u2 mv_i310 109 36 30
def mm_423 : im_M := (110, true, mv_k110, mv_i311, mv_l110, mv_r222)
def mv_i312 : Nat → Nat → Int32 := im_u2 mv_i311 109 37 30
def mm_424 : im_M := (110, true, mv_k110, mv_i312, mv_l110, mv_r222)
def mv_i313 : Nat → Nat → Int32 := im_u2 mv_i312 109 38 30
def mm_425 : im_M := (110, true, mv_k110, mv_i313, mv_l110, mv_r222)
def mv_i314 : Nat → Nat → Int32 := im_u2 mv_i313 109 39 30
def mm_426 : im_M := (110, true, mv_k110, mv_i314, mv_l110, mv_r222)
def mv_i315 : Nat → Nat → Int32 := im_u2 mv_i314 109 40 10
def mm_427 : im_M := (110, true, mv_k110, mv_i315, mv_l110, mv_r222)
def mv_i316 : Nat → Nat → Int32 := im_u2 mv_i315 109 41 16
def mm_428 : im_M := (110, true, mv_k110, mv_i316, mv_l110, mv_r222)
def mv_i317 : Nat → Nat → Int32 := im_u2 mv_i316 109 42 26
def mm_429 : im_M := (110, true, mv_k110, mv_i317, mv_l110, mv_r222)
def mv_i318 : Nat → Nat → Int32 := im_u2 mv_i317 109 43 18
def mm_430 : im_M := (110, true, mv_k110, mv_i318, mv_l110, mv_r222)
def mv_i319 : Nat → Nat → Int32 := im_u2 mv_i318 109 44 24
def mm_431 : im_M := (110, true, mv_k110, mv_i319, mv_l110, mv_r222)
def mv_i320 : Nat → Nat → Int32 := im_u2 mv_i319 109 45 16
def mm_432 : im_M := (110, true, mv_k110, mv_i320, mv_l110, mv_r222)
def mv_i321 : Nat → Nat → Int32 := im_u2 mv_i320 109 46 18
def mm_433 : im_M := (110, true, mv_k110, mv_i321, mv_l110, mv_r222)
def mv_i322 : Nat → Nat → Int32 := im_u2 mv_i321 109 47 22
def mm_434 : im_M := (110, true, mv_k110, mv_i322, mv_l110, mv_r222)
def mv_i323 : Nat → Nat → Int32 := im_u2 mv_i322 109 48 22
def mm_435 : im_M := (110, true, mv_k110, mv_i323, mv_l110, mv_r222)
def mv_i324 : Nat → Nat → Int32 := im_u2 mv_i323 109 49 26
def mm_436 : im_M := (110, true, mv_k110, mv_i324, mv_l110, mv_r222)
def mv_i325 : Nat → Nat → Int32 := im_u2 mv_i324 109 50 30
def mm_437 : im_M := (110, true, mv_k110, mv_i325, mv_l110, mv_r222)
def mv_i326 : Nat → Nat → Int32 := im_u2 mv_i325 109 51 22
def mm_438 : im_M := (110, true, mv_k110, mv_i326, mv_l110, mv_r222)
def mv_i327 : Nat → Nat → Int32 := im_u2 mv_i326 109 52 22
def mm_439 : im_M := (110, true, mv_k110, mv_i327, mv_l110, mv_r222)
def mv_i328 : Nat → Nat → Int32 := im_u2 mv_i327 109 53 24
def mm_440 : im_M := (110, true, mv_k110, mv_i328, mv_l110, mv_r222)
def mv_i329 : Nat → Nat → Int32 := im_u2 mv_i328 109 54 24
def mm_441 : im_M := (110, true, mv_k110, mv_i329, mv_l110, mv_r222)
def mv_i330 : Nat → Nat → Int32 := im_u2 mv_i329 109 55 28
def mm_442 : im_M := (110, true, mv_k110, mv_i330, mv_l110, mv_r222)
def mv_i331 : Nat → Nat → Int32 := im_u2 mv_i330 109 56 28
def mm_443 : im_M := (110, true, mv_k110, mv_i331, mv_l110, mv_r222)
def mv_i332 : Nat → Nat → Int32 := im_u2 mv_i331 109 57 26
def mm_444 : im_M := (110, true, mv_k110, mv_i332, mv_l110, mv_r222)
def mv_i333 : Nat → Nat → Int32 := im_u2 mv_i332 109 58 26
def mm_445 : im_M := (110, true, mv_k110, mv_i333, mv_l110, mv_r222)
def mv_i334 : Nat → Nat → Int32 := im_u2 mv_i333 109 59 26
def mm_446 : im_M := (110, true, mv_k110, mv_i334, mv_l110, mv_r222)
def mv_i335 : Nat → Nat → Int32 := im_u2 mv_i334 109 60 26
def mm_447 : im_M := (110, true, mv_k110, mv_i335, mv_l110, mv_r222)
def mv_i336 : Nat → Nat → Int32 := im_u2 mv_i335 109 61 28
def mm_448 : im_M := (110, true, mv_k110, mv_i336, mv_l110, mv_r222)
def mv_i337 : Nat → Nat → Int32 := im_u2 mv_i336 109 62 28
def mm_449 : im_M := (110, true, mv_k110, mv_i337, mv_l110, mv_r222)
def mv_i338 : Nat → Nat → Int32 := im_u2 mv_i337 109 63 28
def mm_450 : im_M := (110, true, mv_k110, mv_i338, mv_l110, mv_r222)
def mv_i339 : Nat → Nat → Int32 := im_u2 mv_i338 109 64 28
def mm_451 : im_M := (110, true, mv_k110, mv_i339, mv_l110, mv_r222)
def mv_i340 : Nat → Nat → Int32 := im_u2 mv_i339 109 65 28
def mm_452 : im_M := (110, true, mv_k110, mv_i340, mv_l110, mv_r222)
def mv_i341 : Nat → Nat → Int32 := im_u2 mv_i340 109 66 28
def mm_453 : im_M := (110, true, mv_k110, mv_i341, mv_l110, mv_r222)
def mv_i342 : Nat → Nat → Int32 := im_u2 mv_i341 109 67 28
def mm_454 : im_M := (110, true, mv_k110, mv_i342, mv_l110, mv_r222)
def mv_i343 : Nat → Nat → Int32 := im_u2 mv_i342 109 68 28
def mm_455 : im_M := (110, true, mv_k110, mv_i343, mv_l110, mv_r222)
def mv_i344 : Nat → Nat → Int32 := im_u2 mv_i343 109 69 28
def mm_456 : im_M := (110, true, mv_k110, mv_i344, mv_l110, mv_r222)
def mv_i345 : Nat → Nat → Int32 := im_u2 mv_i344 109 70 28
def mm_457 : im_M := (110, true, mv_k110, mv_i345, mv_l110, mv_r222)
def mv_i346 : Nat → Nat → Int32 := im_u2 mv_i345 109 71 28
def mm_458 : im_M := (110, true, mv_k110, mv_i346, mv_l110, mv_r222)
def mv_i347 : Nat → Nat → Int32 := im_u2 mv_i346 109 72 28
def mm_459 : im_M := (110, true, mv_k110, mv_i347, mv_l110, mv_r222)
def mv_i348 : Nat → Nat → Int32 := im_u2 mv_i347 109 73 28
def mm_460 : im_M := (110, true, mv_k110, mv_i348, mv_l110, mv_r222)
def mv_i349 : Nat → Nat → Int32 := im_u2 mv_i348 109 74 28
def mm_461 : im_M := (110, true, mv_k110, mv_i349, mv_l110, mv_r222)
def mv_i350 : Nat → Nat → Int32 := im_u2 mv_i349 109 75 28
def mm_462 : im_M := (110, true, mv_k110, mv_i350, mv_l110, mv_r222)
def mv_i351 : Nat → Nat → Int32 := im_u2 mv_i350 109 76 28
def mm_463 : im_M := (110, true, mv_k110, mv_i351, mv_l110, mv_r222)
def mv_i352 : Nat → Nat → Int32 := im_u2 mv_i351 109 77 28
def mm_464 : im_M := (110, true, mv_k110, mv_i352, mv_l110, mv_r222)
def mv_i353 : Nat → Nat → Int32 := im_u2 mv_i352 109 78 28
def mm_465 : im_M := (110, true, mv_k110, mv_i353, mv_l110, mv_r222)
def mv_i354 : Nat → Nat → Int32 := im_u2 mv_i353 109 79 28
def mm_466 : im_M := (110, true, mv_k110, mv_i354, mv_l110, mv_r222)
def mv_i355 : Nat → Nat → Int32 := im_u2 mv_i354 109 80 13
def mm_467 : im_M := (110, true, mv_k110, mv_i355, mv_l110, mv_r222)
def mv_i356 : Nat → Nat → Int32 := im_u2 mv_i355 109 81 22
def mm_468 : im_M := (110, true, mv_k110, mv_i356, mv_l110, mv_r222)
def mv_i357 : Nat → Nat → Int32 := im_u2 mv_i356 109 82 18
def mm_469 : im_M := (110, true, mv_k110, mv_i357, mv_l110, mv_r222)
def mv_i358 : Nat → Nat → Int32 := im_u2 mv_i357 109 83 26
def mm_470 : im_M := (110, true, mv_k110, mv_i358, mv_l110, mv_r222)
def mv_i359 : Nat → Nat → Int32 := im_u2 mv_i358 109 84 18
def mm_471 : im_M := (110, true, mv_k110, mv_i359, mv_l110, mv_r222)
def mv_i360 : Nat → Nat → Int32 := im_u2 mv_i359 109 85 24
def mm_472 : im_M := (110, true, mv_k110, mv_i360, mv_l110, mv_r222)
def mv_i361 : Nat → Nat → Int32 := im_u2 mv_i360 109 86 18
def mm_473 : im_M := (110, true, mv_k110, mv_i361, mv_l110, mv_r222)
def mv_i362 : Nat → Nat → Int32 := im_u2 mv_i361 109 87 22
def mm_474 : im_M := (110, true, mv_k110, mv_i362, mv_l110, mv_r222)
def mv_i363 : Nat → Nat → Int32 := im_u2 mv_i362 109 88 20
def mm_475 : im_M := (110, true, mv_k110, mv_i363, mv_l110, mv_r222)
def mv_i364 : Nat → Nat → Int32 := im_u2 mv_i363 109 89 24
def mm_476 : im_M := (110, true, mv_k110, mv_i364, mv_l110, mv_r222)
def mv_i365 : Nat → Nat → Int32 := im_u2 mv_i364 109 90 28
def mm_477 : im_M := (110, true, mv_k110, mv_i365, mv_l110, mv_r222)
def mv_i366 : Nat → Nat → Int32 := im_u2 mv_i365 109 91 26
def mm_478 : im_M := (110, true, mv_k110, mv_i366, mv_l110, mv_r222)
def mv_i367 : Nat → Nat → Int32 := im_u2 mv_i366 109 92 24
def mm_479 : im_M := (110, true, mv_k110, mv_i367, mv_l110, mv_r222)
def mv_i368 : Nat → Nat → Int32 := im_u2 mv_i367 109 93 20
def mm_480 : im_M := (110, true, mv_k110, mv_i368, mv_l110, mv_r222)
def mv_i369 : Nat → Nat → Int32 := im_u2 mv_i368 109 94 30
def mm_481 : im_M := (110, true, mv_k110, mv_i369, mv_l110, mv_r222)
def mv_i370 : Nat → Nat → Int32 := im_u2 mv_i369 109 95 24
def mm_482 : im_M := (110, true, mv_k110, mv_i370, mv_l110, mv_r222)
def mv_i371 : Nat → Nat → Int32 := im_u2 mv_i370 109 96 28
def mm_483 : im_M := (110, true, mv_k110, mv_i371, mv_l110, mv_r222)
def mv_i372 : Nat → Nat → Int32 := im_u2 mv_i371 109 97 28
def mm_484 : im_M := (110, true, mv_k110, mv_i372, mv_l110, mv_r222)
def mv_i373 : Nat → Nat → Int32 := im_u2 mv_i372 109 98 26
def mm_485 : im_M := (110, true, mv_k110, mv_i373, mv_l110, mv_r222)
def mv_i374 : Nat → Nat → Int32 := im_u2 mv_i373 109 99 30
def mm_486 : im_M := (110, true, mv_k110, mv_i374, mv_l110, mv_r222)
def mv_i375 : Nat → Nat → Int32 := im_u2 mv_i374 109 100 28
def mm_487 : im_M := (110, true, mv_k110, mv_i375, mv_l110, mv_r222)
def mv_i376 : Nat → Nat → Int32 := im_u2 mv_i375 109 101 30
def mm_488 : im_M := (110, true, mv_k110, mv_i376, mv_l110, mv_r222)
def mv_i377 : Nat → Nat → Int32 := im_u2 mv_i376 109 102 30
def mm_489 : im_M := (110, true, mv_k110, mv_i377, mv_l110, mv_r222)
def mv_i378 : Nat → Nat → Int32 := im_u2 mv_i377 109 103 30
def mm_490 : im_M := (110, true, mv_k110, mv_i378, mv_l110, mv_r222)
def mv_i379 : Nat → Nat → Int32 := im_u2 mv_i378 109 104 30
def mm_491 : im_M := (110, true, mv_k110, mv_i379, mv_l110, mv_r222)
def mv_i380 : Nat → Nat → Int32 := im_u2 mv_i379 109 105 28
def mm_492 : im_M := (110, true, mv_k110, mv_i380, mv_l110, mv_r222)
def mv_i381 : Nat → Nat → Int32 := im_u2 mv_i380 109 106 30
def mm_493 : im_M := (110, true, mv_k110, mv_i381, mv_l110, mv_r222)
def mv_i382 : Nat → Nat → Int32 := im_u2 mv_i381 109 107 30
def mm_494 : im_M := (110, true, mv_k110, mv_i382, mv_l110, mv_r222)
def mv_i383 : Nat → Nat → Int32 := im_u2 mv_i382 109 108 30
def mm_495 : im_M := (110, true, mv_k110, mv_i383, mv_l110, mv_r222)
def mv_i384 : Nat → Nat → Int32 := im_u2 mv_i383 109 109 30
def mm_496 : im_M := (110, true, mv_k110, mv_i384, mv_l110, mv_r222)
def mv_i385 : Nat → Nat → Int32 := im_u2 mv_i384 109 110 30
def mm_497 : im_M := (110, true, mv_k110, mv_i385, mv_l110, mv_r222)
def mv_i386 : Nat → Nat → Int32 := im_u2 mv_i385 109 111 30
def mm_498 : im_M := (110, true, mv_k110, mv_i386, mv_l110, mv_r222)
def mv_i387 : Nat → Nat → Int32 := im_u2 mv_i386 109 112 30
def mm_499 : im_M := (110, true, mv_k110, mv_i387, mv_l110, mv_r222)
def mv_i388 : Nat → Nat → Int32 := im_u2 mv_i387 109 113 30
def mm_500 : im_M := (110, true, mv_k110, mv_i388, mv_l110, mv_r222)
def mv_i389 : Nat → Nat → Int32 := im_u2 mv_i388 109 114 30
def mm_501 : im_M := (110, true, mv_k110, mv_i389, mv_l110, mv_r222)
def mv_i390 : Nat → Nat → Int32 := im_u2 mv_i389 109 115 30
def mm_502 : im_M := (110, true, mv_k110, mv_i390, mv_l110, mv_r222)
def mv_i391 : Nat → Nat → Int32 := im_u2 mv_i390 109 116 30
def mm_503 : im_M := (110, true, mv_k110, mv_i391, mv_l110, mv_r222)
def mv_i392 : Nat → Nat → Int32 := im_u2 mv_i391 109 117 30
def mm_504 : im_M := (110, true, mv_k110, mv_i392, mv_l110, mv_r222)
def mv_i393 : Nat → Nat → Int32 := im_u2 mv_i392 109 118 30
def mm_505 : im_M := (110, true, mv_k110, mv_i393, mv_l110, mv_r222)
def mv_i394 : Nat → Nat → Int32 := im_u2 mv_i393 109 119 30
def mm_506 : im_M := (110, true, mv_k110, mv_i394, mv_l110, mv_r222)
def mv_i395 : Nat → Nat → Int32 := im_u2 mv_i394 109 120 17
def mm_507 : im_M := (110, true, mv_k110, mv_i395, mv_l110, mv_r222)
def mv_i396 : Nat → Nat → Int32 := im_u2 mv_i395 109 121 28
def mm_508 : im_M := (110, true, mv_k110, mv_i396, mv_l110, mv_r222)
def mv_i397 : Nat → Nat → Int32 := im_u2 mv_i396 109 122 22
def mm_509 : im_M := (110, true, mv_k110, mv_i397, mv_l110, mv_r222)
def mv_i398 : Nat → Nat → Int32 := im_u2 mv_i397 109 123 16
def mm_510 : im_M := (110, true, mv_k110, mv_i398, mv_l110, mv_r222)
def mv_i399 : Nat → Nat → Int32 := im_u2 mv_i398 109 124 22
def mm_511 : im_M := (110, true, mv_k110, mv_i399, mv_l110, mv_r222)
def mv_i400 : Nat → Nat → Int32 := im_u2 mv_i399 109 125 28
def mm_512 : im_M := (110, true, mv_k110, mv_i400, mv_l110, mv_r222)
def mv_i401 : Nat → Nat → Int32 := im_u2 mv_i400 109 126 26
def mm_513 : im_M := (110, true, mv_k110, mv_i401, mv_l110, mv_r222)
def mv_i402 : Nat → Nat → Int32 := im_u2 mv_i401 109 127 26
def mm_514 : im_M := (110, true, mv_k110, mv_i402, mv_l110, mv_r222)
def mv_i403 : Nat → Nat → Int32 := im_u2 mv_i402 109 128 24
def mm_515 : im_M := (110, true, mv_k110, mv_i403, mv_l110, mv_r222)
def mv_i404 : Nat → Nat → Int32 := im_u2 mv_i403 109 129 28
def mm_516 : im_M := (110, true, mv_k110, mv_i404, mv_l110, mv_r222)
def mv_i405 : Nat → Nat → Int32 := im_u2 mv_i404 109 130 24
def mm_517 : im_M := (110, true, mv_k110, mv_i405, mv_l110, mv_r222)
def mv_i406 : Nat → Nat → Int32 := im_u2 mv_i405 109 131 28
def mm_518 : im_M := (110, true, mv_k110, mv_i406, mv_l110, mv_r222)
def mv_i407 : Nat → Nat → Int32 := im_u2 mv_i406 109 132 22
def mm_519 : im_M := (110, true, mv_k110, mv_i407, mv_l110, mv_r222)
def mv_i408 : Nat → Nat → Int32 := im_u2 mv_i407 109 133 24
def mm_520 : im_M := (110, true, mv_k110, mv_i408, mv_l110, mv_r222)
def mv_i409 : Nat → Nat → Int32 := im_u2 mv_i408 109 134 24
def mm_521 : im_M := (110, true, mv_k110, mv_i409, mv_l110, mv_r222)
def mv_i410 : Nat → Nat → Int32 := im_u2 mv_i409 109 135 30
def mm_522 : im_M := (110, true, mv_k110, mv_i410, mv_l110, mv_r222)
def mv_i411 : Nat → Nat → Int32 := im_u2 mv_i410 109 136 28
def mm_523 : im_M := (110, true, mv_k110, mv_i411, mv_l110, mv_r222)
def mv_i412 : Nat → Nat → Int32 := im_u2 mv_i411 109 137 28
def mm_524 : im_M := (110, true, mv_k110, mv_i412, mv_l110, mv_r222)
def mv_i413 : Nat → Nat → Int32 := im_u2 mv_i412 109 138 26
def mm_525 : im_M := (110, true, mv_k110, mv_i413, mv_l110, mv_r222)
def mv_i414 : Nat → Nat → Int32 := im_u2 mv_i413 109 139 28
def mm_526 : im_M := (110, true, mv_k110, mv_i414, mv_l110, mv_r222)
def mv_i415 : Nat → Nat → Int32 := im_u2 mv_i414 109 140 30
def mm_527 : im_M := (110, true, mv_k110, mv_i415, mv_l110, mv_r222)
def mv_i416 : Nat → Nat → Int32 := im_u2 mv_i415 109 141 24
def mm_528 : im_M := (110, true, mv_k110, mv_i416, mv_l110, mv_r222)
def mv_i417 : Nat → Nat → Int32 := im_u2 mv_i416 109 142 30
def mm_529 : im_M := (110, true, mv_k110, mv_i417, mv_l110, mv_r222)
def mv_i418 : Nat → Nat → Int32 := im_u2 mv_i417 109 143 30
def mm_530 : im_M := (110, true, mv_k110, mv_i418, mv_l110, mv_r222)
def mv_i419 : Nat → Nat → Int32 := im_u2 mv_i418 109 144 30
def mm_531 : im_M := (110, true, mv_k110, mv_i419, mv_l110, mv_r222)
def mv_i420 : Nat → Nat → Int32 := im_u2 mv_i419 109 145 30
def mm_532 : im_M := (110, true, mv_k110, mv_i420, mv_l110, mv_r222)
def mv_i421 : Nat → Nat → Int32 := im_u2 mv_i420 109 146 30
def mm_533 : im_M := (110, true, mv_k110, mv_i421, mv_l110, mv_r222)
def mv_i422 : Nat → Nat → Int32 := im_u2 mv_i421 109 147 30
def mm_534 : im_M := (110, true, mv_k110, mv_i422, mv_l110, mv_r222)
def mv_i423 : Nat → Nat → Int32 := im_u2 mv_i422 109 148 30
def mm_535 : im_M := (110, true, mv_k110, mv_i423, mv_l110, mv_r222)
def mv_i424 : Nat → Nat → Int32 := im_u2 mv_i423 109 149 30
def mm_536 : im_M := (110, true, mv_k110, mv_i424, mv_l110, mv_r222)
def mv_i425 : Nat → Nat → Int32 := im_u2 mv_i424 109 150 30
def mm_537 : im_M := (110, true, mv_k110, mv_i425, mv_l110, mv_r222)
def mv_i426 : Nat → Nat → Int32 := im_u2 mv_i425 109 151 30
def mm_538 : im_M := (110, true, mv_k110, mv_i426, mv_l110, mv_r222)
def mv_i427 : Nat → Nat → Int32 := im_u2 mv_i426 109 152 30
def mm_539 : im_M := (110, true, mv_k110, mv_i427, mv_l110, mv_r222)
def mv_i428 : Nat → Nat → Int32 := im_u2 mv_i427 109 153 30
def mm_540 : im_M := (110, true, mv_k110, mv_i428, mv_l110, mv_r222)
def mv_i429 : Nat → Nat → Int32 := im_u2 mv_i428 109 154 30
def mm_541 : im_M := (110, true, mv_k110, mv_i429, mv_l110, mv_r222)
def mv_i430 : Nat → Nat → Int32 := im_u2 mv_i429 109 155 30
def mm_542 : im_M := (110, true, mv_k110, mv_i430, mv_l110, mv_r222)
def mv_i431 : Nat → Nat → Int32 := im_u2 mv_i430 109 156 30
def mm_543 : im_M := (110, true, mv_k110, mv_i431, mv_l110, mv_r222)
def mv_i432 : Nat → Nat → Int32 := im_u2 mv_i431 109 157 30
def mm_544 : im_M := (110, true, mv_k110, mv_i432, mv_l110, mv_r222)
def mv_i433 : Nat → Nat → Int32 := im_u2 mv_i432 109 158 30
def mm_545 : im_M := (110, true, mv_k110, mv_i433, mv_l110, mv_r222)
def mv_i434 : Nat → Nat → Int32 := im_u2 mv_i433 109 159 30
def mm_546 : im_M := (110, true, mv_k110, mv_i434, mv_l110, mv_r222)
def mv_r223 : Nat → Nat → Option Nat := im_u2 mv_r222 108 1 (some 109)
def mm_547 : im_M := (110, true, mv_k110, mv_i434, mv_l110, mv_r223)
def mv_k111 : Nat → Nat × Nat := va_up mv_k110 110 (33, 160)
def mv_i435 : Nat → Nat → Int32 := va_up mv_i434 110 (fun _ => 0)
def mv_l111 : Nat → Nat → Int64 := va_up mv_l110 110 (fun _ => 0)
def mv_r224 : Nat → Nat → Option Nat := va_up mv_r223 110 (fun _ => none)
def mm_548 : im_M := (111, true, mv_k111, mv_i435, mv_l111, mv_r224)
def mv_i436 : Nat → Nat → Int32 := im_u2 mv_i435 110 0 1
def mm_549 : im_M := (111, true, mv_k111, mv_i436, mv_l111, mv_r224)
def mv_i437 : Nat → Nat → Int32 := im_u2 mv_i436 110 1 1
def mm_550 : im_M := (111, true, mv_k111, mv_i437, mv_l111, mv_r224)
def mv_i438 : Nat → Nat → Int32 := im_u2 mv_i437 110 2 1
def mm_551 : im_M := (111, true, mv_k111, mv_i438, mv_l111, mv_r224)
def mv_i439 : Nat → Nat → Int32 := im_u2 mv_i438 110 3 1
def mm_552 : im_M := (111, true, mv_k111, mv_i439, mv_l111, mv_r224)
def mv_i440 : Nat → Nat → Int32 := im_u2 mv_i439 110 4 1
def mm_553 : im_M := (111, true, mv_k111, mv_i440, mv_l111, mv_r224)
def mv_i441 : Nat → Nat → Int32 := im_u2 mv_i440 110 5 2
def mm_554 : im_M := (111, true, mv_k111, mv_i441, mv_l111, mv_r224)
def mv_i442 : Nat → Nat → Int32 := im_u2 mv_i441 110 6 2
def mm_555 : im_M := (111, true, mv_k111, mv_i442, mv_l111, mv_r224)
def mv_i443 : Nat → Nat → Int32 := im_u2 mv_i442 110 7 2
def mm_556 : im_M := (111, true, mv_k111, mv_i443, mv_l111, mv_r224)
def mv_i444 : Nat → Nat → Int32 := im_u2 mv_i443 110 8 2
def mm_557 : im_M := (111, true, mv_k111, mv_i444, mv_l111, mv_r224)
def mv_i445 : Nat → Nat → Int32 := im_u2 mv_i444 110 9 4
def mm_558 : im_M := (111, true, mv_k111, mv_i445, mv_l111, mv_r224)
def mv_i446 : Nat → Nat → Int32 := im_u2 mv_i445 110 10 4
def mm_559 : im_M := (111, true, mv_k111, mv_i446, mv_l111, mv_r224)
def mv_i447 : Nat → Nat → Int32 := im_u2 mv_i446 110 11 4
def mm_560 : im_M := (111, true, mv_k111, mv_i447, mv_l111, mv_r224)
def mv_i448 : Nat → Nat → Int32 := im_u2 mv_i447 110 12 4
def mm_561 : im_M := (111, true, mv_k111, mv_i448, mv_l111, mv_r224)
def mv_i449 : Nat → Nat → Int32 := im_u2 mv_i448 110 13 4
def mm_562 : im_M := (111, true, mv_k111, mv_i449, mv_l111, mv_r224)
def mv_i450 : Nat → Nat → Int32 := im_u2 mv_i449 110 14 6
def mm_563 : im_M := (111, true, mv_k111, mv_i450, mv_l111, mv_r224)
def mv_i451 : Nat → Nat → Int32 := im_u2 mv_i450 110 15 6
def mm_564 : im_M := (111, true, mv_k111, mv_i451, mv_l111, mv_r224)
def mv_i452 : Nat → Nat → Int32 := im_u2 mv_i451 110 16 6
def mm_565 : im_M := (111, true, mv_k111, mv_i452, mv_l111, mv_r224)
def mv_i453 : Nat → Nat → Int32 := im_u2 mv_i452 110 17 6
def mm_566 : im_M := (111, true, mv_k111, mv_i453, mv_l111, mv_r224)
def mv_i454 : Nat → Nat → Int32 := im_u2 mv_i453 110 18 7
def mm_567 : im_M := (111, true, mv_k111, mv_i454, mv_l111, mv_r224)
def mv_i455 : Nat → Nat → Int32 := im_u2 mv_i454 110 19 8
def mm_568 : im_M := (111, true, mv_k111, mv_i455, mv_l111, mv_r224)
def mv_i456 : Nat → Nat → Int32 := im_u2 mv_i455 110 20 8
def mm_569 : im_M := (111, true, mv_k111, mv_i456, mv_l111, mv_r224)
def mv_i457 : Nat → Nat → Int32 := im_u2 mv_i456 110 21 9
def mm_570 : im_M := (111, true, mv_k111, mv_i457, mv_l111, mv_r224)
def mv_i458 : Nat → Nat → Int32 := im_u2 mv_i457 110 22 9
def mm_571 : im_M := (111, true, mv_k111, mv_i458, mv_l111, mv_r224)
def mv_i459 : Nat → Nat → Int32 := im_u2 mv_i458 110 23 10
def mm_572 : im_M := (111, true, mv_k111, mv_i459, mv_l111, mv_r224)
def mv_i460 : Nat → Nat → Int32 := im_u2 mv_i459 110 24 12
def mm_573 : im_M := (111, true, mv_k111, mv_i460, mv_l111, mv_r224)
def mv_i461 : Nat → Nat → Int32 := im_u2 mv_i460 110 25 12
def mm_574 : im_M := (111, true, mv_k111, mv_i461, mv_l111, mv_r224)
def mv_i462 : Nat → Nat → Int32 := im_u2 mv_i461 110 26 12
def mm_575 : im_M := (111, true, mv_k111, mv_i462, mv_l111, mv_r224)
def mv_i463 : Nat → Nat → Int32 := im_u2 mv_i462 110 27 13
def mm_576 : im_M := (111, true, mv_k111, mv_i463, mv_l111, mv_r224)
def mv_i464 : Nat → Nat → Int32 := im_u2 mv_i463 110 28 14
def mm_577 : im_M := (111, true, mv_k111, mv_i464, mv_l111, mv_r224)
def mv_i465 : Nat → Nat → Int32 := im_u2 mv_i464 110 29 15
def mm_578 : im_M := (111, true, mv_k111, mv_i465, mv_l111, mv_r224)
def mv_i466 : Nat → Nat → Int32 := im_u2 mv_i465 110 30 16
def mm_579 : im_M := (111, true, mv_k111, mv_i466, mv_l111, mv_r224)
def mv_i467 : Nat → Nat → Int32 := im_u2 mv_i466 110 31 17
def mm_580 : im_M := (111, true, mv_k111, mv_i467, mv_l111, mv_r224)
def mv_i468 : Nat → Nat → Int32 := im_u2 mv_i467 110 32 18
def mm_581 : im_M := (111, true, mv_k111, mv_i468, mv_l111, mv_r224)
def mv_i469 : Nat → Nat → Int32 := im_u2 mv_i468 110 33 19
def mm_582 : im_M := (111, true, mv_k111, mv_i469, mv_l111, mv_r224)
def mv_i470 : Nat → Nat → Int32 := im_u2 mv_i469 110 34 19
def mm_583 : im_M := (111, true, mv_k111, mv_i470, mv_l111, mv_r224)
def mv_i471 : Nat → Nat → Int32 := im_u2 mv_i470 110 35 20
def mm_584 : im_M := (111, true, mv_k111, mv_i471, mv_l111, mv_r224)
def mv_i472 : Nat → Nat → Int32 := im_u2 mv_i471 110 36 21
def mm_585 : im_M := (111, true, mv_k111, mv_i472, mv_l111, mv_r224)
def mv_i473 : Nat → Nat → Int32 := im_u2 mv_i472 110 37 22
def mm_586 : im_M := (111, true, mv_k111, mv_i473, mv_l111, mv_r224)
def mv_i474 : Nat → Nat → Int32 := im_u2 mv_i473 110 38 24
def mm_587 : im_M := (111, true, mv_k111, mv_i474, mv_l111, mv_r224)
def mv_i475 : Nat → Nat → Int32 := im_u2 mv_i474 110 39 25
def mm_588 : im_M := (111, true, mv_k111, mv_i475, mv_l111, mv_r224)
def mv_i476 : Nat → Nat → Int32 := im_u2 mv_i475 110 40 1
def mm_589 : im_M := (111, true, mv_k111, mv_i476, mv_l111, mv_r224)
def mv_i477 : Nat → Nat → Int32 := im_u2 mv_i476 110 41 1
def mm_590 : im_M := (111, true, mv_k111, mv_i477, mv_l111, mv_r224)
def mv_i478 : Nat → Nat → Int32 := im_u2 mv_i477 110 42 1
def mm_591 : im_M := (111, true, mv_k111, mv_i478, mv_l111, mv_r224)
def mv_i479 : Nat → Nat → Int32 := im_u2 mv_i478 110 43 2
def mm_592 : im_M := (111, true, mv_k111, mv_i479, mv_l111, mv_r224)
def mv_i480 : Nat → Nat → Int32 := im_u2 mv_i479 110 44 2
def mm_593 : im_M := (111, true, mv_k111, mv_i480, mv_l111, mv_r224)
def mv_i481 : Nat → Nat → Int32 := im_u2 mv_i480 110 45 4
def mm_594 : im_M := (111, true, mv_k111, mv_i481, mv_l111, mv_r224)
def mv_i482 : Nat → Nat → Int32 := im_u2 mv_i481 110 46 4
def mm_595 : im_M := (111, true, mv_k111, mv_i482, mv_l111, mv_r224)
def mv_i483 : Nat → Nat → Int32 := im_u2 mv_i482 110 47 4
def mm_596 : im_M := (111, true, mv_k111, mv_i483, mv_l111, mv_r224)
def mv_i484 : Nat → Nat → Int32 := im_u2 mv_i483 110 48 5
def mm_597 : im_M := (111, true, mv_k111, mv_i484, mv_l111, mv_r224)
def mv_i485 : Nat → Nat → Int32 := im_u2 mv_i484 110 49 5
def mm_598 : im_M := (111, true, mv_k111, mv_i485, mv_l111, mv_r224)
def mv_i486 : Nat → Nat → Int32 := im_u2 mv_i485 110 50 5
def mm_599 : im_M := (111, true, mv_k111, mv_i486, mv_l111, mv_r224)
def mv_i487 : Nat → Nat → Int32 := im_u2 mv_i486 110 51 8
def mm_600 : im_M := (111, true, mv_k111, mv_i487, mv_l111, mv_r224)
def mv_i488 : Nat → Nat → Int32 := im_u2 mv_i487 110 52 9
def mm_601 : im_M := (111, true, mv_k111, mv_i488, mv_l111, mv_r224)
def mv_i489 : Nat → Nat → Int32 := im_u2 mv_i488 110 53 9
def mm_602 : im_M := (111, true, mv_k111, mv_i489, mv_l111, mv_r224)
def mv_i490 : Nat → Nat → Int32 := im_u2 mv_i489 110 54 10
def mm_603 : im_M := (111, true, mv_k111, mv_i490, mv_l111, mv_r224)
def mv_i491 : Nat → Nat → Int32 := im_u2 mv_i490 110 55 10
def mm_604 : im_M := (111, true, mv_k111, mv_i491, mv_l111, mv_r224)
def mv_i492 : Nat → Nat → Int32 := im_u2 mv_i491 110 56 11
def mm_605 : im_M := (111, true, mv_k111, mv_i492, mv_l111, mv_r224)
def mv_i493 : Nat → Nat → Int32 := im_u2 mv_i492 110 57 13
def mm_606 : im_M := (111, true, mv_k111, mv_i493, mv_l111, mv_r224)
def mv_i494 : Nat → Nat → Int32 := im_u2 mv_i493 110 58 14
def mm_607 : im_M := (111, true, mv_k111, mv_i494, mv_l111, mv_r224)
def mv_i495 : Nat → Nat → Int32 := im_u2 mv_i494 110 59 16
def mm_608 : im_M := (111, true, mv_k111, mv_i495, mv_l111, mv_r224)
def mv_i496 : Nat → Nat → Int32 := im_u2 mv_i495 110 60 17
def mm_609 : im_M := (111, true, mv_k111, mv_i496, mv_l111, mv_r224)
def mv_i497 : Nat → Nat → Int32 := im_u2 mv_i496 110 61 17
def mm_610 : im_M := (111, true, mv_k111, mv_i497, mv_l111, mv_r224)
def mv_i498 : Nat → Nat → Int32 := im_u2 mv_i497 110 62 18
def mm_611 : im_M := (111, true, mv_k111, mv_i498, mv_l111, mv_r224)
def mv_i499 : Nat → Nat → Int32 := im_u2 mv_i498 110 63 20
def mm_612 : im_M := (111, true, mv_k111, mv_i499, mv_l111, mv_r224)
def mv_i500 : Nat → Nat → Int32 := im_u2 mv_i499 110 64 21
def mm_613 : im_M := (111, true, mv_k111, mv_i500, mv_l111, mv_r224)
def mv_i501 : Nat → Nat → Int32 := im_u2 mv_i500 110 65 23
def mm_614 : im_M := (111, true, mv_k111, mv_i501, mv_l111, mv_r224)
def mv_i502 : Nat → Nat → Int32 := im_u2 mv_i501 110 66 25
def mm_615 : im_M := (111, true, mv_k111, mv_i502, mv_l111, mv_r224)
def mv_i503 : Nat → Nat → Int32 := im_u2 mv_i502 110 67 26
def mm_616 : im_M := (111, true, mv_k111, mv_i503, mv_l111, mv_r224)
def mv_i504 : Nat → Nat → Int32 := im_u2 mv_i503 110 68 28
def mm_617 : im_M := (111, true, mv_k111, mv_i504, mv_l111, mv_r224)
def mv_i505 : Nat → Nat → Int32 := im_u2 mv_i504 110 69 29
def mm_618 : im_M := (111, true, mv_k111, mv_i505, mv_l111, mv_r224)
def mv_i506 : Nat → Nat → Int32 := im_u2 mv_i505 110 70 31
def mm_619 : im_M := (111, true, mv_k111, mv_i506, mv_l111, mv_r224)
def mv_i507 : Nat → Nat → Int32 := im_u2 mv_i506 110 71 33
def mm_620 : im_M := (111, true, mv_k111, mv_i507, mv_l111, mv_r224)
def mv_i508 : Nat → Nat → Int32 := im_u2 mv_i507 110 72 35
def mm_621 : im_M := (111, true, mv_k111, mv_i508, mv_l111, mv_r224)
def mv_i509 : Nat → Nat → Int32 := im_u2 mv_i508 110 73 37
def mm_622 : im_M := (111, true, mv_k111, mv_i509, mv_l111, mv_r224)
def mv_i510 : Nat → Nat → Int32 := im_u2 mv_i509 110 74 38
def mm_623 : im_M := (111, true, mv_k111, mv_i510, mv_l111, mv_r224)
def mv_i511 : Nat → Nat → Int32 := im_u2 mv_i510 110 75 40
def mm_624 : im_M := (111, true, mv_k111, mv_i511, mv_l111, mv_r224)
def mv_i512 : Nat → Nat → Int32 := im_u2 mv_i511 110 76 43
def mm_625 : im_M := (111, true, mv_k111, mv_i512, mv_l111, mv_r224)
def mv_i513 : Nat → Nat → Int32 := im_u2 mv_i512 110 77 45
def mm_626 : im_M := (111, true, mv_k111, mv_i513, mv_l111, mv_r224)
def mv_i514 : Nat → Nat → Int32 := im_u2 mv_i513 110 78 47
def mm_627 : im_M := (111, true, mv_k111, mv_i514, mv_l111, mv_r224)
def mv_i515 : Nat → Nat → Int32 := im_u2 mv_i514 110 79 49
def mm_628 : im_M := (111, true, mv_k111, mv_i515, mv_l111, mv_r224)
def mv_i516 : Nat → Nat → Int32 := im_u2 mv_i515 110 80 1
def mm_629 : im_M := (111, true, mv_k111, mv_i516, mv_l111, mv_r224)
def mv_i517 : Nat → Nat → Int32 := im_u2 mv_i516 110 81 1
def mm_630 : im_M := (111, true, mv_k111, mv_i517, mv_l111, mv_r224)
def mv_i518 : Nat → Nat → Int32 := im_u2 mv_i517 110 82 2
def mm_631 : im_M := (111, true, mv_k111, mv_i518, mv_l111, mv_r224)
def mv_i519 : Nat → Nat → Int32 := im_u2 mv_i518 110 83 2
def mm_632 : im_M := (111, true, mv_k111, mv_i519, mv_l111, mv_r224)
def mv_i520 : Nat → Nat → Int32 := im_u2 mv_i519 110 84 4
def mm_633 : im_M := (111, true, mv_k111, mv_i520, mv_l111, mv_r224)
def mv_i521 : Nat → Nat → Int32 := im_u2 mv_i520 110 85 4
def mm_634 : im_M := (111, true, mv_k111, mv_i521, mv_l111, mv_r224)
def mv_i522 : Nat → Nat → Int32 := im_u2 mv_i521 110 86 6
def mm_635 : im_M := (111, true, mv_k111, mv_i522, mv_l111, mv_r224)
def mv_i523 : Nat → Nat → Int32 := im_u2 mv_i522 110 87 6
def mm_636 : im_M := (111, true, mv_k111, mv_i523, mv_l111, mv_r224)
def mv_i524 : Nat → Nat → Int32 := im_u2 mv_i523 110 88 8
def mm_637 : im_M := (111, true, mv_k111, mv_i524, mv_l111, mv_r224)
def mv_i525 : Nat → Nat → Int32 := im_u2 mv_i524 110 89 8
def mm_638 : im_M := (111, true, mv_k111, mv_i525, mv_l111, mv_r224)
def mv_i526 : Nat → Nat → Int32 := im_u2 mv_i525 110 90 8
def mm_639 : im_M := (111, true, mv_k111, mv_i526, mv_l111, mv_r224)
def mv_i527 : Nat → Nat → Int32 := im_u2 mv_i526 110 91 10
def mm_640 : im_M := (111, true, mv_k111, mv_i527, mv_l111, mv_r224)
def mv_i528 : Nat → Nat → Int32 := im_u2 mv_i527 110 92 12
def mm_641 : im_M := (111, true, mv_k111, mv_i528, mv_l111, mv_r224)
def mv_i529 : Nat → Nat → Int32 := im_u2 mv_i528 110 93 16
def mm_642 : im_M := (111, true, mv_k111, mv_i529, mv_l111, mv_r224)
def mv_i530 : Nat → Nat → Int32 := im_u2 mv_i529 110 94 12
def mm_643 : im_M := (111, true, mv_k111, mv_i530, mv_l111, mv_r224)
def mv_i531 : Nat → Nat → Int32 := im_u2 mv_i530 110 95 17
def mm_644 : im_M := (111, true, mv_k111, mv_i531, mv_l111, mv_r224)
def mv_i532 : Nat → Nat → Int32 := im_u2 mv_i531 110 96 16
def mm_645 : im_M := (111, true, mv_k111, mv_i532, mv_l111, mv_r224)
def mv_i533 : Nat → Nat → Int32 := im_u2 mv_i532 110 97 18
def mm_646 : im_M := (111, true, mv_k111, mv_i533, mv_l111, mv_r224)
def mv_i534 : Nat → Nat → Int32 := im_u2 mv_i533 110 98 21
def mm_647 : im_M := (111, true, mv_k111, mv_i534, mv_l111, mv_r224)
def mv_i535 : Nat → Nat → Int32 := im_u2 mv_i534 110 99 20
def mm_648 : im_M := (111, true, mv_k111, mv_i535, mv_l111, mv_r224)
def mv_i536 : Nat → Nat → Int32 := im_u2 mv_i535 110 100 23
def mm_649 : im_M := (111, true, mv_k111, mv_i536, mv_l111, mv_r224)
def mv_i537 : Nat → Nat → Int32 := im_u2 mv_i536 110 101 23
def mm_650 : im_M := (111, true, mv_k111, mv_i537, mv_l111, mv_r224)
def mv_i538 : Nat → Nat → Int32 := im_u2 mv_i537 110 102 25
def mm_651 : im_M := (111, true, mv_k111, mv_i538, mv_l111, mv_r224)
def mv_i539 : Nat → Nat → Int32 := im_u2 mv_i538 110 103 27
def mm_652 : im_M := (111, true, mv_k111, mv_i539, mv_l111, mv_r224)
def mv_i540 : Nat → Nat → Int32 := im_u2 mv_i539 110 104 29
def mm_653 : im_M := (111, true, mv_k111, mv_i540, mv_l111, mv_r224)
def mv_i541 : Nat → Nat → Int32 := im_u2 mv_i540 110 105 34
def mm_654 : im_M := (111, true, mv_k111, mv_i541, mv_l111, mv_r224)
def mv_i542 : Nat → Nat → Int32 := im_u2 mv_i541 110 106 34
def mm_655 : im_M := (111, true, mv_k111, mv_i542, mv_l111, mv_r224)
def mv_i543 : Nat → Nat → Int32 := im_u2 mv_i542 110 107 35
def mm_656 : im_M := (111, true, mv_k111, mv_i543, mv_l111, mv_r224)
def mv_i544 : Nat → Nat → Int32 := im_u2 mv_i543 110 108 38
def mm_657 : im_M := (111, true, mv_k111, mv_i544, mv_l111, mv_r224)
def mv_i545 : Nat → Nat → Int32 := im_u2 mv_i544 110 109 40
def mm_658 : im_M := (111, true, mv_k111, mv_i545, mv_l111, mv_r224)
def mv_i546 : Nat → Nat → Int32 := im_u2 mv_i545 110 110 43
def mm_659 : im_M := (111, true, mv_k111, mv_i546, mv_l111, mv_r224)
def mv_i547 : Nat → Nat → Int32 := im_u2 mv_i546 110 111 45
def mm_660 : im_M := (111, true, mv_k111, mv_i547, mv_l111, mv_r224)
def mv_i548 : Nat → Nat → Int32 := im_u2 mv_i547 110 112 48
def mm_661 : im_M := (111, true, mv_k111, mv_i548, mv_l111, mv_r224)
def mv_i549 : Nat → Nat → Int32 := im_u2 mv_i548 110 113 51
def mm_662 : im_M := (111, true, mv_k111, mv_i549, mv_l111, mv_r224)
def mv_i550 : Nat → Nat → Int32 := im_u2 mv_i549 110 114 53
def mm_663 : im_M := (111, true, mv_k111, mv_i550, mv_l111, mv_r224)
def mv_i551 : Nat → Nat → Int32 := im_u2 mv_i550 110 115 56
def mm_664 : im_M := (111, true, mv_k111, mv_i551, mv_l111, mv_r224)
def mv_i552 : Nat → Nat → Int32 := im_u2 mv_i551 110 116 59
def mm_665 : im_M := (111, true, mv_k111, mv_i552, mv_l111, mv_r224)
def mv_i553 : Nat → Nat → Int32 := im_u2 mv_i552 110 117 62
def mm_666 : im_M := (111, true, mv_k111, mv_i553, mv_l111, mv_r224)
def mv_i554 : Nat → Nat → Int32 := im_u2 mv_i553 110 118 65
def mm_667 : im_M := (111, true, mv_k111, mv_i554, mv_l111, mv_r224)
def mv_i555 : Nat → Nat → Int32 := im_u2 mv_i554 110 119 68
def mm_668 : im_M := (111, true, mv_k111, mv_i555, mv_l111, mv_r224)
def mv_i556 : Nat → Nat → Int32 := im_u2 mv_i555 110 120 1
def mm_669 : im_M := (111, true, mv_k111, mv_i556, mv_l111, mv_r224)
def mv_i557 : Nat → Nat → Int32 := im_u2 mv_i556 110 121 1
def mm_670 : im_M := (111, true, mv_k111, mv_i557, mv_l111, mv_r224)
def mv_i558 : Nat → Nat → Int32 := im_u2 mv_i557 110 122 2
def mm_671 : im_M := (111, true, mv_k111, mv_i558, mv_l111, mv_r224)
def mv_i559 : Nat → Nat → Int32 := im_u2 mv_i558 110 123 4
def mm_672 : im_M := (111, true, mv_k111, mv_i559, mv_l111, mv_r224)
def mv_i560 : Nat → Nat → Int32 := im_u2 mv_i559 110 124 4
def mm_673 : im_M := (111, true, mv_k111, mv_i560, mv_l111, mv_r224)
def mv_i561 : Nat → Nat → Int32 := im_u2 mv_i560 110 125 4
def mm_674 : im_M := (111, true, mv_k111, mv_i561, mv_l111, mv_r224)
def mv_i562 : Nat → Nat → Int32 := im_u2 mv_i561 110 126 5
def mm_675 : im_M := (111, true, mv_k111, mv_i562, mv_l111, mv_r224)
def mv_i563 : Nat → Nat → Int32 := im_u2 mv_i562 110 127 6
def mm_676 : im_M := (111, true, mv_k111, mv_i563, mv_l111, mv_r224)
def mv_i564 : Nat → Nat → Int32 := im_u2 mv_i563 110 128 8
def mm_677 : im_M := (111, true, mv_k111, mv_i564, mv_l111, mv_r224)
def mv_i565 : Nat → Nat → Int32 := im_u2 mv_i564 110 129 8
def mm_678 : im_M := (111, true, mv_k111, mv_i565, mv_l111, mv_r224)
def mv_i566 : Nat → Nat → Int32 := im_u2 mv_i565 110 130 11
def mm_679 : im_M := (111, true, mv_k111, mv_i566, mv_l111, mv_r224)
def mv_i567 : Nat → Nat → Int32 := im_u2 mv_i566 110 131 11
def mm_680 : im_M := (111, true, mv_k111, mv_i567, mv_l111, mv_r224)
def mv_i568 : Nat → Nat → Int32 := im_u2 mv_i567 110 132 16
def mm_681 : im_M := (111, true, mv_k111, mv_i568, mv_l111, mv_r224)
def mv_i569 : Nat → Nat → Int32 := im_u2 mv_i568 110 133 16
def mm_682 : im_M := (111, true, mv_k111, mv_i569, mv_l111, mv_r224)
def mv_i570 : Nat → Nat → Int32 := im_u2 mv_i569 110 134 18
def mm_683 : im_M := (111, true, mv_k111, mv_i570, mv_l111, mv_r224)
def mv_i571 : Nat → Nat → Int32 := im_u2 mv_i570 110 135 16
def mm_684 : im_M := (111, true, mv_k111, mv_i571, mv_l111, mv_r224)
def mv_i572 : Nat → Nat → Int32 := im_u2 mv_i571 110 136 19
def mm_685 : im_M := (111, true, mv_k111, mv_i572, mv_l111, mv_r224)
def mv_i573 : Nat → Nat → Int32 := im_u2 mv_i572 110 137 21
def mm_686 : im_M := (111, true, mv_k111, mv_i573, mv_l111, mv_r224)
def mv_i574 : Nat → Nat → Int32 := im_u2 mv_i573 110 138 25
def mm_687 : im_M := (111, true, mv_k111, mv_i574, mv_l111, mv_r224)
def mv_i575 : Nat → Nat → Int32 := im_u2 mv_i574 110 139 25
def mm_688 : im_M := (111, true, mv_k111, mv_i575, mv_l111, mv_r224)
def mv_i576 : Nat → Nat → Int32 := im_u2 mv_i575 110 140 25
def mm_689 : im_M := (111, true, mv_k111, mv_i576, mv_l111, mv_r224)
def mv_i577 : Nat → Nat → Int32 := im_u2 mv_i576 110 141 34
def mm_690 : im_M := (111, true, mv_k111, mv_i577, mv_l111, mv_r224)
def mv_i578 : Nat → Nat → Int32 := im_u2 mv_i577 110 142 30
def mm_691 : im_M := (111, true, mv_k111, mv_i578, mv_l111, mv_r224)
def mv_i579 : Nat → Nat → Int32 := im_u2 mv_i578 110 143 32
def mm_692 : im_M := (111, true, mv_k111, mv_i579, mv_l111, mv_r224)
def mv_i580 : Nat → Nat → Int32 := im_u2 mv_i579 110 144 35
def mm_693 : im_M := (111, true, mv_k111, mv_i580, mv_l111, mv_r224)
def mv_i581 : Nat → Nat → Int32 := im_u2 mv_i580 110 145 37
def mm_694 : im_M := (111, true, mv_k111, mv_i581, mv_l111, mv_r224)
def mv_i582 : Nat → Nat → Int32 := im_u2 mv_i581 110 146 40
def mm_695 : im_M := (111, true, mv_k111, mv_i582, mv_l111, mv_r224)
def mv_i583 : Nat → Nat → Int32 := im_u2 mv_i582 110 147 42
def mm_696 : im_M := (111, true, mv_k111, mv_i583, mv_l111, mv_r224)
def mv_i584 : Nat → Nat → Int32 := im_u2 mv_i583 110 148 45
def mm_697 : im_M := (111, true, mv_k111, mv_i584, mv_l111, mv_r224)
def mv_i585 : Nat → Nat → Int32 := im_u2 mv_i584 110 149 48
def mm_698 : im_M := (111, true, mv_k111, mv_i585, mv_l111, mv_r224)
def mv_i586 : Nat → Nat → Int32 := im_u2 mv_i585 110 150 51
def mm_699 : im_M := (111, true, mv_k111, mv_i586, mv_l111, mv_r224)
def mv_i587 : Nat → Nat → Int32 := im_u2 mv_i586 110 151 54
def mm_700 : im_M := (111, true, mv_k111, mv_i587, mv_l111, mv_r224)
def mv_i588 : Nat → Nat → Int32 := im_u2 mv_i587 110 152 57
def mm_701 : im_M := (111, true, mv_k111, mv_i588, mv_l111, mv_r224)
def mv_i589 : Nat → Nat → Int32 := im_u2 mv_i588 110 153 60
def mm_702 : im_M := (111, true, mv_k111, mv_i589, mv_l111, mv_r224)
def mv_i590 : Nat → Nat → Int32 := im_u2 mv_i589 110 154 63
def mm_703 : im_M := (111, true, mv_k111, mv_i590, mv_l111, mv_r224)
def mv_i591 : Nat → Nat → Int32 := im_u2 mv_i590 110 155 66
def mm_704 : im_M := (111, true, mv_k111, mv_i591, mv_l111, mv_r224)
def mv_i592 : Nat → Nat → Int32 := im_u2 mv_i591 110 156 70
def mm_705 : im_M := (111, true, mv_k111, mv_i592, mv_l111, mv_r224)
def mv_i593 : Nat → Nat → Int32 := im_u2 mv_i592 110 157 74
def mm_706 : im_M := (111, true, mv_k111, mv_i593, mv_l111, mv_r224)
def mv_i594 : Nat → Nat → Int32 := im_u2 mv_i593 110 158 77
def mm_707 : im_M := (111, true, mv_k111, mv_i594, mv_l111, mv_r224)
def mv_i595 : Nat → Nat → Int32 := im_u2 mv_i594 110 159 81
def mm_708 : im_M := (111, true, mv_k111, mv_i595, mv_l111, mv_r224)
def mv_r225 : Nat → Nat → Option Nat := im_u2 mv_r224 108 2 (some 110)
def mm_709 : im_M := (111, true, mv_k111, mv_i595, mv_l111, mv_r225)
def mv_k112 : Nat → Nat × Nat := va_up mv_k111 111 (33, 3000)
def mv_i596 : Nat → Nat → Int32 := va_up mv_i595 111 (fun _ => 0)
def mv_l112 : Nat → Nat → Int64 := va_up mv_l111 111 (fun _ => 0)
def mv_r226 : Nat → Nat → Option Nat := va_up mv_r225 111 (fun _ => none)
def mm_710 : im_M := (112, true, mv_k112, mv_i596, mv_l112, mv_r226)
def mv_r227 : Nat → Nat → Option Nat := im_u2 mv_r226 108 3 (some 111)
def mm_711 : im_M := (112, true, mv_k112, mv_i596, mv_l112, mv_r227)
def mv_k113 : Nat → Nat × Nat := va_up mv_k112 112 (33, 31329)
def mv_i597 : Nat → Nat → Int32 := va_up mv_i596 112 (fun _ => 0)
def mv_l113 : Nat → Nat → Int64 := va_up mv_l112 112 (fun _ => 0)
def mv_r228 : Nat → Nat → Option Nat := va_up mv_r227 112 (fun _ => none)
def mm_712 : im_M := (113, true, mv_k113, mv_i597, mv_l113, mv_r228)
def mv_r229 : Nat → Nat → Option Nat := im_u2 mv_r228 108 5 (some 112)
def mm_713 : im_M := (113, true, mv_k113, mv_i597, mv_l113, mv_r229)
def mv_k114 : Nat → Nat × Nat := va_up mv_k113 113 (33, 31329)
def mv_i598 : Nat → Nat → Int32 := va_up mv_i597 113 (fun _ => 0)
def mv_l114 : Nat → Nat → Int64 := va_up mv_l113 113 (fun _ => 0)
def mv_r230 : Nat → Nat → Option Nat := va_up mv_r229 113 (fun _ => none)
def mm_714 : im_M := (114, true, mv_k114, mv_i598, mv_l114, mv_r230)
def mv_r231 : Nat → Nat → Option Nat := im_u2 mv_r230 108 6 (some 113)
def mm_715 : im_M := (114, true, mv_k114, mv_i598, mv_l114, mv_r231)
def mv_k115 : Nat → Nat × Nat := va_up mv_k114 114 (33, 6)
def mv_i599 : Nat → Nat → Int32 := va_up mv_i598 114 (fun _ => 0)
def mv_l115 : Nat → Nat → Int64 := va_up mv_l114 114 (fun _ => 0)
def mv_r232 : Nat → Nat → Option Nat := va_up mv_r231 114 (fun _ => none)
def mm_716 : im_M := (115, true, mv_k115, mv_i599, mv_l115, mv_r232)
def mv_r233 : Nat → Nat → Option Nat := im_u2 mv_r232 108 10 (some 114)
def mm_717 : im_M := (115, true, mv_k115, mv_i599, mv_l115, mv_r233)
def mv_k116 : Nat → Nat × Nat := va_up mv_k115 115 (33, 3000)
def mv_i600 : Nat → Nat → Int32 := va_up mv_i599 115 (fun _ => 0)
def mv_l116 : Nat → Nat → Int64 := va_up mv_l115 115 (fun _ => 0)
def mv_r234 : Nat → Nat → Option Nat := va_up mv_r233 115 (fun _ => none)
def mm_718 : im_M := (116, true, mv_k116, mv_i600, mv_l116, mv_r234)
def mv_r235 : Nat → Nat → Option Nat := im_u2 mv_r234 108 11 (some 115)
def mm_719 : im_M := (116, true, mv_k116, mv_i600, mv_l116, mv_r235)
def mv_k117 : Nat → Nat × Nat := va_up mv_k116 116 (33, 3000)
def mv_i601 : Nat → Nat → Int32 := va_up mv_i600 116 (fun _ => 0)
def mv_l117 : Nat → Nat → Int64 := va_up mv_l116 116 (fun _ => 0)
def mv_r236 : Nat → Nat → Option Nat := va_up mv_r235 116 (fun _ => none)
def mm_720 : im_M := (117, true, mv_k117, mv_i601, mv_l117, mv_r236)
def mv_r237 : Nat → Nat → Option Nat := im_u2 mv_r236 108 12 (some 116)
def mm_721 : im_M := (117, true, mv_k117, mv_i601, mv_l117, mv_r237)
def mv_k118 : Nat → Nat × Nat := va_up mv_k117 117 (33, 3000)
def mv_i602 : Nat → Nat → Int32 := va_up mv_i601 117 (fun _ => 0)
def mv_l118 : Nat → Nat → Int64 := va_up mv_l117 117 (fun _ => 0)
def mv_r238 : Nat → Nat → Option Nat := va_up mv_r237 117 (fun _ => none)
def mm_722 : im_M := (118, true, mv_k118, mv_i602, mv_l118, mv_r238)
def mv_r239 : Nat → Nat → Option Nat := im_u2 mv_r238 108 14 (some 117)
def mm_723 : im_M := (118, true, mv_k118, mv_i602, mv_l118, mv_r239)
def mv_k119 : Nat → Nat × Nat := va_up mv_k118 118 (33, 18006)
def mv_i603 : Nat → Nat → Int32 := va_up mv_i602 118 (fun _ => 0)
def mv_l119 : Nat → Nat → Int64 := va_up mv_l118 118 (fun _ => 0)
def mv_r240 : Nat → Nat → Option Nat := va_up mv_r239 118 (fun _ => none)
def mm_724 : im_M := (119, true, mv_k119, mv_i603, mv_l119, mv_r240)
def mv_r241 : Nat → Nat → Option Nat := im_u2 mv_r240 108 15 (some 118)
def mm_725 : im_M := (119, true, mv_k119, mv_i603, mv_l119, mv_r241)
def mv_k120 : Nat → Nat × Nat := va_up mv_k119 119 (33, 3800)
def mv_i604 : Nat → Nat → Int32 := va_up mv_i603 119 (fun _ => 0)
def mv_l120 : Nat → Nat → Int64 := va_up mv_l119 119 (fun _ => 0)
def mv_r242 : Nat → Nat → Option Nat := va_up mv_r241 119 (fun _ => none)
def mm_726 : im_M := (120, true, mv_k120, mv_i604, mv_l120, mv_r242)
def mv_r243 : Nat → Nat → Option Nat := im_u2 mv_r242 108 17 (some 119)
def mm_727 : im_M := (120, true, mv_k120, mv_i604, mv_l120, mv_r243)
def mv_k121 : Nat → Nat × Nat := va_up mv_k120 120 (33, 3800)
def mv_i605 : Nat → Nat → Int32 := va_up mv_i604 120 (fun _ => 0)
def mv_l121 : Nat → Nat → Int64 := va_up mv_l120 120 (fun _ => 0)
def mv_r244 : Nat → Nat → Option Nat := va_up mv_r243 120 (fun _ => none)
def mm_728 : im_M := (121, true, mv_k121, mv_i605, mv_l121, mv_r244)
def mv_r245 : Nat → Nat → Option Nat := im_u2 mv_r244 108 18 (some 120)
def mm_729 : im_M := (121, true, mv_k121, mv_i605, mv_l121, mv_r245)
def mv_k122 : Nat → Nat × Nat := va_up mv_k121 121 (33, 256)
def mv_i606 : Nat → Nat → Int32 := va_up mv_i605 121 (fun _ => 0)
def mv_l122 : Nat → Nat → Int64 := va_up mv_l121 121 (fun _ => 0)
def mv_r246 : Nat → Nat → Option Nat := va_up mv_r245 121 (fun _ => none)
def mm_730 : im_M := (122, true, mv_k122, mv_i606, mv_l122, mv_r246)
def mv_r247 : Nat → Nat → Option Nat := im_u2 mv_r246 108 20 (some 121)
def mm_731 : im_M := (122, true, mv_k122, mv_i606, mv_l122, mv_r247)
def mv_k123 : Nat → Nat × Nat := va_up mv_k122 122 (33, 256)
def mv_i607 : Nat → Nat → Int32 := va_up mv_i606 122 (fun _ => 0)
def mv_l123 : Nat → Nat → Int64 := va_up mv_l122 122 (fun _ => 0)
def mv_r248 : Nat → Nat → Option Nat := va_up mv_r247 122 (fun _ => none)
def mm_732 : im_M := (123, true, mv_k123, mv_i607, mv_l123, mv_r248)
def mv_r249 : Nat → Nat → Option Nat := im_u2 mv_r248 108 21 (some 122)
def mm_733 : im_M := (123, true, mv_k123, mv_i607, mv_l123, mv_r249)
def mv_k124 : Nat → Nat × Nat := va_up mv_k123 123 (33, 32)
def mv_i608 : Nat → Nat → Int32 := va_up mv_i607 123 (fun _ => 0)
def mv_l124 : Nat → Nat → Int64 := va_up mv_l123 123 (fun _ => 0)
def mv_r250 : Nat → Nat → Option Nat := va_up mv_r249 123 (fun _ => none)
def mm_734 : im_M := (124, true, mv_k124, mv_i608, mv_l124, mv_r250)
def mv_r251 : Nat → Nat → Option Nat := im_u2 mv_r250 108 22 (some 123)
def mm_735 : im_M := (124, true, mv_k124, mv_i608, mv_l124, mv_r251)
def mv_k125 : Nat → Nat × Nat := va_up mv_k124 124 (33, 272)
def mv_i609 : Nat → Nat → Int32 := va_up mv_i608 124 (fun _ => 0)
def mv_l125 : Nat → Nat → Int64 := va_up mv_l124 124 (fun _ => 0)
def mv_r252 : Nat → Nat → Option Nat := va_up mv_r251 124 (fun _ => none)
def mm_736 : im_M := (125, true, mv_k125, mv_i609, mv_l125, mv_r252)
def mv_r253 : Nat → Nat → Option Nat := im_u2 mv_r252 108 23 (some 124)
def mm_737 : im_M := (125, true, mv_k125, mv_i609, mv_l125, mv_r253)
def mv_k126 : Nat → Nat × Nat := va_up mv_k125 125 (33, 16)
def mv_i610 : Nat → Nat → Int32 := va_up mv_i609 125 (fun _ => 0)
def mv_l126 : Nat → Nat → Int64 := va_up mv_l125 125 (fun _ => 0)
def mv_r254 : Nat → Nat → Option Nat := va_up mv_r253 125 (fun _ => none)
def mm_738 : im_M := (126, true, mv_k126, mv_i610, mv_l126, mv_r254)
def mv_r255 : Nat → Nat → Option Nat := im_u2 mv_r254 108 24 (some 125)
def mm_739 : im_M := (126, true, mv_k126, mv_i610, mv_l126, mv_r255)
def mv_k127 : Nat → Nat × Nat := va_up mv_k126 126 (33, 16)
def mv_i611 : Nat → Nat → Int32 := va_up mv_i610 126 (fun _ => 0)
def mv_l127 : Nat → Nat → Int64 := va_up mv_l126 126 (fun _ => 0)
def mv_r256 : Nat → Nat → Option Nat := va_up mv_r255 126 (fun _ => none)
def mm_740 : im_M := (127, true, mv_k127, mv_i611, mv_l127, mv_r256)
def mv_r257 : Nat → Nat → Option Nat := im_u2 mv_r256 108 25 (some 126)
def mm_741 : im_M := (127, true, mv_k127, mv_i611, mv_l127, mv_r257)
def mv_k128 : Nat → Nat × Nat := va_up mv_k127 127 (33, 32)
def mv_i612 : Nat → Nat → Int32 := va_up mv_i611 127 (fun _ => 0)
def mv_l128 : Nat → Nat → Int64 := va_up mv_l127 127 (fun _ => 0)
def mv_r258 : Nat → Nat → Option Nat := va_up mv_r257 127 (fun _ => none)
def mm_742 : im_M := (128, true, mv_k128, mv_i612, mv_l128, mv_r258)
def mv_r259 : Nat → Nat → Option Nat := im_u2 mv_r258 108 26 (some 127)
def mm_743 : im_M := (128, true, mv_k128, mv_i612, mv_l128, mv_r259)
def mv_k129 : Nat → Nat × Nat := va_up mv_k128 128 (33, 3000)
def mv_i613 : Nat → Nat → Int32 := va_up mv_i612 128 (fun _ => 0)
def mv_l129 : Nat → Nat → Int64 := va_up mv_l128 128 (fun _ => 0)
def mv_r260 : Nat → Nat → Option Nat := va_up mv_r259 128 (fun _ => none)
def mm_744 : im_M := (129, true, mv_k129, mv_i613, mv_l129, mv_r260)
def mv_r261 : Nat → Nat → Option Nat := im_u2 mv_r260 108 27 (some 128)
def mm_745 : im_M := (129, true, mv_k129, mv_i613, mv_l129, mv_r261)
def mv_k130 : Nat → Nat × Nat := va_up mv_k129 129 (33, 4)
def mv_i614 : Nat → Nat → Int32 := va_up mv_i613 129 (fun _ => 0)
def mv_l130 : Nat → Nat → Int64 := va_up mv_l129 129 (fun _ => 0)
def mv_r262 : Nat → Nat → Option Nat := va_up mv_r261 129 (fun _ => none)
def mm_746 : im_M := (130, true, mv_k130, mv_i614, mv_l130, mv_r262)
def mv_r263 : Nat → Nat → Option Nat := im_u2 mv_r262 108 33 (some 129)
def mm_747 : im_M := (130, true, mv_k130, mv_i614, mv_l130, mv_r263)
def mv_r264 : Nat → Nat → Option Nat := im_u2 mv_r263 69 6 (some 108)
def mm_748 : im_M := (130, true, mv_k130, mv_i614, mv_l130, mv_r264)
def mv_k131 : Nat → Nat × Nat := va_up mv_k130 130 (14, 0)
def mv_i615 : Nat → Nat → Int32 := va_up mv_i614 130 (fun _ => 0)
def mv_l131 : Nat → Nat → Int64 := va_up mv_l130 130 (fun _ => 0)
def mv_r265 : Nat → Nat → Option Nat := va_up mv_r264 130 (fun _ => none)
def mm_749 : im_M := (131, true, mv_k131, mv_i615, mv_l131, mv_r265)
def mv_i616 : Nat → Nat → Int32 := im_u2 mv_i615 130 1 64
def mm_750 : im_M := (131, true, mv_k131, mv_i616, mv_l131, mv_r265)
def mv_i617 : Nat → Nat → Int32 := im_u2 mv_i616 130 2 64
def mm_751 : im_M := (131, true, mv_k131, mv_i617, mv_l131, mv_r265)
def mv_k132 : Nat → Nat × Nat := va_up mv_k131 131 (36, 262144)
def mv_i618 : Nat → Nat → Int32 := va_up mv_i617 131 (fun _ => 0)
def mv_l132 : Nat → Nat → Int64 := va_up mv_l131 131 (fun _ => 0)
def mv_r266 : Nat → Nat → Option Nat := va_up mv_r265 131 (fun _ => none)
def mm_752 : im_M := (132, true, mv_k132, mv_i618, mv_l132, mv_r266)
def mv_r267 : Nat → Nat → Option Nat := im_u2 mv_r266 130 3 (some 131)
def mm_753 : im_M := (132, true, mv_k132, mv_i618, mv_l132, mv_r267)
def mv_k133 : Nat → Nat × Nat := va_up mv_k132 132 (33, 263169)
def mv_i619 : Nat → Nat → Int32 := va_up mv_i618 132 (fun _ => 0)
def mv_l133 : Nat → Nat → Int64 := va_up mv_l132 132 (fun _ => 0)
def mv_r268 : Nat → Nat → Option Nat := va_up mv_r267 132 (fun _ => none)
def mm_754 : im_M := (133, true, mv_k133, mv_i619, mv_l133, mv_r268)
def mv_r269 : Nat → Nat → Option Nat := im_u2 mv_r268 130 4 (some 132)
def mm_755 : im_M := (133, true, mv_k133, mv_i619, mv_l133, mv_r269)
def mv_k134 : Nat → Nat × Nat := va_up mv_k133 133 (33, 2100)
def mv_i620 : Nat → Nat → Int32 := va_up mv_i619 133 (fun _ => 0)
def mv_l134 : Nat → Nat → Int64 := va_up mv_l133 133 (fun _ => 0)
def mv_r270 : Nat → Nat → Option Nat := va_up mv_r269 133 (fun _ => none)
def mm_756 : im_M := (134, true, mv_k134, mv_i620, mv_l134, mv_r270)
def mv_r271 : Nat → Nat → Option Nat := im_u2 mv_r270 130 5 (some 133)
def mm_757 : im_M := (134, true, mv_k134, mv_i620, mv_l134, mv_r271)
def mv_k135 : Nat → Nat × Nat := va_up mv_k134 134 (33, 1800)
def mv_i621 : Nat → Nat → Int32 := va_up mv_i620 134 (fun _ => 0)
def mv_l135 : Nat → Nat → Int64 := va_up mv_l134 134 (fun _ => 0)
def mv_r272 : Nat → Nat → Option Nat := va_up mv_r271 134 (fun _ => none)
def mm_758 : im_M := (135, true, mv_k135, mv_i621, mv_l135, mv_r272)
def mv_r273 : Nat → Nat → Option Nat := im_u2 mv_r272 130 7 (some 134)
def mm_759 : im_M := (135, true, mv_k135, mv_i621, mv_l135, mv_r273)
def mv_k136 : Nat → Nat × Nat := va_up mv_k135 135 (33, 1800)
def mv_i622 : Nat → Nat → Int32 := va_up mv_i621 135 (fun _ => 0)
def mv_l136 : Nat → Nat → Int64 := va_up mv_l135 135 (fun _ => 0)
def mv_r274 : Nat → Nat → Option Nat := va_up mv_r273 135 (fun _ => none)
def mm_760 : im_M := (136, true, mv_k136, mv_i622, mv_l136, mv_r274)
def mv_r275 : Nat → Nat → Option Nat := im_u2 mv_r274 130 9 (some 135)
def mm_761 : im_M := (136, true, mv_k136, mv_i622, mv_l136, mv_r275)
def mv_r276 : Nat → Nat → Option Nat := im_u2 mv_r275 69 7 (some 130)
def mm_762 : im_M := (136, true, mv_k136, mv_i622, mv_l136, mv_r276)
def mv_k137 : Nat → Nat × Nat := va_up mv_k136 136 (33, 120)
def mv_i623 : Nat → Nat → Int32 := va_up mv_i622 136 (fun _ => 0)
def mv_l137 : Nat → Nat → Int64 := va_up mv_l136 136 (fun _ => 0)
def mv_r277 : Nat → Nat → Option Nat := va_up mv_r276 136 (fun _ => none)
def mm_763 : im_M := (137, true, mv_k137, mv_i623, mv_l137, mv_r277)
def mv_r278 : Nat → Nat → Option Nat := im_u2 mv_r277 69 8 (some 136)
def mm_764 : im_M := (137, true, mv_k137, mv_i623, mv_l137, mv_r278)
def mv_i624 : Nat → Nat → Int32 := im_u2 mv_i623 69 10 (-1)
def mm_765 : im_M := (137, true, mv_k137, mv_i624, mv_l137, mv_r278)
def mv_k138 : Nat → Nat × Nat := va_up mv_k137 137 (33, 3000)
def mv_i625 : Nat → Nat → Int32 := va_up mv_i624 137 (fun _ => 0)
def mv_l138 : Nat → Nat → Int64 := va_up mv_l137 137 (fun _ => 0)
def mv_r279 : Nat → Nat → Option Nat := va_up mv_r278 137 (fun _ => none)
def mm_766 : im_M := (138, true, mv_k138, mv_i625, mv_l138, mv_r279)
def mv_r280 : Nat → Nat → Option Nat := im_u2 mv_r279 69 11 (some 137)
def mm_767 : im_M := (138, true, mv_k138, mv_i625, mv_l138, mv_r280)
def mv_k139 : Nat → Nat × Nat := va_up mv_k138 138 (34, 1)
def mv_i626 : Nat → Nat → Int32 := va_up mv_i625 138 (fun _ => 0)
def mv_l139 : Nat → Nat → Int64 := va_up mv_l138 138 (fun _ => 0)
def mv_r281 : Nat → Nat → Option Nat := va_up mv_r280 138 (fun _ => none)
def mm_768 : im_M := (139, true, mv_k139, mv_i626, mv_l139, mv_r281)
