/-! METHODS AS FUNCTIONS -/
noncomputable def f_MPlaceRows_enter (p0 : Int32) (p1 : Int32) (p2 : Int32) (p3 : Int32) (p4 : Int32) (p5 : Int32) (M : im_M) : Option (im_M) := gd (inb ((6 : Int32) * (im_i M 130 8)) 1800) <| gd (inb (((6 : Int32) * (im_i (im_setI M 134 (Int32.toNatClampNeg ((6 : Int32) * (im_i M 130 8))) p0) 130 8)) + 1) 1800) <| gd (inb (((6 : Int32) * (im_i (im_setI (im_setI M 134 (Int32.toNatClampNeg ((6 : Int32) * (im_i M 130 8))) p0) 134 (Int32.toNatClampNeg (((6 : Int32) * (im_i (im_setI M 134 (Int32.toNatClampNeg ((6 : Int32) * (im_i M 130 8))) p0) 130 8)) + 1)) p1) 130 8)) + 2) 1800) <| gd (inb (((6 : Int32) * (im_i (im_setI (im_setI (im_setI M 134 (Int32.toNatClampNeg ((6 : Int32) * (im_i M 130 8))) p0) 134 (Int32.toNatClampNeg (((6 : Int32) * (im_i (im_setI M 134 (Int32.toNatClampNeg ((6 : Int32) * (im_i M 130 8))) p0) 130 8)) + 1)) p1) 134 (Int32.toNatClampNeg (((6 : Int32) * (im_i (im_setI (im_setI M 134 (Int32.toNatClampNeg ((6 : Int32) * (im_i M 130 8))) p0) 134 (Int32.toNatClampNeg (((6 : Int32) * (im_i (im_setI M 134 (Int32.toNatClampNeg ((6 : Int32) * (im_i M 130 8))) p0) 130 8)) + 1)) p1) 130 8)) + 2)) p2) 130 8)) + 3) 1800) <| gd (inb (((6 : Int32) * (im_i (im_setI (im_setI (im_setI (im_setI M 134 (Int32.toNatClampNeg ((6 : Int32) * (im_i M 130 8))) p0) 134 (Int32.toNatClampNeg (((6 : Int32) * (im_i (im_setI M 134 (Int32.toNatClampNeg ((6 : Int32) * (im_i M 130 8))) p0) 130 8)) + 1)) p1) 134 (Int32.toNatClampNeg (((6 : Int32) * (im_i (im_setI (im_setI M 134 (Int32.toNatClampNeg ((6 : Int32) * (im_i M 130 8))) p0) 134 (Int32.toNatClampNeg (((6 : Int32) * (im_i (im_setI M 134 (Int32.toNatClampNeg ((6 : Int32) * (im_i M 130 8))) p0) 130 8)) + 1)) p1) 130 8)) + 2)) p2) 134 (Int32.toNatClampNeg (((6 : Int32) * (im_i (im_setI (im_setI (im_setI M 134 (Int32.toNatClampNeg ((6 : Int32) * (im_i M 130 8))) p0) 134 (Int32.toNatClampNeg (((6 : Int32) * (im_i (im_setI M 134 (Int32.toNatClampNeg ((6 : Int32) * (im_i M 130 8))) p0) 130 8)) + 1)) p1) 134 (Int32.toNatClampNeg (((6 : Int32) * (im_i (im_setI (im_setI M 134 (Int32.toNatClampNeg ((6 : Int32) * (im_i M 130 8))) p0) 134 (Int32.toNatClampNeg (((6 : Int32) * (im_i (im_setI M 134 (Int32.toNatClampNeg ((6 : Int32) * (im_i M 130 8))) p0) 130 8)) + 1)) p1) 130 8)) + 2)) p2) 130 8)) + 3)) p3) 130 8)) + 4) 1800) <| gd (inb (((6 : Int32) * (im_i (im_setI (im_setI (im_setI (im_setI (im_setI M 134 (Int32.toNatClampNeg ((6 : Int32) * (im_i M 130 8))) p0) 134 (Int32.toNatClampNeg (((6 : Int32) * (im_i (im_setI M 134 (Int32.toNatClampNeg ((6 : Int32) * (im_i M 130 8))) p0) 130 8)) + 1)) p1) 134 (Int32.toNatClampNeg (((6 : Int32) * (im_i (im_setI (im_setI M 134 (Int32.toNatClampNeg ((6 : Int32) * (im_i M 130 8))) p0) 134 (Int32.toNatClampNeg (((6 : Int32) * (im_i (im_setI M 134 (Int32.toNatClampNeg ((6 : Int32) * (im_i M 130 8))) p0) 130 8)) + 1)) p1) 130 8)) + 2)) p2) 134 (Int32.toNatClampNeg (((6 : Int32) * (im_i (im_setI (im_setI (im_setI M 134 (Int32.toNatClampNeg ((6 : Int32) * (im_i M 130 8))) p0) 134 (Int32.toNatClampNeg (((6 : Int32) * (im_i (im_setI M 134 (Int32.toNatClampNeg ((6 : Int32) * (im_i M 130 8))) p0) 130 8)) + 1)) p1) 134 (Int32.toNatClampNeg (((6 : Int32) * (im_i (im_setI (im_setI M 134 (Int32.toNatClampNeg ((6 : Int32) * (im_i M 130 8))) p0) 134 (Int32.toNatClampNeg (((6 : Int32) * (im_i (im_setI M 134 (Int32.toNatClampNeg ((6 : Int32) * (im_i M 130 8))) p0) 130 8)) + 1)) p1) 130 8)) + 2)) p2) 130 8)) + 3)) p3) 134 (Int32.toNatClampNeg (((6 : Int32) * (im_i (im_setI (im_setI (im_setI (im_setI M 134 (Int32.toNatClampNeg ((6 : Int32) * (im_i M 130 8))) p0) 134 (Int32.toNatClampNeg (((6 : Int32) * (im_i (im_setI M 134 (Int32.toNatClampNeg ((6 : Int32) * (im_i M 130 8))) p0) 130 8)) + 1)) p1) 134 (Int32.toNatClampNeg (((6 : Int32) * (im_i (im_setI (im_setI M 134 (Int32.toNatClampNeg ((6 : Int32) * (im_i M 130 8))) p0) 134 (Int32.toNatClampNeg (((6 : Int32) * (im_i (im_setI M 134 (Int32.toNatClampNeg ((6 : Int32) * (im_i M 130 8))) p0) 130 8)) + 1)) p1) 130 8)) + 2)) p2) 134 (Int32.toNatClampNeg (((6 : Int32) * (im_i (im_setI (im_setI (im_setI M 134 (Int32.toNatClampNeg ((6 : Int32) * (im_i M 130 8))) p0) 134 (Int32.toNatClampNeg (((6 : Int32) * (im_i (im_setI M 134 (Int32.toNatClampNeg ((6 : Int32) * (im_i M 130 8))) p0) 130 8)) + 1)) p1) 134 (Int32.toNatClampNeg (((6 : Int32) * (im_i (im_setI (im_setI M 134 (Int32.toNatClampNeg ((6 : Int32) * (im_i M 130 8))) p0) 134 (Int32.toNatClampNeg (((6 : Int32) * (im_i (im_setI M 134 (Int32.toNatClampNeg ((6 : Int32) * (im_i M 130 8))) p0) 130 8)) + 1)) p1) 130 8)) + 2)) p2) 130 8)) + 3)) p3) 130 8)) + 4)) p4) 130 8)) + 5) 1800) <| some (im_setI (im_setI (im_setI (im_setI (im_setI (im_setI (im_setI M 134 (Int32.toNatClampNeg ((6 : Int32) * (im_i M 130 8))) p0) 134 (Int32.toNatClampNeg (((6 : Int32) * (im_i (im_setI M 134 (Int32.toNatClampNeg ((6 : Int32) * (im_i M 130 8))) p0) 130 8)) + 1)) p1) 134 (Int32.toNatClampNeg (((6 : Int32) * (im_i (im_setI (im_setI M 134 (Int32.toNatClampNeg ((6 : Int32) * (im_i M 130 8))) p0) 134 (Int32.toNatClampNeg (((6 : Int32) * (im_i (im_setI M 134 (Int32.toNatClampNeg ((6 : Int32) * (im_i M 130 8))) p0) 130 8)) + 1)) p1) 130 8)) + 2)) p2) 134 (Int32.toNatClampNeg (((6 : Int32) * (im_i (im_setI (im_setI (im_setI M 134 (Int32.toNatClampNeg ((6 : Int32) * (im_i M 130 8))) p0) 134 (Int32.toNatClampNeg (((6 : Int32) * (im_i (im_setI M 134 (Int32.toNatClampNeg ((6 : Int32) * (im_i M 130 8))) p0) 130 8)) + 1)) p1) 134 (Int32.toNatClampNeg (((6 : Int32) * (im_i (im_setI (im_setI M 134 (Int32.toNatClampNeg ((6 : Int32) * (im_i M 130 8))) p0) 134 (Int32.toNatClampNeg (((6 : Int32) * (im_i (im_setI M 134 (Int32.toNatClampNeg ((6 : Int32) * (im_i M 130 8))) p0) 130 8)) + 1)) p1) 130 8)) + 2)) p2) 130 8)) + 3)) p3) 134 (Int32.toNatClampNeg (((6 : Int32) * (im_i (im_setI (im_setI (im_setI (im_setI M 134 (Int32.toNatClampNeg ((6 : Int32) * (im_i M 130 8))) p0) 134 (Int32.toNatClampNeg (((6 : Int32) * (im_i (im_setI M 134 (Int32.toNatClampNeg ((6 : Int32) * (im_i M 130 8))) p0) 130 8)) + 1)) p1) 134 (Int32.toNatClampNeg (((6 : Int32) * (im_i (im_setI (im_setI M 134 (Int32.toNatClampNeg ((6 : Int32) * (im_i M 130 8))) p0) 134 (Int32.toNatClampNeg (((6 : Int32) * (im_i (im_setI M 134 (Int32.toNatClampNeg ((6 : Int32) * (im_i M 130 8))) p0) 130 8)) + 1)) p1) 130 8)) + 2)) p2) 134 (Int32.toNatClampNeg (((6 : Int32) * (im_i (im_setI (im_setI (im_setI M 134 (Int32.toNatClampNeg ((6 : Int32) * (im_i M 130 8))) p0) 134 (Int32.toNatClampNeg (((6 : Int32) * (im_i (im_setI M 134 (Int32.toNatClampNeg ((6 : Int32) * (im_i M 130 8))) p0) 130 8)) + 1)) p1) 134 (Int32.toNatClampNeg (((6 : Int32) * (im_i (im_setI (im_setI M 134 (Int32.toNatClampNeg ((6 : Int32) * (im_i M 130 8))) p0) 134 (Int32.toNatClampNeg (((6 : Int32) * (im_i (im_setI M 134 (Int32.toNatClampNeg ((6 : Int32) * (im_i M 130 8))) p0) 130 8)) + 1)) p1) 130 8)) + 2)) p2) 130 8)) + 3)) p3) 130 8)) + 4)) p4) 134 (Int32.toNatClampNeg (((6 : Int32) * (im_i (im_setI (im_setI (im_setI (im_setI (im_setI M 134 (Int32.toNatClampNeg ((6 : Int32) * (im_i M 130 8))) p0) 134 (Int32.toNatClampNeg (((6 : Int32) * (im_i (im_setI M 134 (Int32.toNatClampNeg ((6 : Int32) * (im_i M 130 8))) p0) 130 8)) + 1)) p1) 134 (Int32.toNatClampNeg (((6 : Int32) * (im_i (im_setI (im_setI M 134 (Int32.toNatClampNeg ((6 : Int32) * (im_i M 130 8))) p0) 134 (Int32.toNatClampNeg (((6 : Int32) * (im_i (im_setI M 134 (Int32.toNatClampNeg ((6 : Int32) * (im_i M 130 8))) p0) 130 8)) + 1)) p1) 130 8)) + 2)) p2) 134 (Int32.toNatClampNeg (((6 : Int32) * (im_i (im_setI (im_setI (im_setI M 134 (Int32.toNatClampNeg ((6 : Int32) * (im_i M 130 8))) p0) 134 (Int32.toNatClampNeg (((6 : Int32) * (im_i (im_setI M 134 (Int32.toNatClampNeg ((6 : Int32) * (im_i M 130 8))) p0) 130 8)) + 1)) p1) 134 (Int32.toNatClampNeg (((6 : Int32) * (im_i (im_setI (im_setI M 134 (Int32.toNatClampNeg ((6 : Int32) * (im_i M 130 8))) p0) 134 (Int32.toNatClampNeg (((6 : Int32) * (im_i (im_setI M 134 (Int32.toNatClampNeg ((6 : Int32) * (im_i M 130 8))) p0) 130 8)) + 1)) p1) 130 8)) + 2)) p2) 130 8)) + 3)) p3) 134 (Int32.toNatClampNeg (((6 : Int32) * (im_i (im_setI (im_setI (im_setI (im_setI M 134 (Int32.toNatClampNeg ((6 : Int32) * (im_i M 130 8))) p0) 134 (Int32.toNatClampNeg (((6 : Int32) * (im_i (im_setI M 134 (Int32.toNatClampNeg ((6 : Int32) * (im_i M 130 8))) p0) 130 8)) + 1)) p1) 134 (Int32.toNatClampNeg (((6 : Int32) * (im_i (im_setI (im_setI M 134 (Int32.toNatClampNeg ((6 : Int32) * (im_i M 130 8))) p0) 134 (Int32.toNatClampNeg (((6 : Int32) * (im_i (im_setI M 134 (Int32.toNatClampNeg ((6 : Int32) * (im_i M 130 8))) p0) 130 8)) + 1)) p1) 130 8)) + 2)) p2) 134 (Int32.toNatClampNeg (((6 : Int32) * (im_i (im_setI (im_setI (im_setI M 134 (Int32.toNatClampNeg ((6 : Int32) * (im_i M 130 8))) p0) 134 (Int32.toNatClampNeg (((6 : Int32) * (im_i (im_setI M 134 (Int32.toNatClampNeg ((6 : Int32) * (im_i M 130 8))) p0) 130 8)) + 1)) p1) 134 (Int32.toNatClampNeg (((6 : Int32) * (im_i (im_setI (im_setI M 134 (Int32.toNatClampNeg ((6 : Int32) * (im_i M 130 8))) p0) 134 (Int32.toNatClampNeg (((6 : Int32) * (im_i (im_setI M 134 (Int32.toNatClampNeg ((6 : Int32) * (im_i M 130 8))) p0) 130 8)) + 1)) p1) 130 8)) + 2)) p2) 130 8)) + 3)) p3) 130 8)) + 4)) p4) 130 8)) + 5)) p5) 130 8 ((im_i (im_setI (im_setI (im_setI (im_setI (im_setI (im_setI M 134 (Int32.toNatClampNeg ((6 : Int32) * (im_i M 130 8))) p0) 134 (Int32.toNatClampNeg (((6 : Int32) * (im_i (im_setI M 134 (Int32.toNatClampNeg ((6 : Int32) * (im_i M 130 8))) p0) 130 8)) + 1)) p1) 134 (Int32.toNatClampNeg (((6 : Int32) * (im_i (im_setI (im_setI M 134 (Int32.toNatClampNeg ((6 : Int32) * (im_i M 130 8))) p0) 134 (Int32.toNatClampNeg (((6 : Int32) * (im_i (im_setI M 134 (Int32.toNatClampNeg ((6 : Int32) * (im_i M 130 8))) p0) 130 8)) + 1)) p1) 130 8)) + 2)) p2) 134 (Int32.toNatClampNeg (((6 : Int32) * (im_i (im_setI (im_setI (im_setI M 134 (Int32.toNatClampNeg ((6 : Int32) * (im_i M 130 8))) p0) 134 (Int32.toNatClampNeg (((6 : Int32) * (im_i (im_setI M 134 (Int32.toNatClampNeg ((6 : Int32) * (im_i M 130 8))) p0) 130 8)) + 1)) p1) 134 (Int32.toNatClampNeg (((6 : Int32) * (im_i (im_setI (im_setI M 134 (Int32.toNatClampNeg ((6 : Int32) * (im_i M 130 8))) p0) 134 (Int32.toNatClampNeg (((6 : Int32) * (im_i (im_setI M 134 (Int32.toNatClampNeg ((6 : Int32) * (im_i M 130 8))) p0) 130 8)) + 1)) p1) 130 8)) + 2)) p2) 130 8)) + 3)) p3) 134 (Int32.toNatClampNeg (((6 : Int32) * (im_i (im_setI (im_setI (im_setI (im_setI M 134 (Int32.toNatClampNeg ((6 : Int32) * (im_i M 130 8))) p0) 134 (Int32.toNatClampNeg (((6 : Int32) * (im_i (im_setI M 134 (Int32.toNatClampNeg ((6 : Int32) * (im_i M 130 8))) p0) 130 8)) + 1)) p1) 134 (Int32.toNatClampNeg (((6 : Int32) * (im_i (im_setI (im_setI M 134 (Int32.toNatClampNeg ((6 : Int32) * (im_i M 130 8))) p0) 134 (Int32.toNatClampNeg (((6 : Int32) * (im_i (im_setI M 134 (Int32.toNatClampNeg ((6 : Int32) * (im_i M 130 8))) p0) 130 8)) + 1)) p1) 130 8)) + 2)) p2) 134 (Int32.toNatClampNeg (((6 : Int32) * (im_i (im_setI (im_setI (im_setI M 134 (Int32.toNatClampNeg ((6 : Int32) * (im_i M 130 8))) p0) 134 (Int32.toNatClampNeg (((6 : Int32) * (im_i (im_setI M 134 (Int32.toNatClampNeg ((6 : Int32) * (im_i M 130 8))) p0) 130 8)) + 1)) p1) 134 (Int32.toNatClampNeg (((6 : Int32) * (im_i (im_setI (im_setI M 134 (Int32.toNatClampNeg ((6 : Int32) * (im_i M 130 8))) p0) 134 (Int32.toNatClampNeg (((6 : Int32) * (im_i (im_setI M 134 (Int32.toNatClampNeg ((6 : Int32) * (im_i M 130 8))) p0) 130 8)) + 1)) p1) 130 8)) + 2)) p2) 130 8)) + 3)) p3) 130 8)) + 4)) p4) 134 (Int32.toNatClampNeg (((6 : Int32) * (im_i (im_setI (im_setI (im_setI (im_setI (im_setI M 134 (Int32.toNatClampNeg ((6 : Int32) * (im_i M 130 8))) p0) 134 (Int32.toNatClampNeg (((6 : Int32) * (im_i (im_setI M 134 (Int32.toNatClampNeg ((6 : Int32) * (im_i M 130 8))) p0) 130 8)) + 1)) p1) 134 (Int32.toNatClampNeg (((6 : Int32) * (im_i (im_setI (im_setI M 134 (Int32.toNatClampNeg ((6 : Int32) * (im_i M 130 8))) p0) 134 (Int32.toNatClampNeg (((6 : Int32) * (im_i (im_setI M 134 (Int32.toNatClampNeg ((6 : Int32) * (im_i M 130 8))) p0) 130 8)) + 1)) p1) 130 8)) + 2)) p2) 134 (Int32.toNatClampNeg (((6 : Int32) * (im_i (im_setI (im_setI (im_setI M 134 (Int32.toNatClampNeg ((6 : Int32) * (im_i M 130 8))) p0) 134 (Int32.toNatClampNeg (((6 : Int32) * (im_i (im_setI M 134 (Int32.toNatClampNeg ((6 : Int32) * (im_i M 130 8))) p0) 130 8)) + 1)) p1) 134 (Int32.toNatClampNeg (((6 : Int32) * (im_i (im_setI (im_setI M 134 (Int32.toNatClampNeg ((6 : Int32) * (im_i M 130 8))) p0) 134 (Int32.toNatClampNeg (((6 : Int32) * (im_i (im_setI M 134 (Int32.toNatClampNeg ((6 : Int32) * (im_i M 130 8))) p0) 130 8)) + 1)) p1) 130 8)) + 2)) p2) 130 8)) + 3)) p3) 134 (Int32.toNatClampNeg (((6 : Int32) * (im_i (im_setI (im_setI (im_setI (im_setI M 134 (Int32.toNatClampNeg ((6 : Int32) * (im_i M 130 8))) p0) 134 (Int32.toNatClampNeg (((6 : Int32) * (im_i (im_setI M 134 (Int32.toNatClampNeg ((6 : Int32) * (im_i M 130 8))) p0) 130 8)) + 1)) p1) 134 (Int32.toNatClampNeg (((6 : Int32) * (im_i (im_setI (im_setI M 134 (Int32.toNatClampNeg ((6 : Int32) * (im_i M 130 8))) p0) 134 (Int32.toNatClampNeg (((6 : Int32) * (im_i (im_setI M 134 (Int32.toNatClampNeg ((6 : Int32) * (im_i M 130 8))) p0) 130 8)) + 1)) p1) 130 8)) + 2)) p2) 134 (Int32.toNatClampNeg (((6 : Int32) * (im_i (im_setI (im_setI (im_setI M 134 (Int32.toNatClampNeg ((6 : Int32) * (im_i M 130 8))) p0) 134 (Int32.toNatClampNeg (((6 : Int32) * (im_i (im_setI M 134 (Int32.toNatClampNeg ((6 : Int32) * (im_i M 130 8))) p0) 130 8)) + 1)) p1) 134 (Int32.toNatClampNeg (((6 : Int32) * (im_i (im_setI (im_setI M 134 (Int32.toNatClampNeg ((6 : Int32) * (im_i M 130 8))) p0) 134 (Int32.toNatClampNeg (((6 : Int32) * (im_i (im_setI M 134 (Int32.toNatClampNeg ((6 : Int32) * (im_i M 130 8))) p0) 130 8)) + 1)) p1) 130 8)) + 2)) p2) 130 8)) + 3)) p3) 130 8)) + 4)) p4) 130 8)) + 5)) p5) 130 8) + 1))
theorem J_MPlaceRows_enter_d0 : decode J_MPlaceRows_enter.2.1 0 = .ok (.aload_n 0, 1) := by decide +kernel
theorem J_MPlaceRows_enter_d1 : decode J_MPlaceRows_enter.2.1 1 = .ok (.getfield 29, 3) := by decide +kernel
theorem J_MPlaceRows_enter_d4 : decode J_MPlaceRows_enter.2.1 4 = .ok (.bipush 6, 2) := by decide +kernel
theorem J_MPlaceRows_enter_d6 : decode J_MPlaceRows_enter.2.1 6 = .ok (.aload_n 0, 1) := by decide +kernel
theorem J_MPlaceRows_enter_d7 : decode J_MPlaceRows_enter.2.1 7 = .ok (.getfield 38, 3) := by decide +kernel
theorem J_MPlaceRows_enter_d10 : decode J_MPlaceRows_enter.2.1 10 = .ok (.imul, 1) := by decide +kernel
theorem J_MPlaceRows_enter_d11 : decode J_MPlaceRows_enter.2.1 11 = .ok (.iload_n 1, 1) := by decide +kernel
theorem J_MPlaceRows_enter_d12 : decode J_MPlaceRows_enter.2.1 12 = .ok (.iastore, 1) := by decide +kernel
theorem J_MPlaceRows_enter_d13 : decode J_MPlaceRows_enter.2.1 13 = .ok (.aload_n 0, 1) := by decide +kernel
theorem J_MPlaceRows_enter_d14 : decode J_MPlaceRows_enter.2.1 14 = .ok (.getfield 29, 3) := by decide +kernel
theorem J_MPlaceRows_enter_d17 : decode J_MPlaceRows_enter.2.1 17 = .ok (.bipush 6, 2) := by decide +kernel
theorem J_MPlaceRows_enter_d19 : decode J_MPlaceRows_enter.2.1 19 = .ok (.aload_n 0, 1) := by decide +kernel
theorem J_MPlaceRows_enter_d20 : decode J_MPlaceRows_enter.2.1 20 = .ok (.getfield 38, 3) := by decide +kernel
theorem J_MPlaceRows_enter_d23 : decode J_MPlaceRows_enter.2.1 23 = .ok (.imul, 1) := by decide +kernel
theorem J_MPlaceRows_enter_d24 : decode J_MPlaceRows_enter.2.1 24 = .ok (.iconst 1, 1) := by decide +kernel
theorem J_MPlaceRows_enter_d25 : decode J_MPlaceRows_enter.2.1 25 = .ok (.iadd, 1) := by decide +kernel
theorem J_MPlaceRows_enter_d26 : decode J_MPlaceRows_enter.2.1 26 = .ok (.iload_n 2, 1) := by decide +kernel
theorem J_MPlaceRows_enter_d27 : decode J_MPlaceRows_enter.2.1 27 = .ok (.iastore, 1) := by decide +kernel
theorem J_MPlaceRows_enter_d28 : decode J_MPlaceRows_enter.2.1 28 = .ok (.aload_n 0, 1) := by decide +kernel
theorem J_MPlaceRows_enter_d29 : decode J_MPlaceRows_enter.2.1 29 = .ok (.getfield 29, 3) := by decide +kernel
theorem J_MPlaceRows_enter_d32 : decode J_MPlaceRows_enter.2.1 32 = .ok (.bipush 6, 2) := by decide +kernel
theorem J_MPlaceRows_enter_d34 : decode J_MPlaceRows_enter.2.1 34 = .ok (.aload_n 0, 1) := by decide +kernel
theorem J_MPlaceRows_enter_d35 : decode J_MPlaceRows_enter.2.1 35 = .ok (.getfield 38, 3) := by decide +kernel
theorem J_MPlaceRows_enter_d38 : decode J_MPlaceRows_enter.2.1 38 = .ok (.imul, 1) := by decide +kernel
theorem J_MPlaceRows_enter_d39 : decode J_MPlaceRows_enter.2.1 39 = .ok (.iconst 2, 1) := by decide +kernel
theorem J_MPlaceRows_enter_d40 : decode J_MPlaceRows_enter.2.1 40 = .ok (.iadd, 1) := by decide +kernel
theorem J_MPlaceRows_enter_d41 : decode J_MPlaceRows_enter.2.1 41 = .ok (.iload_n 3, 1) := by decide +kernel
theorem J_MPlaceRows_enter_d42 : decode J_MPlaceRows_enter.2.1 42 = .ok (.iastore, 1) := by decide +kernel
theorem J_MPlaceRows_enter_d43 : decode J_MPlaceRows_enter.2.1 43 = .ok (.aload_n 0, 1) := by decide +kernel
theorem J_MPlaceRows_enter_d44 : decode J_MPlaceRows_enter.2.1 44 = .ok (.getfield 29, 3) := by decide +kernel
theorem J_MPlaceRows_enter_d47 : decode J_MPlaceRows_enter.2.1 47 = .ok (.bipush 6, 2) := by decide +kernel
theorem J_MPlaceRows_enter_d49 : decode J_MPlaceRows_enter.2.1 49 = .ok (.aload_n 0, 1) := by decide +kernel
theorem J_MPlaceRows_enter_d50 : decode J_MPlaceRows_enter.2.1 50 = .ok (.getfield 38, 3) := by decide +kernel
theorem J_MPlaceRows_enter_d53 : decode J_MPlaceRows_enter.2.1 53 = .ok (.imul, 1) := by decide +kernel
theorem J_MPlaceRows_enter_d54 : decode J_MPlaceRows_enter.2.1 54 = .ok (.iconst 3, 1) := by decide +kernel
theorem J_MPlaceRows_enter_d55 : decode J_MPlaceRows_enter.2.1 55 = .ok (.iadd, 1) := by decide +kernel
theorem J_MPlaceRows_enter_d56 : decode J_MPlaceRows_enter.2.1 56 = .ok (.iload 4, 2) := by decide +kernel
theorem J_MPlaceRows_enter_d58 : decode J_MPlaceRows_enter.2.1 58 = .ok (.iastore, 1) := by decide +kernel
theorem J_MPlaceRows_enter_d59 : decode J_MPlaceRows_enter.2.1 59 = .ok (.aload_n 0, 1) := by decide +kernel
theorem J_MPlaceRows_enter_d60 : decode J_MPlaceRows_enter.2.1 60 = .ok (.getfield 29, 3) := by decide +kernel
theorem J_MPlaceRows_enter_d63 : decode J_MPlaceRows_enter.2.1 63 = .ok (.bipush 6, 2) := by decide +kernel
theorem J_MPlaceRows_enter_d65 : decode J_MPlaceRows_enter.2.1 65 = .ok (.aload_n 0, 1) := by decide +kernel
theorem J_MPlaceRows_enter_d66 : decode J_MPlaceRows_enter.2.1 66 = .ok (.getfield 38, 3) := by decide +kernel
theorem J_MPlaceRows_enter_d69 : decode J_MPlaceRows_enter.2.1 69 = .ok (.imul, 1) := by decide +kernel
theorem J_MPlaceRows_enter_d70 : decode J_MPlaceRows_enter.2.1 70 = .ok (.iconst 4, 1) := by decide +kernel
theorem J_MPlaceRows_enter_d71 : decode J_MPlaceRows_enter.2.1 71 = .ok (.iadd, 1) := by decide +kernel
theorem J_MPlaceRows_enter_d72 : decode J_MPlaceRows_enter.2.1 72 = .ok (.iload 5, 2) := by decide +kernel
theorem J_MPlaceRows_enter_d74 : decode J_MPlaceRows_enter.2.1 74 = .ok (.iastore, 1) := by decide +kernel
theorem J_MPlaceRows_enter_d75 : decode J_MPlaceRows_enter.2.1 75 = .ok (.aload_n 0, 1) := by decide +kernel
theorem J_MPlaceRows_enter_d76 : decode J_MPlaceRows_enter.2.1 76 = .ok (.getfield 29, 3) := by decide +kernel
theorem J_MPlaceRows_enter_d79 : decode J_MPlaceRows_enter.2.1 79 = .ok (.bipush 6, 2) := by decide +kernel
theorem J_MPlaceRows_enter_d81 : decode J_MPlaceRows_enter.2.1 81 = .ok (.aload_n 0, 1) := by decide +kernel
theorem J_MPlaceRows_enter_d82 : decode J_MPlaceRows_enter.2.1 82 = .ok (.getfield 38, 3) := by decide +kernel
theorem J_MPlaceRows_enter_d85 : decode J_MPlaceRows_enter.2.1 85 = .ok (.imul, 1) := by decide +kernel
theorem J_MPlaceRows_enter_d86 : decode J_MPlaceRows_enter.2.1 86 = .ok (.iconst 5, 1) := by decide +kernel
theorem J_MPlaceRows_enter_d87 : decode J_MPlaceRows_enter.2.1 87 = .ok (.iadd, 1) := by decide +kernel
theorem J_MPlaceRows_enter_d88 : decode J_MPlaceRows_enter.2.1 88 = .ok (.iload 6, 2) := by decide +kernel
theorem J_MPlaceRows_enter_d90 : decode J_MPlaceRows_enter.2.1 90 = .ok (.iastore, 1) := by decide +kernel
theorem J_MPlaceRows_enter_d91 : decode J_MPlaceRows_enter.2.1 91 = .ok (.aload_n 0, 1) := by decide +kernel
theorem J_MPlaceRows_enter_d92 : decode J_MPlaceRows_enter.2.1 92 = .ok (.dup, 1) := by decide +kernel
theorem J_MPlaceRows_enter_d93 : decode J_MPlaceRows_enter.2.1 93 = .ok (.getfield 38, 3) := by decide +kernel
theorem J_MPlaceRows_enter_d96 : decode J_MPlaceRows_enter.2.1 96 = .ok (.iconst 1, 1) := by decide +kernel
theorem J_MPlaceRows_enter_d97 : decode J_MPlaceRows_enter.2.1 97 = .ok (.iadd, 1) := by decide +kernel
theorem J_MPlaceRows_enter_d98 : decode J_MPlaceRows_enter.2.1 98 = .ok (.putfield 38, 3) := by decide +kernel
theorem J_MPlaceRows_enter_d101 : decode J_MPlaceRows_enter.2.1 101 = .ok (.return_, 1) := by decide +kernel
theorem f_MPlaceRows_enter_ok {L : Nat} {xs : Nat → Int32} {dep : Nat} {w : Bool} {p0 : Int32} {p1 : Int32} {p2 : Int32} {p3 : Int32} {p4 : Int32} {p5 : Int32} {M : im_M} {Q : im_M → Prop} (hM : lw_S w M) (h : ed (f_MPlaceRows_enter p0 p1 p2 p3 p4 p5 M) Q) : ia (tb_G L xs) dep J_MPlaceRows_enter (rwV w Q) (0, lv_args 0 [.ref 130, .int p0, .int p1, .int p2, .int p3, .int p4, .int p5], [], M) := by
  have hS : im_St (tb_G L xs) dep J_MPlaceRows_enter (ia (tb_G L xs) dep J_MPlaceRows_enter (rwV w Q)) := ia_St
  unfold f_MPlaceRows_enter at h
  have l0 : im_lk (lv_args 0 [.ref 130, .int p0, .int p1, .int p2, .int p3, .int p4, .int p5]) 0 = some (.ref 130) := rfl
  have l1 : im_lk (lv_args 0 [.ref 130, .int p0, .int p1, .int p2, .int p3, .int p4, .int p5]) 1 = some (.int p0) := rfl
  have l2 : im_lk (lv_args 0 [.ref 130, .int p0, .int p1, .int p2, .int p3, .int p4, .int p5]) 2 = some (.int p1) := rfl
  have l3 : im_lk (lv_args 0 [.ref 130, .int p0, .int p1, .int p2, .int p3, .int p4, .int p5]) 3 = some (.int p2) := rfl
  have l4 : im_lk (lv_args 0 [.ref 130, .int p0, .int p1, .int p2, .int p3, .int p4, .int p5]) 4 = some (.int p3) := rfl
  have l5 : im_lk (lv_args 0 [.ref 130, .int p0, .int p1, .int p2, .int p3, .int p4, .int p5]) 5 = some (.int p4) := rfl
  have l6 : im_lk (lv_args 0 [.ref 130, .int p0, .int p1, .int p2, .int p3, .int p4, .int p5]) 6 = some (.int p5) := rfl
  refine iq_aload_n hS 1 J_MPlaceRows_enter_d0 l0 rfl ?_
  refine iq_getR hS 4 J_MPlaceRows_enter_d1 lf_14_29 (Or.inr ⟨_, rfl⟩) (ka_130 hM) (ra_130_7 hM) rfl ?_
  refine iq_bipush hS 6 J_MPlaceRows_enter_d4 (v := 6) (by decide +kernel) rfl ?_
  refine iq_aload_n hS 7 J_MPlaceRows_enter_d6 l0 rfl ?_
  refine iq_getI hS 10 J_MPlaceRows_enter_d7 lf_14_38 (Or.inl rfl) (ka_130 hM) rfl ?_
  refine iq_imul hS 11 J_MPlaceRows_enter_d10 rfl ?_
  refine iq_iload_n hS 12 J_MPlaceRows_enter_d11 l1 rfl ?_
  obtain ⟨g12, h⟩ := ed_gd h
  refine iq_iastore hS 13 J_MPlaceRows_enter_d12 ⟨(ka_134 hM).1, (ka_134 hM).2, g12.1, ix_lt (kl_134 hM) g12.2⟩ rfl ?_
  refine iq_aload_n hS 14 J_MPlaceRows_enter_d13 l0 rfl ?_
  refine iq_getR hS 17 J_MPlaceRows_enter_d14 lf_14_29 (Or.inr ⟨_, rfl⟩) (ka_130 (lw_sI hM)) (ra_130_7 (lw_sI hM)) rfl ?_
  refine iq_bipush hS 19 J_MPlaceRows_enter_d17 (v := 6) (by decide +kernel) rfl ?_
  refine iq_aload_n hS 20 J_MPlaceRows_enter_d19 l0 rfl ?_
  refine iq_getI hS 23 J_MPlaceRows_enter_d20 lf_14_38 (Or.inl rfl) (ka_130 (lw_sI hM)) rfl ?_
  refine iq_imul hS 24 J_MPlaceRows_enter_d23 rfl ?_
  refine iq_iconst hS 25 J_MPlaceRows_enter_d24 (v := 1) (by decide +kernel) rfl ?_
  refine iq_iadd hS 26 J_MPlaceRows_enter_d25 rfl ?_
  refine iq_iload_n hS 27 J_MPlaceRows_enter_d26 l2 rfl ?_
  obtain ⟨g27, h⟩ := ed_gd h
  refine iq_iastore hS 28 J_MPlaceRows_enter_d27 ⟨(ka_134 (lw_sI hM)).1, (ka_134 (lw_sI hM)).2, g27.1, ix_lt (kl_134 (lw_sI hM)) g27.2⟩ rfl ?_
  refine iq_aload_n hS 29 J_MPlaceRows_enter_d28 l0 rfl ?_
  refine iq_getR hS 32 J_MPlaceRows_enter_d29 lf_14_29 (Or.inr ⟨_, rfl⟩) (ka_130 (lw_sI (lw_sI hM))) (ra_130_7 (lw_sI (lw_sI hM))) rfl ?_
  refine iq_bipush hS 34 J_MPlaceRows_enter_d32 (v := 6) (by decide +kernel) rfl ?_
  refine iq_aload_n hS 35 J_MPlaceRows_enter_d34 l0 rfl ?_
  refine iq_getI hS 38 J_MPlaceRows_enter_d35 lf_14_38 (Or.inl rfl) (ka_130 (lw_sI (lw_sI hM))) rfl ?_
  refine iq_imul hS 39 J_MPlaceRows_enter_d38 rfl ?_
  refine iq_iconst hS 40 J_MPlaceRows_enter_d39 (v := 2) (by decide +kernel) rfl ?_
  refine iq_iadd hS 41 J_MPlaceRows_enter_d40 rfl ?_
  refine iq_iload_n hS 42 J_MPlaceRows_enter_d41 l3 rfl ?_
  obtain ⟨g42, h⟩ := ed_gd h
  refine iq_iastore hS 43 J_MPlaceRows_enter_d42 ⟨(ka_134 (lw_sI (lw_sI hM))).1, (ka_134 (lw_sI (lw_sI hM))).2, g42.1, ix_lt (kl_134 (lw_sI (lw_sI hM))) g42.2⟩ rfl ?_
  refine iq_aload_n hS 44 J_MPlaceRows_enter_d43 l0 rfl ?_
  refine iq_getR hS 47 J_MPlaceRows_enter_d44 lf_14_29 (Or.inr ⟨_, rfl⟩) (ka_130 (lw_sI (lw_sI (lw_sI hM)))) (ra_130_7 (lw_sI (lw_sI (lw_sI hM)))) rfl ?_
  refine iq_bipush hS 49 J_MPlaceRows_enter_d47 (v := 6) (by decide +kernel) rfl ?_
  refine iq_aload_n hS 50 J_MPlaceRows_enter_d49 l0 rfl ?_
  refine iq_getI hS 53 J_MPlaceRows_enter_d50 lf_14_38 (Or.inl rfl) (ka_130 (lw_sI (lw_sI (lw_sI hM)))) rfl ?_
  refine iq_imul hS 54 J_MPlaceRows_enter_d53 rfl ?_
  refine iq_iconst hS 55 J_MPlaceRows_enter_d54 (v := 3) (by decide +kernel) rfl ?_
  refine iq_iadd hS 56 J_MPlaceRows_enter_d55 rfl ?_
  refine iq_iload hS 58 J_MPlaceRows_enter_d56 l4 rfl ?_
  obtain ⟨g58, h⟩ := ed_gd h
  refine iq_iastore hS 59 J_MPlaceRows_enter_d58 ⟨(ka_134 (lw_sI (lw_sI (lw_sI hM)))).1, (ka_134 (lw_sI (lw_sI (lw_sI hM)))).2, g58.1, ix_lt (kl_134 (lw_sI (lw_sI (lw_sI hM)))) g58.2⟩ rfl ?_
  refine iq_aload_n hS 60 J_MPlaceRows_enter_d59 l0 rfl ?_
  refine iq_getR hS 63 J_MPlaceRows_enter_d60 lf_14_29 (Or.inr ⟨_, rfl⟩) (ka_130 (lw_sI (lw_sI (lw_sI (lw_sI hM))))) (ra_130_7 (lw_sI (lw_sI (lw_sI (lw_sI hM))))) rfl ?_
  refine iq_bipush hS 65 J_MPlaceRows_enter_d63 (v := 6) (by decide +kernel) rfl ?_
  refine iq_aload_n hS 66 J_MPlaceRows_enter_d65 l0 rfl ?_
  refine iq_getI hS 69 J_MPlaceRows_enter_d66 lf_14_38 (Or.inl rfl) (ka_130 (lw_sI (lw_sI (lw_sI (lw_sI hM))))) rfl ?_
  refine iq_imul hS 70 J_MPlaceRows_enter_d69 rfl ?_
  refine iq_iconst hS 71 J_MPlaceRows_enter_d70 (v := 4) (by decide +kernel) rfl ?_
  refine iq_iadd hS 72 J_MPlaceRows_enter_d71 rfl ?_
  refine iq_iload hS 74 J_MPlaceRows_enter_d72 l5 rfl ?_
  obtain ⟨g74, h⟩ := ed_gd h
  refine iq_iastore hS 75 J_MPlaceRows_enter_d74 ⟨(ka_134 (lw_sI (lw_sI (lw_sI (lw_sI hM))))).1, (ka_134 (lw_sI (lw_sI (lw_sI (lw_sI hM))))).2, g74.1, ix_lt (kl_134 (lw_sI (lw_sI (lw_sI (lw_sI hM))))) g74.2⟩ rfl ?_
  refine iq_aload_n hS 76 J_MPlaceRows_enter_d75 l0 rfl ?_
  refine iq_getR hS 79 J_MPlaceRows_enter_d76 lf_14_29 (Or.inr ⟨_, rfl⟩) (ka_130 (lw_sI (lw_sI (lw_sI (lw_sI (lw_sI hM)))))) (ra_130_7 (lw_sI (lw_sI (lw_sI (lw_sI (lw_sI hM)))))) rfl ?_
  refine iq_bipush hS 81 J_MPlaceRows_enter_d79 (v := 6) (by decide +kernel) rfl ?_
  refine iq_aload_n hS 82 J_MPlaceRows_enter_d81 l0 rfl ?_
  refine iq_getI hS 85 J_MPlaceRows_enter_d82 lf_14_38 (Or.inl rfl) (ka_130 (lw_sI (lw_sI (lw_sI (lw_sI (lw_sI hM)))))) rfl ?_
  refine iq_imul hS 86 J_MPlaceRows_enter_d85 rfl ?_
  refine iq_iconst hS 87 J_MPlaceRows_enter_d86 (v := 5) (by decide +kernel) rfl ?_
  refine iq_iadd hS 88 J_MPlaceRows_enter_d87 rfl ?_
  refine iq_iload hS 90 J_MPlaceRows_enter_d88 l6 rfl ?_
  obtain ⟨g90, h⟩ := ed_gd h
  refine iq_iastore hS 91 J_MPlaceRows_enter_d90 ⟨(ka_134 (lw_sI (lw_sI (lw_sI (lw_sI (lw_sI hM)))))).1, (ka_134 (lw_sI (lw_sI (lw_sI (lw_sI (lw_sI hM)))))).2, g90.1, ix_lt (kl_134 (lw_sI (lw_sI (lw_sI (lw_sI (lw_sI hM)))))) g90.2⟩ rfl ?_
  refine iq_aload_n hS 92 J_MPlaceRows_enter_d91 l0 rfl ?_
  refine iq_dup hS 93 J_MPlaceRows_enter_d92 rfl rfl ?_
  refine iq_getI hS 96 J_MPlaceRows_enter_d93 lf_14_38 (Or.inl rfl) (ka_130 (lw_sI (lw_sI (lw_sI (lw_sI (lw_sI (lw_sI hM))))))) rfl ?_
  refine iq_iconst hS 97 J_MPlaceRows_enter_d96 (v := 1) (by decide +kernel) rfl ?_
  refine iq_iadd hS 98 J_MPlaceRows_enter_d97 rfl ?_
  refine iq_putI hS 101 J_MPlaceRows_enter_d98 lf_14_38 (Or.inl rfl) rfl (ka_130 (lw_sI (lw_sI (lw_sI (lw_sI (lw_sI (lw_sI hM))))))) rfl ?_
  exact iq_ret J_MPlaceRows_enter_d101 rfl ⟨rfl, (lw_sI (lw_sI (lw_sI (lw_sI (lw_sI (lw_sI (lw_sI hM))))))), ed_some h⟩
theorem f_MPlaceRows_enter_fr {p0 : Int32} {p1 : Int32} {p2 : Int32} {p3 : Int32} {p4 : Int32} {p5 : Int32} {M : im_M} {r : im_M} (h : f_MPlaceRows_enter p0 p1 p2 p3 p4 p5 M = some r) : fr 21778071482940061661655974875633165533184 [(130, 8)] M r := by
  replace h : ed (f_MPlaceRows_enter p0 p1 p2 p3 p4 p5 M) (fun x => x = r) := ⟨r, h, rfl⟩
  unfold f_MPlaceRows_enter at h
  obtain ⟨g12, h⟩ := ed_gd h
  obtain ⟨g27, h⟩ := ed_gd h
  obtain ⟨g42, h⟩ := ed_gd h
  obtain ⟨g58, h⟩ := ed_gd h
  obtain ⟨g74, h⟩ := ed_gd h
  obtain ⟨g90, h⟩ := ed_gd h
  exact fr_retV h (fr_F (by decide) (fr_I (by decide) (fr_I (by decide) (fr_I (by decide) (fr_I (by decide) (fr_I (by decide) (fr_I (by decide) fr_refl)))))))
noncomputable def f_MPlaceRows_look_L42 (v20 : Int32) (v21 : Int32) (v22 : Int32) (v23 : Int32) (v24 : Int32) (v25 : Int32) (x26 : Int32) (M27 : im_M) : Option ((Int32 × im_M) ⊕ ((im_M) ⊕ (Int32 × im_M))) := if 4 ≤ x26 then some (.inr (.inl M27)) else bd1 (f_MPlaceRows_wrong v25 v24 v20 v21 x26 v22 M27) fun (x28 : Int32) => jn1 (fun (M31 : im_M) => some (.inl ((x26 + 1), M31))) fun k29 => if v22 < x28 then k29 M27 else if ¬ (im_i M27 130 8) = 300 then bd1 (f_MPlaceRows_enter v25 v24 v20 v21 x26 x28 M27) fun (M30 : im_M) => k29 M30 else some (.inr (.inr (0, M27)))
noncomputable def f_MPlaceRows_look_L26 (v11 : Int32) (v12 : Int32) (v13 : Int32) (v14 : Int32) (v15 : Int32) (x16 : Int32) (M17 : im_M) : Option ((Int32 × im_M) ⊕ ((im_M) ⊕ (Int32 × im_M))) := bd1 (f_MPlaceRows_isPlace x16 v15 v14 M17) fun (x18 : Int32) => if x18 = 0 then some (.inr (.inl M17)) else bs1 (lp (uc2 (f_MPlaceRows_look_L42 v11 v12 v13 v14 v15 x16)) (0, M17)) (fun (M40 : im_M) => some (.inl ((x16 + 1), M40))) (fun t => some (.inr (.inr t)))
noncomputable def f_MPlaceRows_look_L11 (v3 : Int32) (v4 : Int32) (v5 : Int32) (v6 : Int32) (x7 : Int32) (M8 : im_M) : Option ((Int32 × im_M) ⊕ ((im_M) ⊕ (Int32 × im_M))) := bd1 (f_MPlaceRows_isPlace 0 x7 v6 M8) fun (x9 : Int32) => if x9 = 0 then some (.inr (.inl M8)) else bs1 (lp (uc2 (f_MPlaceRows_look_L26 v3 v4 v5 v6 x7)) (0, M8)) (fun (M41 : im_M) => some (.inl ((x7 + 1), M41))) (fun t => some (.inr (.inr t)))
noncomputable def f_MPlaceRows_look (p0 : Int32) (p1 : Int32) (p2 : Int32) (M : im_M) : Option (Int32 × im_M) := bd1 (f_MPlaceRows_side p1 M) fun (x1 : Int32) => bs1 (lp (uc2 (f_MPlaceRows_look_L11 p0 p1 p2 (p0 * x1))) (0, M)) (fun (M42 : im_M) => some (1, M42)) (fun t => some t)
theorem J_MPlaceRows_look_d0 : decode J_MPlaceRows_look.2.1 0 = .ok (.iload_n 1, 1) := by decide +kernel
theorem J_MPlaceRows_look_d1 : decode J_MPlaceRows_look.2.1 1 = .ok (.iload_n 2, 1) := by decide +kernel
theorem J_MPlaceRows_look_d2 : decode J_MPlaceRows_look.2.1 2 = .ok (.invokestatic 59, 3) := by decide +kernel
theorem J_MPlaceRows_look_d5 : decode J_MPlaceRows_look.2.1 5 = .ok (.imul, 1) := by decide +kernel
theorem J_MPlaceRows_look_d6 : decode J_MPlaceRows_look.2.1 6 = .ok (.istore 4, 2) := by decide +kernel
theorem J_MPlaceRows_look_d8 : decode J_MPlaceRows_look.2.1 8 = .ok (.iconst 0, 1) := by decide +kernel
theorem J_MPlaceRows_look_d9 : decode J_MPlaceRows_look.2.1 9 = .ok (.istore 5, 2) := by decide +kernel
theorem J_MPlaceRows_look_d11 : decode J_MPlaceRows_look.2.1 11 = .ok (.aload_n 0, 1) := by decide +kernel
theorem J_MPlaceRows_look_d12 : decode J_MPlaceRows_look.2.1 12 = .ok (.iconst 0, 1) := by decide +kernel
theorem J_MPlaceRows_look_d13 : decode J_MPlaceRows_look.2.1 13 = .ok (.iload 5, 2) := by decide +kernel
theorem J_MPlaceRows_look_d15 : decode J_MPlaceRows_look.2.1 15 = .ok (.iload 4, 2) := by decide +kernel
theorem J_MPlaceRows_look_d17 : decode J_MPlaceRows_look.2.1 17 = .ok (.invokevirtual 67, 3) := by decide +kernel
theorem J_MPlaceRows_look_d20 : decode J_MPlaceRows_look.2.1 20 = .ok (.ifCond .eq 93, 3) := by decide +kernel
theorem J_MPlaceRows_look_d23 : decode J_MPlaceRows_look.2.1 23 = .ok (.iconst 0, 1) := by decide +kernel
theorem J_MPlaceRows_look_d24 : decode J_MPlaceRows_look.2.1 24 = .ok (.istore 6, 2) := by decide +kernel
theorem J_MPlaceRows_look_d26 : decode J_MPlaceRows_look.2.1 26 = .ok (.aload_n 0, 1) := by decide +kernel
theorem J_MPlaceRows_look_d27 : decode J_MPlaceRows_look.2.1 27 = .ok (.iload 6, 2) := by decide +kernel
theorem J_MPlaceRows_look_d29 : decode J_MPlaceRows_look.2.1 29 = .ok (.iload 5, 2) := by decide +kernel
theorem J_MPlaceRows_look_d31 : decode J_MPlaceRows_look.2.1 31 = .ok (.iload 4, 2) := by decide +kernel
theorem J_MPlaceRows_look_d33 : decode J_MPlaceRows_look.2.1 33 = .ok (.invokevirtual 67, 3) := by decide +kernel
theorem J_MPlaceRows_look_d36 : decode J_MPlaceRows_look.2.1 36 = .ok (.ifCond .eq 71, 3) := by decide +kernel
theorem J_MPlaceRows_look_d39 : decode J_MPlaceRows_look.2.1 39 = .ok (.iconst 0, 1) := by decide +kernel
theorem J_MPlaceRows_look_d40 : decode J_MPlaceRows_look.2.1 40 = .ok (.istore 7, 2) := by decide +kernel
theorem J_MPlaceRows_look_d42 : decode J_MPlaceRows_look.2.1 42 = .ok (.iload 7, 2) := by decide +kernel
theorem J_MPlaceRows_look_d44 : decode J_MPlaceRows_look.2.1 44 = .ok (.iconst 4, 1) := by decide +kernel
theorem J_MPlaceRows_look_d45 : decode J_MPlaceRows_look.2.1 45 = .ok (.if_icmp .ge 56, 3) := by decide +kernel
theorem J_MPlaceRows_look_d48 : decode J_MPlaceRows_look.2.1 48 = .ok (.aload_n 0, 1) := by decide +kernel
theorem J_MPlaceRows_look_d49 : decode J_MPlaceRows_look.2.1 49 = .ok (.iload 6, 2) := by decide +kernel
theorem J_MPlaceRows_look_d51 : decode J_MPlaceRows_look.2.1 51 = .ok (.iload 5, 2) := by decide +kernel
theorem J_MPlaceRows_look_d53 : decode J_MPlaceRows_look.2.1 53 = .ok (.iload_n 1, 1) := by decide +kernel
theorem J_MPlaceRows_look_d54 : decode J_MPlaceRows_look.2.1 54 = .ok (.iload_n 2, 1) := by decide +kernel
theorem J_MPlaceRows_look_d55 : decode J_MPlaceRows_look.2.1 55 = .ok (.iload 7, 2) := by decide +kernel
theorem J_MPlaceRows_look_d57 : decode J_MPlaceRows_look.2.1 57 = .ok (.iload_n 3, 1) := by decide +kernel
theorem J_MPlaceRows_look_d58 : decode J_MPlaceRows_look.2.1 58 = .ok (.invokevirtual 95, 3) := by decide +kernel
theorem J_MPlaceRows_look_d61 : decode J_MPlaceRows_look.2.1 61 = .ok (.istore 8, 2) := by decide +kernel
theorem J_MPlaceRows_look_d63 : decode J_MPlaceRows_look.2.1 63 = .ok (.iload 8, 2) := by decide +kernel
theorem J_MPlaceRows_look_d65 : decode J_MPlaceRows_look.2.1 65 = .ok (.iload_n 3, 1) := by decide +kernel
theorem J_MPlaceRows_look_d66 : decode J_MPlaceRows_look.2.1 66 = .ok (.if_icmp .gt 29, 3) := by decide +kernel
theorem J_MPlaceRows_look_d69 : decode J_MPlaceRows_look.2.1 69 = .ok (.aload_n 0, 1) := by decide +kernel
theorem J_MPlaceRows_look_d70 : decode J_MPlaceRows_look.2.1 70 = .ok (.getfield 38, 3) := by decide +kernel
theorem J_MPlaceRows_look_d73 : decode J_MPlaceRows_look.2.1 73 = .ok (.sipush 300, 3) := by decide +kernel
theorem J_MPlaceRows_look_d76 : decode J_MPlaceRows_look.2.1 76 = .ok (.if_icmp .ne 5, 3) := by decide +kernel
theorem J_MPlaceRows_look_d79 : decode J_MPlaceRows_look.2.1 79 = .ok (.iconst 0, 1) := by decide +kernel
theorem J_MPlaceRows_look_d80 : decode J_MPlaceRows_look.2.1 80 = .ok (.ireturn, 1) := by decide +kernel
theorem J_MPlaceRows_look_d81 : decode J_MPlaceRows_look.2.1 81 = .ok (.aload_n 0, 1) := by decide +kernel
theorem J_MPlaceRows_look_d82 : decode J_MPlaceRows_look.2.1 82 = .ok (.iload 6, 2) := by decide +kernel
theorem J_MPlaceRows_look_d84 : decode J_MPlaceRows_look.2.1 84 = .ok (.iload 5, 2) := by decide +kernel
theorem J_MPlaceRows_look_d86 : decode J_MPlaceRows_look.2.1 86 = .ok (.iload_n 1, 1) := by decide +kernel
theorem J_MPlaceRows_look_d87 : decode J_MPlaceRows_look.2.1 87 = .ok (.iload_n 2, 1) := by decide +kernel
theorem J_MPlaceRows_look_d88 : decode J_MPlaceRows_look.2.1 88 = .ok (.iload 7, 2) := by decide +kernel
theorem J_MPlaceRows_look_d90 : decode J_MPlaceRows_look.2.1 90 = .ok (.iload 8, 2) := by decide +kernel
theorem J_MPlaceRows_look_d92 : decode J_MPlaceRows_look.2.1 92 = .ok (.invokevirtual 98, 3) := by decide +kernel
theorem J_MPlaceRows_look_d95 : decode J_MPlaceRows_look.2.1 95 = .ok (.iinc 7 1, 3) := by decide +kernel
theorem J_MPlaceRows_look_d98 : decode J_MPlaceRows_look.2.1 98 = .ok (.goto (-56), 3) := by decide +kernel
theorem J_MPlaceRows_look_d101 : decode J_MPlaceRows_look.2.1 101 = .ok (.iinc 6 1, 3) := by decide +kernel
theorem J_MPlaceRows_look_d104 : decode J_MPlaceRows_look.2.1 104 = .ok (.goto (-78), 3) := by decide +kernel
theorem J_MPlaceRows_look_d107 : decode J_MPlaceRows_look.2.1 107 = .ok (.iinc 5 1, 3) := by decide +kernel
theorem J_MPlaceRows_look_d110 : decode J_MPlaceRows_look.2.1 110 = .ok (.goto (-99), 3) := by decide +kernel
theorem J_MPlaceRows_look_d113 : decode J_MPlaceRows_look.2.1 113 = .ok (.iconst 1, 1) := by decide +kernel
theorem J_MPlaceRows_look_d114 : decode J_MPlaceRows_look.2.1 114 = .ok (.ireturn, 1) := by decide +kernel
theorem f_MPlaceRows_look_ok {L : Nat} {xs : Nat → Int32} {dep : Nat} {w : Bool} {p0 : Int32} {p1 : Int32} {p2 : Int32} {M : im_M} {Q : Int32 × im_M → Prop} (hM : lw_S w M) (h : ed (f_MPlaceRows_look p0 p1 p2 M) Q) : ia (tb_G L xs) (dep + 3) J_MPlaceRows_look (rwI w Q) (0, lv_args 0 [.ref 130, .int p0, .int p1, .int p2], [], M) := by
  have hS : im_St (tb_G L xs) (dep + 3) J_MPlaceRows_look (ia (tb_G L xs) (dep + 3) J_MPlaceRows_look (rwI w Q)) := ia_St
  unfold f_MPlaceRows_look at h
  have l0 : im_lk (lv_args 0 [.ref 130, .int p0, .int p1, .int p2]) 0 = some (.ref 130) := rfl
  have l1 : im_lk (lv_args 0 [.ref 130, .int p0, .int p1, .int p2]) 1 = some (.int p0) := rfl
  have l2 : im_lk (lv_args 0 [.ref 130, .int p0, .int p1, .int p2]) 2 = some (.int p1) := rfl
  have l3 : im_lk (lv_args 0 [.ref 130, .int p0, .int p1, .int p2]) 3 = some (.int p2) := rfl
  refine iq_iload_n hS 1 J_MPlaceRows_look_d0 l1 rfl ?_
  refine iq_iload_n hS 2 J_MPlaceRows_look_d1 l2 rfl ?_
  obtain ⟨Q1, hQ1, h⟩ := bd1_ed h
  refine iq_cpI hS 5 J_MPlaceRows_look_d2 rfl (pr_stat (vs := [_]) lc_14_59 lT_464 rfl rfl (by decide) rfl (Nat.le_of_ble_eq_true rfl) (Nat.le_of_ble_eq_true rfl)) (f_MPlaceRows_side_ok (dep := dep + 2) hM h) rfl ?_
  intro x1 h
  replace h := hQ1 _ h
  refine iq_imul hS 6 J_MPlaceRows_look_d5 rfl ?_
  refine iq_istore hS 8 J_MPlaceRows_look_d6 (by decide) rfl ?_
  refine iq_iconst hS 9 J_MPlaceRows_look_d8 (v := 0) (by decide +kernel) rfl ?_
  refine iq_istore hS 11 J_MPlaceRows_look_d9 (by decide) rfl ?_
  obtain ⟨Q2, hQ2, hR2, h⟩ := bs1_ed h
  have K2 : ∀ (M3 : im_M) (L' : List (Nat × Value)), lw_S w M3 → Q2 (.inl M3) → ia (tb_G L xs) (dep + 3) J_MPlaceRows_look (rwI w Q) (113, L', [], M3) := by
    intro M3 L' hM3  h
    replace h := hQ2 _ h
    refine iq_iconst hS 114 J_MPlaceRows_look_d113 (v := 1) (by decide +kernel) rfl ?_
    exact iq_iret J_MPlaceRows_look_d114 rfl rfl ⟨_, rfl, hM3, ed_some h⟩
  obtain ⟨r2, hr2, hq2⟩ := h
  obtain ⟨n2, hn2⟩ := lp_n hr2
  have I2 : ∀ (n : Nat) (x4 : Int32) (M5 : im_M) (L' : List (Nat × Value)), lw_S w M5 → im_lk L' 0 = some (.ref 130) → im_lk L' 1 = some (.int p0) → im_lk L' 2 = some (.int p1) → im_lk L' 3 = some (.int p2) → im_lk L' 4 = some (.int (p0 * x1)) → im_lk L' 5 = some (.int x4) → lpn (uc2 (f_MPlaceRows_look_L11 p0 p1 p2 (p0 * x1))) n (x4, M5) = some r2 → ia (tb_G L xs) (dep + 3) J_MPlaceRows_look (rwI w Q) (11, L', [], M5) := by
    intro n
    induction n with
    | zero => intro x4 M5 L' hM5 l6 l7 l8 l9 l10 l11 hn; exact (lpn_0 hn).elim
    | succ n ih =>
      intro x4 M5 L' hM5 l6 l7 l8 l9 l10 l11 hn
      have h := lpn_ed2 hn
      unfold f_MPlaceRows_look_L11 at h
      refine iq_aload_n hS 12 J_MPlaceRows_look_d11 l6 rfl ?_
      refine iq_iconst hS 13 J_MPlaceRows_look_d12 (v := 0) (by decide +kernel) rfl ?_
      refine iq_iload hS 15 J_MPlaceRows_look_d13 l11 rfl ?_
      refine iq_iload hS 17 J_MPlaceRows_look_d15 l10 rfl ?_
      obtain ⟨Q12, hQ12, h⟩ := bd1_ed h
      refine iq_cpI hS 20 J_MPlaceRows_look_d17 rfl (pr_inst (vs := [_, _, _]) lc_14_67 lT_469 rfl rfl (by decide) (by decide) rfl (Nat.le_of_ble_eq_true rfl) (Nat.le_of_ble_eq_true rfl) (fun _ => Or.inl (pr_b (ka_130 hM5) (by decide) rfl))) (f_MPlaceRows_isPlace_ok (dep := dep + 2) hM5 h) rfl ?_
      intro x12 h
      replace h := hQ12 _ h
      refine iq_if_eq hS 23 J_MPlaceRows_look_d20 (t := 113) rfl (fun q20 => ?_) rfl (fun q20 => ?_)
      · replace h := ed_pos q20 h
        exact K2 _ _ hM5  (lq_r h hq2)
      · replace h := ed_neg q20 h
        refine iq_iconst hS 24 J_MPlaceRows_look_d23 (v := 0) (by decide +kernel) rfl ?_
        refine iq_istore hS 26 J_MPlaceRows_look_d24 (by decide) rfl ?_
        obtain ⟨Q13, hQ13, hR13, h⟩ := bs1_ed h
        have K13 : ∀ (M14 : im_M) (L' : List (Nat × Value)), lw_S w M14 → im_lk L' 0 = some (.ref 130) → im_lk L' 1 = some (.int p0) → im_lk L' 2 = some (.int p1) → im_lk L' 3 = some (.int p2) → im_lk L' 4 = some (.int (p0 * x1)) → im_lk L' 5 = some (.int x4) → Q13 (.inl M14) → ia (tb_G L xs) (dep + 3) J_MPlaceRows_look (rwI w Q) (107, L', [], M14) := by
          intro M14 L' hM14 l15 l16 l17 l18 l19 l20 h
          replace h := hQ13 _ h
          refine iq_iincv hS 110 J_MPlaceRows_look_d107 (c := 1) (by decide +kernel) l20 (by decide) rfl ?_
          refine iq_goto hS J_MPlaceRows_look_d110 (t := 11) rfl ?_
          exact ih _ _ _ hM14 (lk_1r l15 (by decide)) (lk_1i l16 (by decide)) (lk_1i l17 (by decide)) (lk_1i l18 (by decide)) (lk_1i l19 (by decide)) lk_1s (lq_l h)
        obtain ⟨r13, hr13, hq13⟩ := h
        obtain ⟨n13, hn13⟩ := lp_n hr13
        have I13 : ∀ (n : Nat) (x21 : Int32) (M22 : im_M) (L' : List (Nat × Value)), lw_S w M22 → im_lk L' 0 = some (.ref 130) → im_lk L' 1 = some (.int p0) → im_lk L' 2 = some (.int p1) → im_lk L' 3 = some (.int p2) → im_lk L' 4 = some (.int (p0 * x1)) → im_lk L' 5 = some (.int x4) → im_lk L' 6 = some (.int x21) → lpn (uc2 (f_MPlaceRows_look_L26 p0 p1 p2 (p0 * x1) x4)) n (x21, M22) = some r13 → ia (tb_G L xs) (dep + 3) J_MPlaceRows_look (rwI w Q) (26, L', [], M22) := by
          intro n
          induction n with
          | zero => intro x21 M22 L' hM22 l23 l24 l25 l26 l27 l28 l29 hn; exact (lpn_0 hn).elim
          | succ n ih =>
            intro x21 M22 L' hM22 l23 l24 l25 l26 l27 l28 l29 hn
            have h := lpn_ed2 hn
            unfold f_MPlaceRows_look_L26 at h
            refine iq_aload_n hS 27 J_MPlaceRows_look_d26 l23 rfl ?_
            refine iq_iload hS 29 J_MPlaceRows_look_d27 l29 rfl ?_
            refine iq_iload hS 31 J_MPlaceRows_look_d29 l28 rfl ?_
            refine iq_iload hS 33 J_MPlaceRows_look_d31 l27 rfl ?_
            obtain ⟨Q30, hQ30, h⟩ := bd1_ed h
            refine iq_cpI hS 36 J_MPlaceRows_look_d33 rfl (pr_inst (vs := [_, _, _]) lc_14_67 lT_469 rfl rfl (by decide) (by decide) rfl (Nat.le_of_ble_eq_true rfl) (Nat.le_of_ble_eq_true rfl) (fun _ => Or.inl (pr_b (ka_130 hM22) (by decide) rfl))) (f_MPlaceRows_isPlace_ok (dep := dep + 2) hM22 h) rfl ?_
            intro x30 h
            replace h := hQ30 _ h
            refine iq_if_eq hS 39 J_MPlaceRows_look_d36 (t := 107) rfl (fun q36 => ?_) rfl (fun q36 => ?_)
            · replace h := ed_pos q36 h
              exact K13 _ _ hM22 l23 l24 l25 l26 l27 l28 (lq_r h hq13)
            · replace h := ed_neg q36 h
              refine iq_iconst hS 40 J_MPlaceRows_look_d39 (v := 0) (by decide +kernel) rfl ?_
              refine iq_istore hS 42 J_MPlaceRows_look_d40 (by decide) rfl ?_
              obtain ⟨Q31, hQ31, hR31, h⟩ := bs1_ed h
              have K31 : ∀ (M32 : im_M) (L' : List (Nat × Value)), lw_S w M32 → im_lk L' 0 = some (.ref 130) → im_lk L' 1 = some (.int p0) → im_lk L' 2 = some (.int p1) → im_lk L' 3 = some (.int p2) → im_lk L' 4 = some (.int (p0 * x1)) → im_lk L' 5 = some (.int x4) → im_lk L' 6 = some (.int x21) → Q31 (.inl M32) → ia (tb_G L xs) (dep + 3) J_MPlaceRows_look (rwI w Q) (101, L', [], M32) := by
                intro M32 L' hM32 l33 l34 l35 l36 l37 l38 l39 h
                replace h := hQ31 _ h
                refine iq_iincv hS 104 J_MPlaceRows_look_d101 (c := 1) (by decide +kernel) l39 (by decide) rfl ?_
                refine iq_goto hS J_MPlaceRows_look_d104 (t := 26) rfl ?_
                exact ih _ _ _ hM32 (lk_1r l33 (by decide)) (lk_1i l34 (by decide)) (lk_1i l35 (by decide)) (lk_1i l36 (by decide)) (lk_1i l37 (by decide)) (lk_1i l38 (by decide)) lk_1s (lq_l h)
              obtain ⟨r31, hr31, hq31⟩ := h
              obtain ⟨n31, hn31⟩ := lp_n hr31
              have I31 : ∀ (n : Nat) (x40 : Int32) (M41 : im_M) (L' : List (Nat × Value)), lw_S w M41 → im_lk L' 0 = some (.ref 130) → im_lk L' 1 = some (.int p0) → im_lk L' 2 = some (.int p1) → im_lk L' 3 = some (.int p2) → im_lk L' 4 = some (.int (p0 * x1)) → im_lk L' 5 = some (.int x4) → im_lk L' 6 = some (.int x21) → im_lk L' 7 = some (.int x40) → lpn (uc2 (f_MPlaceRows_look_L42 p0 p1 p2 (p0 * x1) x4 x21)) n (x40, M41) = some r31 → ia (tb_G L xs) (dep + 3) J_MPlaceRows_look (rwI w Q) (42, L', [], M41) := by
                intro n
                induction n with
                | zero => intro x40 M41 L' hM41 l42 l43 l44 l45 l46 l47 l48 l49 hn; exact (lpn_0 hn).elim
                | succ n ih =>
                  intro x40 M41 L' hM41 l42 l43 l44 l45 l46 l47 l48 l49 hn
                  have h := lpn_ed2 hn
                  unfold f_MPlaceRows_look_L42 at h
                  refine iq_iload hS 44 J_MPlaceRows_look_d42 l49 rfl ?_
                  refine iq_iconst hS 45 J_MPlaceRows_look_d44 (v := 4) (by decide +kernel) rfl ?_
                  refine iq_icmp_ge hS 48 J_MPlaceRows_look_d45 (t := 101) rfl (fun q45 => ?_) rfl (fun q45 => ?_)
                  · replace h := ed_pos q45 h
                    exact K31 _ _ hM41 l42 l43 l44 l45 l46 l47 l48 (lq_r h hq31)
                  · replace h := ed_neg q45 h
                    refine iq_aload_n hS 49 J_MPlaceRows_look_d48 l42 rfl ?_
                    refine iq_iload hS 51 J_MPlaceRows_look_d49 l48 rfl ?_
                    refine iq_iload hS 53 J_MPlaceRows_look_d51 l47 rfl ?_
                    refine iq_iload_n hS 54 J_MPlaceRows_look_d53 l43 rfl ?_
                    refine iq_iload_n hS 55 J_MPlaceRows_look_d54 l44 rfl ?_
                    refine iq_iload hS 57 J_MPlaceRows_look_d55 l49 rfl ?_
                    refine iq_iload_n hS 58 J_MPlaceRows_look_d57 l45 rfl ?_
                    obtain ⟨Q50, hQ50, h⟩ := bd1_ed h
                    refine iq_cpI hS 61 J_MPlaceRows_look_d58 rfl (pr_inst (vs := [_, _, _, _, _, _]) lc_14_95 lT_470 rfl rfl (by decide) (by decide) rfl (Nat.le_of_ble_eq_true rfl) (Nat.le_of_ble_eq_true rfl) (fun _ => Or.inl (pr_b (ka_130 hM41) (by decide) rfl))) (f_MPlaceRows_wrong_ok (dep := dep + 0) hM41 h) rfl ?_
                    intro x50 h
                    replace h := hQ50 _ h
                    refine iq_istore hS 63 J_MPlaceRows_look_d61 (by decide) rfl ?_
                    refine iq_iload hS 65 J_MPlaceRows_look_d63 lk_1s rfl ?_
                    refine iq_iload_n hS 66 J_MPlaceRows_look_d65 (lk_1i l45 (by decide)) rfl ?_
                    obtain ⟨k51, Q51, hQ51, hk51, h⟩ := jn1_ed h
                    have J51 : ∀ (M53 : im_M) (L' : List (Nat × Value)), lw_S w M53 → im_lk L' 0 = some (.ref 130) → im_lk L' 1 = some (.int p0) → im_lk L' 2 = some (.int p1) → im_lk L' 3 = some (.int p2) → im_lk L' 4 = some (.int (p0 * x1)) → im_lk L' 5 = some (.int x4) → im_lk L' 6 = some (.int x21) → im_lk L' 7 = some (.int x40) → Q51 M53 → ia (tb_G L xs) (dep + 3) J_MPlaceRows_look (rwI w Q) (95, L', [], M53) := by
                      intro M53 L' hM53 l54 l55 l56 l57 l58 l59 l60 l61 h
                      replace h := hQ51 _ h
                      refine iq_iincv hS 98 J_MPlaceRows_look_d95 (c := 1) (by decide +kernel) l61 (by decide) rfl ?_
                      refine iq_goto hS J_MPlaceRows_look_d98 (t := 42) rfl ?_
                      exact ih _ _ _ hM53 (lk_1r l54 (by decide)) (lk_1i l55 (by decide)) (lk_1i l56 (by decide)) (lk_1i l57 (by decide)) (lk_1i l58 (by decide)) (lk_1i l59 (by decide)) (lk_1i l60 (by decide)) lk_1s (lq_l h)
                    refine iq_icmp_gt hS 69 J_MPlaceRows_look_d66 (t := 95) rfl (fun q66 => ?_) rfl (fun q66 => ?_)
                    · replace h := ed_pos q66 h
                      exact J51 _ _ hM41 (lk_1r l42 (by decide)) (lk_1i l43 (by decide)) (lk_1i l44 (by decide)) (lk_1i l45 (by decide)) (lk_1i l46 (by decide)) (lk_1i l47 (by decide)) (lk_1i l48 (by decide)) (lk_1i l49 (by decide)) (hk51 _ h)
                    · replace h := ed_neg q66 h
                      refine iq_aload_n hS 70 J_MPlaceRows_look_d69 (lk_1r l42 (by decide)) rfl ?_
                      refine iq_getI hS 73 J_MPlaceRows_look_d70 lf_14_38 (Or.inl rfl) (ka_130 hM41) rfl ?_
                      refine iq_sipush hS 76 J_MPlaceRows_look_d73 (v := 300) (by decide +kernel) rfl ?_
                      refine iq_icmp_ne hS 79 J_MPlaceRows_look_d76 (t := 81) rfl (fun q76 => ?_) rfl (fun q76 => ?_)
                      · replace h := ed_pos q76 h
                        refine iq_aload_n hS 82 J_MPlaceRows_look_d81 (lk_1r l42 (by decide)) rfl ?_
                        refine iq_iload hS 84 J_MPlaceRows_look_d82 (lk_1i l48 (by decide)) rfl ?_
                        refine iq_iload hS 86 J_MPlaceRows_look_d84 (lk_1i l47 (by decide)) rfl ?_
                        refine iq_iload_n hS 87 J_MPlaceRows_look_d86 (lk_1i l43 (by decide)) rfl ?_
                        refine iq_iload_n hS 88 J_MPlaceRows_look_d87 (lk_1i l44 (by decide)) rfl ?_
                        refine iq_iload hS 90 J_MPlaceRows_look_d88 (lk_1i l49 (by decide)) rfl ?_
                        refine iq_iload hS 92 J_MPlaceRows_look_d90 lk_1s rfl ?_
                        obtain ⟨Q52, hQ52, h⟩ := bd1_ed h
                        refine iq_cwV hS 95 J_MPlaceRows_look_d92 rfl (pr_inst (vs := [_, _, _, _, _, _]) lc_14_98 lT_475 rfl rfl (by decide) (by decide) rfl (Nat.le_of_ble_eq_true rfl) (Nat.le_of_ble_eq_true rfl) (fun _ => Or.inl (pr_b (ka_130 hM41) (by decide) rfl))) (f_MPlaceRows_enter_ok (dep := dep + 2) hM41 h) rfl ?_
                        intro M52 hM52 h
                        replace h := hQ52 _ h
                        exact J51 _ _ hM52 (lk_1r l42 (by decide)) (lk_1i l43 (by decide)) (lk_1i l44 (by decide)) (lk_1i l45 (by decide)) (lk_1i l46 (by decide)) (lk_1i l47 (by decide)) (lk_1i l48 (by decide)) (lk_1i l49 (by decide)) (hk51 _ h)
                      · replace h := ed_neg q76 h
                        refine iq_iconst hS 80 J_MPlaceRows_look_d79 (v := 0) (by decide +kernel) rfl ?_
                        exact iq_iret J_MPlaceRows_look_d80 rfl rfl ⟨_, rfl, hM41, ed_some (hR2 _ (lq_r (hR13 _ (lq_r (hR31 _ (lq_r h hq31)) hq13)) hq2))⟩
              exact I31 n31 _ _ _ hM22 (lk_1r l23 (by decide)) (lk_1i l24 (by decide)) (lk_1i l25 (by decide)) (lk_1i l26 (by decide)) (lk_1i l27 (by decide)) (lk_1i l28 (by decide)) (lk_1i l29 (by decide)) lk_1s hn31
        exact I13 n13 _ _ _ hM5 (lk_1r l6 (by decide)) (lk_1i l7 (by decide)) (lk_1i l8 (by decide)) (lk_1i l9 (by decide)) (lk_1i l10 (by decide)) (lk_1i l11 (by decide)) lk_1s hn13
  exact I2 n2 _ _ _ hM (lk_1r (lk_1r l0 (by decide)) (by decide)) (lk_1i (lk_1i l1 (by decide)) (by decide)) (lk_1i (lk_1i l2 (by decide)) (by decide)) (lk_1i (lk_1i l3 (by decide)) (by decide)) (lk_1i lk_1s (by decide)) lk_1s hn2
theorem f_MPlaceRows_look_fr {p0 : Int32} {p1 : Int32} {p2 : Int32} {M : im_M} {r : Int32 × im_M} (h : f_MPlaceRows_look p0 p1 p2 M = some r) : fr 21778071482940061661655974875633165533184 [(130, 8)] M r.2 := by
  replace h : ed (f_MPlaceRows_look p0 p1 p2 M) (fun x => x = r) := ⟨r, h, rfl⟩
  unfold f_MPlaceRows_look at h
  obtain ⟨Q1, hQ1, h⟩ := bd1_ed h
  obtain ⟨x1, e1, h⟩ := h
  replace h := hQ1 _ h
  obtain ⟨Q2, hQ2, hR2, h⟩ := bs1_ed h
  have K2 : ∀ (M3 : im_M), fr 21778071482940061661655974875633165533184 [(130, 8)] M M3 → Q2 (.inl M3) → fr 21778071482940061661655974875633165533184 [(130, 8)] M r.2 := by
    intro M3 hM3 h
    replace h := hQ2 _ h
    exact fr_ret h hM3
  obtain ⟨r2, hr2, hq2⟩ := h
  obtain ⟨n2, hn2⟩ := lp_n hr2
  have I2 : ∀ (n : Nat) (x4 : Int32) (M5 : im_M), fr 21778071482940061661655974875633165533184 [(130, 8)] M M5 → lpn (uc2 (f_MPlaceRows_look_L11 p0 p1 p2 (p0 * x1))) n (x4, M5) = some r2 → fr 21778071482940061661655974875633165533184 [(130, 8)] M r.2 := by
    intro n
    induction n with
    | zero => intro x4 M5 hM5 hn; exact (lpn_0 hn).elim
    | succ n ih =>
      intro x4 M5 hM5 hn
      have h := lpn_ed2 hn
      unfold f_MPlaceRows_look_L11 at h
      obtain ⟨Q6, hQ6, h⟩ := bd1_ed h
      obtain ⟨x6, e6, h⟩ := h
      replace h := hQ6 _ h
      by_cases q20 : x6 = 0
      · replace h := ed_pos q20 h
        exact K2 _ hM5 (lq_r h hq2)
      · replace h := ed_neg q20 h
        obtain ⟨Q7, hQ7, hR7, h⟩ := bs1_ed h
        have K7 : ∀ (M8 : im_M), fr 21778071482940061661655974875633165533184 [(130, 8)] M M8 → Q7 (.inl M8) → fr 21778071482940061661655974875633165533184 [(130, 8)] M r.2 := by
          intro M8 hM8 h
          replace h := hQ7 _ h
          exact ih _ _ hM8 (lq_l h)
        obtain ⟨r7, hr7, hq7⟩ := h
        obtain ⟨n7, hn7⟩ := lp_n hr7
        have I7 : ∀ (n : Nat) (x9 : Int32) (M10 : im_M), fr 21778071482940061661655974875633165533184 [(130, 8)] M M10 → lpn (uc2 (f_MPlaceRows_look_L26 p0 p1 p2 (p0 * x1) x4)) n (x9, M10) = some r7 → fr 21778071482940061661655974875633165533184 [(130, 8)] M r.2 := by
          intro n
          induction n with
          | zero => intro x9 M10 hM10 hn; exact (lpn_0 hn).elim
          | succ n ih =>
            intro x9 M10 hM10 hn
            have h := lpn_ed2 hn
            unfold f_MPlaceRows_look_L26 at h
            obtain ⟨Q11, hQ11, h⟩ := bd1_ed h
            obtain ⟨x11, e11, h⟩ := h
            replace h := hQ11 _ h
            by_cases q36 : x11 = 0
            · replace h := ed_pos q36 h
              exact K7 _ hM10 (lq_r h hq7)
            · replace h := ed_neg q36 h
              obtain ⟨Q12, hQ12, hR12, h⟩ := bs1_ed h
              have K12 : ∀ (M13 : im_M), fr 21778071482940061661655974875633165533184 [(130, 8)] M M13 → Q12 (.inl M13) → fr 21778071482940061661655974875633165533184 [(130, 8)] M r.2 := by
                intro M13 hM13 h
                replace h := hQ12 _ h
                exact ih _ _ hM13 (lq_l h)
              obtain ⟨r12, hr12, hq12⟩ := h
              obtain ⟨n12, hn12⟩ := lp_n hr12
              have I12 : ∀ (n : Nat) (x14 : Int32) (M15 : im_M), fr 21778071482940061661655974875633165533184 [(130, 8)] M M15 → lpn (uc2 (f_MPlaceRows_look_L42 p0 p1 p2 (p0 * x1) x4 x9)) n (x14, M15) = some r12 → fr 21778071482940061661655974875633165533184 [(130, 8)] M r.2 := by
                intro n
                induction n with
                | zero => intro x14 M15 hM15 hn; exact (lpn_0 hn).elim
                | succ n ih =>
                  intro x14 M15 hM15 hn
                  have h := lpn_ed2 hn
                  unfold f_MPlaceRows_look_L42 at h
                  by_cases q45 : 4 ≤ x14
                  · replace h := ed_pos q45 h
                    exact K12 _ hM15 (lq_r h hq12)
                  · replace h := ed_neg q45 h
                    obtain ⟨Q16, hQ16, h⟩ := bd1_ed h
                    obtain ⟨x16, e16, h⟩ := h
                    replace h := hQ16 _ h
                    obtain ⟨k17, Q17, hQ17, hk17, h⟩ := jn1_ed h
                    have J17 : ∀ (M19 : im_M), fr 21778071482940061661655974875633165533184 [(130, 8)] M M19 → Q17 M19 → fr 21778071482940061661655974875633165533184 [(130, 8)] M r.2 := by
                      intro M19 hM19 h
                      replace h := hQ17 _ h
                      exact ih _ _ hM19 (lq_l h)
                    by_cases q66 : p2 < x16
                    · replace h := ed_pos q66 h
                      exact J17 _ hM15 (hk17 _ h)
                    · replace h := ed_neg q66 h
                      by_cases q76 : ¬ (im_i M15 130 8) = 300
                      · replace h := ed_pos q76 h
                        obtain ⟨Q18, hQ18, h⟩ := bd1_ed h
                        obtain ⟨M18, e18, h⟩ := h
                        replace h := hQ18 _ h
                        exact J17 _ (fr_tr (fr_mono (by decide) (by decide +kernel) (f_MPlaceRows_enter_fr e18)) hM15) (hk17 _ h)
                      · replace h := ed_neg q76 h
                        exact fr_ret (hR2 _ (lq_r (hR7 _ (lq_r (hR12 _ (lq_r h hq12)) hq7)) hq2)) hM15
              exact I12 n12 _ _ hM10 hn12
        exact I7 n7 _ _ hM5 hn7
  exact I2 n2 _ _ fr_refl hn2
noncomputable def f_MPlaceRows_isBefore_L55 (v7 : Int32) (v8 : Int32) (M11 : im_M) (x9 : Int32) (x10 : Int32) : Option ((Int32 × Int32) ⊕ (Int32)) := if 5 ≤ x10 then some (.inr x9) else bd1 (if ¬ x9 = 0 then some x9 else gd (inb (((6 : Int32) * v7) + x10) 1800) <| gd (inb (((6 : Int32) * v8) + x10) 1800) <| some ((im_i M11 134 (Int32.toNatClampNeg (((6 : Int32) * v7) + x10))) - (im_i M11 134 (Int32.toNatClampNeg (((6 : Int32) * v8) + x10))))) fun (y13 : Int32) => some (.inl (y13, (x10 + 1)))
noncomputable def f_MPlaceRows_isBefore (p0 : Int32) (p1 : Int32) (M : im_M) : Option (Int32) := gd (inb (((6 : Int32) * p0) + 1) 1800) <| gd (inb (((6 : Int32) * p1) + 1) 1800) <| bd1 (if ¬ ((im_i M 134 (Int32.toNatClampNeg (((6 : Int32) * p0) + 1))) - (im_i M 134 (Int32.toNatClampNeg (((6 : Int32) * p1) + 1)))) = 0 then some ((im_i M 134 (Int32.toNatClampNeg (((6 : Int32) * p0) + 1))) - (im_i M 134 (Int32.toNatClampNeg (((6 : Int32) * p1) + 1)))) else gd (inb ((6 : Int32) * p0) 1800) <| gd (inb ((6 : Int32) * p1) 1800) <| some ((im_i M 134 (Int32.toNatClampNeg ((6 : Int32) * p0))) - (im_i M 134 (Int32.toNatClampNeg ((6 : Int32) * p1))))) fun (y2 : Int32) => bd1 (lp (uc2 (f_MPlaceRows_isBefore_L55 p0 p1 M)) (y2, 2)) fun (y18 : Int32) => if 0 ≤ y18 then some 0 else some 1
theorem J_MPlaceRows_isBefore_d0 : decode J_MPlaceRows_isBefore.2.1 0 = .ok (.aload_n 0, 1) := by decide +kernel
theorem J_MPlaceRows_isBefore_d1 : decode J_MPlaceRows_isBefore.2.1 1 = .ok (.getfield 29, 3) := by decide +kernel
theorem J_MPlaceRows_isBefore_d4 : decode J_MPlaceRows_isBefore.2.1 4 = .ok (.bipush 6, 2) := by decide +kernel
theorem J_MPlaceRows_isBefore_d6 : decode J_MPlaceRows_isBefore.2.1 6 = .ok (.iload_n 1, 1) := by decide +kernel
theorem J_MPlaceRows_isBefore_d7 : decode J_MPlaceRows_isBefore.2.1 7 = .ok (.imul, 1) := by decide +kernel
theorem J_MPlaceRows_isBefore_d8 : decode J_MPlaceRows_isBefore.2.1 8 = .ok (.iconst 1, 1) := by decide +kernel
theorem J_MPlaceRows_isBefore_d9 : decode J_MPlaceRows_isBefore.2.1 9 = .ok (.iadd, 1) := by decide +kernel
theorem J_MPlaceRows_isBefore_d10 : decode J_MPlaceRows_isBefore.2.1 10 = .ok (.iaload, 1) := by decide +kernel
theorem J_MPlaceRows_isBefore_d11 : decode J_MPlaceRows_isBefore.2.1 11 = .ok (.aload_n 0, 1) := by decide +kernel
theorem J_MPlaceRows_isBefore_d12 : decode J_MPlaceRows_isBefore.2.1 12 = .ok (.getfield 29, 3) := by decide +kernel
theorem J_MPlaceRows_isBefore_d15 : decode J_MPlaceRows_isBefore.2.1 15 = .ok (.bipush 6, 2) := by decide +kernel
theorem J_MPlaceRows_isBefore_d17 : decode J_MPlaceRows_isBefore.2.1 17 = .ok (.iload_n 2, 1) := by decide +kernel
theorem J_MPlaceRows_isBefore_d18 : decode J_MPlaceRows_isBefore.2.1 18 = .ok (.imul, 1) := by decide +kernel
theorem J_MPlaceRows_isBefore_d19 : decode J_MPlaceRows_isBefore.2.1 19 = .ok (.iconst 1, 1) := by decide +kernel
theorem J_MPlaceRows_isBefore_d20 : decode J_MPlaceRows_isBefore.2.1 20 = .ok (.iadd, 1) := by decide +kernel
theorem J_MPlaceRows_isBefore_d21 : decode J_MPlaceRows_isBefore.2.1 21 = .ok (.iaload, 1) := by decide +kernel
theorem J_MPlaceRows_isBefore_d22 : decode J_MPlaceRows_isBefore.2.1 22 = .ok (.isub, 1) := by decide +kernel
theorem J_MPlaceRows_isBefore_d23 : decode J_MPlaceRows_isBefore.2.1 23 = .ok (.istore_n 3, 1) := by decide +kernel
theorem J_MPlaceRows_isBefore_d24 : decode J_MPlaceRows_isBefore.2.1 24 = .ok (.iload_n 3, 1) := by decide +kernel
theorem J_MPlaceRows_isBefore_d25 : decode J_MPlaceRows_isBefore.2.1 25 = .ok (.ifCond .ne 25, 3) := by decide +kernel
theorem J_MPlaceRows_isBefore_d28 : decode J_MPlaceRows_isBefore.2.1 28 = .ok (.aload_n 0, 1) := by decide +kernel
theorem J_MPlaceRows_isBefore_d29 : decode J_MPlaceRows_isBefore.2.1 29 = .ok (.getfield 29, 3) := by decide +kernel
theorem J_MPlaceRows_isBefore_d32 : decode J_MPlaceRows_isBefore.2.1 32 = .ok (.bipush 6, 2) := by decide +kernel
theorem J_MPlaceRows_isBefore_d34 : decode J_MPlaceRows_isBefore.2.1 34 = .ok (.iload_n 1, 1) := by decide +kernel
theorem J_MPlaceRows_isBefore_d35 : decode J_MPlaceRows_isBefore.2.1 35 = .ok (.imul, 1) := by decide +kernel
theorem J_MPlaceRows_isBefore_d36 : decode J_MPlaceRows_isBefore.2.1 36 = .ok (.iaload, 1) := by decide +kernel
theorem J_MPlaceRows_isBefore_d37 : decode J_MPlaceRows_isBefore.2.1 37 = .ok (.aload_n 0, 1) := by decide +kernel
theorem J_MPlaceRows_isBefore_d38 : decode J_MPlaceRows_isBefore.2.1 38 = .ok (.getfield 29, 3) := by decide +kernel
theorem J_MPlaceRows_isBefore_d41 : decode J_MPlaceRows_isBefore.2.1 41 = .ok (.bipush 6, 2) := by decide +kernel
theorem J_MPlaceRows_isBefore_d43 : decode J_MPlaceRows_isBefore.2.1 43 = .ok (.iload_n 2, 1) := by decide +kernel
theorem J_MPlaceRows_isBefore_d44 : decode J_MPlaceRows_isBefore.2.1 44 = .ok (.imul, 1) := by decide +kernel
theorem J_MPlaceRows_isBefore_d45 : decode J_MPlaceRows_isBefore.2.1 45 = .ok (.iaload, 1) := by decide +kernel
theorem J_MPlaceRows_isBefore_d46 : decode J_MPlaceRows_isBefore.2.1 46 = .ok (.isub, 1) := by decide +kernel
theorem J_MPlaceRows_isBefore_d47 : decode J_MPlaceRows_isBefore.2.1 47 = .ok (.goto 4, 3) := by decide +kernel
theorem J_MPlaceRows_isBefore_d50 : decode J_MPlaceRows_isBefore.2.1 50 = .ok (.iload_n 3, 1) := by decide +kernel
theorem J_MPlaceRows_isBefore_d51 : decode J_MPlaceRows_isBefore.2.1 51 = .ok (.istore_n 3, 1) := by decide +kernel
theorem J_MPlaceRows_isBefore_d52 : decode J_MPlaceRows_isBefore.2.1 52 = .ok (.iconst 2, 1) := by decide +kernel
theorem J_MPlaceRows_isBefore_d53 : decode J_MPlaceRows_isBefore.2.1 53 = .ok (.istore 4, 2) := by decide +kernel
theorem J_MPlaceRows_isBefore_d55 : decode J_MPlaceRows_isBefore.2.1 55 = .ok (.iload 4, 2) := by decide +kernel
theorem J_MPlaceRows_isBefore_d57 : decode J_MPlaceRows_isBefore.2.1 57 = .ok (.iconst 5, 1) := by decide +kernel
theorem J_MPlaceRows_isBefore_d58 : decode J_MPlaceRows_isBefore.2.1 58 = .ok (.if_icmp .ge 43, 3) := by decide +kernel
theorem J_MPlaceRows_isBefore_d61 : decode J_MPlaceRows_isBefore.2.1 61 = .ok (.iload_n 3, 1) := by decide +kernel
theorem J_MPlaceRows_isBefore_d62 : decode J_MPlaceRows_isBefore.2.1 62 = .ok (.ifCond .ne 31, 3) := by decide +kernel
theorem J_MPlaceRows_isBefore_d65 : decode J_MPlaceRows_isBefore.2.1 65 = .ok (.aload_n 0, 1) := by decide +kernel
theorem J_MPlaceRows_isBefore_d66 : decode J_MPlaceRows_isBefore.2.1 66 = .ok (.getfield 29, 3) := by decide +kernel
theorem J_MPlaceRows_isBefore_d69 : decode J_MPlaceRows_isBefore.2.1 69 = .ok (.bipush 6, 2) := by decide +kernel
theorem J_MPlaceRows_isBefore_d71 : decode J_MPlaceRows_isBefore.2.1 71 = .ok (.iload_n 1, 1) := by decide +kernel
theorem J_MPlaceRows_isBefore_d72 : decode J_MPlaceRows_isBefore.2.1 72 = .ok (.imul, 1) := by decide +kernel
theorem J_MPlaceRows_isBefore_d73 : decode J_MPlaceRows_isBefore.2.1 73 = .ok (.iload 4, 2) := by decide +kernel
theorem J_MPlaceRows_isBefore_d75 : decode J_MPlaceRows_isBefore.2.1 75 = .ok (.iadd, 1) := by decide +kernel
theorem J_MPlaceRows_isBefore_d76 : decode J_MPlaceRows_isBefore.2.1 76 = .ok (.iaload, 1) := by decide +kernel
theorem J_MPlaceRows_isBefore_d77 : decode J_MPlaceRows_isBefore.2.1 77 = .ok (.aload_n 0, 1) := by decide +kernel
theorem J_MPlaceRows_isBefore_d78 : decode J_MPlaceRows_isBefore.2.1 78 = .ok (.getfield 29, 3) := by decide +kernel
theorem J_MPlaceRows_isBefore_d81 : decode J_MPlaceRows_isBefore.2.1 81 = .ok (.bipush 6, 2) := by decide +kernel
theorem J_MPlaceRows_isBefore_d83 : decode J_MPlaceRows_isBefore.2.1 83 = .ok (.iload_n 2, 1) := by decide +kernel
theorem J_MPlaceRows_isBefore_d84 : decode J_MPlaceRows_isBefore.2.1 84 = .ok (.imul, 1) := by decide +kernel
theorem J_MPlaceRows_isBefore_d85 : decode J_MPlaceRows_isBefore.2.1 85 = .ok (.iload 4, 2) := by decide +kernel
theorem J_MPlaceRows_isBefore_d87 : decode J_MPlaceRows_isBefore.2.1 87 = .ok (.iadd, 1) := by decide +kernel
theorem J_MPlaceRows_isBefore_d88 : decode J_MPlaceRows_isBefore.2.1 88 = .ok (.iaload, 1) := by decide +kernel
theorem J_MPlaceRows_isBefore_d89 : decode J_MPlaceRows_isBefore.2.1 89 = .ok (.isub, 1) := by decide +kernel
theorem J_MPlaceRows_isBefore_d90 : decode J_MPlaceRows_isBefore.2.1 90 = .ok (.goto 4, 3) := by decide +kernel
theorem J_MPlaceRows_isBefore_d93 : decode J_MPlaceRows_isBefore.2.1 93 = .ok (.iload_n 3, 1) := by decide +kernel
theorem J_MPlaceRows_isBefore_d94 : decode J_MPlaceRows_isBefore.2.1 94 = .ok (.istore_n 3, 1) := by decide +kernel
theorem J_MPlaceRows_isBefore_d95 : decode J_MPlaceRows_isBefore.2.1 95 = .ok (.iinc 4 1, 3) := by decide +kernel
theorem J_MPlaceRows_isBefore_d98 : decode J_MPlaceRows_isBefore.2.1 98 = .ok (.goto (-43), 3) := by decide +kernel
theorem J_MPlaceRows_isBefore_d101 : decode J_MPlaceRows_isBefore.2.1 101 = .ok (.iload_n 3, 1) := by decide +kernel
theorem J_MPlaceRows_isBefore_d102 : decode J_MPlaceRows_isBefore.2.1 102 = .ok (.ifCond .ge 7, 3) := by decide +kernel
theorem J_MPlaceRows_isBefore_d105 : decode J_MPlaceRows_isBefore.2.1 105 = .ok (.iconst 1, 1) := by decide +kernel
theorem J_MPlaceRows_isBefore_d106 : decode J_MPlaceRows_isBefore.2.1 106 = .ok (.goto 4, 3) := by decide +kernel
theorem J_MPlaceRows_isBefore_d109 : decode J_MPlaceRows_isBefore.2.1 109 = .ok (.iconst 0, 1) := by decide +kernel
theorem J_MPlaceRows_isBefore_d110 : decode J_MPlaceRows_isBefore.2.1 110 = .ok (.ireturn, 1) := by decide +kernel
theorem f_MPlaceRows_isBefore_ok {L : Nat} {xs : Nat → Int32} {dep : Nat} {w : Bool} {p0 : Int32} {p1 : Int32} {M : im_M} {Q : Int32 → Prop} (hM : lw_S w M) (h : ed (f_MPlaceRows_isBefore p0 p1 M) Q) : ia (tb_G L xs) dep J_MPlaceRows_isBefore (rpI M Q) (0, lv_args 0 [.ref 130, .int p0, .int p1], [], M) := by
  have hS : im_St (tb_G L xs) dep J_MPlaceRows_isBefore (ia (tb_G L xs) dep J_MPlaceRows_isBefore (rpI M Q)) := ia_St
  unfold f_MPlaceRows_isBefore at h
  have l0 : im_lk (lv_args 0 [.ref 130, .int p0, .int p1]) 0 = some (.ref 130) := rfl
  have l1 : im_lk (lv_args 0 [.ref 130, .int p0, .int p1]) 1 = some (.int p0) := rfl
  have l2 : im_lk (lv_args 0 [.ref 130, .int p0, .int p1]) 2 = some (.int p1) := rfl
  refine iq_aload_n hS 1 J_MPlaceRows_isBefore_d0 l0 rfl ?_
  refine iq_getR hS 4 J_MPlaceRows_isBefore_d1 lf_14_29 (Or.inr ⟨_, rfl⟩) (ka_130 hM) (ra_130_7 hM) rfl ?_
  refine iq_bipush hS 6 J_MPlaceRows_isBefore_d4 (v := 6) (by decide +kernel) rfl ?_
  refine iq_iload_n hS 7 J_MPlaceRows_isBefore_d6 l1 rfl ?_
  refine iq_imul hS 8 J_MPlaceRows_isBefore_d7 rfl ?_
  refine iq_iconst hS 9 J_MPlaceRows_isBefore_d8 (v := 1) (by decide +kernel) rfl ?_
  refine iq_iadd hS 10 J_MPlaceRows_isBefore_d9 rfl ?_
  obtain ⟨g10, h⟩ := ed_gd h
  refine iq_iaload hS 11 J_MPlaceRows_isBefore_d10 ⟨(ka_134 hM).1, (ka_134 hM).2, g10.1, ix_lt (kl_134 hM) g10.2⟩ rfl ?_
  refine iq_aload_n hS 12 J_MPlaceRows_isBefore_d11 l0 rfl ?_
  refine iq_getR hS 15 J_MPlaceRows_isBefore_d12 lf_14_29 (Or.inr ⟨_, rfl⟩) (ka_130 hM) (ra_130_7 hM) rfl ?_
  refine iq_bipush hS 17 J_MPlaceRows_isBefore_d15 (v := 6) (by decide +kernel) rfl ?_
  refine iq_iload_n hS 18 J_MPlaceRows_isBefore_d17 l2 rfl ?_
  refine iq_imul hS 19 J_MPlaceRows_isBefore_d18 rfl ?_
  refine iq_iconst hS 20 J_MPlaceRows_isBefore_d19 (v := 1) (by decide +kernel) rfl ?_
  refine iq_iadd hS 21 J_MPlaceRows_isBefore_d20 rfl ?_
  obtain ⟨g21, h⟩ := ed_gd h
  refine iq_iaload hS 22 J_MPlaceRows_isBefore_d21 ⟨(ka_134 hM).1, (ka_134 hM).2, g21.1, ix_lt (kl_134 hM) g21.2⟩ rfl ?_
  refine iq_isub hS 23 J_MPlaceRows_isBefore_d22 rfl ?_
  refine iq_istore_n hS 24 J_MPlaceRows_isBefore_d23 (by decide) rfl ?_
  refine iq_iload_n hS 25 J_MPlaceRows_isBefore_d24 lk_1s rfl ?_
  obtain ⟨Q1, hQ1, h⟩ := bd1_ed h
  have J1 : ∀ (y2 : Int32) (L' : List (Nat × Value)), im_lk L' 0 = some (.ref 130) → im_lk L' 1 = some (.int p0) → im_lk L' 2 = some (.int p1) → Q1 y2 → ia (tb_G L xs) dep J_MPlaceRows_isBefore (rpI M Q) (51, L', [.int y2], M) := by
    intro y2 L' l3 l4 l5 h
    replace h := hQ1 _ h
    refine iq_istore_n hS 52 J_MPlaceRows_isBefore_d51 (by decide) rfl ?_
    refine iq_iconst hS 53 J_MPlaceRows_isBefore_d52 (v := 2) (by decide +kernel) rfl ?_
    refine iq_istore hS 55 J_MPlaceRows_isBefore_d53 (by decide) rfl ?_
    obtain ⟨Q6, hQ6, h⟩ := bd1_ed h
    have K6 : ∀ (y7 : Int32) (L' : List (Nat × Value)), im_lk L' 3 = some (.int y7) → Q6 y7 → ia (tb_G L xs) dep J_MPlaceRows_isBefore (rpI M Q) (101, L', [], M) := by
      intro y7 L' l8 h
      replace h := hQ6 _ h
      refine iq_iload_n hS 102 J_MPlaceRows_isBefore_d101 l8 rfl ?_
      refine iq_if_ge hS 105 J_MPlaceRows_isBefore_d102 (t := 109) rfl (fun q102 => ?_) rfl (fun q102 => ?_)
      · replace h := ed_pos q102 h
        refine iq_iconst hS 110 J_MPlaceRows_isBefore_d109 (v := 0) (by decide +kernel) rfl ?_
        exact iq_iret J_MPlaceRows_isBefore_d110 rfl rfl ⟨_, rfl, rfl, ed_some h⟩
      · replace h := ed_neg q102 h
        refine iq_iconst hS 106 J_MPlaceRows_isBefore_d105 (v := 1) (by decide +kernel) rfl ?_
        refine iq_goto hS J_MPlaceRows_isBefore_d106 (t := 110) rfl ?_
        exact iq_iret J_MPlaceRows_isBefore_d110 rfl rfl ⟨_, rfl, rfl, ed_some h⟩
    obtain ⟨r6, hr6, hq6⟩ := h
    obtain ⟨n6, hn6⟩ := lp_n hr6
    have I6 : ∀ (n : Nat) (x9 : Int32) (x10 : Int32) (L' : List (Nat × Value)), im_lk L' 0 = some (.ref 130) → im_lk L' 1 = some (.int p0) → im_lk L' 2 = some (.int p1) → im_lk L' 3 = some (.int x9) → im_lk L' 4 = some (.int x10) → lpn (uc2 (f_MPlaceRows_isBefore_L55 p0 p1 M)) n (x9, x10) = some r6 → ia (tb_G L xs) dep J_MPlaceRows_isBefore (rpI M Q) (55, L', [], M) := by
      intro n
      induction n with
      | zero => intro x9 x10 L' l11 l12 l13 l14 l15 hn; exact (lpn_0 hn).elim
      | succ n ih =>
        intro x9 x10 L' l11 l12 l13 l14 l15 hn
        have h := lpn_ed2 hn
        unfold f_MPlaceRows_isBefore_L55 at h
        refine iq_iload hS 57 J_MPlaceRows_isBefore_d55 l15 rfl ?_
        refine iq_iconst hS 58 J_MPlaceRows_isBefore_d57 (v := 5) (by decide +kernel) rfl ?_
        refine iq_icmp_ge hS 61 J_MPlaceRows_isBefore_d58 (t := 101) rfl (fun q58 => ?_) rfl (fun q58 => ?_)
        · replace h := ed_pos q58 h
          exact K6 _ _ l14 (lq_r h hq6)
        · replace h := ed_neg q58 h
          refine iq_iload_n hS 62 J_MPlaceRows_isBefore_d61 l14 rfl ?_
          obtain ⟨Q16, hQ16, h⟩ := bd1_ed h
          have J16 : ∀ (y17 : Int32) (L' : List (Nat × Value)), im_lk L' 0 = some (.ref 130) → im_lk L' 1 = some (.int p0) → im_lk L' 2 = some (.int p1) → im_lk L' 4 = some (.int x10) → Q16 y17 → ia (tb_G L xs) dep J_MPlaceRows_isBefore (rpI M Q) (94, L', [.int y17], M) := by
            intro y17 L' l18 l19 l20 l21 h
            replace h := hQ16 _ h
            refine iq_istore_n hS 95 J_MPlaceRows_isBefore_d94 (by decide) rfl ?_
            refine iq_iincv hS 98 J_MPlaceRows_isBefore_d95 (c := 1) (by decide +kernel) (lk_1i l21 (by decide)) (by decide) rfl ?_
            refine iq_goto hS J_MPlaceRows_isBefore_d98 (t := 55) rfl ?_
            exact ih _ _ _ (lk_1r (lk_1r l18 (by decide)) (by decide)) (lk_1i (lk_1i l19 (by decide)) (by decide)) (lk_1i (lk_1i l20 (by decide)) (by decide)) (lk_1i lk_1s (by decide)) lk_1s (lq_l h)
          refine iq_if_ne hS 65 J_MPlaceRows_isBefore_d62 (t := 93) rfl (fun q62 => ?_) rfl (fun q62 => ?_)
          · replace h := ed_pos q62 h
            refine iq_iload_n hS 94 J_MPlaceRows_isBefore_d93 l14 rfl ?_
            exact J16 _ _ l11 l12 l13 l15 (ed_some h)
          · replace h := ed_neg q62 h
            refine iq_aload_n hS 66 J_MPlaceRows_isBefore_d65 l11 rfl ?_
            refine iq_getR hS 69 J_MPlaceRows_isBefore_d66 lf_14_29 (Or.inr ⟨_, rfl⟩) (ka_130 hM) (ra_130_7 hM) rfl ?_
            refine iq_bipush hS 71 J_MPlaceRows_isBefore_d69 (v := 6) (by decide +kernel) rfl ?_
            refine iq_iload_n hS 72 J_MPlaceRows_isBefore_d71 l12 rfl ?_
            refine iq_imul hS 73 J_MPlaceRows_isBefore_d72 rfl ?_
            refine iq_iload hS 75 J_MPlaceRows_isBefore_d73 l15 rfl ?_
            refine iq_iadd hS 76 J_MPlaceRows_isBefore_d75 rfl ?_
            obtain ⟨g76, h⟩ := ed_gd h
            refine iq_iaload hS 77 J_MPlaceRows_isBefore_d76 ⟨(ka_134 hM).1, (ka_134 hM).2, g76.1, ix_lt (kl_134 hM) g76.2⟩ rfl ?_
            refine iq_aload_n hS 78 J_MPlaceRows_isBefore_d77 l11 rfl ?_
            refine iq_getR hS 81 J_MPlaceRows_isBefore_d78 lf_14_29 (Or.inr ⟨_, rfl⟩) (ka_130 hM) (ra_130_7 hM) rfl ?_
            refine iq_bipush hS 83 J_MPlaceRows_isBefore_d81 (v := 6) (by decide +kernel) rfl ?_
            refine iq_iload_n hS 84 J_MPlaceRows_isBefore_d83 l13 rfl ?_
            refine iq_imul hS 85 J_MPlaceRows_isBefore_d84 rfl ?_
            refine iq_iload hS 87 J_MPlaceRows_isBefore_d85 l15 rfl ?_
            refine iq_iadd hS 88 J_MPlaceRows_isBefore_d87 rfl ?_
            obtain ⟨g88, h⟩ := ed_gd h
            refine iq_iaload hS 89 J_MPlaceRows_isBefore_d88 ⟨(ka_134 hM).1, (ka_134 hM).2, g88.1, ix_lt (kl_134 hM) g88.2⟩ rfl ?_
            refine iq_isub hS 90 J_MPlaceRows_isBefore_d89 rfl ?_
            refine iq_goto hS J_MPlaceRows_isBefore_d90 (t := 94) rfl ?_
            exact J16 _ _ l11 l12 l13 l15 (ed_some h)
    exact I6 n6 _ _ _ (lk_1r (lk_1r l3 (by decide)) (by decide)) (lk_1i (lk_1i l4 (by decide)) (by decide)) (lk_1i (lk_1i l5 (by decide)) (by decide)) (lk_1i lk_1s (by decide)) lk_1s hn6
  refine iq_if_ne hS 28 J_MPlaceRows_isBefore_d25 (t := 50) rfl (fun q25 => ?_) rfl (fun q25 => ?_)
  · replace h := ed_pos q25 h
    refine iq_iload_n hS 51 J_MPlaceRows_isBefore_d50 lk_1s rfl ?_
    exact J1 _ _ (lk_1r l0 (by decide)) (lk_1i l1 (by decide)) (lk_1i l2 (by decide)) (ed_some h)
  · replace h := ed_neg q25 h
    refine iq_aload_n hS 29 J_MPlaceRows_isBefore_d28 (lk_1r l0 (by decide)) rfl ?_
    refine iq_getR hS 32 J_MPlaceRows_isBefore_d29 lf_14_29 (Or.inr ⟨_, rfl⟩) (ka_130 hM) (ra_130_7 hM) rfl ?_
    refine iq_bipush hS 34 J_MPlaceRows_isBefore_d32 (v := 6) (by decide +kernel) rfl ?_
    refine iq_iload_n hS 35 J_MPlaceRows_isBefore_d34 (lk_1i l1 (by decide)) rfl ?_
    refine iq_imul hS 36 J_MPlaceRows_isBefore_d35 rfl ?_
    obtain ⟨g36, h⟩ := ed_gd h
    refine iq_iaload hS 37 J_MPlaceRows_isBefore_d36 ⟨(ka_134 hM).1, (ka_134 hM).2, g36.1, ix_lt (kl_134 hM) g36.2⟩ rfl ?_
    refine iq_aload_n hS 38 J_MPlaceRows_isBefore_d37 (lk_1r l0 (by decide)) rfl ?_
    refine iq_getR hS 41 J_MPlaceRows_isBefore_d38 lf_14_29 (Or.inr ⟨_, rfl⟩) (ka_130 hM) (ra_130_7 hM) rfl ?_
    refine iq_bipush hS 43 J_MPlaceRows_isBefore_d41 (v := 6) (by decide +kernel) rfl ?_
    refine iq_iload_n hS 44 J_MPlaceRows_isBefore_d43 (lk_1i l2 (by decide)) rfl ?_
    refine iq_imul hS 45 J_MPlaceRows_isBefore_d44 rfl ?_
    obtain ⟨g45, h⟩ := ed_gd h
    refine iq_iaload hS 46 J_MPlaceRows_isBefore_d45 ⟨(ka_134 hM).1, (ka_134 hM).2, g45.1, ix_lt (kl_134 hM) g45.2⟩ rfl ?_
    refine iq_isub hS 47 J_MPlaceRows_isBefore_d46 rfl ?_
    refine iq_goto hS J_MPlaceRows_isBefore_d47 (t := 51) rfl ?_
    exact J1 _ _ (lk_1r l0 (by decide)) (lk_1i l1 (by decide)) (lk_1i l2 (by decide)) (ed_some h)
noncomputable def f_MPlaceRows_meet (p0 : Int32) (p1 : Int32) (M : im_M) : Option (Int32) := gd (inb (((6 : Int32) * p0) + 2) 1800) <| gd (inb (((6 : Int32) * p0) + 3) 1800) <| bd1 (f_MPlaceRows_side (im_i M 134 (Int32.toNatClampNeg (((6 : Int32) * p0) + 3))) M) fun (x1 : Int32) => gd (inb (((6 : Int32) * p1) + 2) 1800) <| gd (inb (((6 : Int32) * p1) + 3) 1800) <| bd1 (f_MPlaceRows_side (im_i M 134 (Int32.toNatClampNeg (((6 : Int32) * p1) + 3))) M) fun (x2 : Int32) => gd (inb ((6 : Int32) * p0) 1800) <| gd (inb ((6 : Int32) * p1) 1800) <| if ((im_i M 134 (Int32.toNatClampNeg ((6 : Int32) * p1))) + ((im_i M 134 (Int32.toNatClampNeg (((6 : Int32) * p1) + 2))) * x2)) ≤ (im_i M 134 (Int32.toNatClampNeg ((6 : Int32) * p0))) then some 0 else gd (inb ((6 : Int32) * p1) 1800) <| gd (inb ((6 : Int32) * p0) 1800) <| if ((im_i M 134 (Int32.toNatClampNeg ((6 : Int32) * p0))) + ((im_i M 134 (Int32.toNatClampNeg (((6 : Int32) * p0) + 2))) * x1)) ≤ (im_i M 134 (Int32.toNatClampNeg ((6 : Int32) * p1))) then some 0 else gd (inb (((6 : Int32) * p0) + 1) 1800) <| gd (inb (((6 : Int32) * p1) + 1) 1800) <| if ((im_i M 134 (Int32.toNatClampNeg (((6 : Int32) * p1) + 1))) + ((im_i M 134 (Int32.toNatClampNeg (((6 : Int32) * p1) + 2))) * x2)) ≤ (im_i M 134 (Int32.toNatClampNeg (((6 : Int32) * p0) + 1))) then some 0 else gd (inb (((6 : Int32) * p1) + 1) 1800) <| gd (inb (((6 : Int32) * p0) + 1) 1800) <| if ((im_i M 134 (Int32.toNatClampNeg (((6 : Int32) * p0) + 1))) + ((im_i M 134 (Int32.toNatClampNeg (((6 : Int32) * p0) + 2))) * x1)) ≤ (im_i M 134 (Int32.toNatClampNeg (((6 : Int32) * p1) + 1))) then some 0 else some 1
theorem J_MPlaceRows_meet_d0 : decode J_MPlaceRows_meet.2.1 0 = .ok (.aload_n 0, 1) := by decide +kernel
theorem J_MPlaceRows_meet_d1 : decode J_MPlaceRows_meet.2.1 1 = .ok (.getfield 29, 3) := by decide +kernel
theorem J_MPlaceRows_meet_d4 : decode J_MPlaceRows_meet.2.1 4 = .ok (.bipush 6, 2) := by decide +kernel
theorem J_MPlaceRows_meet_d6 : decode J_MPlaceRows_meet.2.1 6 = .ok (.iload_n 1, 1) := by decide +kernel
theorem J_MPlaceRows_meet_d7 : decode J_MPlaceRows_meet.2.1 7 = .ok (.imul, 1) := by decide +kernel
theorem J_MPlaceRows_meet_d8 : decode J_MPlaceRows_meet.2.1 8 = .ok (.iconst 2, 1) := by decide +kernel
theorem J_MPlaceRows_meet_d9 : decode J_MPlaceRows_meet.2.1 9 = .ok (.iadd, 1) := by decide +kernel
theorem J_MPlaceRows_meet_d10 : decode J_MPlaceRows_meet.2.1 10 = .ok (.iaload, 1) := by decide +kernel
theorem J_MPlaceRows_meet_d11 : decode J_MPlaceRows_meet.2.1 11 = .ok (.aload_n 0, 1) := by decide +kernel
theorem J_MPlaceRows_meet_d12 : decode J_MPlaceRows_meet.2.1 12 = .ok (.getfield 29, 3) := by decide +kernel
theorem J_MPlaceRows_meet_d15 : decode J_MPlaceRows_meet.2.1 15 = .ok (.bipush 6, 2) := by decide +kernel
theorem J_MPlaceRows_meet_d17 : decode J_MPlaceRows_meet.2.1 17 = .ok (.iload_n 1, 1) := by decide +kernel
theorem J_MPlaceRows_meet_d18 : decode J_MPlaceRows_meet.2.1 18 = .ok (.imul, 1) := by decide +kernel
theorem J_MPlaceRows_meet_d19 : decode J_MPlaceRows_meet.2.1 19 = .ok (.iconst 3, 1) := by decide +kernel
theorem J_MPlaceRows_meet_d20 : decode J_MPlaceRows_meet.2.1 20 = .ok (.iadd, 1) := by decide +kernel
theorem J_MPlaceRows_meet_d21 : decode J_MPlaceRows_meet.2.1 21 = .ok (.iaload, 1) := by decide +kernel
theorem J_MPlaceRows_meet_d22 : decode J_MPlaceRows_meet.2.1 22 = .ok (.invokestatic 59, 3) := by decide +kernel
theorem J_MPlaceRows_meet_d25 : decode J_MPlaceRows_meet.2.1 25 = .ok (.imul, 1) := by decide +kernel
theorem J_MPlaceRows_meet_d26 : decode J_MPlaceRows_meet.2.1 26 = .ok (.istore_n 3, 1) := by decide +kernel
theorem J_MPlaceRows_meet_d27 : decode J_MPlaceRows_meet.2.1 27 = .ok (.aload_n 0, 1) := by decide +kernel
theorem J_MPlaceRows_meet_d28 : decode J_MPlaceRows_meet.2.1 28 = .ok (.getfield 29, 3) := by decide +kernel
theorem J_MPlaceRows_meet_d31 : decode J_MPlaceRows_meet.2.1 31 = .ok (.bipush 6, 2) := by decide +kernel
theorem J_MPlaceRows_meet_d33 : decode J_MPlaceRows_meet.2.1 33 = .ok (.iload_n 2, 1) := by decide +kernel
theorem J_MPlaceRows_meet_d34 : decode J_MPlaceRows_meet.2.1 34 = .ok (.imul, 1) := by decide +kernel
theorem J_MPlaceRows_meet_d35 : decode J_MPlaceRows_meet.2.1 35 = .ok (.iconst 2, 1) := by decide +kernel
theorem J_MPlaceRows_meet_d36 : decode J_MPlaceRows_meet.2.1 36 = .ok (.iadd, 1) := by decide +kernel
theorem J_MPlaceRows_meet_d37 : decode J_MPlaceRows_meet.2.1 37 = .ok (.iaload, 1) := by decide +kernel
theorem J_MPlaceRows_meet_d38 : decode J_MPlaceRows_meet.2.1 38 = .ok (.aload_n 0, 1) := by decide +kernel
theorem J_MPlaceRows_meet_d39 : decode J_MPlaceRows_meet.2.1 39 = .ok (.getfield 29, 3) := by decide +kernel
theorem J_MPlaceRows_meet_d42 : decode J_MPlaceRows_meet.2.1 42 = .ok (.bipush 6, 2) := by decide +kernel
theorem J_MPlaceRows_meet_d44 : decode J_MPlaceRows_meet.2.1 44 = .ok (.iload_n 2, 1) := by decide +kernel
theorem J_MPlaceRows_meet_d45 : decode J_MPlaceRows_meet.2.1 45 = .ok (.imul, 1) := by decide +kernel
theorem J_MPlaceRows_meet_d46 : decode J_MPlaceRows_meet.2.1 46 = .ok (.iconst 3, 1) := by decide +kernel
theorem J_MPlaceRows_meet_d47 : decode J_MPlaceRows_meet.2.1 47 = .ok (.iadd, 1) := by decide +kernel
theorem J_MPlaceRows_meet_d48 : decode J_MPlaceRows_meet.2.1 48 = .ok (.iaload, 1) := by decide +kernel
theorem J_MPlaceRows_meet_d49 : decode J_MPlaceRows_meet.2.1 49 = .ok (.invokestatic 59, 3) := by decide +kernel
theorem J_MPlaceRows_meet_d52 : decode J_MPlaceRows_meet.2.1 52 = .ok (.imul, 1) := by decide +kernel
theorem J_MPlaceRows_meet_d53 : decode J_MPlaceRows_meet.2.1 53 = .ok (.istore 4, 2) := by decide +kernel
theorem J_MPlaceRows_meet_d55 : decode J_MPlaceRows_meet.2.1 55 = .ok (.aload_n 0, 1) := by decide +kernel
theorem J_MPlaceRows_meet_d56 : decode J_MPlaceRows_meet.2.1 56 = .ok (.getfield 29, 3) := by decide +kernel
theorem J_MPlaceRows_meet_d59 : decode J_MPlaceRows_meet.2.1 59 = .ok (.bipush 6, 2) := by decide +kernel
theorem J_MPlaceRows_meet_d61 : decode J_MPlaceRows_meet.2.1 61 = .ok (.iload_n 1, 1) := by decide +kernel
theorem J_MPlaceRows_meet_d62 : decode J_MPlaceRows_meet.2.1 62 = .ok (.imul, 1) := by decide +kernel
theorem J_MPlaceRows_meet_d63 : decode J_MPlaceRows_meet.2.1 63 = .ok (.iaload, 1) := by decide +kernel
theorem J_MPlaceRows_meet_d64 : decode J_MPlaceRows_meet.2.1 64 = .ok (.aload_n 0, 1) := by decide +kernel
theorem J_MPlaceRows_meet_d65 : decode J_MPlaceRows_meet.2.1 65 = .ok (.getfield 29, 3) := by decide +kernel
theorem J_MPlaceRows_meet_d68 : decode J_MPlaceRows_meet.2.1 68 = .ok (.bipush 6, 2) := by decide +kernel
theorem J_MPlaceRows_meet_d70 : decode J_MPlaceRows_meet.2.1 70 = .ok (.iload_n 2, 1) := by decide +kernel
theorem J_MPlaceRows_meet_d71 : decode J_MPlaceRows_meet.2.1 71 = .ok (.imul, 1) := by decide +kernel
theorem J_MPlaceRows_meet_d72 : decode J_MPlaceRows_meet.2.1 72 = .ok (.iaload, 1) := by decide +kernel
theorem J_MPlaceRows_meet_d73 : decode J_MPlaceRows_meet.2.1 73 = .ok (.iload 4, 2) := by decide +kernel
theorem J_MPlaceRows_meet_d75 : decode J_MPlaceRows_meet.2.1 75 = .ok (.iadd, 1) := by decide +kernel
theorem J_MPlaceRows_meet_d76 : decode J_MPlaceRows_meet.2.1 76 = .ok (.if_icmp .ge 85, 3) := by decide +kernel
theorem J_MPlaceRows_meet_d79 : decode J_MPlaceRows_meet.2.1 79 = .ok (.aload_n 0, 1) := by decide +kernel
theorem J_MPlaceRows_meet_d80 : decode J_MPlaceRows_meet.2.1 80 = .ok (.getfield 29, 3) := by decide +kernel
theorem J_MPlaceRows_meet_d83 : decode J_MPlaceRows_meet.2.1 83 = .ok (.bipush 6, 2) := by decide +kernel
theorem J_MPlaceRows_meet_d85 : decode J_MPlaceRows_meet.2.1 85 = .ok (.iload_n 2, 1) := by decide +kernel
theorem J_MPlaceRows_meet_d86 : decode J_MPlaceRows_meet.2.1 86 = .ok (.imul, 1) := by decide +kernel
theorem J_MPlaceRows_meet_d87 : decode J_MPlaceRows_meet.2.1 87 = .ok (.iaload, 1) := by decide +kernel
theorem J_MPlaceRows_meet_d88 : decode J_MPlaceRows_meet.2.1 88 = .ok (.aload_n 0, 1) := by decide +kernel
theorem J_MPlaceRows_meet_d89 : decode J_MPlaceRows_meet.2.1 89 = .ok (.getfield 29, 3) := by decide +kernel
theorem J_MPlaceRows_meet_d92 : decode J_MPlaceRows_meet.2.1 92 = .ok (.bipush 6, 2) := by decide +kernel
theorem J_MPlaceRows_meet_d94 : decode J_MPlaceRows_meet.2.1 94 = .ok (.iload_n 1, 1) := by decide +kernel
theorem J_MPlaceRows_meet_d95 : decode J_MPlaceRows_meet.2.1 95 = .ok (.imul, 1) := by decide +kernel
theorem J_MPlaceRows_meet_d96 : decode J_MPlaceRows_meet.2.1 96 = .ok (.iaload, 1) := by decide +kernel
theorem J_MPlaceRows_meet_d97 : decode J_MPlaceRows_meet.2.1 97 = .ok (.iload_n 3, 1) := by decide +kernel
theorem J_MPlaceRows_meet_d98 : decode J_MPlaceRows_meet.2.1 98 = .ok (.iadd, 1) := by decide +kernel
theorem J_MPlaceRows_meet_d99 : decode J_MPlaceRows_meet.2.1 99 = .ok (.if_icmp .ge 62, 3) := by decide +kernel
theorem J_MPlaceRows_meet_d102 : decode J_MPlaceRows_meet.2.1 102 = .ok (.aload_n 0, 1) := by decide +kernel
theorem J_MPlaceRows_meet_d103 : decode J_MPlaceRows_meet.2.1 103 = .ok (.getfield 29, 3) := by decide +kernel
theorem J_MPlaceRows_meet_d106 : decode J_MPlaceRows_meet.2.1 106 = .ok (.bipush 6, 2) := by decide +kernel
theorem J_MPlaceRows_meet_d108 : decode J_MPlaceRows_meet.2.1 108 = .ok (.iload_n 1, 1) := by decide +kernel
theorem J_MPlaceRows_meet_d109 : decode J_MPlaceRows_meet.2.1 109 = .ok (.imul, 1) := by decide +kernel
theorem J_MPlaceRows_meet_d110 : decode J_MPlaceRows_meet.2.1 110 = .ok (.iconst 1, 1) := by decide +kernel
theorem J_MPlaceRows_meet_d111 : decode J_MPlaceRows_meet.2.1 111 = .ok (.iadd, 1) := by decide +kernel
theorem J_MPlaceRows_meet_d112 : decode J_MPlaceRows_meet.2.1 112 = .ok (.iaload, 1) := by decide +kernel
theorem J_MPlaceRows_meet_d113 : decode J_MPlaceRows_meet.2.1 113 = .ok (.aload_n 0, 1) := by decide +kernel
theorem J_MPlaceRows_meet_d114 : decode J_MPlaceRows_meet.2.1 114 = .ok (.getfield 29, 3) := by decide +kernel
theorem J_MPlaceRows_meet_d117 : decode J_MPlaceRows_meet.2.1 117 = .ok (.bipush 6, 2) := by decide +kernel
theorem J_MPlaceRows_meet_d119 : decode J_MPlaceRows_meet.2.1 119 = .ok (.iload_n 2, 1) := by decide +kernel
theorem J_MPlaceRows_meet_d120 : decode J_MPlaceRows_meet.2.1 120 = .ok (.imul, 1) := by decide +kernel
theorem J_MPlaceRows_meet_d121 : decode J_MPlaceRows_meet.2.1 121 = .ok (.iconst 1, 1) := by decide +kernel
theorem J_MPlaceRows_meet_d122 : decode J_MPlaceRows_meet.2.1 122 = .ok (.iadd, 1) := by decide +kernel
theorem J_MPlaceRows_meet_d123 : decode J_MPlaceRows_meet.2.1 123 = .ok (.iaload, 1) := by decide +kernel
theorem J_MPlaceRows_meet_d124 : decode J_MPlaceRows_meet.2.1 124 = .ok (.iload 4, 2) := by decide +kernel
theorem J_MPlaceRows_meet_d126 : decode J_MPlaceRows_meet.2.1 126 = .ok (.iadd, 1) := by decide +kernel
theorem J_MPlaceRows_meet_d127 : decode J_MPlaceRows_meet.2.1 127 = .ok (.if_icmp .ge 34, 3) := by decide +kernel
theorem J_MPlaceRows_meet_d130 : decode J_MPlaceRows_meet.2.1 130 = .ok (.aload_n 0, 1) := by decide +kernel
theorem J_MPlaceRows_meet_d131 : decode J_MPlaceRows_meet.2.1 131 = .ok (.getfield 29, 3) := by decide +kernel
theorem J_MPlaceRows_meet_d134 : decode J_MPlaceRows_meet.2.1 134 = .ok (.bipush 6, 2) := by decide +kernel
theorem J_MPlaceRows_meet_d136 : decode J_MPlaceRows_meet.2.1 136 = .ok (.iload_n 2, 1) := by decide +kernel
theorem J_MPlaceRows_meet_d137 : decode J_MPlaceRows_meet.2.1 137 = .ok (.imul, 1) := by decide +kernel
theorem J_MPlaceRows_meet_d138 : decode J_MPlaceRows_meet.2.1 138 = .ok (.iconst 1, 1) := by decide +kernel
theorem J_MPlaceRows_meet_d139 : decode J_MPlaceRows_meet.2.1 139 = .ok (.iadd, 1) := by decide +kernel
theorem J_MPlaceRows_meet_d140 : decode J_MPlaceRows_meet.2.1 140 = .ok (.iaload, 1) := by decide +kernel
theorem J_MPlaceRows_meet_d141 : decode J_MPlaceRows_meet.2.1 141 = .ok (.aload_n 0, 1) := by decide +kernel
theorem J_MPlaceRows_meet_d142 : decode J_MPlaceRows_meet.2.1 142 = .ok (.getfield 29, 3) := by decide +kernel
theorem J_MPlaceRows_meet_d145 : decode J_MPlaceRows_meet.2.1 145 = .ok (.bipush 6, 2) := by decide +kernel
theorem J_MPlaceRows_meet_d147 : decode J_MPlaceRows_meet.2.1 147 = .ok (.iload_n 1, 1) := by decide +kernel
theorem J_MPlaceRows_meet_d148 : decode J_MPlaceRows_meet.2.1 148 = .ok (.imul, 1) := by decide +kernel
theorem J_MPlaceRows_meet_d149 : decode J_MPlaceRows_meet.2.1 149 = .ok (.iconst 1, 1) := by decide +kernel
theorem J_MPlaceRows_meet_d150 : decode J_MPlaceRows_meet.2.1 150 = .ok (.iadd, 1) := by decide +kernel
theorem J_MPlaceRows_meet_d151 : decode J_MPlaceRows_meet.2.1 151 = .ok (.iaload, 1) := by decide +kernel
theorem J_MPlaceRows_meet_d152 : decode J_MPlaceRows_meet.2.1 152 = .ok (.iload_n 3, 1) := by decide +kernel
theorem J_MPlaceRows_meet_d153 : decode J_MPlaceRows_meet.2.1 153 = .ok (.iadd, 1) := by decide +kernel
theorem J_MPlaceRows_meet_d154 : decode J_MPlaceRows_meet.2.1 154 = .ok (.if_icmp .ge 7, 3) := by decide +kernel
theorem J_MPlaceRows_meet_d157 : decode J_MPlaceRows_meet.2.1 157 = .ok (.iconst 1, 1) := by decide +kernel
theorem J_MPlaceRows_meet_d158 : decode J_MPlaceRows_meet.2.1 158 = .ok (.goto 4, 3) := by decide +kernel
theorem J_MPlaceRows_meet_d161 : decode J_MPlaceRows_meet.2.1 161 = .ok (.iconst 0, 1) := by decide +kernel
theorem J_MPlaceRows_meet_d162 : decode J_MPlaceRows_meet.2.1 162 = .ok (.ireturn, 1) := by decide +kernel
theorem f_MPlaceRows_meet_ok {L : Nat} {xs : Nat → Int32} {dep : Nat} {w : Bool} {p0 : Int32} {p1 : Int32} {M : im_M} {Q : Int32 → Prop} (hM : lw_S w M) (h : ed (f_MPlaceRows_meet p0 p1 M) Q) : ia (tb_G L xs) (dep + 1) J_MPlaceRows_meet (rpI M Q) (0, lv_args 0 [.ref 130, .int p0, .int p1], [], M) := by
  have hS : im_St (tb_G L xs) (dep + 1) J_MPlaceRows_meet (ia (tb_G L xs) (dep + 1) J_MPlaceRows_meet (rpI M Q)) := ia_St
  unfold f_MPlaceRows_meet at h
  have l0 : im_lk (lv_args 0 [.ref 130, .int p0, .int p1]) 0 = some (.ref 130) := rfl
  have l1 : im_lk (lv_args 0 [.ref 130, .int p0, .int p1]) 1 = some (.int p0) := rfl
  have l2 : im_lk (lv_args 0 [.ref 130, .int p0, .int p1]) 2 = some (.int p1) := rfl
  refine iq_aload_n hS 1 J_MPlaceRows_meet_d0 l0 rfl ?_
  refine iq_getR hS 4 J_MPlaceRows_meet_d1 lf_14_29 (Or.inr ⟨_, rfl⟩) (ka_130 hM) (ra_130_7 hM) rfl ?_
  refine iq_bipush hS 6 J_MPlaceRows_meet_d4 (v := 6) (by decide +kernel) rfl ?_
  refine iq_iload_n hS 7 J_MPlaceRows_meet_d6 l1 rfl ?_
  refine iq_imul hS 8 J_MPlaceRows_meet_d7 rfl ?_
  refine iq_iconst hS 9 J_MPlaceRows_meet_d8 (v := 2) (by decide +kernel) rfl ?_
  refine iq_iadd hS 10 J_MPlaceRows_meet_d9 rfl ?_
  obtain ⟨g10, h⟩ := ed_gd h
  refine iq_iaload hS 11 J_MPlaceRows_meet_d10 ⟨(ka_134 hM).1, (ka_134 hM).2, g10.1, ix_lt (kl_134 hM) g10.2⟩ rfl ?_
  refine iq_aload_n hS 12 J_MPlaceRows_meet_d11 l0 rfl ?_
  refine iq_getR hS 15 J_MPlaceRows_meet_d12 lf_14_29 (Or.inr ⟨_, rfl⟩) (ka_130 hM) (ra_130_7 hM) rfl ?_
  refine iq_bipush hS 17 J_MPlaceRows_meet_d15 (v := 6) (by decide +kernel) rfl ?_
  refine iq_iload_n hS 18 J_MPlaceRows_meet_d17 l1 rfl ?_
  refine iq_imul hS 19 J_MPlaceRows_meet_d18 rfl ?_
  refine iq_iconst hS 20 J_MPlaceRows_meet_d19 (v := 3) (by decide +kernel) rfl ?_
  refine iq_iadd hS 21 J_MPlaceRows_meet_d20 rfl ?_
  obtain ⟨g21, h⟩ := ed_gd h
  refine iq_iaload hS 22 J_MPlaceRows_meet_d21 ⟨(ka_134 hM).1, (ka_134 hM).2, g21.1, ix_lt (kl_134 hM) g21.2⟩ rfl ?_
  obtain ⟨Q1, hQ1, h⟩ := bd1_ed h
  refine iq_cpI hS 25 J_MPlaceRows_meet_d22 rfl (pr_stat (vs := [_]) lc_14_59 lT_464 rfl rfl (by decide) rfl (Nat.le_of_ble_eq_true rfl) (Nat.le_of_ble_eq_true rfl)) (f_MPlaceRows_side_ok (dep := dep + 0) hM h) rfl ?_
  intro x1 h
  replace h := hQ1 _ h
  refine iq_imul hS 26 J_MPlaceRows_meet_d25 rfl ?_
  refine iq_istore_n hS 27 J_MPlaceRows_meet_d26 (by decide) rfl ?_
  refine iq_aload_n hS 28 J_MPlaceRows_meet_d27 (lk_1r l0 (by decide)) rfl ?_
  refine iq_getR hS 31 J_MPlaceRows_meet_d28 lf_14_29 (Or.inr ⟨_, rfl⟩) (ka_130 hM) (ra_130_7 hM) rfl ?_
  refine iq_bipush hS 33 J_MPlaceRows_meet_d31 (v := 6) (by decide +kernel) rfl ?_
  refine iq_iload_n hS 34 J_MPlaceRows_meet_d33 (lk_1i l2 (by decide)) rfl ?_
  refine iq_imul hS 35 J_MPlaceRows_meet_d34 rfl ?_
  refine iq_iconst hS 36 J_MPlaceRows_meet_d35 (v := 2) (by decide +kernel) rfl ?_
  refine iq_iadd hS 37 J_MPlaceRows_meet_d36 rfl ?_
  obtain ⟨g37, h⟩ := ed_gd h
  refine iq_iaload hS 38 J_MPlaceRows_meet_d37 ⟨(ka_134 hM).1, (ka_134 hM).2, g37.1, ix_lt (kl_134 hM) g37.2⟩ rfl ?_
  refine iq_aload_n hS 39 J_MPlaceRows_meet_d38 (lk_1r l0 (by decide)) rfl ?_
  refine iq_getR hS 42 J_MPlaceRows_meet_d39 lf_14_29 (Or.inr ⟨_, rfl⟩) (ka_130 hM) (ra_130_7 hM) rfl ?_
  refine iq_bipush hS 44 J_MPlaceRows_meet_d42 (v := 6) (by decide +kernel) rfl ?_
  refine iq_iload_n hS 45 J_MPlaceRows_meet_d44 (lk_1i l2 (by decide)) rfl ?_
  refine iq_imul hS 46 J_MPlaceRows_meet_d45 rfl ?_
  refine iq_iconst hS 47 J_MPlaceRows_meet_d46 (v := 3) (by decide +kernel) rfl ?_
  refine iq_iadd hS 48 J_MPlaceRows_meet_d47 rfl ?_
  obtain ⟨g48, h⟩ := ed_gd h
  refine iq_iaload hS 49 J_MPlaceRows_meet_d48 ⟨(ka_134 hM).1, (ka_134 hM).2, g48.1, ix_lt (kl_134 hM) g48.2⟩ rfl ?_
  obtain ⟨Q2, hQ2, h⟩ := bd1_ed h
  refine iq_cpI hS 52 J_MPlaceRows_meet_d49 rfl (pr_stat (vs := [_]) lc_14_59 lT_464 rfl rfl (by decide) rfl (Nat.le_of_ble_eq_true rfl) (Nat.le_of_ble_eq_true rfl)) (f_MPlaceRows_side_ok (dep := dep + 0) hM h) rfl ?_
  intro x2 h
  replace h := hQ2 _ h
  refine iq_imul hS 53 J_MPlaceRows_meet_d52 rfl ?_
  refine iq_istore hS 55 J_MPlaceRows_meet_d53 (by decide) rfl ?_
  refine iq_aload_n hS 56 J_MPlaceRows_meet_d55 (lk_1r (lk_1r l0 (by decide)) (by decide)) rfl ?_
  refine iq_getR hS 59 J_MPlaceRows_meet_d56 lf_14_29 (Or.inr ⟨_, rfl⟩) (ka_130 hM) (ra_130_7 hM) rfl ?_
  refine iq_bipush hS 61 J_MPlaceRows_meet_d59 (v := 6) (by decide +kernel) rfl ?_
  refine iq_iload_n hS 62 J_MPlaceRows_meet_d61 (lk_1i (lk_1i l1 (by decide)) (by decide)) rfl ?_
  refine iq_imul hS 63 J_MPlaceRows_meet_d62 rfl ?_
  obtain ⟨g63, h⟩ := ed_gd h
  refine iq_iaload hS 64 J_MPlaceRows_meet_d63 ⟨(ka_134 hM).1, (ka_134 hM).2, g63.1, ix_lt (kl_134 hM) g63.2⟩ rfl ?_
  refine iq_aload_n hS 65 J_MPlaceRows_meet_d64 (lk_1r (lk_1r l0 (by decide)) (by decide)) rfl ?_
  refine iq_getR hS 68 J_MPlaceRows_meet_d65 lf_14_29 (Or.inr ⟨_, rfl⟩) (ka_130 hM) (ra_130_7 hM) rfl ?_
  refine iq_bipush hS 70 J_MPlaceRows_meet_d68 (v := 6) (by decide +kernel) rfl ?_
  refine iq_iload_n hS 71 J_MPlaceRows_meet_d70 (lk_1i (lk_1i l2 (by decide)) (by decide)) rfl ?_
  refine iq_imul hS 72 J_MPlaceRows_meet_d71 rfl ?_
  obtain ⟨g72, h⟩ := ed_gd h
  refine iq_iaload hS 73 J_MPlaceRows_meet_d72 ⟨(ka_134 hM).1, (ka_134 hM).2, g72.1, ix_lt (kl_134 hM) g72.2⟩ rfl ?_
  refine iq_iload hS 75 J_MPlaceRows_meet_d73 lk_1s rfl ?_
  refine iq_iadd hS 76 J_MPlaceRows_meet_d75 rfl ?_
  refine iq_icmp_ge hS 79 J_MPlaceRows_meet_d76 (t := 161) rfl (fun q76 => ?_) rfl (fun q76 => ?_)
  · replace h := ed_pos q76 h
    refine iq_iconst hS 162 J_MPlaceRows_meet_d161 (v := 0) (by decide +kernel) rfl ?_
    exact iq_iret J_MPlaceRows_meet_d162 rfl rfl ⟨_, rfl, rfl, ed_some h⟩
  · replace h := ed_neg q76 h
    refine iq_aload_n hS 80 J_MPlaceRows_meet_d79 (lk_1r (lk_1r l0 (by decide)) (by decide)) rfl ?_
    refine iq_getR hS 83 J_MPlaceRows_meet_d80 lf_14_29 (Or.inr ⟨_, rfl⟩) (ka_130 hM) (ra_130_7 hM) rfl ?_
    refine iq_bipush hS 85 J_MPlaceRows_meet_d83 (v := 6) (by decide +kernel) rfl ?_
    refine iq_iload_n hS 86 J_MPlaceRows_meet_d85 (lk_1i (lk_1i l2 (by decide)) (by decide)) rfl ?_
    refine iq_imul hS 87 J_MPlaceRows_meet_d86 rfl ?_
    obtain ⟨g87, h⟩ := ed_gd h
    refine iq_iaload hS 88 J_MPlaceRows_meet_d87 ⟨(ka_134 hM).1, (ka_134 hM).2, g87.1, ix_lt (kl_134 hM) g87.2⟩ rfl ?_
    refine iq_aload_n hS 89 J_MPlaceRows_meet_d88 (lk_1r (lk_1r l0 (by decide)) (by decide)) rfl ?_
    refine iq_getR hS 92 J_MPlaceRows_meet_d89 lf_14_29 (Or.inr ⟨_, rfl⟩) (ka_130 hM) (ra_130_7 hM) rfl ?_
    refine iq_bipush hS 94 J_MPlaceRows_meet_d92 (v := 6) (by decide +kernel) rfl ?_
    refine iq_iload_n hS 95 J_MPlaceRows_meet_d94 (lk_1i (lk_1i l1 (by decide)) (by decide)) rfl ?_
    refine iq_imul hS 96 J_MPlaceRows_meet_d95 rfl ?_
    obtain ⟨g96, h⟩ := ed_gd h
    refine iq_iaload hS 97 J_MPlaceRows_meet_d96 ⟨(ka_134 hM).1, (ka_134 hM).2, g96.1, ix_lt (kl_134 hM) g96.2⟩ rfl ?_
    refine iq_iload_n hS 98 J_MPlaceRows_meet_d97 (lk_1i lk_1s (by decide)) rfl ?_
    refine iq_iadd hS 99 J_MPlaceRows_meet_d98 rfl ?_
    refine iq_icmp_ge hS 102 J_MPlaceRows_meet_d99 (t := 161) rfl (fun q99 => ?_) rfl (fun q99 => ?_)
    · replace h := ed_pos q99 h
      refine iq_iconst hS 162 J_MPlaceRows_meet_d161 (v := 0) (by decide +kernel) rfl ?_
      exact iq_iret J_MPlaceRows_meet_d162 rfl rfl ⟨_, rfl, rfl, ed_some h⟩
    · replace h := ed_neg q99 h
      refine iq_aload_n hS 103 J_MPlaceRows_meet_d102 (lk_1r (lk_1r l0 (by decide)) (by decide)) rfl ?_
      refine iq_getR hS 106 J_MPlaceRows_meet_d103 lf_14_29 (Or.inr ⟨_, rfl⟩) (ka_130 hM) (ra_130_7 hM) rfl ?_
      refine iq_bipush hS 108 J_MPlaceRows_meet_d106 (v := 6) (by decide +kernel) rfl ?_
      refine iq_iload_n hS 109 J_MPlaceRows_meet_d108 (lk_1i (lk_1i l1 (by decide)) (by decide)) rfl ?_
      refine iq_imul hS 110 J_MPlaceRows_meet_d109 rfl ?_
      refine iq_iconst hS 111 J_MPlaceRows_meet_d110 (v := 1) (by decide +kernel) rfl ?_
      refine iq_iadd hS 112 J_MPlaceRows_meet_d111 rfl ?_
      obtain ⟨g112, h⟩ := ed_gd h
      refine iq_iaload hS 113 J_MPlaceRows_meet_d112 ⟨(ka_134 hM).1, (ka_134 hM).2, g112.1, ix_lt (kl_134 hM) g112.2⟩ rfl ?_
      refine iq_aload_n hS 114 J_MPlaceRows_meet_d113 (lk_1r (lk_1r l0 (by decide)) (by decide)) rfl ?_
      refine iq_getR hS 117 J_MPlaceRows_meet_d114 lf_14_29 (Or.inr ⟨_, rfl⟩) (ka_130 hM) (ra_130_7 hM) rfl ?_
      refine iq_bipush hS 119 J_MPlaceRows_meet_d117 (v := 6) (by decide +kernel) rfl ?_
      refine iq_iload_n hS 120 J_MPlaceRows_meet_d119 (lk_1i (lk_1i l2 (by decide)) (by decide)) rfl ?_
      refine iq_imul hS 121 J_MPlaceRows_meet_d120 rfl ?_
      refine iq_iconst hS 122 J_MPlaceRows_meet_d121 (v := 1) (by decide +kernel) rfl ?_
      refine iq_iadd hS 123 J_MPlaceRows_meet_d122 rfl ?_
      obtain ⟨g123, h⟩ := ed_gd h
      refine iq_iaload hS 124 J_MPlaceRows_meet_d123 ⟨(ka_134 hM).1, (ka_134 hM).2, g123.1, ix_lt (kl_134 hM) g123.2⟩ rfl ?_
      refine iq_iload hS 126 J_MPlaceRows_meet_d124 lk_1s rfl ?_
      refine iq_iadd hS 127 J_MPlaceRows_meet_d126 rfl ?_
      refine iq_icmp_ge hS 130 J_MPlaceRows_meet_d127 (t := 161) rfl (fun q127 => ?_) rfl (fun q127 => ?_)
      · replace h := ed_pos q127 h
        refine iq_iconst hS 162 J_MPlaceRows_meet_d161 (v := 0) (by decide +kernel) rfl ?_
        exact iq_iret J_MPlaceRows_meet_d162 rfl rfl ⟨_, rfl, rfl, ed_some h⟩
      · replace h := ed_neg q127 h
        refine iq_aload_n hS 131 J_MPlaceRows_meet_d130 (lk_1r (lk_1r l0 (by decide)) (by decide)) rfl ?_
        refine iq_getR hS 134 J_MPlaceRows_meet_d131 lf_14_29 (Or.inr ⟨_, rfl⟩) (ka_130 hM) (ra_130_7 hM) rfl ?_
        refine iq_bipush hS 136 J_MPlaceRows_meet_d134 (v := 6) (by decide +kernel) rfl ?_
        refine iq_iload_n hS 137 J_MPlaceRows_meet_d136 (lk_1i (lk_1i l2 (by decide)) (by decide)) rfl ?_
        refine iq_imul hS 138 J_MPlaceRows_meet_d137 rfl ?_
        refine iq_iconst hS 139 J_MPlaceRows_meet_d138 (v := 1) (by decide +kernel) rfl ?_
        refine iq_iadd hS 140 J_MPlaceRows_meet_d139 rfl ?_
        obtain ⟨g140, h⟩ := ed_gd h
        refine iq_iaload hS 141 J_MPlaceRows_meet_d140 ⟨(ka_134 hM).1, (ka_134 hM).2, g140.1, ix_lt (kl_134 hM) g140.2⟩ rfl ?_
        refine iq_aload_n hS 142 J_MPlaceRows_meet_d141 (lk_1r (lk_1r l0 (by decide)) (by decide)) rfl ?_
        refine iq_getR hS 145 J_MPlaceRows_meet_d142 lf_14_29 (Or.inr ⟨_, rfl⟩) (ka_130 hM) (ra_130_7 hM) rfl ?_
        refine iq_bipush hS 147 J_MPlaceRows_meet_d145 (v := 6) (by decide +kernel) rfl ?_
        refine iq_iload_n hS 148 J_MPlaceRows_meet_d147 (lk_1i (lk_1i l1 (by decide)) (by decide)) rfl ?_
        refine iq_imul hS 149 J_MPlaceRows_meet_d148 rfl ?_
        refine iq_iconst hS 150 J_MPlaceRows_meet_d149 (v := 1) (by decide +kernel) rfl ?_
        refine iq_iadd hS 151 J_MPlaceRows_meet_d150 rfl ?_
        obtain ⟨g151, h⟩ := ed_gd h
        refine iq_iaload hS 152 J_MPlaceRows_meet_d151 ⟨(ka_134 hM).1, (ka_134 hM).2, g151.1, ix_lt (kl_134 hM) g151.2⟩ rfl ?_
        refine iq_iload_n hS 153 J_MPlaceRows_meet_d152 (lk_1i lk_1s (by decide)) rfl ?_
        refine iq_iadd hS 154 J_MPlaceRows_meet_d153 rfl ?_
        refine iq_icmp_ge hS 157 J_MPlaceRows_meet_d154 (t := 161) rfl (fun q154 => ?_) rfl (fun q154 => ?_)
        · replace h := ed_pos q154 h
          refine iq_iconst hS 162 J_MPlaceRows_meet_d161 (v := 0) (by decide +kernel) rfl ?_
          exact iq_iret J_MPlaceRows_meet_d162 rfl rfl ⟨_, rfl, rfl, ed_some h⟩
        · replace h := ed_neg q154 h
          refine iq_iconst hS 158 J_MPlaceRows_meet_d157 (v := 1) (by decide +kernel) rfl ?_
          refine iq_goto hS J_MPlaceRows_meet_d158 (t := 162) rfl ?_
          exact iq_iret J_MPlaceRows_meet_d162 rfl rfl ⟨_, rfl, rfl, ed_some h⟩
noncomputable def f_MPlaceRows_leads_L2 (v2 : Int32) (M4 : im_M) (x3 : Int32) : Option ((Int32) ⊕ ((Unit) ⊕ (Int32))) := if (im_i M4 130 8) ≤ x3 then some (.inr (.inl ())) else gd (inb (((6 : Int32) * x3) + 5) 1800) <| gd (inb (((6 : Int32) * v2) + 5) 1800) <| jn0 (fun (_ : Unit) => some (.inl (x3 + 1))) fun k5 => if x3 = v2 then k5 () else bd1 (f_MPlaceRows_meet v2 x3 M4) fun (x6 : Int32) => if x6 = 0 then k5 () else if ((im_i M4 134 (Int32.toNatClampNeg (((6 : Int32) * x3) + 5))) - (im_i M4 134 (Int32.toNatClampNeg (((6 : Int32) * v2) + 5)))) < 0 then some (.inr (.inr 0)) else if ¬ ((im_i M4 134 (Int32.toNatClampNeg (((6 : Int32) * x3) + 5))) - (im_i M4 134 (Int32.toNatClampNeg (((6 : Int32) * v2) + 5)))) = 0 then k5 () else bd1 (f_MPlaceRows_isBefore x3 v2 M4) fun (x7 : Int32) => if x7 = 0 then k5 () else some (.inr (.inr 0))
noncomputable def f_MPlaceRows_leads (p0 : Int32) (M : im_M) : Option (Int32) := bs0 (lp (uc1 (f_MPlaceRows_leads_L2 p0 M)) 0) (fun (_ : Unit) => some 1) (fun t => some t)
theorem J_MPlaceRows_leads_d0 : decode J_MPlaceRows_leads.2.1 0 = .ok (.iconst 0, 1) := by decide +kernel
theorem J_MPlaceRows_leads_d1 : decode J_MPlaceRows_leads.2.1 1 = .ok (.istore_n 2, 1) := by decide +kernel
theorem J_MPlaceRows_leads_d2 : decode J_MPlaceRows_leads.2.1 2 = .ok (.iload_n 2, 1) := by decide +kernel
theorem J_MPlaceRows_leads_d3 : decode J_MPlaceRows_leads.2.1 3 = .ok (.aload_n 0, 1) := by decide +kernel
theorem J_MPlaceRows_leads_d4 : decode J_MPlaceRows_leads.2.1 4 = .ok (.getfield 38, 3) := by decide +kernel
theorem J_MPlaceRows_leads_d7 : decode J_MPlaceRows_leads.2.1 7 = .ok (.if_icmp .ge 66, 3) := by decide +kernel
theorem J_MPlaceRows_leads_d10 : decode J_MPlaceRows_leads.2.1 10 = .ok (.aload_n 0, 1) := by decide +kernel
theorem J_MPlaceRows_leads_d11 : decode J_MPlaceRows_leads.2.1 11 = .ok (.getfield 29, 3) := by decide +kernel
theorem J_MPlaceRows_leads_d14 : decode J_MPlaceRows_leads.2.1 14 = .ok (.bipush 6, 2) := by decide +kernel
theorem J_MPlaceRows_leads_d16 : decode J_MPlaceRows_leads.2.1 16 = .ok (.iload_n 2, 1) := by decide +kernel
theorem J_MPlaceRows_leads_d17 : decode J_MPlaceRows_leads.2.1 17 = .ok (.imul, 1) := by decide +kernel
theorem J_MPlaceRows_leads_d18 : decode J_MPlaceRows_leads.2.1 18 = .ok (.iconst 5, 1) := by decide +kernel
theorem J_MPlaceRows_leads_d19 : decode J_MPlaceRows_leads.2.1 19 = .ok (.iadd, 1) := by decide +kernel
theorem J_MPlaceRows_leads_d20 : decode J_MPlaceRows_leads.2.1 20 = .ok (.iaload, 1) := by decide +kernel
theorem J_MPlaceRows_leads_d21 : decode J_MPlaceRows_leads.2.1 21 = .ok (.aload_n 0, 1) := by decide +kernel
theorem J_MPlaceRows_leads_d22 : decode J_MPlaceRows_leads.2.1 22 = .ok (.getfield 29, 3) := by decide +kernel
theorem J_MPlaceRows_leads_d25 : decode J_MPlaceRows_leads.2.1 25 = .ok (.bipush 6, 2) := by decide +kernel
theorem J_MPlaceRows_leads_d27 : decode J_MPlaceRows_leads.2.1 27 = .ok (.iload_n 1, 1) := by decide +kernel
theorem J_MPlaceRows_leads_d28 : decode J_MPlaceRows_leads.2.1 28 = .ok (.imul, 1) := by decide +kernel
theorem J_MPlaceRows_leads_d29 : decode J_MPlaceRows_leads.2.1 29 = .ok (.iconst 5, 1) := by decide +kernel
theorem J_MPlaceRows_leads_d30 : decode J_MPlaceRows_leads.2.1 30 = .ok (.iadd, 1) := by decide +kernel
theorem J_MPlaceRows_leads_d31 : decode J_MPlaceRows_leads.2.1 31 = .ok (.iaload, 1) := by decide +kernel
theorem J_MPlaceRows_leads_d32 : decode J_MPlaceRows_leads.2.1 32 = .ok (.isub, 1) := by decide +kernel
theorem J_MPlaceRows_leads_d33 : decode J_MPlaceRows_leads.2.1 33 = .ok (.istore_n 3, 1) := by decide +kernel
theorem J_MPlaceRows_leads_d34 : decode J_MPlaceRows_leads.2.1 34 = .ok (.iload_n 2, 1) := by decide +kernel
theorem J_MPlaceRows_leads_d35 : decode J_MPlaceRows_leads.2.1 35 = .ok (.iload_n 1, 1) := by decide +kernel
theorem J_MPlaceRows_leads_d36 : decode J_MPlaceRows_leads.2.1 36 = .ok (.if_icmp .eq 31, 3) := by decide +kernel
theorem J_MPlaceRows_leads_d39 : decode J_MPlaceRows_leads.2.1 39 = .ok (.aload_n 0, 1) := by decide +kernel
theorem J_MPlaceRows_leads_d40 : decode J_MPlaceRows_leads.2.1 40 = .ok (.iload_n 1, 1) := by decide +kernel
theorem J_MPlaceRows_leads_d41 : decode J_MPlaceRows_leads.2.1 41 = .ok (.iload_n 2, 1) := by decide +kernel
theorem J_MPlaceRows_leads_d42 : decode J_MPlaceRows_leads.2.1 42 = .ok (.invokevirtual 102, 3) := by decide +kernel
theorem J_MPlaceRows_leads_d45 : decode J_MPlaceRows_leads.2.1 45 = .ok (.ifCond .eq 22, 3) := by decide +kernel
theorem J_MPlaceRows_leads_d48 : decode J_MPlaceRows_leads.2.1 48 = .ok (.iload_n 3, 1) := by decide +kernel
theorem J_MPlaceRows_leads_d49 : decode J_MPlaceRows_leads.2.1 49 = .ok (.ifCond .lt 16, 3) := by decide +kernel
theorem J_MPlaceRows_leads_d52 : decode J_MPlaceRows_leads.2.1 52 = .ok (.iload_n 3, 1) := by decide +kernel
theorem J_MPlaceRows_leads_d53 : decode J_MPlaceRows_leads.2.1 53 = .ok (.ifCond .ne 14, 3) := by decide +kernel
theorem J_MPlaceRows_leads_d56 : decode J_MPlaceRows_leads.2.1 56 = .ok (.aload_n 0, 1) := by decide +kernel
theorem J_MPlaceRows_leads_d57 : decode J_MPlaceRows_leads.2.1 57 = .ok (.iload_n 2, 1) := by decide +kernel
theorem J_MPlaceRows_leads_d58 : decode J_MPlaceRows_leads.2.1 58 = .ok (.iload_n 1, 1) := by decide +kernel
theorem J_MPlaceRows_leads_d59 : decode J_MPlaceRows_leads.2.1 59 = .ok (.invokevirtual 105, 3) := by decide +kernel
theorem J_MPlaceRows_leads_d62 : decode J_MPlaceRows_leads.2.1 62 = .ok (.ifCond .eq 5, 3) := by decide +kernel
theorem J_MPlaceRows_leads_d65 : decode J_MPlaceRows_leads.2.1 65 = .ok (.iconst 0, 1) := by decide +kernel
theorem J_MPlaceRows_leads_d66 : decode J_MPlaceRows_leads.2.1 66 = .ok (.ireturn, 1) := by decide +kernel
theorem J_MPlaceRows_leads_d67 : decode J_MPlaceRows_leads.2.1 67 = .ok (.iinc 2 1, 3) := by decide +kernel
theorem J_MPlaceRows_leads_d70 : decode J_MPlaceRows_leads.2.1 70 = .ok (.goto (-68), 3) := by decide +kernel
theorem J_MPlaceRows_leads_d73 : decode J_MPlaceRows_leads.2.1 73 = .ok (.iconst 1, 1) := by decide +kernel
theorem J_MPlaceRows_leads_d74 : decode J_MPlaceRows_leads.2.1 74 = .ok (.ireturn, 1) := by decide +kernel
theorem f_MPlaceRows_leads_ok {L : Nat} {xs : Nat → Int32} {dep : Nat} {w : Bool} {p0 : Int32} {M : im_M} {Q : Int32 → Prop} (hM : lw_S w M) (h : ed (f_MPlaceRows_leads p0 M) Q) : ia (tb_G L xs) (dep + 2) J_MPlaceRows_leads (rpI M Q) (0, lv_args 0 [.ref 130, .int p0], [], M) := by
  have hS : im_St (tb_G L xs) (dep + 2) J_MPlaceRows_leads (ia (tb_G L xs) (dep + 2) J_MPlaceRows_leads (rpI M Q)) := ia_St
  unfold f_MPlaceRows_leads at h
  have l0 : im_lk (lv_args 0 [.ref 130, .int p0]) 0 = some (.ref 130) := rfl
  have l1 : im_lk (lv_args 0 [.ref 130, .int p0]) 1 = some (.int p0) := rfl
  refine iq_iconst hS 1 J_MPlaceRows_leads_d0 (v := 0) (by decide +kernel) rfl ?_
  refine iq_istore_n hS 2 J_MPlaceRows_leads_d1 (by decide) rfl ?_
  obtain ⟨Q1, hQ1, hR1, h⟩ := bs0_ed h
  have K1 : ∀  (L' : List (Nat × Value)), Q1 (.inl ()) → ia (tb_G L xs) (dep + 2) J_MPlaceRows_leads (rpI M Q) (73, L', [], M) := by
    intro  L'  h
    replace h := hQ1  h
    refine iq_iconst hS 74 J_MPlaceRows_leads_d73 (v := 1) (by decide +kernel) rfl ?_
    exact iq_iret J_MPlaceRows_leads_d74 rfl rfl ⟨_, rfl, rfl, ed_some h⟩
  obtain ⟨r1, hr1, hq1⟩ := h
  obtain ⟨n1, hn1⟩ := lp_n hr1
  have I1 : ∀ (n : Nat) (x2 : Int32) (L' : List (Nat × Value)), im_lk L' 0 = some (.ref 130) → im_lk L' 1 = some (.int p0) → im_lk L' 2 = some (.int x2) → lpn (uc1 (f_MPlaceRows_leads_L2 p0 M)) n x2 = some r1 → ia (tb_G L xs) (dep + 2) J_MPlaceRows_leads (rpI M Q) (2, L', [], M) := by
    intro n
    induction n with
    | zero => intro x2 L' l3 l4 l5 hn; exact (lpn_0 hn).elim
    | succ n ih =>
      intro x2 L' l3 l4 l5 hn
      have h := lpn_ed1 hn
      unfold f_MPlaceRows_leads_L2 at h
      refine iq_iload_n hS 3 J_MPlaceRows_leads_d2 l5 rfl ?_
      refine iq_aload_n hS 4 J_MPlaceRows_leads_d3 l3 rfl ?_
      refine iq_getI hS 7 J_MPlaceRows_leads_d4 lf_14_38 (Or.inl rfl) (ka_130 hM) rfl ?_
      refine iq_icmp_ge hS 10 J_MPlaceRows_leads_d7 (t := 73) rfl (fun q7 => ?_) rfl (fun q7 => ?_)
      · replace h := ed_pos q7 h
        exact K1  _  (lq_r h hq1)
      · replace h := ed_neg q7 h
        refine iq_aload_n hS 11 J_MPlaceRows_leads_d10 l3 rfl ?_
        refine iq_getR hS 14 J_MPlaceRows_leads_d11 lf_14_29 (Or.inr ⟨_, rfl⟩) (ka_130 hM) (ra_130_7 hM) rfl ?_
        refine iq_bipush hS 16 J_MPlaceRows_leads_d14 (v := 6) (by decide +kernel) rfl ?_
        refine iq_iload_n hS 17 J_MPlaceRows_leads_d16 l5 rfl ?_
        refine iq_imul hS 18 J_MPlaceRows_leads_d17 rfl ?_
        refine iq_iconst hS 19 J_MPlaceRows_leads_d18 (v := 5) (by decide +kernel) rfl ?_
        refine iq_iadd hS 20 J_MPlaceRows_leads_d19 rfl ?_
        obtain ⟨g20, h⟩ := ed_gd h
        refine iq_iaload hS 21 J_MPlaceRows_leads_d20 ⟨(ka_134 hM).1, (ka_134 hM).2, g20.1, ix_lt (kl_134 hM) g20.2⟩ rfl ?_
        refine iq_aload_n hS 22 J_MPlaceRows_leads_d21 l3 rfl ?_
        refine iq_getR hS 25 J_MPlaceRows_leads_d22 lf_14_29 (Or.inr ⟨_, rfl⟩) (ka_130 hM) (ra_130_7 hM) rfl ?_
        refine iq_bipush hS 27 J_MPlaceRows_leads_d25 (v := 6) (by decide +kernel) rfl ?_
        refine iq_iload_n hS 28 J_MPlaceRows_leads_d27 l4 rfl ?_
        refine iq_imul hS 29 J_MPlaceRows_leads_d28 rfl ?_
        refine iq_iconst hS 30 J_MPlaceRows_leads_d29 (v := 5) (by decide +kernel) rfl ?_
        refine iq_iadd hS 31 J_MPlaceRows_leads_d30 rfl ?_
        obtain ⟨g31, h⟩ := ed_gd h
        refine iq_iaload hS 32 J_MPlaceRows_leads_d31 ⟨(ka_134 hM).1, (ka_134 hM).2, g31.1, ix_lt (kl_134 hM) g31.2⟩ rfl ?_
        refine iq_isub hS 33 J_MPlaceRows_leads_d32 rfl ?_
        refine iq_istore_n hS 34 J_MPlaceRows_leads_d33 (by decide) rfl ?_
        refine iq_iload_n hS 35 J_MPlaceRows_leads_d34 (lk_1i l5 (by decide)) rfl ?_
        refine iq_iload_n hS 36 J_MPlaceRows_leads_d35 (lk_1i l4 (by decide)) rfl ?_
        obtain ⟨k6, Q6, hQ6, hk6, h⟩ := jn0_ed h
        have J6 : ∀  (L' : List (Nat × Value)), im_lk L' 0 = some (.ref 130) → im_lk L' 1 = some (.int p0) → im_lk L' 2 = some (.int x2) → Q6 () → ia (tb_G L xs) (dep + 2) J_MPlaceRows_leads (rpI M Q) (67, L', [], M) := by
          intro  L' l9 l10 l11 h
          replace h := hQ6  h
          refine iq_iincv hS 70 J_MPlaceRows_leads_d67 (c := 1) (by decide +kernel) l11 (by decide) rfl ?_
          refine iq_goto hS J_MPlaceRows_leads_d70 (t := 2) rfl ?_
          exact ih _ _ (lk_1r l9 (by decide)) (lk_1i l10 (by decide)) lk_1s (lq_l h)
        refine iq_icmp_eq hS 39 J_MPlaceRows_leads_d36 (t := 67) rfl (fun q36 => ?_) rfl (fun q36 => ?_)
        · replace h := ed_pos q36 h
          exact J6  _ (lk_1r l3 (by decide)) (lk_1i l4 (by decide)) (lk_1i l5 (by decide)) (hk6  h)
        · replace h := ed_neg q36 h
          refine iq_aload_n hS 40 J_MPlaceRows_leads_d39 (lk_1r l3 (by decide)) rfl ?_
          refine iq_iload_n hS 41 J_MPlaceRows_leads_d40 (lk_1i l4 (by decide)) rfl ?_
          refine iq_iload_n hS 42 J_MPlaceRows_leads_d41 (lk_1i l5 (by decide)) rfl ?_
          obtain ⟨Q7, hQ7, h⟩ := bd1_ed h
          refine iq_cpI hS 45 J_MPlaceRows_leads_d42 rfl (pr_inst (vs := [_, _]) lc_14_102 lT_479 rfl rfl (by decide) (by decide) rfl (Nat.le_of_ble_eq_true rfl) (Nat.le_of_ble_eq_true rfl) (fun _ => Or.inl (pr_b (ka_130 hM) (by decide) rfl))) (f_MPlaceRows_meet_ok (dep := dep + 0) hM h) rfl ?_
          intro x7 h
          replace h := hQ7 _ h
          refine iq_if_eq hS 48 J_MPlaceRows_leads_d45 (t := 67) rfl (fun q45 => ?_) rfl (fun q45 => ?_)
          · replace h := ed_pos q45 h
            exact J6  _ (lk_1r l3 (by decide)) (lk_1i l4 (by decide)) (lk_1i l5 (by decide)) (hk6  h)
          · replace h := ed_neg q45 h
            refine iq_iload_n hS 49 J_MPlaceRows_leads_d48 lk_1s rfl ?_
            refine iq_if_lt hS 52 J_MPlaceRows_leads_d49 (t := 65) rfl (fun q49 => ?_) rfl (fun q49 => ?_)
            · replace h := ed_pos q49 h
              refine iq_iconst hS 66 J_MPlaceRows_leads_d65 (v := 0) (by decide +kernel) rfl ?_
              exact iq_iret J_MPlaceRows_leads_d66 rfl rfl ⟨_, rfl, rfl, ed_some (hR1 _ (lq_r h hq1))⟩
            · replace h := ed_neg q49 h
              refine iq_iload_n hS 53 J_MPlaceRows_leads_d52 lk_1s rfl ?_
              refine iq_if_ne hS 56 J_MPlaceRows_leads_d53 (t := 67) rfl (fun q53 => ?_) rfl (fun q53 => ?_)
              · replace h := ed_pos q53 h
                exact J6  _ (lk_1r l3 (by decide)) (lk_1i l4 (by decide)) (lk_1i l5 (by decide)) (hk6  h)
              · replace h := ed_neg q53 h
                refine iq_aload_n hS 57 J_MPlaceRows_leads_d56 (lk_1r l3 (by decide)) rfl ?_
                refine iq_iload_n hS 58 J_MPlaceRows_leads_d57 (lk_1i l5 (by decide)) rfl ?_
                refine iq_iload_n hS 59 J_MPlaceRows_leads_d58 (lk_1i l4 (by decide)) rfl ?_
                obtain ⟨Q8, hQ8, h⟩ := bd1_ed h
                refine iq_cpI hS 62 J_MPlaceRows_leads_d59 rfl (pr_inst (vs := [_, _]) lc_14_105 lT_477 rfl rfl (by decide) (by decide) rfl (Nat.le_of_ble_eq_true rfl) (Nat.le_of_ble_eq_true rfl) (fun _ => Or.inl (pr_b (ka_130 hM) (by decide) rfl))) (f_MPlaceRows_isBefore_ok (dep := dep + 1) hM h) rfl ?_
                intro x8 h
                replace h := hQ8 _ h
                refine iq_if_eq hS 65 J_MPlaceRows_leads_d62 (t := 67) rfl (fun q62 => ?_) rfl (fun q62 => ?_)
                · replace h := ed_pos q62 h
                  exact J6  _ (lk_1r l3 (by decide)) (lk_1i l4 (by decide)) (lk_1i l5 (by decide)) (hk6  h)
                · replace h := ed_neg q62 h
                  refine iq_iconst hS 66 J_MPlaceRows_leads_d65 (v := 0) (by decide +kernel) rfl ?_
                  exact iq_iret J_MPlaceRows_leads_d66 rfl rfl ⟨_, rfl, rfl, ed_some (hR1 _ (lq_r h hq1))⟩
  exact I1 n1 _ _ (lk_1r l0 (by decide)) (lk_1i l1 (by decide)) lk_1s hn1
noncomputable def f_MPlaceRows_order_L13 (v6 : Int32) (M9 : im_M) (x7 : Int32) (x8 : Int32) : Option ((Int32 × Int32) ⊕ (Int32)) := if (im_i M9 130 8) ≤ x8 then some (.inr x7) else bd1 (jn0 (fun (_ : Unit) => some 1) fun k11 => if v6 < 0 then k11 () else bd1 (f_MPlaceRows_isBefore v6 x8 M9) fun (x12 : Int32) => if x12 = 0 then some 0 else k11 ()) fun (y17 : Int32) => bd1 (if y17 = 0 then some x7 else bd1 (f_MPlaceRows_leads x8 M9) fun (x23 : Int32) => if x23 = 0 then some x7 else jn0 (fun (_ : Unit) => some x8) fun k24 => if x7 < 0 then k24 () else bd1 (f_MPlaceRows_isBefore x8 x7 M9) fun (x25 : Int32) => if x25 = 0 then some x7 else k24 ()) fun (y29 : Int32) => some (.inl (y29, (x8 + 1)))
noncomputable def f_MPlaceRows_order_L93 (v37 : Int32) (v38 : Int32) (x39 : Int32) (M40 : im_M) : Option ((Int32 × im_M) ⊕ (im_M)) := if 6 ≤ x39 then some (.inr M40) else if v37 = 0 then some (.inr M40) else gd (inb (((6 : Int32) * v38) + x39) 1800) <| gd (inb (((6 : Int32) * (im_i M40 130 10)) + x39) 1800) <| some (.inl ((x39 + 1), (im_setI M40 135 (Int32.toNatClampNeg (((6 : Int32) * (im_i M40 130 10)) + x39)) (im_i M40 134 (Int32.toNatClampNeg (((6 : Int32) * v38) + x39))))))
noncomputable def f_MPlaceRows_order_L4 (x2 : Int32) (x3 : Int32) (M4 : im_M) : Option ((Int32 × Int32 × im_M) ⊕ (im_M)) := if x3 = 0 then some (.inr M4) else bd1 (lp (uc2 (f_MPlaceRows_order_L13 x2 M4)) ((-1), 0)) fun (y34 : Int32) => bd1 (lp (uc2 (f_MPlaceRows_order_L93 ((if y34 < 0 then 0 else 1) : Int32) y34)) (0, M4)) fun (M41 : im_M) => some (.inl (y34, ((if y34 < 0 then 0 else 1) : Int32), (im_setI M41 130 10 ((if ((if y34 < 0 then 0 else 1) : Int32) = 0 then (im_i M41 130 10) else ((im_i M41 130 10) + 1)) : Int32))))
noncomputable def f_MPlaceRows_order (M : im_M) : Option (im_M) := bd1 (lp (uc3 (f_MPlaceRows_order_L4)) ((-1), 1, M)) fun (M43 : im_M) => some M43
theorem J_MPlaceRows_order_d0 : decode J_MPlaceRows_order.2.1 0 = .ok (.iconst (-1), 1) := by decide +kernel
theorem J_MPlaceRows_order_d1 : decode J_MPlaceRows_order.2.1 1 = .ok (.istore_n 1, 1) := by decide +kernel
theorem J_MPlaceRows_order_d2 : decode J_MPlaceRows_order.2.1 2 = .ok (.iconst 1, 1) := by decide +kernel
theorem J_MPlaceRows_order_d3 : decode J_MPlaceRows_order.2.1 3 = .ok (.istore_n 2, 1) := by decide +kernel
theorem J_MPlaceRows_order_d4 : decode J_MPlaceRows_order.2.1 4 = .ok (.iload_n 2, 1) := by decide +kernel
theorem J_MPlaceRows_order_d5 : decode J_MPlaceRows_order.2.1 5 = .ok (.ifCond .eq 158, 3) := by decide +kernel
theorem J_MPlaceRows_order_d8 : decode J_MPlaceRows_order.2.1 8 = .ok (.iconst (-1), 1) := by decide +kernel
theorem J_MPlaceRows_order_d9 : decode J_MPlaceRows_order.2.1 9 = .ok (.istore_n 3, 1) := by decide +kernel
theorem J_MPlaceRows_order_d10 : decode J_MPlaceRows_order.2.1 10 = .ok (.iconst 0, 1) := by decide +kernel
theorem J_MPlaceRows_order_d11 : decode J_MPlaceRows_order.2.1 11 = .ok (.istore 4, 2) := by decide +kernel
theorem J_MPlaceRows_order_d13 : decode J_MPlaceRows_order.2.1 13 = .ok (.iload 4, 2) := by decide +kernel
theorem J_MPlaceRows_order_d15 : decode J_MPlaceRows_order.2.1 15 = .ok (.aload_n 0, 1) := by decide +kernel
theorem J_MPlaceRows_order_d16 : decode J_MPlaceRows_order.2.1 16 = .ok (.getfield 38, 3) := by decide +kernel
theorem J_MPlaceRows_order_d19 : decode J_MPlaceRows_order.2.1 19 = .ok (.if_icmp .ge 61, 3) := by decide +kernel
theorem J_MPlaceRows_order_d22 : decode J_MPlaceRows_order.2.1 22 = .ok (.iload_n 1, 1) := by decide +kernel
theorem J_MPlaceRows_order_d23 : decode J_MPlaceRows_order.2.1 23 = .ok (.ifCond .lt 13, 3) := by decide +kernel
theorem J_MPlaceRows_order_d26 : decode J_MPlaceRows_order.2.1 26 = .ok (.aload_n 0, 1) := by decide +kernel
theorem J_MPlaceRows_order_d27 : decode J_MPlaceRows_order.2.1 27 = .ok (.iload_n 1, 1) := by decide +kernel
theorem J_MPlaceRows_order_d28 : decode J_MPlaceRows_order.2.1 28 = .ok (.iload 4, 2) := by decide +kernel
theorem J_MPlaceRows_order_d30 : decode J_MPlaceRows_order.2.1 30 = .ok (.invokevirtual 105, 3) := by decide +kernel
theorem J_MPlaceRows_order_d33 : decode J_MPlaceRows_order.2.1 33 = .ok (.ifCond .eq 7, 3) := by decide +kernel
theorem J_MPlaceRows_order_d36 : decode J_MPlaceRows_order.2.1 36 = .ok (.iconst 1, 1) := by decide +kernel
theorem J_MPlaceRows_order_d37 : decode J_MPlaceRows_order.2.1 37 = .ok (.goto 4, 3) := by decide +kernel
theorem J_MPlaceRows_order_d40 : decode J_MPlaceRows_order.2.1 40 = .ok (.iconst 0, 1) := by decide +kernel
theorem J_MPlaceRows_order_d41 : decode J_MPlaceRows_order.2.1 41 = .ok (.istore 5, 2) := by decide +kernel
theorem J_MPlaceRows_order_d43 : decode J_MPlaceRows_order.2.1 43 = .ok (.iload 5, 2) := by decide +kernel
theorem J_MPlaceRows_order_d45 : decode J_MPlaceRows_order.2.1 45 = .ok (.ifCond .eq 29, 3) := by decide +kernel
theorem J_MPlaceRows_order_d48 : decode J_MPlaceRows_order.2.1 48 = .ok (.aload_n 0, 1) := by decide +kernel
theorem J_MPlaceRows_order_d49 : decode J_MPlaceRows_order.2.1 49 = .ok (.iload 4, 2) := by decide +kernel
theorem J_MPlaceRows_order_d51 : decode J_MPlaceRows_order.2.1 51 = .ok (.invokevirtual 108, 3) := by decide +kernel
theorem J_MPlaceRows_order_d54 : decode J_MPlaceRows_order.2.1 54 = .ok (.ifCond .eq 20, 3) := by decide +kernel
theorem J_MPlaceRows_order_d57 : decode J_MPlaceRows_order.2.1 57 = .ok (.iload_n 3, 1) := by decide +kernel
theorem J_MPlaceRows_order_d58 : decode J_MPlaceRows_order.2.1 58 = .ok (.ifCond .lt 13, 3) := by decide +kernel
theorem J_MPlaceRows_order_d61 : decode J_MPlaceRows_order.2.1 61 = .ok (.aload_n 0, 1) := by decide +kernel
theorem J_MPlaceRows_order_d62 : decode J_MPlaceRows_order.2.1 62 = .ok (.iload 4, 2) := by decide +kernel
theorem J_MPlaceRows_order_d64 : decode J_MPlaceRows_order.2.1 64 = .ok (.iload_n 3, 1) := by decide +kernel
theorem J_MPlaceRows_order_d65 : decode J_MPlaceRows_order.2.1 65 = .ok (.invokevirtual 105, 3) := by decide +kernel
theorem J_MPlaceRows_order_d68 : decode J_MPlaceRows_order.2.1 68 = .ok (.ifCond .eq 6, 3) := by decide +kernel
theorem J_MPlaceRows_order_d71 : decode J_MPlaceRows_order.2.1 71 = .ok (.iload 4, 2) := by decide +kernel
theorem J_MPlaceRows_order_d73 : decode J_MPlaceRows_order.2.1 73 = .ok (.istore_n 3, 1) := by decide +kernel
theorem J_MPlaceRows_order_d74 : decode J_MPlaceRows_order.2.1 74 = .ok (.iinc 4 1, 3) := by decide +kernel
theorem J_MPlaceRows_order_d77 : decode J_MPlaceRows_order.2.1 77 = .ok (.goto (-64), 3) := by decide +kernel
theorem J_MPlaceRows_order_d80 : decode J_MPlaceRows_order.2.1 80 = .ok (.iload_n 3, 1) := by decide +kernel
theorem J_MPlaceRows_order_d81 : decode J_MPlaceRows_order.2.1 81 = .ok (.ifCond .lt 7, 3) := by decide +kernel
theorem J_MPlaceRows_order_d84 : decode J_MPlaceRows_order.2.1 84 = .ok (.iconst 1, 1) := by decide +kernel
theorem J_MPlaceRows_order_d85 : decode J_MPlaceRows_order.2.1 85 = .ok (.goto 4, 3) := by decide +kernel
theorem J_MPlaceRows_order_d88 : decode J_MPlaceRows_order.2.1 88 = .ok (.iconst 0, 1) := by decide +kernel
theorem J_MPlaceRows_order_d89 : decode J_MPlaceRows_order.2.1 89 = .ok (.istore_n 2, 1) := by decide +kernel
theorem J_MPlaceRows_order_d90 : decode J_MPlaceRows_order.2.1 90 = .ok (.iconst 0, 1) := by decide +kernel
theorem J_MPlaceRows_order_d91 : decode J_MPlaceRows_order.2.1 91 = .ok (.istore 4, 2) := by decide +kernel
theorem J_MPlaceRows_order_d93 : decode J_MPlaceRows_order.2.1 93 = .ok (.iload 4, 2) := by decide +kernel
theorem J_MPlaceRows_order_d95 : decode J_MPlaceRows_order.2.1 95 = .ok (.bipush 6, 2) := by decide +kernel
theorem J_MPlaceRows_order_d97 : decode J_MPlaceRows_order.2.1 97 = .ok (.if_icmp .ge 40, 3) := by decide +kernel
theorem J_MPlaceRows_order_d100 : decode J_MPlaceRows_order.2.1 100 = .ok (.iload_n 2, 1) := by decide +kernel
theorem J_MPlaceRows_order_d101 : decode J_MPlaceRows_order.2.1 101 = .ok (.ifCond .eq 36, 3) := by decide +kernel
theorem J_MPlaceRows_order_d104 : decode J_MPlaceRows_order.2.1 104 = .ok (.aload_n 0, 1) := by decide +kernel
theorem J_MPlaceRows_order_d105 : decode J_MPlaceRows_order.2.1 105 = .ok (.getfield 32, 3) := by decide +kernel
theorem J_MPlaceRows_order_d108 : decode J_MPlaceRows_order.2.1 108 = .ok (.bipush 6, 2) := by decide +kernel
theorem J_MPlaceRows_order_d110 : decode J_MPlaceRows_order.2.1 110 = .ok (.aload_n 0, 1) := by decide +kernel
theorem J_MPlaceRows_order_d111 : decode J_MPlaceRows_order.2.1 111 = .ok (.getfield 41, 3) := by decide +kernel
theorem J_MPlaceRows_order_d114 : decode J_MPlaceRows_order.2.1 114 = .ok (.imul, 1) := by decide +kernel
theorem J_MPlaceRows_order_d115 : decode J_MPlaceRows_order.2.1 115 = .ok (.iload 4, 2) := by decide +kernel
theorem J_MPlaceRows_order_d117 : decode J_MPlaceRows_order.2.1 117 = .ok (.iadd, 1) := by decide +kernel
theorem J_MPlaceRows_order_d118 : decode J_MPlaceRows_order.2.1 118 = .ok (.aload_n 0, 1) := by decide +kernel
theorem J_MPlaceRows_order_d119 : decode J_MPlaceRows_order.2.1 119 = .ok (.getfield 29, 3) := by decide +kernel
theorem J_MPlaceRows_order_d122 : decode J_MPlaceRows_order.2.1 122 = .ok (.bipush 6, 2) := by decide +kernel
theorem J_MPlaceRows_order_d124 : decode J_MPlaceRows_order.2.1 124 = .ok (.iload_n 3, 1) := by decide +kernel
theorem J_MPlaceRows_order_d125 : decode J_MPlaceRows_order.2.1 125 = .ok (.imul, 1) := by decide +kernel
theorem J_MPlaceRows_order_d126 : decode J_MPlaceRows_order.2.1 126 = .ok (.iload 4, 2) := by decide +kernel
theorem J_MPlaceRows_order_d128 : decode J_MPlaceRows_order.2.1 128 = .ok (.iadd, 1) := by decide +kernel
theorem J_MPlaceRows_order_d129 : decode J_MPlaceRows_order.2.1 129 = .ok (.iaload, 1) := by decide +kernel
theorem J_MPlaceRows_order_d130 : decode J_MPlaceRows_order.2.1 130 = .ok (.iastore, 1) := by decide +kernel
theorem J_MPlaceRows_order_d131 : decode J_MPlaceRows_order.2.1 131 = .ok (.iinc 4 1, 3) := by decide +kernel
theorem J_MPlaceRows_order_d134 : decode J_MPlaceRows_order.2.1 134 = .ok (.goto (-41), 3) := by decide +kernel
theorem J_MPlaceRows_order_d137 : decode J_MPlaceRows_order.2.1 137 = .ok (.aload_n 0, 1) := by decide +kernel
theorem J_MPlaceRows_order_d138 : decode J_MPlaceRows_order.2.1 138 = .ok (.iload_n 2, 1) := by decide +kernel
theorem J_MPlaceRows_order_d139 : decode J_MPlaceRows_order.2.1 139 = .ok (.ifCond .eq 12, 3) := by decide +kernel
theorem J_MPlaceRows_order_d142 : decode J_MPlaceRows_order.2.1 142 = .ok (.aload_n 0, 1) := by decide +kernel
theorem J_MPlaceRows_order_d143 : decode J_MPlaceRows_order.2.1 143 = .ok (.getfield 41, 3) := by decide +kernel
theorem J_MPlaceRows_order_d146 : decode J_MPlaceRows_order.2.1 146 = .ok (.iconst 1, 1) := by decide +kernel
theorem J_MPlaceRows_order_d147 : decode J_MPlaceRows_order.2.1 147 = .ok (.iadd, 1) := by decide +kernel
theorem J_MPlaceRows_order_d148 : decode J_MPlaceRows_order.2.1 148 = .ok (.goto 7, 3) := by decide +kernel
theorem J_MPlaceRows_order_d151 : decode J_MPlaceRows_order.2.1 151 = .ok (.aload_n 0, 1) := by decide +kernel
theorem J_MPlaceRows_order_d152 : decode J_MPlaceRows_order.2.1 152 = .ok (.getfield 41, 3) := by decide +kernel
theorem J_MPlaceRows_order_d155 : decode J_MPlaceRows_order.2.1 155 = .ok (.putfield 41, 3) := by decide +kernel
theorem J_MPlaceRows_order_d158 : decode J_MPlaceRows_order.2.1 158 = .ok (.iload_n 3, 1) := by decide +kernel
theorem J_MPlaceRows_order_d159 : decode J_MPlaceRows_order.2.1 159 = .ok (.istore_n 1, 1) := by decide +kernel
theorem J_MPlaceRows_order_d160 : decode J_MPlaceRows_order.2.1 160 = .ok (.goto (-156), 3) := by decide +kernel
theorem J_MPlaceRows_order_d163 : decode J_MPlaceRows_order.2.1 163 = .ok (.return_, 1) := by decide +kernel
theorem f_MPlaceRows_order_ok {L : Nat} {xs : Nat → Int32} {dep : Nat} {w : Bool} {M : im_M} {Q : im_M → Prop} (hM : lw_S w M) (h : ed (f_MPlaceRows_order M) Q) : ia (tb_G L xs) (dep + 3) J_MPlaceRows_order (rwV w Q) (0, lv_args 0 [.ref 130], [], M) := by
  have hS : im_St (tb_G L xs) (dep + 3) J_MPlaceRows_order (ia (tb_G L xs) (dep + 3) J_MPlaceRows_order (rwV w Q)) := ia_St
  unfold f_MPlaceRows_order at h
  have l0 : im_lk (lv_args 0 [.ref 130]) 0 = some (.ref 130) := rfl
  refine iq_iconst hS 1 J_MPlaceRows_order_d0 (v := (-1)) (by decide +kernel) rfl ?_
  refine iq_istore_n hS 2 J_MPlaceRows_order_d1 (by decide) rfl ?_
  refine iq_iconst hS 3 J_MPlaceRows_order_d2 (v := 1) (by decide +kernel) rfl ?_
  refine iq_istore_n hS 4 J_MPlaceRows_order_d3 (by decide) rfl ?_
  obtain ⟨Q1, hQ1, h⟩ := bd1_ed h
  have K1 : ∀ (M2 : im_M) (L' : List (Nat × Value)), lw_S w M2 → Q1 M2 → ia (tb_G L xs) (dep + 3) J_MPlaceRows_order (rwV w Q) (163, L', [], M2) := by
    intro M2 L' hM2  h
    replace h := hQ1 _ h
    exact iq_ret J_MPlaceRows_order_d163 rfl ⟨rfl, hM2, ed_some h⟩
  obtain ⟨r1, hr1, hq1⟩ := h
  obtain ⟨n1, hn1⟩ := lp_n hr1
  have I1 : ∀ (n : Nat) (x3 : Int32) (x4 : Int32) (M5 : im_M) (L' : List (Nat × Value)), lw_S w M5 → im_lk L' 0 = some (.ref 130) → im_lk L' 1 = some (.int x3) → im_lk L' 2 = some (.int x4) → lpn (uc3 (f_MPlaceRows_order_L4)) n (x3, x4, M5) = some r1 → ia (tb_G L xs) (dep + 3) J_MPlaceRows_order (rwV w Q) (4, L', [], M5) := by
    intro n
    induction n with
    | zero => intro x3 x4 M5 L' hM5 l6 l7 l8 hn; exact (lpn_0 hn).elim
    | succ n ih =>
      intro x3 x4 M5 L' hM5 l6 l7 l8 hn
      have h := lpn_ed3 hn
      unfold f_MPlaceRows_order_L4 at h
      refine iq_iload_n hS 5 J_MPlaceRows_order_d4 l8 rfl ?_
      refine iq_if_eq hS 8 J_MPlaceRows_order_d5 (t := 163) rfl (fun q5 => ?_) rfl (fun q5 => ?_)
      · replace h := ed_pos q5 h
        exact K1 _ _ hM5  (lq_r h hq1)
      · replace h := ed_neg q5 h
        refine iq_iconst hS 9 J_MPlaceRows_order_d8 (v := (-1)) (by decide +kernel) rfl ?_
        refine iq_istore_n hS 10 J_MPlaceRows_order_d9 (by decide) rfl ?_
        refine iq_iconst hS 11 J_MPlaceRows_order_d10 (v := 0) (by decide +kernel) rfl ?_
        refine iq_istore hS 13 J_MPlaceRows_order_d11 (by decide) rfl ?_
        obtain ⟨Q9, hQ9, h⟩ := bd1_ed h
        have K9 : ∀ (y10 : Int32) (L' : List (Nat × Value)), im_lk L' 0 = some (.ref 130) → im_lk L' 3 = some (.int y10) → Q9 y10 → ia (tb_G L xs) (dep + 3) J_MPlaceRows_order (rwV w Q) (80, L', [], M5) := by
          intro y10 L' l11 l12 h
          replace h := hQ9 _ h
          refine iq_iload_n hS 81 J_MPlaceRows_order_d80 l12 rfl ?_
          have J13 : ∀ (z14 : Int32) (L' : List (Nat × Value)), z14 = ((if y10 < 0 then 0 else 1) : Int32) → im_lk L' 0 = some (.ref 130) → im_lk L' 3 = some (.int y10) → ia (tb_G L xs) (dep + 3) J_MPlaceRows_order (rwV w Q) (89, L', [.int z14], M5) := by
            intro z14 L' e15 l16 l17
            subst e15
            refine iq_istore_n hS 90 J_MPlaceRows_order_d89 (by decide) rfl ?_
            refine iq_iconst hS 91 J_MPlaceRows_order_d90 (v := 0) (by decide +kernel) rfl ?_
            refine iq_istore hS 93 J_MPlaceRows_order_d91 (by decide) rfl ?_
            obtain ⟨Q18, hQ18, h⟩ := bd1_ed h
            have K18 : ∀ (M19 : im_M) (L' : List (Nat × Value)), lw_S w M19 → im_lk L' 0 = some (.ref 130) → im_lk L' 2 = some (.int ((if y10 < 0 then 0 else 1) : Int32)) → im_lk L' 3 = some (.int y10) → Q18 M19 → ia (tb_G L xs) (dep + 3) J_MPlaceRows_order (rwV w Q) (137, L', [], M19) := by
              intro M19 L' hM19 l20 l21 l22 h
              replace h := hQ18 _ h
              refine iq_aload_n hS 138 J_MPlaceRows_order_d137 l20 rfl ?_
              refine iq_iload_n hS 139 J_MPlaceRows_order_d138 l21 rfl ?_
              have J23 : ∀ (z24 : Int32) (L' : List (Nat × Value)), z24 = ((if ((if y10 < 0 then 0 else 1) : Int32) = 0 then (im_i M19 130 10) else ((im_i M19 130 10) + 1)) : Int32) → im_lk L' 0 = some (.ref 130) → im_lk L' 2 = some (.int ((if y10 < 0 then 0 else 1) : Int32)) → im_lk L' 3 = some (.int y10) → ia (tb_G L xs) (dep + 3) J_MPlaceRows_order (rwV w Q) (155, L', [.int z24, .ref 130], M19) := by
                intro z24 L' e25 l26 l27 l28
                subst e25
                refine iq_putI hS 158 J_MPlaceRows_order_d155 lf_14_41 (Or.inl rfl) rfl (ka_130 hM19) rfl ?_
                refine iq_iload_n hS 159 J_MPlaceRows_order_d158 l28 rfl ?_
                refine iq_istore_n hS 160 J_MPlaceRows_order_d159 (by decide) rfl ?_
                refine iq_goto hS J_MPlaceRows_order_d160 (t := 4) rfl ?_
                exact ih _ _ _ _ (lw_sI hM19) (lk_1r l26 (by decide)) lk_1s (lk_1i l27 (by decide)) (lq_l h)
              refine iq_if_eq hS 142 J_MPlaceRows_order_d139 (t := 151) rfl (fun q139 => ?_) rfl (fun q139 => ?_)
              · refine iq_aload_n hS 152 J_MPlaceRows_order_d151 l20 rfl ?_
                refine iq_getI hS 155 J_MPlaceRows_order_d152 lf_14_41 (Or.inl rfl) (ka_130 hM19) rfl ?_
                exact J23 _ _ (by simp only [if_pos q139]) l20 l21 l22
              · refine iq_aload_n hS 143 J_MPlaceRows_order_d142 l20 rfl ?_
                refine iq_getI hS 146 J_MPlaceRows_order_d143 lf_14_41 (Or.inl rfl) (ka_130 hM19) rfl ?_
                refine iq_iconst hS 147 J_MPlaceRows_order_d146 (v := 1) (by decide +kernel) rfl ?_
                refine iq_iadd hS 148 J_MPlaceRows_order_d147 rfl ?_
                refine iq_goto hS J_MPlaceRows_order_d148 (t := 155) rfl ?_
                exact J23 _ _ (by simp only [if_neg q139]) l20 l21 l22
            obtain ⟨r18, hr18, hq18⟩ := h
            obtain ⟨n18, hn18⟩ := lp_n hr18
            have I18 : ∀ (n : Nat) (x29 : Int32) (M30 : im_M) (L' : List (Nat × Value)), lw_S w M30 → im_lk L' 0 = some (.ref 130) → im_lk L' 2 = some (.int ((if y10 < 0 then 0 else 1) : Int32)) → im_lk L' 3 = some (.int y10) → im_lk L' 4 = some (.int x29) → lpn (uc2 (f_MPlaceRows_order_L93 ((if y10 < 0 then 0 else 1) : Int32) y10)) n (x29, M30) = some r18 → ia (tb_G L xs) (dep + 3) J_MPlaceRows_order (rwV w Q) (93, L', [], M30) := by
              intro n
              induction n with
              | zero => intro x29 M30 L' hM30 l31 l32 l33 l34 hn; exact (lpn_0 hn).elim
              | succ n ih =>
                intro x29 M30 L' hM30 l31 l32 l33 l34 hn
                have h := lpn_ed2 hn
                unfold f_MPlaceRows_order_L93 at h
                refine iq_iload hS 95 J_MPlaceRows_order_d93 l34 rfl ?_
                refine iq_bipush hS 97 J_MPlaceRows_order_d95 (v := 6) (by decide +kernel) rfl ?_
                refine iq_icmp_ge hS 100 J_MPlaceRows_order_d97 (t := 137) rfl (fun q97 => ?_) rfl (fun q97 => ?_)
                · replace h := ed_pos q97 h
                  exact K18 _ _ hM30 l31 l32 l33 (lq_r h hq18)
                · replace h := ed_neg q97 h
                  refine iq_iload_n hS 101 J_MPlaceRows_order_d100 l32 rfl ?_
                  refine iq_if_eq hS 104 J_MPlaceRows_order_d101 (t := 137) rfl (fun q101 => ?_) rfl (fun q101 => ?_)
                  · replace h := ed_pos q101 h
                    exact K18 _ _ hM30 l31 l32 l33 (lq_r h hq18)
                  · replace h := ed_neg q101 h
                    refine iq_aload_n hS 105 J_MPlaceRows_order_d104 l31 rfl ?_
                    refine iq_getR hS 108 J_MPlaceRows_order_d105 lf_14_32 (Or.inr ⟨_, rfl⟩) (ka_130 hM30) (ra_130_9 hM30) rfl ?_
                    refine iq_bipush hS 110 J_MPlaceRows_order_d108 (v := 6) (by decide +kernel) rfl ?_
                    refine iq_aload_n hS 111 J_MPlaceRows_order_d110 l31 rfl ?_
                    refine iq_getI hS 114 J_MPlaceRows_order_d111 lf_14_41 (Or.inl rfl) (ka_130 hM30) rfl ?_
                    refine iq_imul hS 115 J_MPlaceRows_order_d114 rfl ?_
                    refine iq_iload hS 117 J_MPlaceRows_order_d115 l34 rfl ?_
                    refine iq_iadd hS 118 J_MPlaceRows_order_d117 rfl ?_
                    refine iq_aload_n hS 119 J_MPlaceRows_order_d118 l31 rfl ?_
                    refine iq_getR hS 122 J_MPlaceRows_order_d119 lf_14_29 (Or.inr ⟨_, rfl⟩) (ka_130 hM30) (ra_130_7 hM30) rfl ?_
                    refine iq_bipush hS 124 J_MPlaceRows_order_d122 (v := 6) (by decide +kernel) rfl ?_
                    refine iq_iload_n hS 125 J_MPlaceRows_order_d124 l33 rfl ?_
                    refine iq_imul hS 126 J_MPlaceRows_order_d125 rfl ?_
                    refine iq_iload hS 128 J_MPlaceRows_order_d126 l34 rfl ?_
                    refine iq_iadd hS 129 J_MPlaceRows_order_d128 rfl ?_
                    obtain ⟨g129, h⟩ := ed_gd h
                    refine iq_iaload hS 130 J_MPlaceRows_order_d129 ⟨(ka_134 hM30).1, (ka_134 hM30).2, g129.1, ix_lt (kl_134 hM30) g129.2⟩ rfl ?_
                    obtain ⟨g130, h⟩ := ed_gd h
                    refine iq_iastore hS 131 J_MPlaceRows_order_d130 ⟨(ka_135 hM30).1, (ka_135 hM30).2, g130.1, ix_lt (kl_135 hM30) g130.2⟩ rfl ?_
                    refine iq_iincv hS 134 J_MPlaceRows_order_d131 (c := 1) (by decide +kernel) l34 (by decide) rfl ?_
                    refine iq_goto hS J_MPlaceRows_order_d134 (t := 93) rfl ?_
                    exact ih _ _ _ (lw_sI hM30) (lk_1r l31 (by decide)) (lk_1i l32 (by decide)) (lk_1i l33 (by decide)) lk_1s (lq_l h)
            exact I18 n18 _ _ _ hM5 (lk_1r (lk_1r l16 (by decide)) (by decide)) (lk_1i lk_1s (by decide)) (lk_1i (lk_1i l17 (by decide)) (by decide)) lk_1s hn18
          refine iq_if_lt hS 84 J_MPlaceRows_order_d81 (t := 88) rfl (fun q81 => ?_) rfl (fun q81 => ?_)
          · refine iq_iconst hS 89 J_MPlaceRows_order_d88 (v := 0) (by decide +kernel) rfl ?_
            exact J13 _ _ (by simp only [if_pos q81]) l11 l12
          · refine iq_iconst hS 85 J_MPlaceRows_order_d84 (v := 1) (by decide +kernel) rfl ?_
            refine iq_goto hS J_MPlaceRows_order_d85 (t := 89) rfl ?_
            exact J13 _ _ (by simp only [if_neg q81]) l11 l12
        obtain ⟨r9, hr9, hq9⟩ := h
        obtain ⟨n9, hn9⟩ := lp_n hr9
        have I9 : ∀ (n : Nat) (x35 : Int32) (x36 : Int32) (L' : List (Nat × Value)), im_lk L' 0 = some (.ref 130) → im_lk L' 1 = some (.int x3) → im_lk L' 3 = some (.int x35) → im_lk L' 4 = some (.int x36) → lpn (uc2 (f_MPlaceRows_order_L13 x3 M5)) n (x35, x36) = some r9 → ia (tb_G L xs) (dep + 3) J_MPlaceRows_order (rwV w Q) (13, L', [], M5) := by
          intro n
          induction n with
          | zero => intro x35 x36 L' l37 l38 l39 l40 hn; exact (lpn_0 hn).elim
          | succ n ih =>
            intro x35 x36 L' l37 l38 l39 l40 hn
            have h := lpn_ed2 hn
            unfold f_MPlaceRows_order_L13 at h
            refine iq_iload hS 15 J_MPlaceRows_order_d13 l40 rfl ?_
            refine iq_aload_n hS 16 J_MPlaceRows_order_d15 l37 rfl ?_
            refine iq_getI hS 19 J_MPlaceRows_order_d16 lf_14_38 (Or.inl rfl) (ka_130 hM5) rfl ?_
            refine iq_icmp_ge hS 22 J_MPlaceRows_order_d19 (t := 80) rfl (fun q19 => ?_) rfl (fun q19 => ?_)
            · replace h := ed_pos q19 h
              exact K9 _ _ l37 l39 (lq_r h hq9)
            · replace h := ed_neg q19 h
              refine iq_iload_n hS 23 J_MPlaceRows_order_d22 l38 rfl ?_
              obtain ⟨Q41, hQ41, h⟩ := bd1_ed h
              have J41 : ∀ (y48 : Int32) (L' : List (Nat × Value)), im_lk L' 0 = some (.ref 130) → im_lk L' 1 = some (.int x3) → im_lk L' 3 = some (.int x35) → im_lk L' 4 = some (.int x36) → Q41 y48 → ia (tb_G L xs) (dep + 3) J_MPlaceRows_order (rwV w Q) (41, L', [.int y48], M5) := by
                intro y48 L' l49 l50 l51 l52 h
                replace h := hQ41 _ h
                refine iq_istore hS 43 J_MPlaceRows_order_d41 (by decide) rfl ?_
                refine iq_iload hS 45 J_MPlaceRows_order_d43 lk_1s rfl ?_
                obtain ⟨Q53, hQ53, h⟩ := bd1_ed h
                have J53 : ∀ (y60 : Int32) (L' : List (Nat × Value)), im_lk L' 0 = some (.ref 130) → im_lk L' 1 = some (.int x3) → im_lk L' 3 = some (.int y60) → im_lk L' 4 = some (.int x36) → Q53 y60 → ia (tb_G L xs) (dep + 3) J_MPlaceRows_order (rwV w Q) (74, L', [], M5) := by
                  intro y60 L' l61 l62 l63 l64 h
                  replace h := hQ53 _ h
                  refine iq_iincv hS 77 J_MPlaceRows_order_d74 (c := 1) (by decide +kernel) l64 (by decide) rfl ?_
                  refine iq_goto hS J_MPlaceRows_order_d77 (t := 13) rfl ?_
                  exact ih _ _ _ (lk_1r l61 (by decide)) (lk_1i l62 (by decide)) (lk_1i l63 (by decide)) lk_1s (lq_l h)
                refine iq_if_eq hS 48 J_MPlaceRows_order_d45 (t := 74) rfl (fun q45 => ?_) rfl (fun q45 => ?_)
                · replace h := ed_pos q45 h
                  exact J53 _ _ (lk_1r l49 (by decide)) (lk_1i l50 (by decide)) (lk_1i l51 (by decide)) (lk_1i l52 (by decide)) (ed_some h)
                · replace h := ed_neg q45 h
                  refine iq_aload_n hS 49 J_MPlaceRows_order_d48 (lk_1r l49 (by decide)) rfl ?_
                  refine iq_iload hS 51 J_MPlaceRows_order_d49 (lk_1i l52 (by decide)) rfl ?_
                  obtain ⟨Q54, hQ54, h⟩ := bd1_ed h
                  refine iq_cpI hS 54 J_MPlaceRows_order_d51 rfl (pr_inst (vs := [_]) lc_14_108 lT_478 rfl rfl (by decide) (by decide) rfl (Nat.le_of_ble_eq_true rfl) (Nat.le_of_ble_eq_true rfl) (fun _ => Or.inl (pr_b (ka_130 hM5) (by decide) rfl))) (f_MPlaceRows_leads_ok (dep := dep + 0) hM5 h) rfl ?_
                  intro x54 h
                  replace h := hQ54 _ h
                  refine iq_if_eq hS 57 J_MPlaceRows_order_d54 (t := 74) rfl (fun q54 => ?_) rfl (fun q54 => ?_)
                  · replace h := ed_pos q54 h
                    exact J53 _ _ (lk_1r l49 (by decide)) (lk_1i l50 (by decide)) (lk_1i l51 (by decide)) (lk_1i l52 (by decide)) (ed_some h)
                  · replace h := ed_neg q54 h
                    refine iq_iload_n hS 58 J_MPlaceRows_order_d57 (lk_1i l51 (by decide)) rfl ?_
                    obtain ⟨k55, Q55, hQ55, hk55, h⟩ := jn0_ed h
                    have J55 : ∀  (L' : List (Nat × Value)), im_lk L' 0 = some (.ref 130) → im_lk L' 1 = some (.int x3) → im_lk L' 4 = some (.int x36) → Q55 () → ia (tb_G L xs) (dep + 3) J_MPlaceRows_order (rwV w Q) (71, L', [], M5) := by
                      intro  L' l57 l58 l59 h
                      replace h := hQ55  h
                      refine iq_iload hS 73 J_MPlaceRows_order_d71 l59 rfl ?_
                      refine iq_istore_n hS 74 J_MPlaceRows_order_d73 (by decide) rfl ?_
                      exact J53 _ _ (lk_1r l57 (by decide)) (lk_1i l58 (by decide)) lk_1s (lk_1i l59 (by decide)) (ed_some h)
                    refine iq_if_lt hS 61 J_MPlaceRows_order_d58 (t := 71) rfl (fun q58 => ?_) rfl (fun q58 => ?_)
                    · replace h := ed_pos q58 h
                      exact J55  _ (lk_1r l49 (by decide)) (lk_1i l50 (by decide)) (lk_1i l52 (by decide)) (hk55  h)
                    · replace h := ed_neg q58 h
                      refine iq_aload_n hS 62 J_MPlaceRows_order_d61 (lk_1r l49 (by decide)) rfl ?_
                      refine iq_iload hS 64 J_MPlaceRows_order_d62 (lk_1i l52 (by decide)) rfl ?_
                      refine iq_iload_n hS 65 J_MPlaceRows_order_d64 (lk_1i l51 (by decide)) rfl ?_
                      obtain ⟨Q56, hQ56, h⟩ := bd1_ed h
                      refine iq_cpI hS 68 J_MPlaceRows_order_d65 rfl (pr_inst (vs := [_, _]) lc_14_105 lT_477 rfl rfl (by decide) (by decide) rfl (Nat.le_of_ble_eq_true rfl) (Nat.le_of_ble_eq_true rfl) (fun _ => Or.inl (pr_b (ka_130 hM5) (by decide) rfl))) (f_MPlaceRows_isBefore_ok (dep := dep + 2) hM5 h) rfl ?_
                      intro x56 h
                      replace h := hQ56 _ h
                      refine iq_if_eq hS 71 J_MPlaceRows_order_d68 (t := 74) rfl (fun q68 => ?_) rfl (fun q68 => ?_)
                      · replace h := ed_pos q68 h
                        exact J53 _ _ (lk_1r l49 (by decide)) (lk_1i l50 (by decide)) (lk_1i l51 (by decide)) (lk_1i l52 (by decide)) (ed_some h)
                      · replace h := ed_neg q68 h
                        exact J55  _ (lk_1r l49 (by decide)) (lk_1i l50 (by decide)) (lk_1i l52 (by decide)) (hk55  h)
              obtain ⟨k42, Q42, hQ42, hk42, h⟩ := jn0_ed h
              have J42 : ∀  (L' : List (Nat × Value)), im_lk L' 0 = some (.ref 130) → im_lk L' 1 = some (.int x3) → im_lk L' 3 = some (.int x35) → im_lk L' 4 = some (.int x36) → Q42 () → ia (tb_G L xs) (dep + 3) J_MPlaceRows_order (rwV w Q) (36, L', [], M5) := by
                intro  L' l44 l45 l46 l47 h
                replace h := hQ42  h
                refine iq_iconst hS 37 J_MPlaceRows_order_d36 (v := 1) (by decide +kernel) rfl ?_
                refine iq_goto hS J_MPlaceRows_order_d37 (t := 41) rfl ?_
                exact J41 _ _ l44 l45 l46 l47 (ed_some h)
              refine iq_if_lt hS 26 J_MPlaceRows_order_d23 (t := 36) rfl (fun q23 => ?_) rfl (fun q23 => ?_)
              · replace h := ed_pos q23 h
                exact J42  _ l37 l38 l39 l40 (hk42  h)
              · replace h := ed_neg q23 h
                refine iq_aload_n hS 27 J_MPlaceRows_order_d26 l37 rfl ?_
                refine iq_iload_n hS 28 J_MPlaceRows_order_d27 l38 rfl ?_
                refine iq_iload hS 30 J_MPlaceRows_order_d28 l40 rfl ?_
                obtain ⟨Q43, hQ43, h⟩ := bd1_ed h
                refine iq_cpI hS 33 J_MPlaceRows_order_d30 rfl (pr_inst (vs := [_, _]) lc_14_105 lT_477 rfl rfl (by decide) (by decide) rfl (Nat.le_of_ble_eq_true rfl) (Nat.le_of_ble_eq_true rfl) (fun _ => Or.inl (pr_b (ka_130 hM5) (by decide) rfl))) (f_MPlaceRows_isBefore_ok (dep := dep + 2) hM5 h) rfl ?_
                intro x43 h
                replace h := hQ43 _ h
                refine iq_if_eq hS 36 J_MPlaceRows_order_d33 (t := 40) rfl (fun q33 => ?_) rfl (fun q33 => ?_)
                · replace h := ed_pos q33 h
                  refine iq_iconst hS 41 J_MPlaceRows_order_d40 (v := 0) (by decide +kernel) rfl ?_
                  exact J41 _ _ l37 l38 l39 l40 (ed_some h)
                · replace h := ed_neg q33 h
                  exact J42  _ l37 l38 l39 l40 (hk42  h)
        exact I9 n9 _ _ _ (lk_1r (lk_1r l6 (by decide)) (by decide)) (lk_1i (lk_1i l7 (by decide)) (by decide)) (lk_1i lk_1s (by decide)) lk_1s hn9
  exact I1 n1 _ _ _ _ hM (lk_1r (lk_1r l0 (by decide)) (by decide)) (lk_1i lk_1s (by decide)) lk_1s hn1
theorem f_MPlaceRows_order_fr {M : im_M} {r : im_M} (h : f_MPlaceRows_order M = some r) : fr 43556142965880123323311949751266331066368 [(130, 10)] M r := by
  replace h : ed (f_MPlaceRows_order M) (fun x => x = r) := ⟨r, h, rfl⟩
  unfold f_MPlaceRows_order at h
  obtain ⟨Q1, hQ1, h⟩ := bd1_ed h
  have K1 : ∀ (M2 : im_M), fr 43556142965880123323311949751266331066368 [(130, 10)] M M2 → Q1 M2 → fr 43556142965880123323311949751266331066368 [(130, 10)] M r := by
    intro M2 hM2 h
    replace h := hQ1 _ h
    exact fr_retV h hM2
  obtain ⟨r1, hr1, hq1⟩ := h
  obtain ⟨n1, hn1⟩ := lp_n hr1
  have I1 : ∀ (n : Nat) (x3 : Int32) (x4 : Int32) (M5 : im_M), fr 43556142965880123323311949751266331066368 [(130, 10)] M M5 → lpn (uc3 (f_MPlaceRows_order_L4)) n (x3, x4, M5) = some r1 → fr 43556142965880123323311949751266331066368 [(130, 10)] M r := by
    intro n
    induction n with
    | zero => intro x3 x4 M5 hM5 hn; exact (lpn_0 hn).elim
    | succ n ih =>
      intro x3 x4 M5 hM5 hn
      have h := lpn_ed3 hn
      unfold f_MPlaceRows_order_L4 at h
      by_cases q5 : x4 = 0
      · replace h := ed_pos q5 h
        exact K1 _ hM5 (lq_r h hq1)
      · replace h := ed_neg q5 h
        obtain ⟨Q6, hQ6, h⟩ := bd1_ed h
        have K6 : ∀ (y7 : Int32), Q6 y7 → fr 43556142965880123323311949751266331066368 [(130, 10)] M r := by
          intro y7 h
          replace h := hQ6 _ h
          obtain ⟨Q9, hQ9, h⟩ := bd1_ed h
          have K9 : ∀ (M10 : im_M), fr 43556142965880123323311949751266331066368 [(130, 10)] M M10 → Q9 M10 → fr 43556142965880123323311949751266331066368 [(130, 10)] M r := by
            intro M10 hM10 h
            replace h := hQ9 _ h
            exact ih _ _ _ (fr_F (by decide) hM10) (lq_l h)
          obtain ⟨r9, hr9, hq9⟩ := h
          obtain ⟨n9, hn9⟩ := lp_n hr9
          have I9 : ∀ (n : Nat) (x12 : Int32) (M13 : im_M), fr 43556142965880123323311949751266331066368 [(130, 10)] M M13 → lpn (uc2 (f_MPlaceRows_order_L93 ((if y7 < 0 then 0 else 1) : Int32) y7)) n (x12, M13) = some r9 → fr 43556142965880123323311949751266331066368 [(130, 10)] M r := by
            intro n
            induction n with
            | zero => intro x12 M13 hM13 hn; exact (lpn_0 hn).elim
            | succ n ih =>
              intro x12 M13 hM13 hn
              have h := lpn_ed2 hn
              unfold f_MPlaceRows_order_L93 at h
              by_cases q97 : 6 ≤ x12
              · replace h := ed_pos q97 h
                exact K9 _ hM13 (lq_r h hq9)
              · replace h := ed_neg q97 h
                by_cases q101 : ((if y7 < 0 then 0 else 1) : Int32) = 0
                · replace h := ed_pos q101 h
                  exact K9 _ hM13 (lq_r h hq9)
                · replace h := ed_neg q101 h
                  obtain ⟨g129, h⟩ := ed_gd h
                  obtain ⟨g130, h⟩ := ed_gd h
                  exact ih _ _ (fr_I (by decide) hM13) (lq_l h)
          exact I9 n9 _ _ hM5 hn9
        obtain ⟨r6, hr6, hq6⟩ := h
        obtain ⟨n6, hn6⟩ := lp_n hr6
        have I6 : ∀ (n : Nat) (x14 : Int32) (x15 : Int32), lpn (uc2 (f_MPlaceRows_order_L13 x3 M5)) n (x14, x15) = some r6 → fr 43556142965880123323311949751266331066368 [(130, 10)] M r := by
          intro n
          induction n with
          | zero => intro x14 x15 hn; exact (lpn_0 hn).elim
          | succ n ih =>
            intro x14 x15 hn
            have h := lpn_ed2 hn
            unfold f_MPlaceRows_order_L13 at h
            by_cases q19 : (im_i M5 130 8) ≤ x15
            · replace h := ed_pos q19 h
              exact K6 _ (lq_r h hq6)
            · replace h := ed_neg q19 h
              obtain ⟨Q16, hQ16, h⟩ := bd1_ed h
              have J16 : ∀ (y23 : Int32), Q16 y23 → fr 43556142965880123323311949751266331066368 [(130, 10)] M r := by
                intro y23 h
                replace h := hQ16 _ h
                obtain ⟨Q28, hQ28, h⟩ := bd1_ed h
                have J28 : ∀ (y35 : Int32), Q28 y35 → fr 43556142965880123323311949751266331066368 [(130, 10)] M r := by
                  intro y35 h
                  replace h := hQ28 _ h
                  exact ih _ _ (lq_l h)
                by_cases q45 : y23 = 0
                · replace h := ed_pos q45 h
                  exact J28 _ (ed_some h)
                · replace h := ed_neg q45 h
                  obtain ⟨Q29, hQ29, h⟩ := bd1_ed h
                  obtain ⟨x29, e29, h⟩ := h
                  replace h := hQ29 _ h
                  by_cases q54 : x29 = 0
                  · replace h := ed_pos q54 h
                    exact J28 _ (ed_some h)
                  · replace h := ed_neg q54 h
                    obtain ⟨k30, Q30, hQ30, hk30, h⟩ := jn0_ed h
                    have J30 : Q30 () → fr 43556142965880123323311949751266331066368 [(130, 10)] M r := by
                      intro  h
                      replace h := hQ30  h
                      exact J28 _ (ed_some h)
                    by_cases q58 : x14 < 0
                    · replace h := ed_pos q58 h
                      exact J30  (hk30  h)
                    · replace h := ed_neg q58 h
                      obtain ⟨Q31, hQ31, h⟩ := bd1_ed h
                      obtain ⟨x31, e31, h⟩ := h
                      replace h := hQ31 _ h
                      by_cases q68 : x31 = 0
                      · replace h := ed_pos q68 h
                        exact J28 _ (ed_some h)
                      · replace h := ed_neg q68 h
                        exact J30  (hk30  h)
              obtain ⟨k17, Q17, hQ17, hk17, h⟩ := jn0_ed h
              have J17 : Q17 () → fr 43556142965880123323311949751266331066368 [(130, 10)] M r := by
                intro  h
                replace h := hQ17  h
                exact J16 _ (ed_some h)
              by_cases q23 : x3 < 0
              · replace h := ed_pos q23 h
                exact J17  (hk17  h)
              · replace h := ed_neg q23 h
                obtain ⟨Q18, hQ18, h⟩ := bd1_ed h
                obtain ⟨x18, e18, h⟩ := h
                replace h := hQ18 _ h
                by_cases q33 : x18 = 0
                · replace h := ed_pos q33 h
                  exact J16 _ (ed_some h)
                · replace h := ed_neg q33 h
                  exact J17  (hk17  h)
        exact I6 n6 _ _ hn6
  exact I1 n1 _ _ _ fr_refl hn1
noncomputable def f_MPlaceRows_find_L78 (v22 : Int32) (v23 : Int32) (v24 : Int32) (v25 : Int32) (x26 : Int32) (M27 : im_M) : Option ((Int32 × im_M) ⊕ ((im_M) ⊕ (Int32 × im_M))) := if v23 < x26 then some (.inr (.inl M27)) else bd2 (f_MPlaceRows_look x26 v25 v24 M27) fun (x28 : Int32) (M28 : im_M) => if ¬ x28 = 0 then some (.inl ((x26 + 1), M28)) else bd1 (f_MPlaceRows_forget M28) fun (M29 : im_M) => some (.inr (.inr ((-1), M29)))
noncomputable def f_MPlaceRows_find_L62 (v15 : Int32) (v16 : Int32) (v17 : Int32) (x18 : Int32) (M19 : im_M) : Option ((Int32 × im_M) ⊕ ((im_M) ⊕ (Int32 × im_M))) := if 40 < x18 then some (.inr (.inl M19)) else bd1 (f_MPlaceRows_list x18 M19) fun (M20 : im_M) => bs1 (lp (uc2 (f_MPlaceRows_find_L78 v15 v16 v17 x18)) (v15, M20)) (fun (M30 : im_M) => some (.inl ((x18 + 1), M30))) (fun t => some (.inr (.inr t)))
noncomputable def f_MPlaceRows_find (p0 : Int32) (p1 : Int32) (p2 : Int32) (M : im_M) : Option (Int32 × im_M) := bd1 (jn0 (fun (_ : Unit) => some 1) fun k2 => if p0 < 1 then k2 () else if 16 < p0 then k2 () else if p1 < p0 then k2 () else if 16 < p1 then k2 () else if p2 < 0 then k2 () else if p2 ≤ 500 then some 0 else k2 ()) fun (y7 : Int32) => if (im_i (im_setI M 130 0 y7) 130 0) ≤ 0 then bd1 (f_MPlaceRows_forget (im_setI M 130 0 y7)) fun (M12 : im_M) => bd1 (f_MPlaceRows_add M12) fun (M13 : im_M) => bs1 (lp (uc2 (f_MPlaceRows_find_L62 p0 p1 p2)) (1, M13)) (fun (M31 : im_M) => bd1 (f_MPlaceRows_order M31) fun (M32 : im_M) => some ((im_i M32 130 10), M32)) (fun t => some t) else some (0, (im_setI M 130 0 y7))
theorem J_MPlaceRows_find_d0 : decode J_MPlaceRows_find.2.1 0 = .ok (.aload_n 0, 1) := by decide +kernel
theorem J_MPlaceRows_find_d1 : decode J_MPlaceRows_find.2.1 1 = .ok (.iload_n 1, 1) := by decide +kernel
theorem J_MPlaceRows_find_d2 : decode J_MPlaceRows_find.2.1 2 = .ok (.iconst 1, 1) := by decide +kernel
theorem J_MPlaceRows_find_d3 : decode J_MPlaceRows_find.2.1 3 = .ok (.if_icmp .lt 31, 3) := by decide +kernel
theorem J_MPlaceRows_find_d6 : decode J_MPlaceRows_find.2.1 6 = .ok (.iload_n 1, 1) := by decide +kernel
theorem J_MPlaceRows_find_d7 : decode J_MPlaceRows_find.2.1 7 = .ok (.bipush 16, 2) := by decide +kernel
theorem J_MPlaceRows_find_d9 : decode J_MPlaceRows_find.2.1 9 = .ok (.if_icmp .gt 25, 3) := by decide +kernel
theorem J_MPlaceRows_find_d12 : decode J_MPlaceRows_find.2.1 12 = .ok (.iload_n 2, 1) := by decide +kernel
theorem J_MPlaceRows_find_d13 : decode J_MPlaceRows_find.2.1 13 = .ok (.iload_n 1, 1) := by decide +kernel
theorem J_MPlaceRows_find_d14 : decode J_MPlaceRows_find.2.1 14 = .ok (.if_icmp .lt 20, 3) := by decide +kernel
theorem J_MPlaceRows_find_d17 : decode J_MPlaceRows_find.2.1 17 = .ok (.iload_n 2, 1) := by decide +kernel
theorem J_MPlaceRows_find_d18 : decode J_MPlaceRows_find.2.1 18 = .ok (.bipush 16, 2) := by decide +kernel
theorem J_MPlaceRows_find_d20 : decode J_MPlaceRows_find.2.1 20 = .ok (.if_icmp .gt 14, 3) := by decide +kernel
theorem J_MPlaceRows_find_d23 : decode J_MPlaceRows_find.2.1 23 = .ok (.iload_n 3, 1) := by decide +kernel
theorem J_MPlaceRows_find_d24 : decode J_MPlaceRows_find.2.1 24 = .ok (.ifCond .lt 10, 3) := by decide +kernel
theorem J_MPlaceRows_find_d27 : decode J_MPlaceRows_find.2.1 27 = .ok (.iload_n 3, 1) := by decide +kernel
theorem J_MPlaceRows_find_d28 : decode J_MPlaceRows_find.2.1 28 = .ok (.sipush 500, 3) := by decide +kernel
theorem J_MPlaceRows_find_d31 : decode J_MPlaceRows_find.2.1 31 = .ok (.if_icmp .le 7, 3) := by decide +kernel
theorem J_MPlaceRows_find_d34 : decode J_MPlaceRows_find.2.1 34 = .ok (.iconst 1, 1) := by decide +kernel
theorem J_MPlaceRows_find_d35 : decode J_MPlaceRows_find.2.1 35 = .ok (.goto 4, 3) := by decide +kernel
theorem J_MPlaceRows_find_d38 : decode J_MPlaceRows_find.2.1 38 = .ok (.iconst 0, 1) := by decide +kernel
theorem J_MPlaceRows_find_d39 : decode J_MPlaceRows_find.2.1 39 = .ok (.putfield 35, 3) := by decide +kernel
theorem J_MPlaceRows_find_d42 : decode J_MPlaceRows_find.2.1 42 = .ok (.aload_n 0, 1) := by decide +kernel
theorem J_MPlaceRows_find_d43 : decode J_MPlaceRows_find.2.1 43 = .ok (.getfield 35, 3) := by decide +kernel
theorem J_MPlaceRows_find_d46 : decode J_MPlaceRows_find.2.1 46 = .ok (.ifCond .le 5, 3) := by decide +kernel
theorem J_MPlaceRows_find_d49 : decode J_MPlaceRows_find.2.1 49 = .ok (.iconst 0, 1) := by decide +kernel
theorem J_MPlaceRows_find_d50 : decode J_MPlaceRows_find.2.1 50 = .ok (.ireturn, 1) := by decide +kernel
theorem J_MPlaceRows_find_d51 : decode J_MPlaceRows_find.2.1 51 = .ok (.aload_n 0, 1) := by decide +kernel
theorem J_MPlaceRows_find_d52 : decode J_MPlaceRows_find.2.1 52 = .ok (.invokevirtual 44, 3) := by decide +kernel
theorem J_MPlaceRows_find_d55 : decode J_MPlaceRows_find.2.1 55 = .ok (.aload_n 0, 1) := by decide +kernel
theorem J_MPlaceRows_find_d56 : decode J_MPlaceRows_find.2.1 56 = .ok (.invokevirtual 112, 3) := by decide +kernel
theorem J_MPlaceRows_find_d59 : decode J_MPlaceRows_find.2.1 59 = .ok (.iconst 1, 1) := by decide +kernel
theorem J_MPlaceRows_find_d60 : decode J_MPlaceRows_find.2.1 60 = .ok (.istore 4, 2) := by decide +kernel
theorem J_MPlaceRows_find_d62 : decode J_MPlaceRows_find.2.1 62 = .ok (.iload 4, 2) := by decide +kernel
theorem J_MPlaceRows_find_d64 : decode J_MPlaceRows_find.2.1 64 = .ok (.bipush 40, 2) := by decide +kernel
theorem J_MPlaceRows_find_d66 : decode J_MPlaceRows_find.2.1 66 = .ok (.if_icmp .gt 48, 3) := by decide +kernel
theorem J_MPlaceRows_find_d69 : decode J_MPlaceRows_find.2.1 69 = .ok (.aload_n 0, 1) := by decide +kernel
theorem J_MPlaceRows_find_d70 : decode J_MPlaceRows_find.2.1 70 = .ok (.iload 4, 2) := by decide +kernel
theorem J_MPlaceRows_find_d72 : decode J_MPlaceRows_find.2.1 72 = .ok (.invokevirtual 115, 3) := by decide +kernel
theorem J_MPlaceRows_find_d75 : decode J_MPlaceRows_find.2.1 75 = .ok (.iload_n 1, 1) := by decide +kernel
theorem J_MPlaceRows_find_d76 : decode J_MPlaceRows_find.2.1 76 = .ok (.istore 5, 2) := by decide +kernel
theorem J_MPlaceRows_find_d78 : decode J_MPlaceRows_find.2.1 78 = .ok (.iload 5, 2) := by decide +kernel
theorem J_MPlaceRows_find_d80 : decode J_MPlaceRows_find.2.1 80 = .ok (.iload_n 2, 1) := by decide +kernel
theorem J_MPlaceRows_find_d81 : decode J_MPlaceRows_find.2.1 81 = .ok (.if_icmp .gt 27, 3) := by decide +kernel
theorem J_MPlaceRows_find_d84 : decode J_MPlaceRows_find.2.1 84 = .ok (.aload_n 0, 1) := by decide +kernel
theorem J_MPlaceRows_find_d85 : decode J_MPlaceRows_find.2.1 85 = .ok (.iload 5, 2) := by decide +kernel
theorem J_MPlaceRows_find_d87 : decode J_MPlaceRows_find.2.1 87 = .ok (.iload 4, 2) := by decide +kernel
theorem J_MPlaceRows_find_d89 : decode J_MPlaceRows_find.2.1 89 = .ok (.iload_n 3, 1) := by decide +kernel
theorem J_MPlaceRows_find_d90 : decode J_MPlaceRows_find.2.1 90 = .ok (.invokevirtual 119, 3) := by decide +kernel
theorem J_MPlaceRows_find_d93 : decode J_MPlaceRows_find.2.1 93 = .ok (.ifCond .ne 9, 3) := by decide +kernel
theorem J_MPlaceRows_find_d96 : decode J_MPlaceRows_find.2.1 96 = .ok (.aload_n 0, 1) := by decide +kernel
theorem J_MPlaceRows_find_d97 : decode J_MPlaceRows_find.2.1 97 = .ok (.invokevirtual 44, 3) := by decide +kernel
theorem J_MPlaceRows_find_d100 : decode J_MPlaceRows_find.2.1 100 = .ok (.iconst (-1), 1) := by decide +kernel
theorem J_MPlaceRows_find_d101 : decode J_MPlaceRows_find.2.1 101 = .ok (.ireturn, 1) := by decide +kernel
theorem J_MPlaceRows_find_d102 : decode J_MPlaceRows_find.2.1 102 = .ok (.iinc 5 1, 3) := by decide +kernel
theorem J_MPlaceRows_find_d105 : decode J_MPlaceRows_find.2.1 105 = .ok (.goto (-27), 3) := by decide +kernel
theorem J_MPlaceRows_find_d108 : decode J_MPlaceRows_find.2.1 108 = .ok (.iinc 4 1, 3) := by decide +kernel
theorem J_MPlaceRows_find_d111 : decode J_MPlaceRows_find.2.1 111 = .ok (.goto (-49), 3) := by decide +kernel
theorem J_MPlaceRows_find_d114 : decode J_MPlaceRows_find.2.1 114 = .ok (.aload_n 0, 1) := by decide +kernel
theorem J_MPlaceRows_find_d115 : decode J_MPlaceRows_find.2.1 115 = .ok (.invokevirtual 122, 3) := by decide +kernel
theorem J_MPlaceRows_find_d118 : decode J_MPlaceRows_find.2.1 118 = .ok (.aload_n 0, 1) := by decide +kernel
theorem J_MPlaceRows_find_d119 : decode J_MPlaceRows_find.2.1 119 = .ok (.getfield 41, 3) := by decide +kernel
theorem J_MPlaceRows_find_d122 : decode J_MPlaceRows_find.2.1 122 = .ok (.ireturn, 1) := by decide +kernel
theorem f_MPlaceRows_find_ok {L : Nat} {xs : Nat → Int32} {dep : Nat} {w : Bool} {p0 : Int32} {p1 : Int32} {p2 : Int32} {M : im_M} {Q : Int32 × im_M → Prop} (hM : lw_S w M) (h : ed (f_MPlaceRows_find p0 p1 p2 M) Q) : ia (tb_G L xs) (dep + 4) J_MPlaceRows_find (rwI w Q) (0, lv_args 0 [.ref 130, .int p0, .int p1, .int p2], [], M) := by
  have hS : im_St (tb_G L xs) (dep + 4) J_MPlaceRows_find (ia (tb_G L xs) (dep + 4) J_MPlaceRows_find (rwI w Q)) := ia_St
  unfold f_MPlaceRows_find at h
  have l0 : im_lk (lv_args 0 [.ref 130, .int p0, .int p1, .int p2]) 0 = some (.ref 130) := rfl
  have l1 : im_lk (lv_args 0 [.ref 130, .int p0, .int p1, .int p2]) 1 = some (.int p0) := rfl
  have l2 : im_lk (lv_args 0 [.ref 130, .int p0, .int p1, .int p2]) 2 = some (.int p1) := rfl
  have l3 : im_lk (lv_args 0 [.ref 130, .int p0, .int p1, .int p2]) 3 = some (.int p2) := rfl
  refine iq_aload_n hS 1 J_MPlaceRows_find_d0 l0 rfl ?_
  refine iq_iload_n hS 2 J_MPlaceRows_find_d1 l1 rfl ?_
  refine iq_iconst hS 3 J_MPlaceRows_find_d2 (v := 1) (by decide +kernel) rfl ?_
  obtain ⟨Q1, hQ1, h⟩ := bd1_ed h
  have J1 : ∀ (y7 : Int32) (L' : List (Nat × Value)), im_lk L' 0 = some (.ref 130) → im_lk L' 1 = some (.int p0) → im_lk L' 2 = some (.int p1) → im_lk L' 3 = some (.int p2) → Q1 y7 → ia (tb_G L xs) (dep + 4) J_MPlaceRows_find (rwI w Q) (39, L', [.int y7, .ref 130], M) := by
    intro y7 L' l8 l9 l10 l11 h
    replace h := hQ1 _ h
    refine iq_putI hS 42 J_MPlaceRows_find_d39 lf_14_35 (Or.inl rfl) rfl (ka_130 hM) rfl ?_
    refine iq_aload_n hS 43 J_MPlaceRows_find_d42 l8 rfl ?_
    refine iq_getI hS 46 J_MPlaceRows_find_d43 lf_14_35 (Or.inl rfl) (ka_130 (lw_sI hM)) rfl ?_
    refine iq_if_le hS 49 J_MPlaceRows_find_d46 (t := 51) rfl (fun q46 => ?_) rfl (fun q46 => ?_)
    · replace h := ed_pos q46 h
      refine iq_aload_n hS 52 J_MPlaceRows_find_d51 l8 rfl ?_
      obtain ⟨Q12, hQ12, h⟩ := bd1_ed h
      refine iq_cwV hS 55 J_MPlaceRows_find_d52 rfl (pr_inst (vs := []) lc_14_44 lT_443 rfl rfl (by decide) (by decide) rfl (Nat.le_of_ble_eq_true rfl) (Nat.le_of_ble_eq_true rfl) (fun _ => Or.inl (pr_b (ka_130 (lw_sI hM)) (by decide) rfl))) (f_MPlaceRows_forget_ok (dep := dep + 3) (lw_sI hM) h) rfl ?_
      intro M12 hM12 h
      replace h := hQ12 _ h
      refine iq_aload_n hS 56 J_MPlaceRows_find_d55 l8 rfl ?_
      obtain ⟨Q13, hQ13, h⟩ := bd1_ed h
      refine iq_cwV hS 59 J_MPlaceRows_find_d56 rfl (pr_inst (vs := []) lc_14_112 lT_462 rfl rfl (by decide) (by decide) rfl (Nat.le_of_ble_eq_true rfl) (Nat.le_of_ble_eq_true rfl) (fun _ => Or.inl (pr_b (ka_130 hM12) (by decide) rfl))) (f_MPlaceRows_add_ok (dep := dep + 2) hM12 h) rfl ?_
      intro M13 hM13 h
      replace h := hQ13 _ h
      refine iq_iconst hS 60 J_MPlaceRows_find_d59 (v := 1) (by decide +kernel) rfl ?_
      refine iq_istore hS 62 J_MPlaceRows_find_d60 (by decide) rfl ?_
      obtain ⟨Q14, hQ14, hR14, h⟩ := bs1_ed h
      have K14 : ∀ (M15 : im_M) (L' : List (Nat × Value)), lw_S w M15 → im_lk L' 0 = some (.ref 130) → Q14 (.inl M15) → ia (tb_G L xs) (dep + 4) J_MPlaceRows_find (rwI w Q) (114, L', [], M15) := by
        intro M15 L' hM15 l16 h
        replace h := hQ14 _ h
        refine iq_aload_n hS 115 J_MPlaceRows_find_d114 l16 rfl ?_
        obtain ⟨Q17, hQ17, h⟩ := bd1_ed h
        refine iq_cwV hS 118 J_MPlaceRows_find_d115 rfl (pr_inst (vs := []) lc_14_122 lT_476 rfl rfl (by decide) (by decide) rfl (Nat.le_of_ble_eq_true rfl) (Nat.le_of_ble_eq_true rfl) (fun _ => Or.inl (pr_b (ka_130 hM15) (by decide) rfl))) (f_MPlaceRows_order_ok (dep := dep + 0) hM15 h) rfl ?_
        intro M17 hM17 h
        replace h := hQ17 _ h
        refine iq_aload_n hS 119 J_MPlaceRows_find_d118 l16 rfl ?_
        refine iq_getI hS 122 J_MPlaceRows_find_d119 lf_14_41 (Or.inl rfl) (ka_130 hM17) rfl ?_
        exact iq_iret J_MPlaceRows_find_d122 rfl rfl ⟨_, rfl, hM17, ed_some h⟩
      obtain ⟨r14, hr14, hq14⟩ := h
      obtain ⟨n14, hn14⟩ := lp_n hr14
      have I14 : ∀ (n : Nat) (x18 : Int32) (M19 : im_M) (L' : List (Nat × Value)), lw_S w M19 → im_lk L' 0 = some (.ref 130) → im_lk L' 1 = some (.int p0) → im_lk L' 2 = some (.int p1) → im_lk L' 3 = some (.int p2) → im_lk L' 4 = some (.int x18) → lpn (uc2 (f_MPlaceRows_find_L62 p0 p1 p2)) n (x18, M19) = some r14 → ia (tb_G L xs) (dep + 4) J_MPlaceRows_find (rwI w Q) (62, L', [], M19) := by
        intro n
        induction n with
        | zero => intro x18 M19 L' hM19 l20 l21 l22 l23 l24 hn; exact (lpn_0 hn).elim
        | succ n ih =>
          intro x18 M19 L' hM19 l20 l21 l22 l23 l24 hn
          have h := lpn_ed2 hn
          unfold f_MPlaceRows_find_L62 at h
          refine iq_iload hS 64 J_MPlaceRows_find_d62 l24 rfl ?_
          refine iq_bipush hS 66 J_MPlaceRows_find_d64 (v := 40) (by decide +kernel) rfl ?_
          refine iq_icmp_gt hS 69 J_MPlaceRows_find_d66 (t := 114) rfl (fun q66 => ?_) rfl (fun q66 => ?_)
          · replace h := ed_pos q66 h
            exact K14 _ _ hM19 l20 (lq_r h hq14)
          · replace h := ed_neg q66 h
            refine iq_aload_n hS 70 J_MPlaceRows_find_d69 l20 rfl ?_
            refine iq_iload hS 72 J_MPlaceRows_find_d70 l24 rfl ?_
            obtain ⟨Q25, hQ25, h⟩ := bd1_ed h
            refine iq_cwV hS 75 J_MPlaceRows_find_d72 rfl (pr_inst (vs := [_]) lc_14_115 lT_463 rfl rfl (by decide) (by decide) rfl (Nat.le_of_ble_eq_true rfl) (Nat.le_of_ble_eq_true rfl) (fun _ => Or.inl (pr_b (ka_130 hM19) (by decide) rfl))) (f_MPlaceRows_list_ok (dep := dep + 0) hM19 h) rfl ?_
            intro M25 hM25 h
            replace h := hQ25 _ h
            refine iq_iload_n hS 76 J_MPlaceRows_find_d75 l21 rfl ?_
            refine iq_istore hS 78 J_MPlaceRows_find_d76 (by decide) rfl ?_
            obtain ⟨Q26, hQ26, hR26, h⟩ := bs1_ed h
            have K26 : ∀ (M27 : im_M) (L' : List (Nat × Value)), lw_S w M27 → im_lk L' 0 = some (.ref 130) → im_lk L' 1 = some (.int p0) → im_lk L' 2 = some (.int p1) → im_lk L' 3 = some (.int p2) → im_lk L' 4 = some (.int x18) → Q26 (.inl M27) → ia (tb_G L xs) (dep + 4) J_MPlaceRows_find (rwI w Q) (108, L', [], M27) := by
              intro M27 L' hM27 l28 l29 l30 l31 l32 h
              replace h := hQ26 _ h
              refine iq_iincv hS 111 J_MPlaceRows_find_d108 (c := 1) (by decide +kernel) l32 (by decide) rfl ?_
              refine iq_goto hS J_MPlaceRows_find_d111 (t := 62) rfl ?_
              exact ih _ _ _ hM27 (lk_1r l28 (by decide)) (lk_1i l29 (by decide)) (lk_1i l30 (by decide)) (lk_1i l31 (by decide)) lk_1s (lq_l h)
            obtain ⟨r26, hr26, hq26⟩ := h
            obtain ⟨n26, hn26⟩ := lp_n hr26
            have I26 : ∀ (n : Nat) (x33 : Int32) (M34 : im_M) (L' : List (Nat × Value)), lw_S w M34 → im_lk L' 0 = some (.ref 130) → im_lk L' 1 = some (.int p0) → im_lk L' 2 = some (.int p1) → im_lk L' 3 = some (.int p2) → im_lk L' 4 = some (.int x18) → im_lk L' 5 = some (.int x33) → lpn (uc2 (f_MPlaceRows_find_L78 p0 p1 p2 x18)) n (x33, M34) = some r26 → ia (tb_G L xs) (dep + 4) J_MPlaceRows_find (rwI w Q) (78, L', [], M34) := by
              intro n
              induction n with
              | zero => intro x33 M34 L' hM34 l35 l36 l37 l38 l39 l40 hn; exact (lpn_0 hn).elim
              | succ n ih =>
                intro x33 M34 L' hM34 l35 l36 l37 l38 l39 l40 hn
                have h := lpn_ed2 hn
                unfold f_MPlaceRows_find_L78 at h
                refine iq_iload hS 80 J_MPlaceRows_find_d78 l40 rfl ?_
                refine iq_iload_n hS 81 J_MPlaceRows_find_d80 l37 rfl ?_
                refine iq_icmp_gt hS 84 J_MPlaceRows_find_d81 (t := 108) rfl (fun q81 => ?_) rfl (fun q81 => ?_)
                · replace h := ed_pos q81 h
                  exact K26 _ _ hM34 l35 l36 l37 l38 l39 (lq_r h hq26)
                · replace h := ed_neg q81 h
                  refine iq_aload_n hS 85 J_MPlaceRows_find_d84 l35 rfl ?_
                  refine iq_iload hS 87 J_MPlaceRows_find_d85 l40 rfl ?_
                  refine iq_iload hS 89 J_MPlaceRows_find_d87 l39 rfl ?_
                  refine iq_iload_n hS 90 J_MPlaceRows_find_d89 l38 rfl ?_
                  obtain ⟨Q41, hQ41, h⟩ := bd2_ed h
                  refine iq_cwI hS 93 J_MPlaceRows_find_d90 rfl (pr_inst (vs := [_, _, _]) lc_14_119 lT_468 rfl rfl (by decide) (by decide) rfl (Nat.le_of_ble_eq_true rfl) (Nat.le_of_ble_eq_true rfl) (fun _ => Or.inl (pr_b (ka_130 hM34) (by decide) rfl))) (f_MPlaceRows_look_ok (dep := dep + 0) hM34 h) rfl ?_
                  intro x41 M41 hM41 h
                  replace h := hQ41 _ _ h
                  refine iq_if_ne hS 96 J_MPlaceRows_find_d93 (t := 102) rfl (fun q93 => ?_) rfl (fun q93 => ?_)
                  · replace h := ed_pos q93 h
                    refine iq_iincv hS 105 J_MPlaceRows_find_d102 (c := 1) (by decide +kernel) l40 (by decide) rfl ?_
                    refine iq_goto hS J_MPlaceRows_find_d105 (t := 78) rfl ?_
                    exact ih _ _ _ hM41 (lk_1r l35 (by decide)) (lk_1i l36 (by decide)) (lk_1i l37 (by decide)) (lk_1i l38 (by decide)) (lk_1i l39 (by decide)) lk_1s (lq_l h)
                  · replace h := ed_neg q93 h
                    refine iq_aload_n hS 97 J_MPlaceRows_find_d96 l35 rfl ?_
                    obtain ⟨Q42, hQ42, h⟩ := bd1_ed h
                    refine iq_cwV hS 100 J_MPlaceRows_find_d97 rfl (pr_inst (vs := []) lc_14_44 lT_443 rfl rfl (by decide) (by decide) rfl (Nat.le_of_ble_eq_true rfl) (Nat.le_of_ble_eq_true rfl) (fun _ => Or.inl (pr_b (ka_130 hM41) (by decide) rfl))) (f_MPlaceRows_forget_ok (dep := dep + 3) hM41 h) rfl ?_
                    intro M42 hM42 h
                    replace h := hQ42 _ h
                    refine iq_iconst hS 101 J_MPlaceRows_find_d100 (v := (-1)) (by decide +kernel) rfl ?_
                    exact iq_iret J_MPlaceRows_find_d101 rfl rfl ⟨_, rfl, hM42, ed_some (hR14 _ (lq_r (hR26 _ (lq_r h hq26)) hq14))⟩
            exact I26 n26 _ _ _ hM25 (lk_1r l20 (by decide)) (lk_1i l21 (by decide)) (lk_1i l22 (by decide)) (lk_1i l23 (by decide)) (lk_1i l24 (by decide)) lk_1s hn26
      exact I14 n14 _ _ _ hM13 (lk_1r l8 (by decide)) (lk_1i l9 (by decide)) (lk_1i l10 (by decide)) (lk_1i l11 (by decide)) lk_1s hn14
    · replace h := ed_neg q46 h
      refine iq_iconst hS 50 J_MPlaceRows_find_d49 (v := 0) (by decide +kernel) rfl ?_
      exact iq_iret J_MPlaceRows_find_d50 rfl rfl ⟨_, rfl, (lw_sI hM), ed_some h⟩
  obtain ⟨k2, Q2, hQ2, hk2, h⟩ := jn0_ed h
  have J2 : ∀  (L' : List (Nat × Value)), im_lk L' 0 = some (.ref 130) → im_lk L' 1 = some (.int p0) → im_lk L' 2 = some (.int p1) → im_lk L' 3 = some (.int p2) → Q2 () → ia (tb_G L xs) (dep + 4) J_MPlaceRows_find (rwI w Q) (34, L', [.ref 130], M) := by
    intro  L' l3 l4 l5 l6 h
    replace h := hQ2  h
    refine iq_iconst hS 35 J_MPlaceRows_find_d34 (v := 1) (by decide +kernel) rfl ?_
    refine iq_goto hS J_MPlaceRows_find_d35 (t := 39) rfl ?_
    exact J1 _ _ l3 l4 l5 l6 (ed_some h)
  refine iq_icmp_lt hS 6 J_MPlaceRows_find_d3 (t := 34) rfl (fun q3 => ?_) rfl (fun q3 => ?_)
  · replace h := ed_pos q3 h
    exact J2  _ l0 l1 l2 l3 (hk2  h)
  · replace h := ed_neg q3 h
    refine iq_iload_n hS 7 J_MPlaceRows_find_d6 l1 rfl ?_
    refine iq_bipush hS 9 J_MPlaceRows_find_d7 (v := 16) (by decide +kernel) rfl ?_
    refine iq_icmp_gt hS 12 J_MPlaceRows_find_d9 (t := 34) rfl (fun q9 => ?_) rfl (fun q9 => ?_)
    · replace h := ed_pos q9 h
      exact J2  _ l0 l1 l2 l3 (hk2  h)
    · replace h := ed_neg q9 h
      refine iq_iload_n hS 13 J_MPlaceRows_find_d12 l2 rfl ?_
      refine iq_iload_n hS 14 J_MPlaceRows_find_d13 l1 rfl ?_
      refine iq_icmp_lt hS 17 J_MPlaceRows_find_d14 (t := 34) rfl (fun q14 => ?_) rfl (fun q14 => ?_)
      · replace h := ed_pos q14 h
        exact J2  _ l0 l1 l2 l3 (hk2  h)
      · replace h := ed_neg q14 h
        refine iq_iload_n hS 18 J_MPlaceRows_find_d17 l2 rfl ?_
        refine iq_bipush hS 20 J_MPlaceRows_find_d18 (v := 16) (by decide +kernel) rfl ?_
        refine iq_icmp_gt hS 23 J_MPlaceRows_find_d20 (t := 34) rfl (fun q20 => ?_) rfl (fun q20 => ?_)
        · replace h := ed_pos q20 h
          exact J2  _ l0 l1 l2 l3 (hk2  h)
        · replace h := ed_neg q20 h
          refine iq_iload_n hS 24 J_MPlaceRows_find_d23 l3 rfl ?_
          refine iq_if_lt hS 27 J_MPlaceRows_find_d24 (t := 34) rfl (fun q24 => ?_) rfl (fun q24 => ?_)
          · replace h := ed_pos q24 h
            exact J2  _ l0 l1 l2 l3 (hk2  h)
          · replace h := ed_neg q24 h
            refine iq_iload_n hS 28 J_MPlaceRows_find_d27 l3 rfl ?_
            refine iq_sipush hS 31 J_MPlaceRows_find_d28 (v := 500) (by decide +kernel) rfl ?_
            refine iq_icmp_le hS 34 J_MPlaceRows_find_d31 (t := 38) rfl (fun q31 => ?_) rfl (fun q31 => ?_)
            · replace h := ed_pos q31 h
              refine iq_iconst hS 39 J_MPlaceRows_find_d38 (v := 0) (by decide +kernel) rfl ?_
              exact J1 _ _ l0 l1 l2 l3 (ed_some h)
            · replace h := ed_neg q31 h
              exact J2  _ l0 l1 l2 l3 (hk2  h)
theorem f_MPlaceRows_find_fr {p0 : Int32} {p1 : Int32} {p2 : Int32} {M : im_M} {r : Int32 × im_M} (h : f_MPlaceRows_find p0 p1 p2 M = some r) : fr 81667768061025231231209905783624370749440 [(130, 0), (130, 6), (130, 8), (130, 10)] M r.2 := by
  replace h : ed (f_MPlaceRows_find p0 p1 p2 M) (fun x => x = r) := ⟨r, h, rfl⟩
  unfold f_MPlaceRows_find at h
  obtain ⟨Q1, hQ1, h⟩ := bd1_ed h
  have J1 : ∀ (y7 : Int32), Q1 y7 → fr 81667768061025231231209905783624370749440 [(130, 0), (130, 6), (130, 8), (130, 10)] M r.2 := by
    intro y7 h
    replace h := hQ1 _ h
    by_cases q46 : (im_i (im_setI M 130 0 y7) 130 0) ≤ 0
    · replace h := ed_pos q46 h
      obtain ⟨Q12, hQ12, h⟩ := bd1_ed h
      obtain ⟨M12, e12, h⟩ := h
      replace h := hQ12 _ h
      obtain ⟨Q13, hQ13, h⟩ := bd1_ed h
      obtain ⟨M13, e13, h⟩ := h
      replace h := hQ13 _ h
      obtain ⟨Q14, hQ14, hR14, h⟩ := bs1_ed h
      have K14 : ∀ (M15 : im_M), fr 81667768061025231231209905783624370749440 [(130, 0), (130, 6), (130, 8), (130, 10)] M M15 → Q14 (.inl M15) → fr 81667768061025231231209905783624370749440 [(130, 0), (130, 6), (130, 8), (130, 10)] M r.2 := by
        intro M15 hM15 h
        replace h := hQ14 _ h
        obtain ⟨Q16, hQ16, h⟩ := bd1_ed h
        obtain ⟨M16, e16, h⟩ := h
        replace h := hQ16 _ h
        exact fr_ret h (fr_tr (fr_mono (by decide) (by decide +kernel) (f_MPlaceRows_order_fr e16)) hM15)
      obtain ⟨r14, hr14, hq14⟩ := h
      obtain ⟨n14, hn14⟩ := lp_n hr14
      have I14 : ∀ (n : Nat) (x17 : Int32) (M18 : im_M), fr 81667768061025231231209905783624370749440 [(130, 0), (130, 6), (130, 8), (130, 10)] M M18 → lpn (uc2 (f_MPlaceRows_find_L62 p0 p1 p2)) n (x17, M18) = some r14 → fr 81667768061025231231209905783624370749440 [(130, 0), (130, 6), (130, 8), (130, 10)] M r.2 := by
        intro n
        induction n with
        | zero => intro x17 M18 hM18 hn; exact (lpn_0 hn).elim
        | succ n ih =>
          intro x17 M18 hM18 hn
          have h := lpn_ed2 hn
          unfold f_MPlaceRows_find_L62 at h
          by_cases q66 : 40 < x17
          · replace h := ed_pos q66 h
            exact K14 _ hM18 (lq_r h hq14)
          · replace h := ed_neg q66 h
            obtain ⟨Q19, hQ19, h⟩ := bd1_ed h
            obtain ⟨M19, e19, h⟩ := h
            replace h := hQ19 _ h
            obtain ⟨Q20, hQ20, hR20, h⟩ := bs1_ed h
            have K20 : ∀ (M21 : im_M), fr 81667768061025231231209905783624370749440 [(130, 0), (130, 6), (130, 8), (130, 10)] M M21 → Q20 (.inl M21) → fr 81667768061025231231209905783624370749440 [(130, 0), (130, 6), (130, 8), (130, 10)] M r.2 := by
              intro M21 hM21 h
              replace h := hQ20 _ h
              exact ih _ _ hM21 (lq_l h)
            obtain ⟨r20, hr20, hq20⟩ := h
            obtain ⟨n20, hn20⟩ := lp_n hr20
            have I20 : ∀ (n : Nat) (x22 : Int32) (M23 : im_M), fr 81667768061025231231209905783624370749440 [(130, 0), (130, 6), (130, 8), (130, 10)] M M23 → lpn (uc2 (f_MPlaceRows_find_L78 p0 p1 p2 x17)) n (x22, M23) = some r20 → fr 81667768061025231231209905783624370749440 [(130, 0), (130, 6), (130, 8), (130, 10)] M r.2 := by
              intro n
              induction n with
              | zero => intro x22 M23 hM23 hn; exact (lpn_0 hn).elim
              | succ n ih =>
                intro x22 M23 hM23 hn
                have h := lpn_ed2 hn
                unfold f_MPlaceRows_find_L78 at h
                by_cases q81 : p1 < x22
                · replace h := ed_pos q81 h
                  exact K20 _ hM23 (lq_r h hq20)
                · replace h := ed_neg q81 h
                  obtain ⟨Q24, hQ24, h⟩ := bd2_ed h
                  obtain ⟨⟨x24, M24⟩, e24, h⟩ := h
                  replace h := hQ24 _ _ h
                  by_cases q93 : ¬ x24 = 0
                  · replace h := ed_pos q93 h
                    exact ih _ _ (fr_tr (fr_mono (by decide) (by decide +kernel) (f_MPlaceRows_look_fr e24)) hM23) (lq_l h)
                  · replace h := ed_neg q93 h
                    obtain ⟨Q25, hQ25, h⟩ := bd1_ed h
                    obtain ⟨M25, e25, h⟩ := h
                    replace h := hQ25 _ h
                    exact fr_ret (hR14 _ (lq_r (hR20 _ (lq_r h hq20)) hq14)) (fr_tr (fr_mono (by decide) (by decide +kernel) (f_MPlaceRows_forget_fr e25)) (fr_tr (fr_mono (by decide) (by decide +kernel) (f_MPlaceRows_look_fr e24)) hM23))
            exact I20 n20 _ _ (fr_tr (fr_mono (by decide) (by decide +kernel) (f_MPlaceRows_list_fr e19)) hM18) hn20
      exact I14 n14 _ _ (fr_tr (fr_mono (by decide) (by decide +kernel) (f_MPlaceRows_add_fr e13)) (fr_tr (fr_mono (by decide) (by decide +kernel) (f_MPlaceRows_forget_fr e12)) (fr_F (by decide) fr_refl))) hn14
    · replace h := ed_neg q46 h
      exact fr_ret h (fr_F (by decide) fr_refl)
  obtain ⟨k2, Q2, hQ2, hk2, h⟩ := jn0_ed h
  have J2 : Q2 () → fr 81667768061025231231209905783624370749440 [(130, 0), (130, 6), (130, 8), (130, 10)] M r.2 := by
    intro  h
    replace h := hQ2  h
    exact J1 _ (ed_some h)
  by_cases q3 : p0 < 1
  · replace h := ed_pos q3 h
    exact J2  (hk2  h)
  · replace h := ed_neg q3 h
    by_cases q9 : 16 < p0
    · replace h := ed_pos q9 h
      exact J2  (hk2  h)
    · replace h := ed_neg q9 h
      by_cases q14 : p1 < p0
      · replace h := ed_pos q14 h
        exact J2  (hk2  h)
      · replace h := ed_neg q14 h
        by_cases q20 : 16 < p1
        · replace h := ed_pos q20 h
          exact J2  (hk2  h)
        · replace h := ed_neg q20 h
          by_cases q24 : p2 < 0
          · replace h := ed_pos q24 h
            exact J2  (hk2  h)
          · replace h := ed_neg q24 h
            by_cases q31 : p2 ≤ 500
            · replace h := ed_pos q31 h
              exact J1 _ (ed_some h)
            · replace h := ed_neg q31 h
              exact J2  (hk2  h)
noncomputable def f_MPlaceRows_thrown (M : im_M) : Option (Int32) := some (im_i M 130 0)
theorem J_MPlaceRows_thrown_d0 : decode J_MPlaceRows_thrown.2.1 0 = .ok (.aload_n 0, 1) := by decide +kernel
theorem J_MPlaceRows_thrown_d1 : decode J_MPlaceRows_thrown.2.1 1 = .ok (.getfield 35, 3) := by decide +kernel
theorem J_MPlaceRows_thrown_d4 : decode J_MPlaceRows_thrown.2.1 4 = .ok (.ireturn, 1) := by decide +kernel
theorem f_MPlaceRows_thrown_ok {L : Nat} {xs : Nat → Int32} {dep : Nat} {w : Bool} {M : im_M} {Q : Int32 → Prop} (hM : lw_S w M) (h : ed (f_MPlaceRows_thrown M) Q) : ia (tb_G L xs) dep J_MPlaceRows_thrown (rpI M Q) (0, lv_args 0 [.ref 130], [], M) := by
  have hS : im_St (tb_G L xs) dep J_MPlaceRows_thrown (ia (tb_G L xs) dep J_MPlaceRows_thrown (rpI M Q)) := ia_St
  unfold f_MPlaceRows_thrown at h
  have l0 : im_lk (lv_args 0 [.ref 130]) 0 = some (.ref 130) := rfl
  refine iq_aload_n hS 1 J_MPlaceRows_thrown_d0 l0 rfl ?_
  refine iq_getI hS 4 J_MPlaceRows_thrown_d1 lf_14_35 (Or.inl rfl) (ka_130 hM) rfl ?_
  exact iq_iret J_MPlaceRows_thrown_d4 rfl rfl ⟨_, rfl, rfl, ed_some h⟩
noncomputable def f_M_scan (p0 : Int32) (p1 : Int32) (p2 : Int32) (M : im_M) : Option (Int32 × im_M) := bd2 (f_MPlaceRows_find p0 p1 p2 M) fun (x1 : Int32) (M1 : im_M) => bd1 (f_MPlaceRows_thrown M1) fun (x2 : Int32) => some (x1, (im_setI M1 69 0 x2))
theorem J_M_scan_d0 : decode J_M_scan.2.1 0 = .ok (.aload_n 0, 1) := by decide +kernel
theorem J_M_scan_d1 : decode J_M_scan.2.1 1 = .ok (.getfield 44, 3) := by decide +kernel
theorem J_M_scan_d4 : decode J_M_scan.2.1 4 = .ok (.iload_n 1, 1) := by decide +kernel
theorem J_M_scan_d5 : decode J_M_scan.2.1 5 = .ok (.iload_n 2, 1) := by decide +kernel
theorem J_M_scan_d6 : decode J_M_scan.2.1 6 = .ok (.iload_n 3, 1) := by decide +kernel
theorem J_M_scan_d7 : decode J_M_scan.2.1 7 = .ok (.invokevirtual 223, 3) := by decide +kernel
theorem J_M_scan_d10 : decode J_M_scan.2.1 10 = .ok (.istore 4, 2) := by decide +kernel
theorem J_M_scan_d12 : decode J_M_scan.2.1 12 = .ok (.aload_n 0, 1) := by decide +kernel
theorem J_M_scan_d13 : decode J_M_scan.2.1 13 = .ok (.aload_n 0, 1) := by decide +kernel
theorem J_M_scan_d14 : decode J_M_scan.2.1 14 = .ok (.getfield 44, 3) := by decide +kernel
theorem J_M_scan_d17 : decode J_M_scan.2.1 17 = .ok (.invokevirtual 226, 3) := by decide +kernel
theorem J_M_scan_d20 : decode J_M_scan.2.1 20 = .ok (.putfield 58, 3) := by decide +kernel
theorem J_M_scan_d23 : decode J_M_scan.2.1 23 = .ok (.iload 4, 2) := by decide +kernel
theorem J_M_scan_d25 : decode J_M_scan.2.1 25 = .ok (.ireturn, 1) := by decide +kernel
theorem f_M_scan_ok {L : Nat} {xs : Nat → Int32} {dep : Nat} {w : Bool} {p0 : Int32} {p1 : Int32} {p2 : Int32} {M : im_M} {Q : Int32 × im_M → Prop} (hM : lw_S w M) (h : ed (f_M_scan p0 p1 p2 M) Q) : ia (tb_G L xs) (dep + 5) J_M_scan (rwI w Q) (0, lv_args 0 [.ref 69, .int p0, .int p1, .int p2], [], M) := by
  have hS : im_St (tb_G L xs) (dep + 5) J_M_scan (ia (tb_G L xs) (dep + 5) J_M_scan (rwI w Q)) := ia_St
  unfold f_M_scan at h
  have l0 : im_lk (lv_args 0 [.ref 69, .int p0, .int p1, .int p2]) 0 = some (.ref 69) := rfl
  have l1 : im_lk (lv_args 0 [.ref 69, .int p0, .int p1, .int p2]) 1 = some (.int p0) := rfl
  have l2 : im_lk (lv_args 0 [.ref 69, .int p0, .int p1, .int p2]) 2 = some (.int p1) := rfl
  have l3 : im_lk (lv_args 0 [.ref 69, .int p0, .int p1, .int p2]) 3 = some (.int p2) := rfl
  refine iq_aload_n hS 1 J_M_scan_d0 l0 rfl ?_
  refine iq_getR hS 4 J_M_scan_d1 lf_17_44 (Or.inl ⟨_, rfl⟩) (ka_69 hM) (ra_69_7 hM) rfl ?_
  refine iq_iload_n hS 5 J_M_scan_d4 l1 rfl ?_
  refine iq_iload_n hS 6 J_M_scan_d5 l2 rfl ?_
  refine iq_iload_n hS 7 J_M_scan_d6 l3 rfl ?_
  obtain ⟨Q1, hQ1, h⟩ := bd2_ed h
  refine iq_cwI hS 10 J_M_scan_d7 rfl (pr_inst (vs := [_, _, _]) lc_17_223 lT_461 rfl rfl (by decide) (by decide) rfl (Nat.le_of_ble_eq_true rfl) (Nat.le_of_ble_eq_true rfl) (fun _ => Or.inl (pr_b (ka_130 hM) (by decide) rfl))) (f_MPlaceRows_find_ok (dep := dep + 0) hM h) rfl ?_
  intro x1 M1 hM1 h
  replace h := hQ1 _ _ h
  refine iq_istore hS 12 J_M_scan_d10 (by decide) rfl ?_
  refine iq_aload_n hS 13 J_M_scan_d12 (lk_1r l0 (by decide)) rfl ?_
  refine iq_aload_n hS 14 J_M_scan_d13 (lk_1r l0 (by decide)) rfl ?_
  refine iq_getR hS 17 J_M_scan_d14 lf_17_44 (Or.inl ⟨_, rfl⟩) (ka_69 hM1) (ra_69_7 hM1) rfl ?_
  obtain ⟨Q2, hQ2, h⟩ := bd1_ed h
  refine iq_cpI hS 20 J_M_scan_d17 rfl (pr_inst (vs := []) lc_17_226 lT_480 rfl rfl (by decide) (by decide) rfl (Nat.le_of_ble_eq_true rfl) (Nat.le_of_ble_eq_true rfl) (fun _ => Or.inl (pr_b (ka_130 hM1) (by decide) rfl))) (f_MPlaceRows_thrown_ok (dep := dep + 4) hM1 h) rfl ?_
  intro x2 h
  replace h := hQ2 _ h
  refine iq_putI hS 23 J_M_scan_d20 lf_17_58 (Or.inl rfl) rfl (ka_69 hM1) rfl ?_
  refine iq_iload hS 25 J_M_scan_d23 lk_1s rfl ?_
  exact iq_iret J_M_scan_d25 rfl rfl ⟨_, rfl, (lw_sI hM1), ed_some h⟩
theorem f_M_scan_fr {p0 : Int32} {p1 : Int32} {p2 : Int32} {M : im_M} {r : Int32 × im_M} (h : f_M_scan p0 p1 p2 M = some r) : fr 81667768061025231231209905783624370749440 [(69, 0), (130, 0), (130, 6), (130, 8), (130, 10)] M r.2 := by
  replace h : ed (f_M_scan p0 p1 p2 M) (fun x => x = r) := ⟨r, h, rfl⟩
  unfold f_M_scan at h
  obtain ⟨Q1, hQ1, h⟩ := bd2_ed h
  obtain ⟨⟨x1, M1⟩, e1, h⟩ := h
  replace h := hQ1 _ _ h
  obtain ⟨Q2, hQ2, h⟩ := bd1_ed h
  obtain ⟨x2, e2, h⟩ := h
  replace h := hQ2 _ h
  exact fr_ret h (fr_F (by decide) (fr_tr (fr_mono (by decide) (by decide +kernel) (f_MPlaceRows_find_fr e1)) fr_refl))
noncomputable def f_MPlaceRows_place (p0 : Int32) (p1 : Int32) (M : im_M) : Option (Int32 × im_M) := if (im_i (im_setI M 130 0 ((if p1 < 0 then 1 else (if p1 ≤ 5 then 0 else 1)) : Int32)) 130 0) ≤ 0 then jn0 (fun (_ : Unit) => some ((-1), (im_setI M 130 0 ((if p1 < 0 then 1 else (if p1 ≤ 5 then 0 else 1)) : Int32)))) fun k2 => if p0 < 0 then k2 () else if p0 < (im_i (im_setI M 130 0 ((if p1 < 0 then 1 else (if p1 ≤ 5 then 0 else 1)) : Int32)) 130 10) then gd (inb (((6 : Int32) * p0) + p1) 1800) <| some ((im_i (im_setI M 130 0 ((if p1 < 0 then 1 else (if p1 ≤ 5 then 0 else 1)) : Int32)) 135 (Int32.toNatClampNeg (((6 : Int32) * p0) + p1))), (im_setI M 130 0 ((if p1 < 0 then 1 else (if p1 ≤ 5 then 0 else 1)) : Int32))) else k2 () else some (0, (im_setI M 130 0 ((if p1 < 0 then 1 else (if p1 ≤ 5 then 0 else 1)) : Int32)))
theorem J_MPlaceRows_place_d0 : decode J_MPlaceRows_place.2.1 0 = .ok (.aload_n 0, 1) := by decide +kernel
theorem J_MPlaceRows_place_d1 : decode J_MPlaceRows_place.2.1 1 = .ok (.iload_n 2, 1) := by decide +kernel
theorem J_MPlaceRows_place_d2 : decode J_MPlaceRows_place.2.1 2 = .ok (.ifCond .lt 8, 3) := by decide +kernel
theorem J_MPlaceRows_place_d5 : decode J_MPlaceRows_place.2.1 5 = .ok (.iload_n 2, 1) := by decide +kernel
theorem J_MPlaceRows_place_d6 : decode J_MPlaceRows_place.2.1 6 = .ok (.iconst 5, 1) := by decide +kernel
theorem J_MPlaceRows_place_d7 : decode J_MPlaceRows_place.2.1 7 = .ok (.if_icmp .le 7, 3) := by decide +kernel
theorem J_MPlaceRows_place_d10 : decode J_MPlaceRows_place.2.1 10 = .ok (.iconst 1, 1) := by decide +kernel
theorem J_MPlaceRows_place_d11 : decode J_MPlaceRows_place.2.1 11 = .ok (.goto 4, 3) := by decide +kernel
theorem J_MPlaceRows_place_d14 : decode J_MPlaceRows_place.2.1 14 = .ok (.iconst 0, 1) := by decide +kernel
theorem J_MPlaceRows_place_d15 : decode J_MPlaceRows_place.2.1 15 = .ok (.putfield 35, 3) := by decide +kernel
theorem J_MPlaceRows_place_d18 : decode J_MPlaceRows_place.2.1 18 = .ok (.aload_n 0, 1) := by decide +kernel
theorem J_MPlaceRows_place_d19 : decode J_MPlaceRows_place.2.1 19 = .ok (.getfield 35, 3) := by decide +kernel
theorem J_MPlaceRows_place_d22 : decode J_MPlaceRows_place.2.1 22 = .ok (.ifCond .le 5, 3) := by decide +kernel
theorem J_MPlaceRows_place_d25 : decode J_MPlaceRows_place.2.1 25 = .ok (.iconst 0, 1) := by decide +kernel
theorem J_MPlaceRows_place_d26 : decode J_MPlaceRows_place.2.1 26 = .ok (.ireturn, 1) := by decide +kernel
theorem J_MPlaceRows_place_d27 : decode J_MPlaceRows_place.2.1 27 = .ok (.iload_n 1, 1) := by decide +kernel
theorem J_MPlaceRows_place_d28 : decode J_MPlaceRows_place.2.1 28 = .ok (.ifCond .lt 11, 3) := by decide +kernel
theorem J_MPlaceRows_place_d31 : decode J_MPlaceRows_place.2.1 31 = .ok (.iload_n 1, 1) := by decide +kernel
theorem J_MPlaceRows_place_d32 : decode J_MPlaceRows_place.2.1 32 = .ok (.aload_n 0, 1) := by decide +kernel
theorem J_MPlaceRows_place_d33 : decode J_MPlaceRows_place.2.1 33 = .ok (.getfield 41, 3) := by decide +kernel
theorem J_MPlaceRows_place_d36 : decode J_MPlaceRows_place.2.1 36 = .ok (.if_icmp .lt 7, 3) := by decide +kernel
theorem J_MPlaceRows_place_d39 : decode J_MPlaceRows_place.2.1 39 = .ok (.iconst (-1), 1) := by decide +kernel
theorem J_MPlaceRows_place_d40 : decode J_MPlaceRows_place.2.1 40 = .ok (.goto 14, 3) := by decide +kernel
theorem J_MPlaceRows_place_d43 : decode J_MPlaceRows_place.2.1 43 = .ok (.aload_n 0, 1) := by decide +kernel
theorem J_MPlaceRows_place_d44 : decode J_MPlaceRows_place.2.1 44 = .ok (.getfield 32, 3) := by decide +kernel
theorem J_MPlaceRows_place_d47 : decode J_MPlaceRows_place.2.1 47 = .ok (.bipush 6, 2) := by decide +kernel
theorem J_MPlaceRows_place_d49 : decode J_MPlaceRows_place.2.1 49 = .ok (.iload_n 1, 1) := by decide +kernel
theorem J_MPlaceRows_place_d50 : decode J_MPlaceRows_place.2.1 50 = .ok (.imul, 1) := by decide +kernel
theorem J_MPlaceRows_place_d51 : decode J_MPlaceRows_place.2.1 51 = .ok (.iload_n 2, 1) := by decide +kernel
theorem J_MPlaceRows_place_d52 : decode J_MPlaceRows_place.2.1 52 = .ok (.iadd, 1) := by decide +kernel
theorem J_MPlaceRows_place_d53 : decode J_MPlaceRows_place.2.1 53 = .ok (.iaload, 1) := by decide +kernel
theorem J_MPlaceRows_place_d54 : decode J_MPlaceRows_place.2.1 54 = .ok (.ireturn, 1) := by decide +kernel
theorem f_MPlaceRows_place_ok {L : Nat} {xs : Nat → Int32} {dep : Nat} {w : Bool} {p0 : Int32} {p1 : Int32} {M : im_M} {Q : Int32 × im_M → Prop} (hM : lw_S w M) (h : ed (f_MPlaceRows_place p0 p1 M) Q) : ia (tb_G L xs) dep J_MPlaceRows_place (rwI w Q) (0, lv_args 0 [.ref 130, .int p0, .int p1], [], M) := by
  have hS : im_St (tb_G L xs) dep J_MPlaceRows_place (ia (tb_G L xs) dep J_MPlaceRows_place (rwI w Q)) := ia_St
  unfold f_MPlaceRows_place at h
  have l0 : im_lk (lv_args 0 [.ref 130, .int p0, .int p1]) 0 = some (.ref 130) := rfl
  have l1 : im_lk (lv_args 0 [.ref 130, .int p0, .int p1]) 1 = some (.int p0) := rfl
  have l2 : im_lk (lv_args 0 [.ref 130, .int p0, .int p1]) 2 = some (.int p1) := rfl
  refine iq_aload_n hS 1 J_MPlaceRows_place_d0 l0 rfl ?_
  refine iq_iload_n hS 2 J_MPlaceRows_place_d1 l2 rfl ?_
  have J1 : ∀ (z2 : Int32) (L' : List (Nat × Value)), z2 = ((if p1 < 0 then 1 else (if p1 ≤ 5 then 0 else 1)) : Int32) → im_lk L' 0 = some (.ref 130) → im_lk L' 1 = some (.int p0) → im_lk L' 2 = some (.int p1) → ia (tb_G L xs) dep J_MPlaceRows_place (rwI w Q) (15, L', [.int z2, .ref 130], M) := by
    intro z2 L' e3 l4 l5 l6
    subst e3
    refine iq_putI hS 18 J_MPlaceRows_place_d15 lf_14_35 (Or.inl rfl) rfl (ka_130 hM) rfl ?_
    refine iq_aload_n hS 19 J_MPlaceRows_place_d18 l4 rfl ?_
    refine iq_getI hS 22 J_MPlaceRows_place_d19 lf_14_35 (Or.inl rfl) (ka_130 (lw_sI hM)) rfl ?_
    refine iq_if_le hS 25 J_MPlaceRows_place_d22 (t := 27) rfl (fun q22 => ?_) rfl (fun q22 => ?_)
    · replace h := ed_pos q22 h
      refine iq_iload_n hS 28 J_MPlaceRows_place_d27 l5 rfl ?_
      obtain ⟨k7, Q7, hQ7, hk7, h⟩ := jn0_ed h
      have J7 : ∀  (L' : List (Nat × Value)), Q7 () → ia (tb_G L xs) dep J_MPlaceRows_place (rwI w Q) (39, L', [], (im_setI M 130 0 ((if p1 < 0 then 1 else (if p1 ≤ 5 then 0 else 1)) : Int32))) := by
        intro  L'  h
        replace h := hQ7  h
        refine iq_iconst hS 40 J_MPlaceRows_place_d39 (v := (-1)) (by decide +kernel) rfl ?_
        refine iq_goto hS J_MPlaceRows_place_d40 (t := 54) rfl ?_
        exact iq_iret J_MPlaceRows_place_d54 rfl rfl ⟨_, rfl, (lw_sI hM), ed_some h⟩
      refine iq_if_lt hS 31 J_MPlaceRows_place_d28 (t := 39) rfl (fun q28 => ?_) rfl (fun q28 => ?_)
      · replace h := ed_pos q28 h
        exact J7  _  (hk7  h)
      · replace h := ed_neg q28 h
        refine iq_iload_n hS 32 J_MPlaceRows_place_d31 l5 rfl ?_
        refine iq_aload_n hS 33 J_MPlaceRows_place_d32 l4 rfl ?_
        refine iq_getI hS 36 J_MPlaceRows_place_d33 lf_14_41 (Or.inl rfl) (ka_130 (lw_sI hM)) rfl ?_
        refine iq_icmp_lt hS 39 J_MPlaceRows_place_d36 (t := 43) rfl (fun q36 => ?_) rfl (fun q36 => ?_)
        · replace h := ed_pos q36 h
          refine iq_aload_n hS 44 J_MPlaceRows_place_d43 l4 rfl ?_
          refine iq_getR hS 47 J_MPlaceRows_place_d44 lf_14_32 (Or.inr ⟨_, rfl⟩) (ka_130 (lw_sI hM)) (ra_130_9 (lw_sI hM)) rfl ?_
          refine iq_bipush hS 49 J_MPlaceRows_place_d47 (v := 6) (by decide +kernel) rfl ?_
          refine iq_iload_n hS 50 J_MPlaceRows_place_d49 l5 rfl ?_
          refine iq_imul hS 51 J_MPlaceRows_place_d50 rfl ?_
          refine iq_iload_n hS 52 J_MPlaceRows_place_d51 l6 rfl ?_
          refine iq_iadd hS 53 J_MPlaceRows_place_d52 rfl ?_
          obtain ⟨g53, h⟩ := ed_gd h
          refine iq_iaload hS 54 J_MPlaceRows_place_d53 ⟨(ka_135 (lw_sI hM)).1, (ka_135 (lw_sI hM)).2, g53.1, ix_lt (kl_135 (lw_sI hM)) g53.2⟩ rfl ?_
          exact iq_iret J_MPlaceRows_place_d54 rfl rfl ⟨_, rfl, (lw_sI hM), ed_some h⟩
        · replace h := ed_neg q36 h
          exact J7  _  (hk7  h)
    · replace h := ed_neg q22 h
      refine iq_iconst hS 26 J_MPlaceRows_place_d25 (v := 0) (by decide +kernel) rfl ?_
      exact iq_iret J_MPlaceRows_place_d26 rfl rfl ⟨_, rfl, (lw_sI hM), ed_some h⟩
  refine iq_if_lt hS 5 J_MPlaceRows_place_d2 (t := 10) rfl (fun q2 => ?_) rfl (fun q2 => ?_)
  · refine iq_iconst hS 11 J_MPlaceRows_place_d10 (v := 1) (by decide +kernel) rfl ?_
    refine iq_goto hS J_MPlaceRows_place_d11 (t := 15) rfl ?_
    exact J1 _ _ (by simp only [if_pos q2]) l0 l1 l2
  · refine iq_iload_n hS 6 J_MPlaceRows_place_d5 l2 rfl ?_
    refine iq_iconst hS 7 J_MPlaceRows_place_d6 (v := 5) (by decide +kernel) rfl ?_
    refine iq_icmp_le hS 10 J_MPlaceRows_place_d7 (t := 14) rfl (fun q7 => ?_) rfl (fun q7 => ?_)
    · refine iq_iconst hS 15 J_MPlaceRows_place_d14 (v := 0) (by decide +kernel) rfl ?_
      exact J1 _ _ (by simp only [if_neg q2, if_pos q7]) l0 l1 l2
    · refine iq_iconst hS 11 J_MPlaceRows_place_d10 (v := 1) (by decide +kernel) rfl ?_
      refine iq_goto hS J_MPlaceRows_place_d11 (t := 15) rfl ?_
      exact J1 _ _ (by simp only [if_neg q2, if_neg q7]) l0 l1 l2
theorem f_MPlaceRows_place_fr {p0 : Int32} {p1 : Int32} {M : im_M} {r : Int32 × im_M} (h : f_MPlaceRows_place p0 p1 M = some r) : fr 0 [(130, 0)] M r.2 := by
  replace h : ed (f_MPlaceRows_place p0 p1 M) (fun x => x = r) := ⟨r, h, rfl⟩
  unfold f_MPlaceRows_place at h
  by_cases q22 : (im_i (im_setI M 130 0 ((if p1 < 0 then 1 else (if p1 ≤ 5 then 0 else 1)) : Int32)) 130 0) ≤ 0
  · replace h := ed_pos q22 h
    obtain ⟨k2, Q2, hQ2, hk2, h⟩ := jn0_ed h
    have J2 : Q2 () → fr 0 [(130, 0)] M r.2 := by
      intro  h
      replace h := hQ2  h
      exact fr_ret h (fr_F (by decide) fr_refl)
    by_cases q28 : p0 < 0
    · replace h := ed_pos q28 h
      exact J2  (hk2  h)
    · replace h := ed_neg q28 h
      by_cases q36 : p0 < (im_i (im_setI M 130 0 ((if p1 < 0 then 1 else (if p1 ≤ 5 then 0 else 1)) : Int32)) 130 10)
      · replace h := ed_pos q36 h
        obtain ⟨g53, h⟩ := ed_gd h
        exact fr_ret h (fr_F (by decide) fr_refl)
      · replace h := ed_neg q36 h
        exact J2  (hk2  h)
  · replace h := ed_neg q22 h
    exact fr_ret h (fr_F (by decide) fr_refl)
noncomputable def f_M_found (p0 : Int32) (p1 : Int32) (M : im_M) : Option (Int32 × im_M) := bd2 (f_MPlaceRows_place p0 p1 M) fun (x1 : Int32) (M1 : im_M) => bd1 (f_MPlaceRows_thrown M1) fun (x2 : Int32) => some (x1, (im_setI M1 69 0 x2))
theorem J_M_found_d0 : decode J_M_found.2.1 0 = .ok (.aload_n 0, 1) := by decide +kernel
theorem J_M_found_d1 : decode J_M_found.2.1 1 = .ok (.getfield 44, 3) := by decide +kernel
theorem J_M_found_d4 : decode J_M_found.2.1 4 = .ok (.iload_n 1, 1) := by decide +kernel
theorem J_M_found_d5 : decode J_M_found.2.1 5 = .ok (.iload_n 2, 1) := by decide +kernel
theorem J_M_found_d6 : decode J_M_found.2.1 6 = .ok (.invokevirtual 227, 3) := by decide +kernel
theorem J_M_found_d9 : decode J_M_found.2.1 9 = .ok (.istore_n 3, 1) := by decide +kernel
theorem J_M_found_d10 : decode J_M_found.2.1 10 = .ok (.aload_n 0, 1) := by decide +kernel
theorem J_M_found_d11 : decode J_M_found.2.1 11 = .ok (.aload_n 0, 1) := by decide +kernel
theorem J_M_found_d12 : decode J_M_found.2.1 12 = .ok (.getfield 44, 3) := by decide +kernel
theorem J_M_found_d15 : decode J_M_found.2.1 15 = .ok (.invokevirtual 226, 3) := by decide +kernel
theorem J_M_found_d18 : decode J_M_found.2.1 18 = .ok (.putfield 58, 3) := by decide +kernel
theorem J_M_found_d21 : decode J_M_found.2.1 21 = .ok (.iload_n 3, 1) := by decide +kernel
theorem J_M_found_d22 : decode J_M_found.2.1 22 = .ok (.ireturn, 1) := by decide +kernel
theorem f_M_found_ok {L : Nat} {xs : Nat → Int32} {dep : Nat} {w : Bool} {p0 : Int32} {p1 : Int32} {M : im_M} {Q : Int32 × im_M → Prop} (hM : lw_S w M) (h : ed (f_M_found p0 p1 M) Q) : ia (tb_G L xs) (dep + 1) J_M_found (rwI w Q) (0, lv_args 0 [.ref 69, .int p0, .int p1], [], M) := by
  have hS : im_St (tb_G L xs) (dep + 1) J_M_found (ia (tb_G L xs) (dep + 1) J_M_found (rwI w Q)) := ia_St
  unfold f_M_found at h
  have l0 : im_lk (lv_args 0 [.ref 69, .int p0, .int p1]) 0 = some (.ref 69) := rfl
  have l1 : im_lk (lv_args 0 [.ref 69, .int p0, .int p1]) 1 = some (.int p0) := rfl
  have l2 : im_lk (lv_args 0 [.ref 69, .int p0, .int p1]) 2 = some (.int p1) := rfl
  refine iq_aload_n hS 1 J_M_found_d0 l0 rfl ?_
  refine iq_getR hS 4 J_M_found_d1 lf_17_44 (Or.inl ⟨_, rfl⟩) (ka_69 hM) (ra_69_7 hM) rfl ?_
  refine iq_iload_n hS 5 J_M_found_d4 l1 rfl ?_
  refine iq_iload_n hS 6 J_M_found_d5 l2 rfl ?_
  obtain ⟨Q1, hQ1, h⟩ := bd2_ed h
  refine iq_cwI hS 9 J_M_found_d6 rfl (pr_inst (vs := [_, _]) lc_17_227 lT_482 rfl rfl (by decide) (by decide) rfl (Nat.le_of_ble_eq_true rfl) (Nat.le_of_ble_eq_true rfl) (fun _ => Or.inl (pr_b (ka_130 hM) (by decide) rfl))) (f_MPlaceRows_place_ok (dep := dep + 0) hM h) rfl ?_
  intro x1 M1 hM1 h
  replace h := hQ1 _ _ h
  refine iq_istore_n hS 10 J_M_found_d9 (by decide) rfl ?_
  refine iq_aload_n hS 11 J_M_found_d10 (lk_1r l0 (by decide)) rfl ?_
  refine iq_aload_n hS 12 J_M_found_d11 (lk_1r l0 (by decide)) rfl ?_
  refine iq_getR hS 15 J_M_found_d12 lf_17_44 (Or.inl ⟨_, rfl⟩) (ka_69 hM1) (ra_69_7 hM1) rfl ?_
  obtain ⟨Q2, hQ2, h⟩ := bd1_ed h
  refine iq_cpI hS 18 J_M_found_d15 rfl (pr_inst (vs := []) lc_17_226 lT_480 rfl rfl (by decide) (by decide) rfl (Nat.le_of_ble_eq_true rfl) (Nat.le_of_ble_eq_true rfl) (fun _ => Or.inl (pr_b (ka_130 hM1) (by decide) rfl))) (f_MPlaceRows_thrown_ok (dep := dep + 0) hM1 h) rfl ?_
  intro x2 h
  replace h := hQ2 _ h
  refine iq_putI hS 21 J_M_found_d18 lf_17_58 (Or.inl rfl) rfl (ka_69 hM1) rfl ?_
  refine iq_iload_n hS 22 J_M_found_d21 lk_1s rfl ?_
  exact iq_iret J_M_found_d22 rfl rfl ⟨_, rfl, (lw_sI hM1), ed_some h⟩
theorem f_M_found_fr {p0 : Int32} {p1 : Int32} {M : im_M} {r : Int32 × im_M} (h : f_M_found p0 p1 M = some r) : fr 0 [(69, 0), (130, 0)] M r.2 := by
  replace h : ed (f_M_found p0 p1 M) (fun x => x = r) := ⟨r, h, rfl⟩
  unfold f_M_found at h
  obtain ⟨Q1, hQ1, h⟩ := bd2_ed h
  obtain ⟨⟨x1, M1⟩, e1, h⟩ := h
  replace h := hQ1 _ _ h
  obtain ⟨Q2, hQ2, h⟩ := bd1_ed h
  obtain ⟨x2, e2, h⟩ := h
  replace h := hQ2 _ h
  exact fr_ret h (fr_F (by decide) (fr_tr (fr_mono (by decide) (by decide +kernel) (f_MPlaceRows_place_fr e1)) fr_refl))
noncomputable def f_MSquareRows_blank_L41 (x4 : Int32) (M5 : im_M) : Option ((Int32 × im_M) ⊕ (im_M)) := if 31329 ≤ x4 then some (.inr M5) else gd (inb x4 31329) <| some (.inl ((x4 + 1), (im_setI M5 112 (Int32.toNatClampNeg x4) 0)))
noncomputable def f_MSquareRows_blank (p0 : Int32) (M : im_M) : Option (Int32 × im_M) := if (im_i (im_setI M 108 0 ((if p0 < 1 then 1 else (if p0 ≤ 40 then 0 else 1)) : Int32)) 108 0) ≤ 0 then bd1 (f_MSquareRows_frame p0 (im_setI (im_setI M 108 0 ((if p0 < 1 then 1 else (if p0 ≤ 40 then 0 else 1)) : Int32)) 108 7 p0)) fun (M2 : im_M) => bd1 (lp (uc2 (f_MSquareRows_blank_L41)) (0, M2)) fun (M6 : im_M) => some ((im_i (im_setI M6 108 9 0) 108 8), (im_setI M6 108 9 0)) else some (0, (im_setI M 108 0 ((if p0 < 1 then 1 else (if p0 ≤ 40 then 0 else 1)) : Int32)))
theorem J_MSquareRows_blank_d0 : decode J_MSquareRows_blank.2.1 0 = .ok (.aload_n 0, 1) := by decide +kernel
theorem J_MSquareRows_blank_d1 : decode J_MSquareRows_blank.2.1 1 = .ok (.iload_n 1, 1) := by decide +kernel
theorem J_MSquareRows_blank_d2 : decode J_MSquareRows_blank.2.1 2 = .ok (.iconst 1, 1) := by decide +kernel
theorem J_MSquareRows_blank_d3 : decode J_MSquareRows_blank.2.1 3 = .ok (.if_icmp .lt 9, 3) := by decide +kernel
theorem J_MSquareRows_blank_d6 : decode J_MSquareRows_blank.2.1 6 = .ok (.iload_n 1, 1) := by decide +kernel
theorem J_MSquareRows_blank_d7 : decode J_MSquareRows_blank.2.1 7 = .ok (.bipush 40, 2) := by decide +kernel
theorem J_MSquareRows_blank_d9 : decode J_MSquareRows_blank.2.1 9 = .ok (.if_icmp .le 7, 3) := by decide +kernel
theorem J_MSquareRows_blank_d12 : decode J_MSquareRows_blank.2.1 12 = .ok (.iconst 1, 1) := by decide +kernel
theorem J_MSquareRows_blank_d13 : decode J_MSquareRows_blank.2.1 13 = .ok (.goto 4, 3) := by decide +kernel
theorem J_MSquareRows_blank_d16 : decode J_MSquareRows_blank.2.1 16 = .ok (.iconst 0, 1) := by decide +kernel
theorem J_MSquareRows_blank_d17 : decode J_MSquareRows_blank.2.1 17 = .ok (.putfield 73, 3) := by decide +kernel
theorem J_MSquareRows_blank_d20 : decode J_MSquareRows_blank.2.1 20 = .ok (.aload_n 0, 1) := by decide +kernel
theorem J_MSquareRows_blank_d21 : decode J_MSquareRows_blank.2.1 21 = .ok (.getfield 73, 3) := by decide +kernel
theorem J_MSquareRows_blank_d24 : decode J_MSquareRows_blank.2.1 24 = .ok (.ifCond .le 5, 3) := by decide +kernel
theorem J_MSquareRows_blank_d27 : decode J_MSquareRows_blank.2.1 27 = .ok (.iconst 0, 1) := by decide +kernel
theorem J_MSquareRows_blank_d28 : decode J_MSquareRows_blank.2.1 28 = .ok (.ireturn, 1) := by decide +kernel
theorem J_MSquareRows_blank_d29 : decode J_MSquareRows_blank.2.1 29 = .ok (.aload_n 0, 1) := by decide +kernel
theorem J_MSquareRows_blank_d30 : decode J_MSquareRows_blank.2.1 30 = .ok (.iload_n 1, 1) := by decide +kernel
theorem J_MSquareRows_blank_d31 : decode J_MSquareRows_blank.2.1 31 = .ok (.putfield 229, 3) := by decide +kernel
theorem J_MSquareRows_blank_d34 : decode J_MSquareRows_blank.2.1 34 = .ok (.aload_n 0, 1) := by decide +kernel
theorem J_MSquareRows_blank_d35 : decode J_MSquareRows_blank.2.1 35 = .ok (.iload_n 1, 1) := by decide +kernel
theorem J_MSquareRows_blank_d36 : decode J_MSquareRows_blank.2.1 36 = .ok (.invokevirtual 232, 3) := by decide +kernel
theorem J_MSquareRows_blank_d39 : decode J_MSquareRows_blank.2.1 39 = .ok (.iconst 0, 1) := by decide +kernel
theorem J_MSquareRows_blank_d40 : decode J_MSquareRows_blank.2.1 40 = .ok (.istore_n 2, 1) := by decide +kernel
theorem J_MSquareRows_blank_d41 : decode J_MSquareRows_blank.2.1 41 = .ok (.iload_n 2, 1) := by decide +kernel
theorem J_MSquareRows_blank_d42 : decode J_MSquareRows_blank.2.1 42 = .ok (.aload_n 0, 1) := by decide +kernel
theorem J_MSquareRows_blank_d43 : decode J_MSquareRows_blank.2.1 43 = .ok (.getfield 19, 3) := by decide +kernel
theorem J_MSquareRows_blank_d46 : decode J_MSquareRows_blank.2.1 46 = .ok (.arraylength, 1) := by decide +kernel
theorem J_MSquareRows_blank_d47 : decode J_MSquareRows_blank.2.1 47 = .ok (.if_icmp .ge 16, 3) := by decide +kernel
theorem J_MSquareRows_blank_d50 : decode J_MSquareRows_blank.2.1 50 = .ok (.aload_n 0, 1) := by decide +kernel
theorem J_MSquareRows_blank_d51 : decode J_MSquareRows_blank.2.1 51 = .ok (.getfield 19, 3) := by decide +kernel
theorem J_MSquareRows_blank_d54 : decode J_MSquareRows_blank.2.1 54 = .ok (.iload_n 2, 1) := by decide +kernel
theorem J_MSquareRows_blank_d55 : decode J_MSquareRows_blank.2.1 55 = .ok (.iconst 0, 1) := by decide +kernel
theorem J_MSquareRows_blank_d56 : decode J_MSquareRows_blank.2.1 56 = .ok (.iastore, 1) := by decide +kernel
theorem J_MSquareRows_blank_d57 : decode J_MSquareRows_blank.2.1 57 = .ok (.iinc 2 1, 3) := by decide +kernel
theorem J_MSquareRows_blank_d60 : decode J_MSquareRows_blank.2.1 60 = .ok (.goto (-19), 3) := by decide +kernel
theorem J_MSquareRows_blank_d63 : decode J_MSquareRows_blank.2.1 63 = .ok (.aload_n 0, 1) := by decide +kernel
theorem J_MSquareRows_blank_d64 : decode J_MSquareRows_blank.2.1 64 = .ok (.iconst 0, 1) := by decide +kernel
theorem J_MSquareRows_blank_d65 : decode J_MSquareRows_blank.2.1 65 = .ok (.putfield 246, 3) := by decide +kernel
theorem J_MSquareRows_blank_d68 : decode J_MSquareRows_blank.2.1 68 = .ok (.aload_n 0, 1) := by decide +kernel
theorem J_MSquareRows_blank_d69 : decode J_MSquareRows_blank.2.1 69 = .ok (.getfield 163, 3) := by decide +kernel
theorem J_MSquareRows_blank_d72 : decode J_MSquareRows_blank.2.1 72 = .ok (.ireturn, 1) := by decide +kernel
theorem f_MSquareRows_blank_ok {L : Nat} {xs : Nat → Int32} {dep : Nat} {w : Bool} {p0 : Int32} {M : im_M} {Q : Int32 × im_M → Prop} (hM : lw_S w M) (h : ed (f_MSquareRows_blank p0 M) Q) : ia (tb_G L xs) (dep + 4) J_MSquareRows_blank (rwI w Q) (0, lv_args 0 [.ref 108, .int p0], [], M) := by
  have hS : im_St (tb_G L xs) (dep + 4) J_MSquareRows_blank (ia (tb_G L xs) (dep + 4) J_MSquareRows_blank (rwI w Q)) := ia_St
  unfold f_MSquareRows_blank at h
  have l0 : im_lk (lv_args 0 [.ref 108, .int p0]) 0 = some (.ref 108) := rfl
  have l1 : im_lk (lv_args 0 [.ref 108, .int p0]) 1 = some (.int p0) := rfl
  refine iq_aload_n hS 1 J_MSquareRows_blank_d0 l0 rfl ?_
  refine iq_iload_n hS 2 J_MSquareRows_blank_d1 l1 rfl ?_
  refine iq_iconst hS 3 J_MSquareRows_blank_d2 (v := 1) (by decide +kernel) rfl ?_
  have J1 : ∀ (z2 : Int32) (L' : List (Nat × Value)), z2 = ((if p0 < 1 then 1 else (if p0 ≤ 40 then 0 else 1)) : Int32) → im_lk L' 0 = some (.ref 108) → im_lk L' 1 = some (.int p0) → ia (tb_G L xs) (dep + 4) J_MSquareRows_blank (rwI w Q) (17, L', [.int z2, .ref 108], M) := by
    intro z2 L' e3 l4 l5
    subst e3
    refine iq_putI hS 20 J_MSquareRows_blank_d17 lf_16_73 (Or.inl rfl) rfl (ka_108 hM) rfl ?_
    refine iq_aload_n hS 21 J_MSquareRows_blank_d20 l4 rfl ?_
    refine iq_getI hS 24 J_MSquareRows_blank_d21 lf_16_73 (Or.inl rfl) (ka_108 (lw_sI hM)) rfl ?_
    refine iq_if_le hS 27 J_MSquareRows_blank_d24 (t := 29) rfl (fun q24 => ?_) rfl (fun q24 => ?_)
    · replace h := ed_pos q24 h
      refine iq_aload_n hS 30 J_MSquareRows_blank_d29 l4 rfl ?_
      refine iq_iload_n hS 31 J_MSquareRows_blank_d30 l5 rfl ?_
      refine iq_putI hS 34 J_MSquareRows_blank_d31 lf_16_229 (Or.inl rfl) rfl (ka_108 (lw_sI hM)) rfl ?_
      refine iq_aload_n hS 35 J_MSquareRows_blank_d34 l4 rfl ?_
      refine iq_iload_n hS 36 J_MSquareRows_blank_d35 l5 rfl ?_
      obtain ⟨Q6, hQ6, h⟩ := bd1_ed h
      refine iq_cwV hS 39 J_MSquareRows_blank_d36 rfl (pr_inst (vs := [_]) lc_16_232 lT_415 rfl rfl (by decide) (by decide) rfl (Nat.le_of_ble_eq_true rfl) (Nat.le_of_ble_eq_true rfl) (fun _ => Or.inl (pr_b (ka_108 (lw_sI (lw_sI hM))) (by decide) rfl))) (f_MSquareRows_frame_ok (dep := dep + 0) (lw_sI (lw_sI hM)) h) rfl ?_
      intro M6 hM6 h
      replace h := hQ6 _ h
      refine iq_iconst hS 40 J_MSquareRows_blank_d39 (v := 0) (by decide +kernel) rfl ?_
      refine iq_istore_n hS 41 J_MSquareRows_blank_d40 (by decide) rfl ?_
      obtain ⟨Q7, hQ7, h⟩ := bd1_ed h
      have K7 : ∀ (M8 : im_M) (L' : List (Nat × Value)), lw_S w M8 → im_lk L' 0 = some (.ref 108) → Q7 M8 → ia (tb_G L xs) (dep + 4) J_MSquareRows_blank (rwI w Q) (63, L', [], M8) := by
        intro M8 L' hM8 l9 h
        replace h := hQ7 _ h
        refine iq_aload_n hS 64 J_MSquareRows_blank_d63 l9 rfl ?_
        refine iq_iconst hS 65 J_MSquareRows_blank_d64 (v := 0) (by decide +kernel) rfl ?_
        refine iq_putZ hS 68 J_MSquareRows_blank_d65 lf_16_246 (Or.inl rfl) rfl (ka_108 hM8) (Or.inl rfl) rfl ?_
        refine iq_aload_n hS 69 J_MSquareRows_blank_d68 l9 rfl ?_
        refine iq_getI hS 72 J_MSquareRows_blank_d69 lf_16_163 (Or.inl rfl) (ka_108 (lw_sI hM8)) rfl ?_
        exact iq_iret J_MSquareRows_blank_d72 rfl rfl ⟨_, rfl, (lw_sI hM8), ed_some h⟩
      obtain ⟨r7, hr7, hq7⟩ := h
      obtain ⟨n7, hn7⟩ := lp_n hr7
      have I7 : ∀ (n : Nat) (x10 : Int32) (M11 : im_M) (L' : List (Nat × Value)), lw_S w M11 → im_lk L' 0 = some (.ref 108) → im_lk L' 2 = some (.int x10) → lpn (uc2 (f_MSquareRows_blank_L41)) n (x10, M11) = some r7 → ia (tb_G L xs) (dep + 4) J_MSquareRows_blank (rwI w Q) (41, L', [], M11) := by
        intro n
        induction n with
        | zero => intro x10 M11 L' hM11 l12 l13 hn; exact (lpn_0 hn).elim
        | succ n ih =>
          intro x10 M11 L' hM11 l12 l13 hn
          have h := lpn_ed2 hn
          unfold f_MSquareRows_blank_L41 at h
          refine iq_iload_n hS 42 J_MSquareRows_blank_d41 l13 rfl ?_
          refine iq_aload_n hS 43 J_MSquareRows_blank_d42 l12 rfl ?_
          refine iq_getR hS 46 J_MSquareRows_blank_d43 lf_16_19 (Or.inr ⟨_, rfl⟩) (ka_108 hM11) (ra_108_5 hM11) rfl ?_
          refine iq_alenv hS 47 J_MSquareRows_blank_d46 (v := 31329) (ka_112 hM11) (by decide) (by decide) (kl_112 hM11) (by decide +kernel) rfl ?_
          refine iq_icmp_ge hS 50 J_MSquareRows_blank_d47 (t := 63) rfl (fun q47 => ?_) rfl (fun q47 => ?_)
          · replace h := ed_pos q47 h
            exact K7 _ _ hM11 l12 (lq_r h hq7)
          · replace h := ed_neg q47 h
            refine iq_aload_n hS 51 J_MSquareRows_blank_d50 l12 rfl ?_
            refine iq_getR hS 54 J_MSquareRows_blank_d51 lf_16_19 (Or.inr ⟨_, rfl⟩) (ka_108 hM11) (ra_108_5 hM11) rfl ?_
            refine iq_iload_n hS 55 J_MSquareRows_blank_d54 l13 rfl ?_
            refine iq_iconst hS 56 J_MSquareRows_blank_d55 (v := 0) (by decide +kernel) rfl ?_
            obtain ⟨g56, h⟩ := ed_gd h
            refine iq_iastore hS 57 J_MSquareRows_blank_d56 ⟨(ka_112 hM11).1, (ka_112 hM11).2, g56.1, ix_lt (kl_112 hM11) g56.2⟩ rfl ?_
            refine iq_iincv hS 60 J_MSquareRows_blank_d57 (c := 1) (by decide +kernel) l13 (by decide) rfl ?_
            refine iq_goto hS J_MSquareRows_blank_d60 (t := 41) rfl ?_
            exact ih _ _ _ (lw_sI hM11) (lk_1r l12 (by decide)) lk_1s (lq_l h)
      exact I7 n7 _ _ _ hM6 (lk_1r l4 (by decide)) lk_1s hn7
    · replace h := ed_neg q24 h
      refine iq_iconst hS 28 J_MSquareRows_blank_d27 (v := 0) (by decide +kernel) rfl ?_
      exact iq_iret J_MSquareRows_blank_d28 rfl rfl ⟨_, rfl, (lw_sI hM), ed_some h⟩
  refine iq_icmp_lt hS 6 J_MSquareRows_blank_d3 (t := 12) rfl (fun q3 => ?_) rfl (fun q3 => ?_)
  · refine iq_iconst hS 13 J_MSquareRows_blank_d12 (v := 1) (by decide +kernel) rfl ?_
    refine iq_goto hS J_MSquareRows_blank_d13 (t := 17) rfl ?_
    exact J1 _ _ (by simp only [if_pos q3]) l0 l1
  · refine iq_iload_n hS 7 J_MSquareRows_blank_d6 l1 rfl ?_
    refine iq_bipush hS 9 J_MSquareRows_blank_d7 (v := 40) (by decide +kernel) rfl ?_
    refine iq_icmp_le hS 12 J_MSquareRows_blank_d9 (t := 16) rfl (fun q9 => ?_) rfl (fun q9 => ?_)
    · refine iq_iconst hS 17 J_MSquareRows_blank_d16 (v := 0) (by decide +kernel) rfl ?_
      exact J1 _ _ (by simp only [if_neg q3, if_pos q9]) l0 l1
    · refine iq_iconst hS 13 J_MSquareRows_blank_d12 (v := 1) (by decide +kernel) rfl ?_
      refine iq_goto hS J_MSquareRows_blank_d13 (t := 17) rfl ?_
      exact J1 _ _ (by simp only [if_neg q3, if_neg q9]) l0 l1
theorem f_MSquareRows_blank_fr {p0 : Int32} {M : im_M} {r : Int32 × im_M} (h : f_MSquareRows_blank p0 M = some r) : fr 15576890575604482885591488987660288 [(108, 0), (108, 7), (108, 8), (108, 9)] M r.2 := by
  replace h : ed (f_MSquareRows_blank p0 M) (fun x => x = r) := ⟨r, h, rfl⟩
  unfold f_MSquareRows_blank at h
  by_cases q24 : (im_i (im_setI M 108 0 ((if p0 < 1 then 1 else (if p0 ≤ 40 then 0 else 1)) : Int32)) 108 0) ≤ 0
  · replace h := ed_pos q24 h
    obtain ⟨Q2, hQ2, h⟩ := bd1_ed h
    obtain ⟨M2, e2, h⟩ := h
    replace h := hQ2 _ h
    obtain ⟨Q3, hQ3, h⟩ := bd1_ed h
    have K3 : ∀ (M4 : im_M), fr 15576890575604482885591488987660288 [(108, 0), (108, 7), (108, 8), (108, 9)] M M4 → Q3 M4 → fr 15576890575604482885591488987660288 [(108, 0), (108, 7), (108, 8), (108, 9)] M r.2 := by
      intro M4 hM4 h
      replace h := hQ3 _ h
      exact fr_ret h (fr_F (by decide) hM4)
    obtain ⟨r3, hr3, hq3⟩ := h
    obtain ⟨n3, hn3⟩ := lp_n hr3
    have I3 : ∀ (n : Nat) (x5 : Int32) (M6 : im_M), fr 15576890575604482885591488987660288 [(108, 0), (108, 7), (108, 8), (108, 9)] M M6 → lpn (uc2 (f_MSquareRows_blank_L41)) n (x5, M6) = some r3 → fr 15576890575604482885591488987660288 [(108, 0), (108, 7), (108, 8), (108, 9)] M r.2 := by
      intro n
      induction n with
      | zero => intro x5 M6 hM6 hn; exact (lpn_0 hn).elim
      | succ n ih =>
        intro x5 M6 hM6 hn
        have h := lpn_ed2 hn
        unfold f_MSquareRows_blank_L41 at h
        by_cases q47 : 31329 ≤ x5
        · replace h := ed_pos q47 h
          exact K3 _ hM6 (lq_r h hq3)
        · replace h := ed_neg q47 h
          obtain ⟨g56, h⟩ := ed_gd h
          exact ih _ _ (fr_I (by decide) hM6) (lq_l h)
    exact I3 n3 _ _ (fr_tr (fr_mono (by decide) (by decide +kernel) (f_MSquareRows_frame_fr e2)) (fr_F (by decide) (fr_F (by decide) fr_refl))) hn3
  · replace h := ed_neg q24 h
    exact fr_ret h (fr_F (by decide) fr_refl)
noncomputable def f_MPlaceRows_differ_L17 (v11 : Int32) (v12 : Int32) (v13 : Int32) (v14 : Int32) (v15 : Int32) (v16 : Int32) (x17 : Int32) (x18 : Int32) (M19 : im_M) : Option ((Int32 × Int32 × im_M) ⊕ (Int32 × im_M)) := if (v11 + v13) ≤ x18 then some (.inr (x17, M19)) else bd1 (f_MPlaceRows_isDark x18 v16 M19) fun (x20 : Int32) => bd1 (if v15 = 0 then bd1 (f_MPlaceRows_isDark x18 v16 M19) fun (x23 : Int32) => some x23 else some v14) fun (y24 : Int32) => gd (inb (((512 : Int32) * v16) + x18) 262144) <| some (.inl ((x17 + ((if ¬ x20 = v14 then 1 else 0) : Int32)), (x18 + 1), (im_setI M19 131 (Int32.toNatClampNeg (((512 : Int32) * v16) + x18)) (vp_nar .boolean y24))))
noncomputable def f_MPlaceRows_differ_L6 (v2 : Int32) (v3 : Int32) (v4 : Int32) (v5 : Int32) (v6 : Int32) (x7 : Int32) (x8 : Int32) (M9 : im_M) : Option ((Int32 × Int32 × im_M) ⊕ (Int32 × im_M)) := if (v3 + v4) ≤ x8 then some (.inr (x7, M9)) else bd2 (lp (uc3 (f_MPlaceRows_differ_L17 v2 v3 v4 v5 v6 x8)) (x7, v2, M9)) fun (y34 : Int32) (M35 : im_M) => some (.inl (y34, (x8 + 1), M35))
noncomputable def f_MPlaceRows_differ (p0 : Int32) (p1 : Int32) (p2 : Int32) (p3 : Int32) (p4 : Int32) (M : im_M) : Option (Int32 × im_M) := bd2 (lp (uc3 (f_MPlaceRows_differ_L6 p0 p1 p2 p3 p4)) (0, p1, M)) fun (y36 : Int32) (M37 : im_M) => some (y36, M37)
theorem J_MPlaceRows_differ_d0 : decode J_MPlaceRows_differ.2.1 0 = .ok (.iconst 0, 1) := by decide +kernel
theorem J_MPlaceRows_differ_d1 : decode J_MPlaceRows_differ.2.1 1 = .ok (.istore 6, 2) := by decide +kernel
theorem J_MPlaceRows_differ_d3 : decode J_MPlaceRows_differ.2.1 3 = .ok (.iload_n 2, 1) := by decide +kernel
theorem J_MPlaceRows_differ_d4 : decode J_MPlaceRows_differ.2.1 4 = .ok (.istore 7, 2) := by decide +kernel
theorem J_MPlaceRows_differ_d6 : decode J_MPlaceRows_differ.2.1 6 = .ok (.iload 7, 2) := by decide +kernel
theorem J_MPlaceRows_differ_d8 : decode J_MPlaceRows_differ.2.1 8 = .ok (.iload_n 2, 1) := by decide +kernel
theorem J_MPlaceRows_differ_d9 : decode J_MPlaceRows_differ.2.1 9 = .ok (.iload_n 3, 1) := by decide +kernel
theorem J_MPlaceRows_differ_d10 : decode J_MPlaceRows_differ.2.1 10 = .ok (.iadd, 1) := by decide +kernel
theorem J_MPlaceRows_differ_d11 : decode J_MPlaceRows_differ.2.1 11 = .ok (.if_icmp .ge 81, 3) := by decide +kernel
theorem J_MPlaceRows_differ_d14 : decode J_MPlaceRows_differ.2.1 14 = .ok (.iload_n 1, 1) := by decide +kernel
theorem J_MPlaceRows_differ_d15 : decode J_MPlaceRows_differ.2.1 15 = .ok (.istore 8, 2) := by decide +kernel
theorem J_MPlaceRows_differ_d17 : decode J_MPlaceRows_differ.2.1 17 = .ok (.iload 8, 2) := by decide +kernel
theorem J_MPlaceRows_differ_d19 : decode J_MPlaceRows_differ.2.1 19 = .ok (.iload_n 1, 1) := by decide +kernel
theorem J_MPlaceRows_differ_d20 : decode J_MPlaceRows_differ.2.1 20 = .ok (.iload_n 3, 1) := by decide +kernel
theorem J_MPlaceRows_differ_d21 : decode J_MPlaceRows_differ.2.1 21 = .ok (.iadd, 1) := by decide +kernel
theorem J_MPlaceRows_differ_d22 : decode J_MPlaceRows_differ.2.1 22 = .ok (.if_icmp .ge 64, 3) := by decide +kernel
theorem J_MPlaceRows_differ_d25 : decode J_MPlaceRows_differ.2.1 25 = .ok (.iload 6, 2) := by decide +kernel
theorem J_MPlaceRows_differ_d27 : decode J_MPlaceRows_differ.2.1 27 = .ok (.aload_n 0, 1) := by decide +kernel
theorem J_MPlaceRows_differ_d28 : decode J_MPlaceRows_differ.2.1 28 = .ok (.iload 8, 2) := by decide +kernel
theorem J_MPlaceRows_differ_d30 : decode J_MPlaceRows_differ.2.1 30 = .ok (.iload 7, 2) := by decide +kernel
theorem J_MPlaceRows_differ_d32 : decode J_MPlaceRows_differ.2.1 32 = .ok (.invokevirtual 51, 3) := by decide +kernel
theorem J_MPlaceRows_differ_d35 : decode J_MPlaceRows_differ.2.1 35 = .ok (.iload 4, 2) := by decide +kernel
theorem J_MPlaceRows_differ_d37 : decode J_MPlaceRows_differ.2.1 37 = .ok (.if_icmp .ne 7, 3) := by decide +kernel
theorem J_MPlaceRows_differ_d40 : decode J_MPlaceRows_differ.2.1 40 = .ok (.iconst 0, 1) := by decide +kernel
theorem J_MPlaceRows_differ_d41 : decode J_MPlaceRows_differ.2.1 41 = .ok (.goto 4, 3) := by decide +kernel
theorem J_MPlaceRows_differ_d44 : decode J_MPlaceRows_differ.2.1 44 = .ok (.iconst 1, 1) := by decide +kernel
theorem J_MPlaceRows_differ_d45 : decode J_MPlaceRows_differ.2.1 45 = .ok (.iadd, 1) := by decide +kernel
theorem J_MPlaceRows_differ_d46 : decode J_MPlaceRows_differ.2.1 46 = .ok (.istore 6, 2) := by decide +kernel
theorem J_MPlaceRows_differ_d48 : decode J_MPlaceRows_differ.2.1 48 = .ok (.aload_n 0, 1) := by decide +kernel
theorem J_MPlaceRows_differ_d49 : decode J_MPlaceRows_differ.2.1 49 = .ok (.getfield 17, 3) := by decide +kernel
theorem J_MPlaceRows_differ_d52 : decode J_MPlaceRows_differ.2.1 52 = .ok (.sipush 512, 3) := by decide +kernel
theorem J_MPlaceRows_differ_d55 : decode J_MPlaceRows_differ.2.1 55 = .ok (.iload 7, 2) := by decide +kernel
theorem J_MPlaceRows_differ_d57 : decode J_MPlaceRows_differ.2.1 57 = .ok (.imul, 1) := by decide +kernel
theorem J_MPlaceRows_differ_d58 : decode J_MPlaceRows_differ.2.1 58 = .ok (.iload 8, 2) := by decide +kernel
theorem J_MPlaceRows_differ_d60 : decode J_MPlaceRows_differ.2.1 60 = .ok (.iadd, 1) := by decide +kernel
theorem J_MPlaceRows_differ_d61 : decode J_MPlaceRows_differ.2.1 61 = .ok (.iload 5, 2) := by decide +kernel
theorem J_MPlaceRows_differ_d63 : decode J_MPlaceRows_differ.2.1 63 = .ok (.ifCond .eq 8, 3) := by decide +kernel
theorem J_MPlaceRows_differ_d66 : decode J_MPlaceRows_differ.2.1 66 = .ok (.iload 4, 2) := by decide +kernel
theorem J_MPlaceRows_differ_d68 : decode J_MPlaceRows_differ.2.1 68 = .ok (.goto 11, 3) := by decide +kernel
theorem J_MPlaceRows_differ_d71 : decode J_MPlaceRows_differ.2.1 71 = .ok (.aload_n 0, 1) := by decide +kernel
theorem J_MPlaceRows_differ_d72 : decode J_MPlaceRows_differ.2.1 72 = .ok (.iload 8, 2) := by decide +kernel
theorem J_MPlaceRows_differ_d74 : decode J_MPlaceRows_differ.2.1 74 = .ok (.iload 7, 2) := by decide +kernel
theorem J_MPlaceRows_differ_d76 : decode J_MPlaceRows_differ.2.1 76 = .ok (.invokevirtual 51, 3) := by decide +kernel
theorem J_MPlaceRows_differ_d79 : decode J_MPlaceRows_differ.2.1 79 = .ok (.bastore, 1) := by decide +kernel
theorem J_MPlaceRows_differ_d80 : decode J_MPlaceRows_differ.2.1 80 = .ok (.iinc 8 1, 3) := by decide +kernel
theorem J_MPlaceRows_differ_d83 : decode J_MPlaceRows_differ.2.1 83 = .ok (.goto (-66), 3) := by decide +kernel
theorem J_MPlaceRows_differ_d86 : decode J_MPlaceRows_differ.2.1 86 = .ok (.iinc 7 1, 3) := by decide +kernel
theorem J_MPlaceRows_differ_d89 : decode J_MPlaceRows_differ.2.1 89 = .ok (.goto (-83), 3) := by decide +kernel
theorem J_MPlaceRows_differ_d92 : decode J_MPlaceRows_differ.2.1 92 = .ok (.iload 6, 2) := by decide +kernel
theorem J_MPlaceRows_differ_d94 : decode J_MPlaceRows_differ.2.1 94 = .ok (.ireturn, 1) := by decide +kernel
theorem f_MPlaceRows_differ_ok {L : Nat} {xs : Nat → Int32} {dep : Nat} {w : Bool} {p0 : Int32} {p1 : Int32} {p2 : Int32} {p3 : Int32} {p4 : Int32} {M : im_M} {Q : Int32 × im_M → Prop} (hM : lw_S w M) (h : ed (f_MPlaceRows_differ p0 p1 p2 p3 p4 M) Q) : ia (tb_G L xs) (dep + 1) J_MPlaceRows_differ (rwI w Q) (0, lv_args 0 [.ref 130, .int p0, .int p1, .int p2, .int p3, .int p4], [], M) := by
  have hS : im_St (tb_G L xs) (dep + 1) J_MPlaceRows_differ (ia (tb_G L xs) (dep + 1) J_MPlaceRows_differ (rwI w Q)) := ia_St
  unfold f_MPlaceRows_differ at h
  have l0 : im_lk (lv_args 0 [.ref 130, .int p0, .int p1, .int p2, .int p3, .int p4]) 0 = some (.ref 130) := rfl
  have l1 : im_lk (lv_args 0 [.ref 130, .int p0, .int p1, .int p2, .int p3, .int p4]) 1 = some (.int p0) := rfl
  have l2 : im_lk (lv_args 0 [.ref 130, .int p0, .int p1, .int p2, .int p3, .int p4]) 2 = some (.int p1) := rfl
  have l3 : im_lk (lv_args 0 [.ref 130, .int p0, .int p1, .int p2, .int p3, .int p4]) 3 = some (.int p2) := rfl
  have l4 : im_lk (lv_args 0 [.ref 130, .int p0, .int p1, .int p2, .int p3, .int p4]) 4 = some (.int p3) := rfl
  have l5 : im_lk (lv_args 0 [.ref 130, .int p0, .int p1, .int p2, .int p3, .int p4]) 5 = some (.int p4) := rfl
  refine iq_iconst hS 1 J_MPlaceRows_differ_d0 (v := 0) (by decide +kernel) rfl ?_
  refine iq_istore hS 3 J_MPlaceRows_differ_d1 (by decide) rfl ?_
  refine iq_iload_n hS 4 J_MPlaceRows_differ_d3 (lk_1i l2 (by decide)) rfl ?_
  refine iq_istore hS 6 J_MPlaceRows_differ_d4 (by decide) rfl ?_
  obtain ⟨Q1, hQ1, h⟩ := bd2_ed h
  have K1 : ∀ (y2 : Int32) (M3 : im_M) (L' : List (Nat × Value)), lw_S w M3 → im_lk L' 6 = some (.int y2) → Q1 (y2, M3) → ia (tb_G L xs) (dep + 1) J_MPlaceRows_differ (rwI w Q) (92, L', [], M3) := by
    intro y2 M3 L' hM3 l4 h
    replace h := hQ1 _ _ h
    refine iq_iload hS 94 J_MPlaceRows_differ_d92 l4 rfl ?_
    exact iq_iret J_MPlaceRows_differ_d94 rfl rfl ⟨_, rfl, hM3, ed_some h⟩
  obtain ⟨r1, hr1, hq1⟩ := h
  obtain ⟨n1, hn1⟩ := lp_n hr1
  have I1 : ∀ (n : Nat) (x5 : Int32) (x6 : Int32) (M7 : im_M) (L' : List (Nat × Value)), lw_S w M7 → im_lk L' 0 = some (.ref 130) → im_lk L' 1 = some (.int p0) → im_lk L' 2 = some (.int p1) → im_lk L' 3 = some (.int p2) → im_lk L' 4 = some (.int p3) → im_lk L' 5 = some (.int p4) → im_lk L' 6 = some (.int x5) → im_lk L' 7 = some (.int x6) → lpn (uc3 (f_MPlaceRows_differ_L6 p0 p1 p2 p3 p4)) n (x5, x6, M7) = some r1 → ia (tb_G L xs) (dep + 1) J_MPlaceRows_differ (rwI w Q) (6, L', [], M7) := by
    intro n
    induction n with
    | zero => intro x5 x6 M7 L' hM7 l8 l9 l10 l11 l12 l13 l14 l15 hn; exact (lpn_0 hn).elim
    | succ n ih =>
      intro x5 x6 M7 L' hM7 l8 l9 l10 l11 l12 l13 l14 l15 hn
      have h := lpn_ed3 hn
      unfold f_MPlaceRows_differ_L6 at h
      refine iq_iload hS 8 J_MPlaceRows_differ_d6 l15 rfl ?_
      refine iq_iload_n hS 9 J_MPlaceRows_differ_d8 l10 rfl ?_
      refine iq_iload_n hS 10 J_MPlaceRows_differ_d9 l11 rfl ?_
      refine iq_iadd hS 11 J_MPlaceRows_differ_d10 rfl ?_
      refine iq_icmp_ge hS 14 J_MPlaceRows_differ_d11 (t := 92) rfl (fun q11 => ?_) rfl (fun q11 => ?_)
      · replace h := ed_pos q11 h
        exact K1 _ _ _ hM7 l14 (lq_r h hq1)
      · replace h := ed_neg q11 h
        refine iq_iload_n hS 15 J_MPlaceRows_differ_d14 l9 rfl ?_
        refine iq_istore hS 17 J_MPlaceRows_differ_d15 (by decide) rfl ?_
        obtain ⟨Q16, hQ16, h⟩ := bd2_ed h
        have K16 : ∀ (y17 : Int32) (M18 : im_M) (L' : List (Nat × Value)), lw_S w M18 → im_lk L' 0 = some (.ref 130) → im_lk L' 1 = some (.int p0) → im_lk L' 2 = some (.int p1) → im_lk L' 3 = some (.int p2) → im_lk L' 4 = some (.int p3) → im_lk L' 5 = some (.int p4) → im_lk L' 6 = some (.int y17) → im_lk L' 7 = some (.int x6) → Q16 (y17, M18) → ia (tb_G L xs) (dep + 1) J_MPlaceRows_differ (rwI w Q) (86, L', [], M18) := by
          intro y17 M18 L' hM18 l19 l20 l21 l22 l23 l24 l25 l26 h
          replace h := hQ16 _ _ h
          refine iq_iincv hS 89 J_MPlaceRows_differ_d86 (c := 1) (by decide +kernel) l26 (by decide) rfl ?_
          refine iq_goto hS J_MPlaceRows_differ_d89 (t := 6) rfl ?_
          exact ih _ _ _ _ hM18 (lk_1r l19 (by decide)) (lk_1i l20 (by decide)) (lk_1i l21 (by decide)) (lk_1i l22 (by decide)) (lk_1i l23 (by decide)) (lk_1i l24 (by decide)) (lk_1i l25 (by decide)) lk_1s (lq_l h)
        obtain ⟨r16, hr16, hq16⟩ := h
        obtain ⟨n16, hn16⟩ := lp_n hr16
        have I16 : ∀ (n : Nat) (x27 : Int32) (x28 : Int32) (M29 : im_M) (L' : List (Nat × Value)), lw_S w M29 → im_lk L' 0 = some (.ref 130) → im_lk L' 1 = some (.int p0) → im_lk L' 2 = some (.int p1) → im_lk L' 3 = some (.int p2) → im_lk L' 4 = some (.int p3) → im_lk L' 5 = some (.int p4) → im_lk L' 6 = some (.int x27) → im_lk L' 7 = some (.int x6) → im_lk L' 8 = some (.int x28) → lpn (uc3 (f_MPlaceRows_differ_L17 p0 p1 p2 p3 p4 x6)) n (x27, x28, M29) = some r16 → ia (tb_G L xs) (dep + 1) J_MPlaceRows_differ (rwI w Q) (17, L', [], M29) := by
          intro n
          induction n with
          | zero => intro x27 x28 M29 L' hM29 l30 l31 l32 l33 l34 l35 l36 l37 l38 hn; exact (lpn_0 hn).elim
          | succ n ih =>
            intro x27 x28 M29 L' hM29 l30 l31 l32 l33 l34 l35 l36 l37 l38 hn
            have h := lpn_ed3 hn
            unfold f_MPlaceRows_differ_L17 at h
            refine iq_iload hS 19 J_MPlaceRows_differ_d17 l38 rfl ?_
            refine iq_iload_n hS 20 J_MPlaceRows_differ_d19 l31 rfl ?_
            refine iq_iload_n hS 21 J_MPlaceRows_differ_d20 l33 rfl ?_
            refine iq_iadd hS 22 J_MPlaceRows_differ_d21 rfl ?_
            refine iq_icmp_ge hS 25 J_MPlaceRows_differ_d22 (t := 86) rfl (fun q22 => ?_) rfl (fun q22 => ?_)
            · replace h := ed_pos q22 h
              exact K16 _ _ _ hM29 l30 l31 l32 l33 l34 l35 l36 l37 (lq_r h hq16)
            · replace h := ed_neg q22 h
              refine iq_iload hS 27 J_MPlaceRows_differ_d25 l36 rfl ?_
              refine iq_aload_n hS 28 J_MPlaceRows_differ_d27 l30 rfl ?_
              refine iq_iload hS 30 J_MPlaceRows_differ_d28 l38 rfl ?_
              refine iq_iload hS 32 J_MPlaceRows_differ_d30 l37 rfl ?_
              obtain ⟨Q39, hQ39, h⟩ := bd1_ed h
              refine iq_cpI hS 35 J_MPlaceRows_differ_d32 rfl (pr_inst (vs := [_, _]) lc_14_51 lT_450 rfl rfl (by decide) (by decide) rfl (Nat.le_of_ble_eq_true rfl) (Nat.le_of_ble_eq_true rfl) (fun _ => Or.inl (pr_b (ka_130 hM29) (by decide) rfl))) (f_MPlaceRows_isDark_ok (dep := dep + 0) hM29 h) rfl ?_
              intro x39 h
              replace h := hQ39 _ h
              refine iq_iload hS 37 J_MPlaceRows_differ_d35 l34 rfl ?_
              have J40 : ∀ (z41 : Int32) (L' : List (Nat × Value)), z41 = ((if ¬ x39 = p3 then 1 else 0) : Int32) → im_lk L' 0 = some (.ref 130) → im_lk L' 1 = some (.int p0) → im_lk L' 2 = some (.int p1) → im_lk L' 3 = some (.int p2) → im_lk L' 4 = some (.int p3) → im_lk L' 5 = some (.int p4) → im_lk L' 7 = some (.int x6) → im_lk L' 8 = some (.int x28) → ia (tb_G L xs) (dep + 1) J_MPlaceRows_differ (rwI w Q) (45, L', [.int z41, .int x27], M29) := by
                intro z41 L' e42 l43 l44 l45 l46 l47 l48 l49 l50
                subst e42
                refine iq_iadd hS 46 J_MPlaceRows_differ_d45 rfl ?_
                refine iq_istore hS 48 J_MPlaceRows_differ_d46 (by decide) rfl ?_
                refine iq_aload_n hS 49 J_MPlaceRows_differ_d48 (lk_1r l43 (by decide)) rfl ?_
                refine iq_getR hS 52 J_MPlaceRows_differ_d49 lf_14_17 (Or.inr ⟨_, rfl⟩) (ka_130 hM29) (ra_130_3 hM29) rfl ?_
                refine iq_sipush hS 55 J_MPlaceRows_differ_d52 (v := 512) (by decide +kernel) rfl ?_
                refine iq_iload hS 57 J_MPlaceRows_differ_d55 (lk_1i l49 (by decide)) rfl ?_
                refine iq_imul hS 58 J_MPlaceRows_differ_d57 rfl ?_
                refine iq_iload hS 60 J_MPlaceRows_differ_d58 (lk_1i l50 (by decide)) rfl ?_
                refine iq_iadd hS 61 J_MPlaceRows_differ_d60 rfl ?_
                refine iq_iload hS 63 J_MPlaceRows_differ_d61 (lk_1i l48 (by decide)) rfl ?_
                obtain ⟨Q51, hQ51, h⟩ := bd1_ed h
                have J51 : ∀ (y53 : Int32) (L' : List (Nat × Value)), im_lk L' 0 = some (.ref 130) → im_lk L' 1 = some (.int p0) → im_lk L' 2 = some (.int p1) → im_lk L' 3 = some (.int p2) → im_lk L' 4 = some (.int p3) → im_lk L' 5 = some (.int p4) → im_lk L' 6 = some (.int (x27 + ((if ¬ x39 = p3 then 1 else 0) : Int32))) → im_lk L' 7 = some (.int x6) → im_lk L' 8 = some (.int x28) → Q51 y53 → ia (tb_G L xs) (dep + 1) J_MPlaceRows_differ (rwI w Q) (79, L', [.int y53, .int (((512 : Int32) * x6) + x28), .ref 131], M29) := by
                  intro y53 L' l54 l55 l56 l57 l58 l59 l60 l61 l62 h
                  replace h := hQ51 _ h
                  obtain ⟨g79, h⟩ := ed_gd h
                  refine iq_zastore hS 80 J_MPlaceRows_differ_d79 ⟨(ka_131 hM29).1, (ka_131 hM29).2, g79.1, ix_lt (kl_131 hM29) g79.2⟩ rfl ?_
                  refine iq_iincv hS 83 J_MPlaceRows_differ_d80 (c := 1) (by decide +kernel) l62 (by decide) rfl ?_
                  refine iq_goto hS J_MPlaceRows_differ_d83 (t := 17) rfl ?_
                  exact ih _ _ _ _ (lw_sI hM29) (lk_1r l54 (by decide)) (lk_1i l55 (by decide)) (lk_1i l56 (by decide)) (lk_1i l57 (by decide)) (lk_1i l58 (by decide)) (lk_1i l59 (by decide)) (lk_1i l60 (by decide)) (lk_1i l61 (by decide)) lk_1s (lq_l h)
                refine iq_if_eq hS 66 J_MPlaceRows_differ_d63 (t := 71) rfl (fun q63 => ?_) rfl (fun q63 => ?_)
                · replace h := ed_pos q63 h
                  refine iq_aload_n hS 72 J_MPlaceRows_differ_d71 (lk_1r l43 (by decide)) rfl ?_
                  refine iq_iload hS 74 J_MPlaceRows_differ_d72 (lk_1i l50 (by decide)) rfl ?_
                  refine iq_iload hS 76 J_MPlaceRows_differ_d74 (lk_1i l49 (by decide)) rfl ?_
                  obtain ⟨Q52, hQ52, h⟩ := bd1_ed h
                  refine iq_cpI hS 79 J_MPlaceRows_differ_d76 rfl (pr_inst (vs := [_, _]) lc_14_51 lT_450 rfl rfl (by decide) (by decide) rfl (Nat.le_of_ble_eq_true rfl) (Nat.le_of_ble_eq_true rfl) (fun _ => Or.inl (pr_b (ka_130 hM29) (by decide) rfl))) (f_MPlaceRows_isDark_ok (dep := dep + 0) hM29 h) rfl ?_
                  intro x52 h
                  replace h := hQ52 _ h
                  exact J51 _ _ (lk_1r l43 (by decide)) (lk_1i l44 (by decide)) (lk_1i l45 (by decide)) (lk_1i l46 (by decide)) (lk_1i l47 (by decide)) (lk_1i l48 (by decide)) lk_1s (lk_1i l49 (by decide)) (lk_1i l50 (by decide)) (ed_some h)
                · replace h := ed_neg q63 h
                  refine iq_iload hS 68 J_MPlaceRows_differ_d66 (lk_1i l47 (by decide)) rfl ?_
                  refine iq_goto hS J_MPlaceRows_differ_d68 (t := 79) rfl ?_
                  exact J51 _ _ (lk_1r l43 (by decide)) (lk_1i l44 (by decide)) (lk_1i l45 (by decide)) (lk_1i l46 (by decide)) (lk_1i l47 (by decide)) (lk_1i l48 (by decide)) lk_1s (lk_1i l49 (by decide)) (lk_1i l50 (by decide)) (ed_some h)
              refine iq_icmp_ne hS 40 J_MPlaceRows_differ_d37 (t := 44) rfl (fun q37 => ?_) rfl (fun q37 => ?_)
              · refine iq_iconst hS 45 J_MPlaceRows_differ_d44 (v := 1) (by decide +kernel) rfl ?_
                exact J40 _ _ (by simp only [if_pos q37]) l30 l31 l32 l33 l34 l35 l37 l38
              · refine iq_iconst hS 41 J_MPlaceRows_differ_d40 (v := 0) (by decide +kernel) rfl ?_
                refine iq_goto hS J_MPlaceRows_differ_d41 (t := 45) rfl ?_
                exact J40 _ _ (by simp only [if_neg q37]) l30 l31 l32 l33 l34 l35 l37 l38
        exact I16 n16 _ _ _ _ hM7 (lk_1r l8 (by decide)) (lk_1i l9 (by decide)) (lk_1i l10 (by decide)) (lk_1i l11 (by decide)) (lk_1i l12 (by decide)) (lk_1i l13 (by decide)) (lk_1i l14 (by decide)) (lk_1i l15 (by decide)) lk_1s hn16
  exact I1 n1 _ _ _ _ hM (lk_1r (lk_1r l0 (by decide)) (by decide)) (lk_1i (lk_1i l1 (by decide)) (by decide)) (lk_1i (lk_1i l2 (by decide)) (by decide)) (lk_1i (lk_1i l3 (by decide)) (by decide)) (lk_1i (lk_1i l4 (by decide)) (by decide)) (lk_1i (lk_1i l5 (by decide)) (by decide)) (lk_1i lk_1s (by decide)) lk_1s hn1
theorem f_MPlaceRows_differ_fr {p0 : Int32} {p1 : Int32} {p2 : Int32} {p3 : Int32} {p4 : Int32} {M : im_M} {r : Int32 × im_M} (h : f_MPlaceRows_differ p0 p1 p2 p3 p4 M = some r) : fr 2722258935367507707706996859454145691648 [] M r.2 := by
  replace h : ed (f_MPlaceRows_differ p0 p1 p2 p3 p4 M) (fun x => x = r) := ⟨r, h, rfl⟩
  unfold f_MPlaceRows_differ at h
  obtain ⟨Q1, hQ1, h⟩ := bd2_ed h
  have K1 : ∀ (y2 : Int32) (M3 : im_M), fr 2722258935367507707706996859454145691648 [] M M3 → Q1 (y2, M3) → fr 2722258935367507707706996859454145691648 [] M r.2 := by
    intro y2 M3 hM3 h
    replace h := hQ1 _ _ h
    exact fr_ret h hM3
  obtain ⟨r1, hr1, hq1⟩ := h
  obtain ⟨n1, hn1⟩ := lp_n hr1
  have I1 : ∀ (n : Nat) (x4 : Int32) (x5 : Int32) (M6 : im_M), fr 2722258935367507707706996859454145691648 [] M M6 → lpn (uc3 (f_MPlaceRows_differ_L6 p0 p1 p2 p3 p4)) n (x4, x5, M6) = some r1 → fr 2722258935367507707706996859454145691648 [] M r.2 := by
    intro n
    induction n with
    | zero => intro x4 x5 M6 hM6 hn; exact (lpn_0 hn).elim
    | succ n ih =>
      intro x4 x5 M6 hM6 hn
      have h := lpn_ed3 hn
      unfold f_MPlaceRows_differ_L6 at h
      by_cases q11 : (p1 + p2) ≤ x5
      · replace h := ed_pos q11 h
        exact K1 _ _ hM6 (lq_r h hq1)
      · replace h := ed_neg q11 h
        obtain ⟨Q7, hQ7, h⟩ := bd2_ed h
        have K7 : ∀ (y8 : Int32) (M9 : im_M), fr 2722258935367507707706996859454145691648 [] M M9 → Q7 (y8, M9) → fr 2722258935367507707706996859454145691648 [] M r.2 := by
          intro y8 M9 hM9 h
          replace h := hQ7 _ _ h
          exact ih _ _ _ hM9 (lq_l h)
        obtain ⟨r7, hr7, hq7⟩ := h
        obtain ⟨n7, hn7⟩ := lp_n hr7
        have I7 : ∀ (n : Nat) (x10 : Int32) (x11 : Int32) (M12 : im_M), fr 2722258935367507707706996859454145691648 [] M M12 → lpn (uc3 (f_MPlaceRows_differ_L17 p0 p1 p2 p3 p4 x5)) n (x10, x11, M12) = some r7 → fr 2722258935367507707706996859454145691648 [] M r.2 := by
          intro n
          induction n with
          | zero => intro x10 x11 M12 hM12 hn; exact (lpn_0 hn).elim
          | succ n ih =>
            intro x10 x11 M12 hM12 hn
            have h := lpn_ed3 hn
            unfold f_MPlaceRows_differ_L17 at h
            by_cases q22 : (p0 + p2) ≤ x11
            · replace h := ed_pos q22 h
              exact K7 _ _ hM12 (lq_r h hq7)
            · replace h := ed_neg q22 h
              obtain ⟨Q13, hQ13, h⟩ := bd1_ed h
              obtain ⟨x13, e13, h⟩ := h
              replace h := hQ13 _ h
              obtain ⟨Q15, hQ15, h⟩ := bd1_ed h
              have J15 : ∀ (y17 : Int32), Q15 y17 → fr 2722258935367507707706996859454145691648 [] M r.2 := by
                intro y17 h
                replace h := hQ15 _ h
                obtain ⟨g79, h⟩ := ed_gd h
                exact ih _ _ _ (fr_I (by decide) hM12) (lq_l h)
              by_cases q63 : p4 = 0
              · replace h := ed_pos q63 h
                obtain ⟨Q16, hQ16, h⟩ := bd1_ed h
                obtain ⟨x16, e16, h⟩ := h
                replace h := hQ16 _ h
                exact J15 _ (ed_some h)
              · replace h := ed_neg q63 h
                exact J15 _ (ed_some h)
        exact I7 n7 _ _ _ hM6 hn7
  exact I1 n1 _ _ _ fr_refl hn1
noncomputable def f_MPlaceRows_modules_L78 (v4 : Int32) (v5 : Int32) (v6 : Int32) (v7 : Int32) (v8 : Int32) (v9 : Int32) (x10 : Int64) (x11 : Int32) (M12 : im_M) : Option ((Int64 × Int32 × im_M) ⊕ (Int64 × im_M)) := if 64 ≤ x11 then some (.inr (x10, M12)) else bd2 (if (lg_cmp ((Int32.toInt64 v5) + (Int32.toInt64 x11)) 0) < 0 then some (x10, M12) else if 0 ≤ (lg_cmp ((Int32.toInt64 v5) + (Int32.toInt64 x11)) (Int32.toInt64 v8)) then some (x10, M12) else if v6 < 0 then some (x10, M12) else if v8 ≤ v6 then some (x10, M12) else gd (inb ((6 : Int32) * v4) 1800) <| bd1 (f_MPlaceRows_blockX v8 (Int64.toInt32 ((Int32.toInt64 v5) + (Int32.toInt64 x11))) v6 v9 M12) fun (x14 : Int32) => gd (inb (((6 : Int32) * v4) + 1) 1800) <| bd1 (f_MPlaceRows_blockY v8 (Int64.toInt32 ((Int32.toInt64 v5) + (Int32.toInt64 x11))) v6 v9 M12) fun (x15 : Int32) => bd2 (f_MPlaceRows_differ ((im_i M12 135 (Int32.toNatClampNeg ((6 : Int32) * v4))) + (v7 * x14)) ((im_i M12 135 (Int32.toNatClampNeg (((6 : Int32) * v4) + 1))) + (v7 * x15)) v7 0 0 M12) fun (x16 : Int32) (M16 : im_M) => some ((x10 ||| ((if ((2 : Int32) * x16) ≤ (v7 * v7) then 0 else ((1 : Int64) <<< (Int32.toInt64 x11 &&& 63) : Int64)) : Int64)), M16)) fun (y18 : Int64) (M19 : im_M) => some (.inl (y18, (x11 + 1), M19))
noncomputable def f_MPlaceRows_modules (p0 : Int32) (p1 : Int32) (p2 : Int32) (M : im_M) : Option (Int64 × im_M) := if (im_i (im_setI M 130 0 ((if p0 < 0 then 1 else (if p0 < (im_i M 130 10) then 0 else 1)) : Int32)) 130 0) ≤ 0 then gd (inb (((6 : Int32) * p0) + 2) 1800) <| gd (inb (((6 : Int32) * p0) + 3) 1800) <| bd1 (f_MPlaceRows_side (im_i (im_setI M 130 0 ((if p0 < 0 then 1 else (if p0 < (im_i M 130 10) then 0 else 1)) : Int32)) 135 (Int32.toNatClampNeg (((6 : Int32) * p0) + 3))) (im_setI M 130 0 ((if p0 < 0 then 1 else (if p0 < (im_i M 130 10) then 0 else 1)) : Int32))) fun (x2 : Int32) => gd (inb (((6 : Int32) * p0) + 4) 1800) <| bd2 (lp (uc3 (f_MPlaceRows_modules_L78 p0 p1 p2 (im_i (im_setI M 130 0 ((if p0 < 0 then 1 else (if p0 < (im_i M 130 10) then 0 else 1)) : Int32)) 135 (Int32.toNatClampNeg (((6 : Int32) * p0) + 2))) x2 (im_i (im_setI M 130 0 ((if p0 < 0 then 1 else (if p0 < (im_i M 130 10) then 0 else 1)) : Int32)) 135 (Int32.toNatClampNeg (((6 : Int32) * p0) + 4))))) (0, 0, (im_setI M 130 0 ((if p0 < 0 then 1 else (if p0 < (im_i M 130 10) then 0 else 1)) : Int32)))) fun (y29 : Int64) (M30 : im_M) => some (y29, M30) else some (0, (im_setI M 130 0 ((if p0 < 0 then 1 else (if p0 < (im_i M 130 10) then 0 else 1)) : Int32)))
theorem J_MPlaceRows_modules_d0 : decode J_MPlaceRows_modules.2.1 0 = .ok (.aload_n 0, 1) := by decide +kernel
theorem J_MPlaceRows_modules_d1 : decode J_MPlaceRows_modules.2.1 1 = .ok (.iload_n 1, 1) := by decide +kernel
theorem J_MPlaceRows_modules_d2 : decode J_MPlaceRows_modules.2.1 2 = .ok (.ifCond .lt 11, 3) := by decide +kernel
theorem J_MPlaceRows_modules_d5 : decode J_MPlaceRows_modules.2.1 5 = .ok (.iload_n 1, 1) := by decide +kernel
theorem J_MPlaceRows_modules_d6 : decode J_MPlaceRows_modules.2.1 6 = .ok (.aload_n 0, 1) := by decide +kernel
theorem J_MPlaceRows_modules_d7 : decode J_MPlaceRows_modules.2.1 7 = .ok (.getfield 41, 3) := by decide +kernel
theorem J_MPlaceRows_modules_d10 : decode J_MPlaceRows_modules.2.1 10 = .ok (.if_icmp .lt 7, 3) := by decide +kernel
theorem J_MPlaceRows_modules_d13 : decode J_MPlaceRows_modules.2.1 13 = .ok (.iconst 1, 1) := by decide +kernel
theorem J_MPlaceRows_modules_d14 : decode J_MPlaceRows_modules.2.1 14 = .ok (.goto 4, 3) := by decide +kernel
theorem J_MPlaceRows_modules_d17 : decode J_MPlaceRows_modules.2.1 17 = .ok (.iconst 0, 1) := by decide +kernel
theorem J_MPlaceRows_modules_d18 : decode J_MPlaceRows_modules.2.1 18 = .ok (.putfield 35, 3) := by decide +kernel
theorem J_MPlaceRows_modules_d21 : decode J_MPlaceRows_modules.2.1 21 = .ok (.aload_n 0, 1) := by decide +kernel
theorem J_MPlaceRows_modules_d22 : decode J_MPlaceRows_modules.2.1 22 = .ok (.getfield 35, 3) := by decide +kernel
theorem J_MPlaceRows_modules_d25 : decode J_MPlaceRows_modules.2.1 25 = .ok (.ifCond .le 5, 3) := by decide +kernel
theorem J_MPlaceRows_modules_d28 : decode J_MPlaceRows_modules.2.1 28 = .ok (.lconst 0, 1) := by decide +kernel
theorem J_MPlaceRows_modules_d29 : decode J_MPlaceRows_modules.2.1 29 = .ok (.lreturn, 1) := by decide +kernel
theorem J_MPlaceRows_modules_d30 : decode J_MPlaceRows_modules.2.1 30 = .ok (.aload_n 0, 1) := by decide +kernel
theorem J_MPlaceRows_modules_d31 : decode J_MPlaceRows_modules.2.1 31 = .ok (.getfield 32, 3) := by decide +kernel
theorem J_MPlaceRows_modules_d34 : decode J_MPlaceRows_modules.2.1 34 = .ok (.bipush 6, 2) := by decide +kernel
theorem J_MPlaceRows_modules_d36 : decode J_MPlaceRows_modules.2.1 36 = .ok (.iload_n 1, 1) := by decide +kernel
theorem J_MPlaceRows_modules_d37 : decode J_MPlaceRows_modules.2.1 37 = .ok (.imul, 1) := by decide +kernel
theorem J_MPlaceRows_modules_d38 : decode J_MPlaceRows_modules.2.1 38 = .ok (.iconst 2, 1) := by decide +kernel
theorem J_MPlaceRows_modules_d39 : decode J_MPlaceRows_modules.2.1 39 = .ok (.iadd, 1) := by decide +kernel
theorem J_MPlaceRows_modules_d40 : decode J_MPlaceRows_modules.2.1 40 = .ok (.iaload, 1) := by decide +kernel
theorem J_MPlaceRows_modules_d41 : decode J_MPlaceRows_modules.2.1 41 = .ok (.istore 4, 2) := by decide +kernel
theorem J_MPlaceRows_modules_d43 : decode J_MPlaceRows_modules.2.1 43 = .ok (.aload_n 0, 1) := by decide +kernel
theorem J_MPlaceRows_modules_d44 : decode J_MPlaceRows_modules.2.1 44 = .ok (.getfield 32, 3) := by decide +kernel
theorem J_MPlaceRows_modules_d47 : decode J_MPlaceRows_modules.2.1 47 = .ok (.bipush 6, 2) := by decide +kernel
theorem J_MPlaceRows_modules_d49 : decode J_MPlaceRows_modules.2.1 49 = .ok (.iload_n 1, 1) := by decide +kernel
theorem J_MPlaceRows_modules_d50 : decode J_MPlaceRows_modules.2.1 50 = .ok (.imul, 1) := by decide +kernel
theorem J_MPlaceRows_modules_d51 : decode J_MPlaceRows_modules.2.1 51 = .ok (.iconst 3, 1) := by decide +kernel
theorem J_MPlaceRows_modules_d52 : decode J_MPlaceRows_modules.2.1 52 = .ok (.iadd, 1) := by decide +kernel
theorem J_MPlaceRows_modules_d53 : decode J_MPlaceRows_modules.2.1 53 = .ok (.iaload, 1) := by decide +kernel
theorem J_MPlaceRows_modules_d54 : decode J_MPlaceRows_modules.2.1 54 = .ok (.invokestatic 59, 3) := by decide +kernel
theorem J_MPlaceRows_modules_d57 : decode J_MPlaceRows_modules.2.1 57 = .ok (.istore 5, 2) := by decide +kernel
theorem J_MPlaceRows_modules_d59 : decode J_MPlaceRows_modules.2.1 59 = .ok (.aload_n 0, 1) := by decide +kernel
theorem J_MPlaceRows_modules_d60 : decode J_MPlaceRows_modules.2.1 60 = .ok (.getfield 32, 3) := by decide +kernel
theorem J_MPlaceRows_modules_d63 : decode J_MPlaceRows_modules.2.1 63 = .ok (.bipush 6, 2) := by decide +kernel
theorem J_MPlaceRows_modules_d65 : decode J_MPlaceRows_modules.2.1 65 = .ok (.iload_n 1, 1) := by decide +kernel
theorem J_MPlaceRows_modules_d66 : decode J_MPlaceRows_modules.2.1 66 = .ok (.imul, 1) := by decide +kernel
theorem J_MPlaceRows_modules_d67 : decode J_MPlaceRows_modules.2.1 67 = .ok (.iconst 4, 1) := by decide +kernel
theorem J_MPlaceRows_modules_d68 : decode J_MPlaceRows_modules.2.1 68 = .ok (.iadd, 1) := by decide +kernel
theorem J_MPlaceRows_modules_d69 : decode J_MPlaceRows_modules.2.1 69 = .ok (.iaload, 1) := by decide +kernel
theorem J_MPlaceRows_modules_d70 : decode J_MPlaceRows_modules.2.1 70 = .ok (.istore 6, 2) := by decide +kernel
theorem J_MPlaceRows_modules_d72 : decode J_MPlaceRows_modules.2.1 72 = .ok (.lconst 0, 1) := by decide +kernel
theorem J_MPlaceRows_modules_d73 : decode J_MPlaceRows_modules.2.1 73 = .ok (.lstore 7, 2) := by decide +kernel
theorem J_MPlaceRows_modules_d75 : decode J_MPlaceRows_modules.2.1 75 = .ok (.iconst 0, 1) := by decide +kernel
theorem J_MPlaceRows_modules_d76 : decode J_MPlaceRows_modules.2.1 76 = .ok (.istore 9, 2) := by decide +kernel
theorem J_MPlaceRows_modules_d78 : decode J_MPlaceRows_modules.2.1 78 = .ok (.iload 9, 2) := by decide +kernel
theorem J_MPlaceRows_modules_d80 : decode J_MPlaceRows_modules.2.1 80 = .ok (.bipush 64, 2) := by decide +kernel
theorem J_MPlaceRows_modules_d82 : decode J_MPlaceRows_modules.2.1 82 = .ok (.if_icmp .ge 136, 3) := by decide +kernel
theorem J_MPlaceRows_modules_d85 : decode J_MPlaceRows_modules.2.1 85 = .ok (.iload_n 2, 1) := by decide +kernel
theorem J_MPlaceRows_modules_d86 : decode J_MPlaceRows_modules.2.1 86 = .ok (.i2l, 1) := by decide +kernel
theorem J_MPlaceRows_modules_d87 : decode J_MPlaceRows_modules.2.1 87 = .ok (.iload 9, 2) := by decide +kernel
theorem J_MPlaceRows_modules_d89 : decode J_MPlaceRows_modules.2.1 89 = .ok (.i2l, 1) := by decide +kernel
theorem J_MPlaceRows_modules_d90 : decode J_MPlaceRows_modules.2.1 90 = .ok (.ladd, 1) := by decide +kernel
theorem J_MPlaceRows_modules_d91 : decode J_MPlaceRows_modules.2.1 91 = .ok (.lstore 10, 2) := by decide +kernel
theorem J_MPlaceRows_modules_d93 : decode J_MPlaceRows_modules.2.1 93 = .ok (.lload 10, 2) := by decide +kernel
theorem J_MPlaceRows_modules_d95 : decode J_MPlaceRows_modules.2.1 95 = .ok (.lconst 0, 1) := by decide +kernel
theorem J_MPlaceRows_modules_d96 : decode J_MPlaceRows_modules.2.1 96 = .ok (.lcmp, 1) := by decide +kernel
theorem J_MPlaceRows_modules_d97 : decode J_MPlaceRows_modules.2.1 97 = .ok (.ifCond .lt 115, 3) := by decide +kernel
theorem J_MPlaceRows_modules_d100 : decode J_MPlaceRows_modules.2.1 100 = .ok (.lload 10, 2) := by decide +kernel
theorem J_MPlaceRows_modules_d102 : decode J_MPlaceRows_modules.2.1 102 = .ok (.iload 5, 2) := by decide +kernel
theorem J_MPlaceRows_modules_d104 : decode J_MPlaceRows_modules.2.1 104 = .ok (.i2l, 1) := by decide +kernel
theorem J_MPlaceRows_modules_d105 : decode J_MPlaceRows_modules.2.1 105 = .ok (.lcmp, 1) := by decide +kernel
theorem J_MPlaceRows_modules_d106 : decode J_MPlaceRows_modules.2.1 106 = .ok (.ifCond .ge 106, 3) := by decide +kernel
theorem J_MPlaceRows_modules_d109 : decode J_MPlaceRows_modules.2.1 109 = .ok (.iload_n 3, 1) := by decide +kernel
theorem J_MPlaceRows_modules_d110 : decode J_MPlaceRows_modules.2.1 110 = .ok (.ifCond .lt 102, 3) := by decide +kernel
theorem J_MPlaceRows_modules_d113 : decode J_MPlaceRows_modules.2.1 113 = .ok (.iload_n 3, 1) := by decide +kernel
theorem J_MPlaceRows_modules_d114 : decode J_MPlaceRows_modules.2.1 114 = .ok (.iload 5, 2) := by decide +kernel
theorem J_MPlaceRows_modules_d116 : decode J_MPlaceRows_modules.2.1 116 = .ok (.if_icmp .ge 96, 3) := by decide +kernel
theorem J_MPlaceRows_modules_d119 : decode J_MPlaceRows_modules.2.1 119 = .ok (.aload_n 0, 1) := by decide +kernel
theorem J_MPlaceRows_modules_d120 : decode J_MPlaceRows_modules.2.1 120 = .ok (.getfield 32, 3) := by decide +kernel
theorem J_MPlaceRows_modules_d123 : decode J_MPlaceRows_modules.2.1 123 = .ok (.bipush 6, 2) := by decide +kernel
theorem J_MPlaceRows_modules_d125 : decode J_MPlaceRows_modules.2.1 125 = .ok (.iload_n 1, 1) := by decide +kernel
theorem J_MPlaceRows_modules_d126 : decode J_MPlaceRows_modules.2.1 126 = .ok (.imul, 1) := by decide +kernel
theorem J_MPlaceRows_modules_d127 : decode J_MPlaceRows_modules.2.1 127 = .ok (.iaload, 1) := by decide +kernel
theorem J_MPlaceRows_modules_d128 : decode J_MPlaceRows_modules.2.1 128 = .ok (.iload 4, 2) := by decide +kernel
theorem J_MPlaceRows_modules_d130 : decode J_MPlaceRows_modules.2.1 130 = .ok (.iload 5, 2) := by decide +kernel
theorem J_MPlaceRows_modules_d132 : decode J_MPlaceRows_modules.2.1 132 = .ok (.lload 10, 2) := by decide +kernel
theorem J_MPlaceRows_modules_d134 : decode J_MPlaceRows_modules.2.1 134 = .ok (.l2i, 1) := by decide +kernel
theorem J_MPlaceRows_modules_d135 : decode J_MPlaceRows_modules.2.1 135 = .ok (.iload_n 3, 1) := by decide +kernel
theorem J_MPlaceRows_modules_d136 : decode J_MPlaceRows_modules.2.1 136 = .ok (.iload 6, 2) := by decide +kernel
theorem J_MPlaceRows_modules_d138 : decode J_MPlaceRows_modules.2.1 138 = .ok (.invokestatic 75, 3) := by decide +kernel
theorem J_MPlaceRows_modules_d141 : decode J_MPlaceRows_modules.2.1 141 = .ok (.imul, 1) := by decide +kernel
theorem J_MPlaceRows_modules_d142 : decode J_MPlaceRows_modules.2.1 142 = .ok (.iadd, 1) := by decide +kernel
theorem J_MPlaceRows_modules_d143 : decode J_MPlaceRows_modules.2.1 143 = .ok (.istore 12, 2) := by decide +kernel
theorem J_MPlaceRows_modules_d145 : decode J_MPlaceRows_modules.2.1 145 = .ok (.aload_n 0, 1) := by decide +kernel
theorem J_MPlaceRows_modules_d146 : decode J_MPlaceRows_modules.2.1 146 = .ok (.getfield 32, 3) := by decide +kernel
theorem J_MPlaceRows_modules_d149 : decode J_MPlaceRows_modules.2.1 149 = .ok (.bipush 6, 2) := by decide +kernel
theorem J_MPlaceRows_modules_d151 : decode J_MPlaceRows_modules.2.1 151 = .ok (.iload_n 1, 1) := by decide +kernel
theorem J_MPlaceRows_modules_d152 : decode J_MPlaceRows_modules.2.1 152 = .ok (.imul, 1) := by decide +kernel
theorem J_MPlaceRows_modules_d153 : decode J_MPlaceRows_modules.2.1 153 = .ok (.iconst 1, 1) := by decide +kernel
theorem J_MPlaceRows_modules_d154 : decode J_MPlaceRows_modules.2.1 154 = .ok (.iadd, 1) := by decide +kernel
theorem J_MPlaceRows_modules_d155 : decode J_MPlaceRows_modules.2.1 155 = .ok (.iaload, 1) := by decide +kernel
theorem J_MPlaceRows_modules_d156 : decode J_MPlaceRows_modules.2.1 156 = .ok (.iload 4, 2) := by decide +kernel
theorem J_MPlaceRows_modules_d158 : decode J_MPlaceRows_modules.2.1 158 = .ok (.iload 5, 2) := by decide +kernel
theorem J_MPlaceRows_modules_d160 : decode J_MPlaceRows_modules.2.1 160 = .ok (.lload 10, 2) := by decide +kernel
theorem J_MPlaceRows_modules_d162 : decode J_MPlaceRows_modules.2.1 162 = .ok (.l2i, 1) := by decide +kernel
theorem J_MPlaceRows_modules_d163 : decode J_MPlaceRows_modules.2.1 163 = .ok (.iload_n 3, 1) := by decide +kernel
theorem J_MPlaceRows_modules_d164 : decode J_MPlaceRows_modules.2.1 164 = .ok (.iload 6, 2) := by decide +kernel
theorem J_MPlaceRows_modules_d166 : decode J_MPlaceRows_modules.2.1 166 = .ok (.invokestatic 78, 3) := by decide +kernel
theorem J_MPlaceRows_modules_d169 : decode J_MPlaceRows_modules.2.1 169 = .ok (.imul, 1) := by decide +kernel
theorem J_MPlaceRows_modules_d170 : decode J_MPlaceRows_modules.2.1 170 = .ok (.iadd, 1) := by decide +kernel
theorem J_MPlaceRows_modules_d171 : decode J_MPlaceRows_modules.2.1 171 = .ok (.istore 13, 2) := by decide +kernel
theorem J_MPlaceRows_modules_d173 : decode J_MPlaceRows_modules.2.1 173 = .ok (.aload_n 0, 1) := by decide +kernel
theorem J_MPlaceRows_modules_d174 : decode J_MPlaceRows_modules.2.1 174 = .ok (.iload 12, 2) := by decide +kernel
theorem J_MPlaceRows_modules_d176 : decode J_MPlaceRows_modules.2.1 176 = .ok (.iload 13, 2) := by decide +kernel
theorem J_MPlaceRows_modules_d178 : decode J_MPlaceRows_modules.2.1 178 = .ok (.iload 4, 2) := by decide +kernel
theorem J_MPlaceRows_modules_d180 : decode J_MPlaceRows_modules.2.1 180 = .ok (.iconst 0, 1) := by decide +kernel
theorem J_MPlaceRows_modules_d181 : decode J_MPlaceRows_modules.2.1 181 = .ok (.iconst 0, 1) := by decide +kernel
theorem J_MPlaceRows_modules_d182 : decode J_MPlaceRows_modules.2.1 182 = .ok (.invokevirtual 81, 3) := by decide +kernel
theorem J_MPlaceRows_modules_d185 : decode J_MPlaceRows_modules.2.1 185 = .ok (.istore 14, 2) := by decide +kernel
theorem J_MPlaceRows_modules_d187 : decode J_MPlaceRows_modules.2.1 187 = .ok (.lload 7, 2) := by decide +kernel
theorem J_MPlaceRows_modules_d189 : decode J_MPlaceRows_modules.2.1 189 = .ok (.iconst 2, 1) := by decide +kernel
theorem J_MPlaceRows_modules_d190 : decode J_MPlaceRows_modules.2.1 190 = .ok (.iload 14, 2) := by decide +kernel
theorem J_MPlaceRows_modules_d192 : decode J_MPlaceRows_modules.2.1 192 = .ok (.imul, 1) := by decide +kernel
theorem J_MPlaceRows_modules_d193 : decode J_MPlaceRows_modules.2.1 193 = .ok (.iload 4, 2) := by decide +kernel
theorem J_MPlaceRows_modules_d195 : decode J_MPlaceRows_modules.2.1 195 = .ok (.iload 4, 2) := by decide +kernel
theorem J_MPlaceRows_modules_d197 : decode J_MPlaceRows_modules.2.1 197 = .ok (.imul, 1) := by decide +kernel
theorem J_MPlaceRows_modules_d198 : decode J_MPlaceRows_modules.2.1 198 = .ok (.if_icmp .le 10, 3) := by decide +kernel
theorem J_MPlaceRows_modules_d201 : decode J_MPlaceRows_modules.2.1 201 = .ok (.lconst 1, 1) := by decide +kernel
theorem J_MPlaceRows_modules_d202 : decode J_MPlaceRows_modules.2.1 202 = .ok (.iload 9, 2) := by decide +kernel
theorem J_MPlaceRows_modules_d204 : decode J_MPlaceRows_modules.2.1 204 = .ok (.lshl, 1) := by decide +kernel
theorem J_MPlaceRows_modules_d205 : decode J_MPlaceRows_modules.2.1 205 = .ok (.goto 4, 3) := by decide +kernel
theorem J_MPlaceRows_modules_d208 : decode J_MPlaceRows_modules.2.1 208 = .ok (.lconst 0, 1) := by decide +kernel
theorem J_MPlaceRows_modules_d209 : decode J_MPlaceRows_modules.2.1 209 = .ok (.lor, 1) := by decide +kernel
theorem J_MPlaceRows_modules_d210 : decode J_MPlaceRows_modules.2.1 210 = .ok (.lstore 7, 2) := by decide +kernel
theorem J_MPlaceRows_modules_d212 : decode J_MPlaceRows_modules.2.1 212 = .ok (.iinc 9 1, 3) := by decide +kernel
theorem J_MPlaceRows_modules_d215 : decode J_MPlaceRows_modules.2.1 215 = .ok (.goto (-137), 3) := by decide +kernel
theorem J_MPlaceRows_modules_d218 : decode J_MPlaceRows_modules.2.1 218 = .ok (.lload 7, 2) := by decide +kernel
theorem J_MPlaceRows_modules_d220 : decode J_MPlaceRows_modules.2.1 220 = .ok (.lreturn, 1) := by decide +kernel
theorem f_MPlaceRows_modules_ok {L : Nat} {xs : Nat → Int32} {dep : Nat} {w : Bool} {p0 : Int32} {p1 : Int32} {p2 : Int32} {M : im_M} {Q : Int64 × im_M → Prop} (hM : lw_S w M) (h : ed (f_MPlaceRows_modules p0 p1 p2 M) Q) : ia (tb_G L xs) (dep + 2) J_MPlaceRows_modules (rwL w Q) (0, lv_args 0 [.ref 130, .int p0, .int p1, .int p2], [], M) := by
  have hS : im_St (tb_G L xs) (dep + 2) J_MPlaceRows_modules (ia (tb_G L xs) (dep + 2) J_MPlaceRows_modules (rwL w Q)) := ia_St
  unfold f_MPlaceRows_modules at h
  have l0 : im_lk (lv_args 0 [.ref 130, .int p0, .int p1, .int p2]) 0 = some (.ref 130) := rfl
  have l1 : im_lk (lv_args 0 [.ref 130, .int p0, .int p1, .int p2]) 1 = some (.int p0) := rfl
  have l2 : im_lk (lv_args 0 [.ref 130, .int p0, .int p1, .int p2]) 2 = some (.int p1) := rfl
  have l3 : im_lk (lv_args 0 [.ref 130, .int p0, .int p1, .int p2]) 3 = some (.int p2) := rfl
  refine iq_aload_n hS 1 J_MPlaceRows_modules_d0 l0 rfl ?_
  refine iq_iload_n hS 2 J_MPlaceRows_modules_d1 l1 rfl ?_
  have J1 : ∀ (z2 : Int32) (L' : List (Nat × Value)), z2 = ((if p0 < 0 then 1 else (if p0 < (im_i M 130 10) then 0 else 1)) : Int32) → im_lk L' 0 = some (.ref 130) → im_lk L' 1 = some (.int p0) → im_lk L' 2 = some (.int p1) → im_lk L' 3 = some (.int p2) → ia (tb_G L xs) (dep + 2) J_MPlaceRows_modules (rwL w Q) (18, L', [.int z2, .ref 130], M) := by
    intro z2 L' e3 l4 l5 l6 l7
    subst e3
    refine iq_putI hS 21 J_MPlaceRows_modules_d18 lf_14_35 (Or.inl rfl) rfl (ka_130 hM) rfl ?_
    refine iq_aload_n hS 22 J_MPlaceRows_modules_d21 l4 rfl ?_
    refine iq_getI hS 25 J_MPlaceRows_modules_d22 lf_14_35 (Or.inl rfl) (ka_130 (lw_sI hM)) rfl ?_
    refine iq_if_le hS 28 J_MPlaceRows_modules_d25 (t := 30) rfl (fun q25 => ?_) rfl (fun q25 => ?_)
    · replace h := ed_pos q25 h
      refine iq_aload_n hS 31 J_MPlaceRows_modules_d30 l4 rfl ?_
      refine iq_getR hS 34 J_MPlaceRows_modules_d31 lf_14_32 (Or.inr ⟨_, rfl⟩) (ka_130 (lw_sI hM)) (ra_130_9 (lw_sI hM)) rfl ?_
      refine iq_bipush hS 36 J_MPlaceRows_modules_d34 (v := 6) (by decide +kernel) rfl ?_
      refine iq_iload_n hS 37 J_MPlaceRows_modules_d36 l5 rfl ?_
      refine iq_imul hS 38 J_MPlaceRows_modules_d37 rfl ?_
      refine iq_iconst hS 39 J_MPlaceRows_modules_d38 (v := 2) (by decide +kernel) rfl ?_
      refine iq_iadd hS 40 J_MPlaceRows_modules_d39 rfl ?_
      obtain ⟨g40, h⟩ := ed_gd h
      refine iq_iaload hS 41 J_MPlaceRows_modules_d40 ⟨(ka_135 (lw_sI hM)).1, (ka_135 (lw_sI hM)).2, g40.1, ix_lt (kl_135 (lw_sI hM)) g40.2⟩ rfl ?_
      refine iq_istore hS 43 J_MPlaceRows_modules_d41 (by decide) rfl ?_
      refine iq_aload_n hS 44 J_MPlaceRows_modules_d43 (lk_1r l4 (by decide)) rfl ?_
      refine iq_getR hS 47 J_MPlaceRows_modules_d44 lf_14_32 (Or.inr ⟨_, rfl⟩) (ka_130 (lw_sI hM)) (ra_130_9 (lw_sI hM)) rfl ?_
      refine iq_bipush hS 49 J_MPlaceRows_modules_d47 (v := 6) (by decide +kernel) rfl ?_
      refine iq_iload_n hS 50 J_MPlaceRows_modules_d49 (lk_1i l5 (by decide)) rfl ?_
      refine iq_imul hS 51 J_MPlaceRows_modules_d50 rfl ?_
      refine iq_iconst hS 52 J_MPlaceRows_modules_d51 (v := 3) (by decide +kernel) rfl ?_
      refine iq_iadd hS 53 J_MPlaceRows_modules_d52 rfl ?_
      obtain ⟨g53, h⟩ := ed_gd h
      refine iq_iaload hS 54 J_MPlaceRows_modules_d53 ⟨(ka_135 (lw_sI hM)).1, (ka_135 (lw_sI hM)).2, g53.1, ix_lt (kl_135 (lw_sI hM)) g53.2⟩ rfl ?_
      obtain ⟨Q8, hQ8, h⟩ := bd1_ed h
      refine iq_cpI hS 57 J_MPlaceRows_modules_d54 rfl (pr_stat (vs := [_]) lc_14_59 lT_464 rfl rfl (by decide) rfl (Nat.le_of_ble_eq_true rfl) (Nat.le_of_ble_eq_true rfl)) (f_MPlaceRows_side_ok (dep := dep + 1) (lw_sI hM) h) rfl ?_
      intro x8 h
      replace h := hQ8 _ h
      refine iq_istore hS 59 J_MPlaceRows_modules_d57 (by decide) rfl ?_
      refine iq_aload_n hS 60 J_MPlaceRows_modules_d59 (lk_1r (lk_1r l4 (by decide)) (by decide)) rfl ?_
      refine iq_getR hS 63 J_MPlaceRows_modules_d60 lf_14_32 (Or.inr ⟨_, rfl⟩) (ka_130 (lw_sI hM)) (ra_130_9 (lw_sI hM)) rfl ?_
      refine iq_bipush hS 65 J_MPlaceRows_modules_d63 (v := 6) (by decide +kernel) rfl ?_
      refine iq_iload_n hS 66 J_MPlaceRows_modules_d65 (lk_1i (lk_1i l5 (by decide)) (by decide)) rfl ?_
      refine iq_imul hS 67 J_MPlaceRows_modules_d66 rfl ?_
      refine iq_iconst hS 68 J_MPlaceRows_modules_d67 (v := 4) (by decide +kernel) rfl ?_
      refine iq_iadd hS 69 J_MPlaceRows_modules_d68 rfl ?_
      obtain ⟨g69, h⟩ := ed_gd h
      refine iq_iaload hS 70 J_MPlaceRows_modules_d69 ⟨(ka_135 (lw_sI hM)).1, (ka_135 (lw_sI hM)).2, g69.1, ix_lt (kl_135 (lw_sI hM)) g69.2⟩ rfl ?_
      refine iq_istore hS 72 J_MPlaceRows_modules_d70 (by decide) rfl ?_
      refine iq_lconst hS 73 J_MPlaceRows_modules_d72 (v := 0) (by decide +kernel) rfl ?_
      refine iq_lstore hS 75 J_MPlaceRows_modules_d73 (by decide) rfl ?_
      refine iq_iconst hS 76 J_MPlaceRows_modules_d75 (v := 0) (by decide +kernel) rfl ?_
      refine iq_istore hS 78 J_MPlaceRows_modules_d76 (by decide) rfl ?_
      obtain ⟨Q9, hQ9, h⟩ := bd2_ed h
      have K9 : ∀ (y10 : Int64) (M11 : im_M) (L' : List (Nat × Value)), lw_S w M11 → im_lk L' 7 = some (.long y10) → Q9 (y10, M11) → ia (tb_G L xs) (dep + 2) J_MPlaceRows_modules (rwL w Q) (218, L', [], M11) := by
        intro y10 M11 L' hM11 l12 h
        replace h := hQ9 _ _ h
        refine iq_lload hS 220 J_MPlaceRows_modules_d218 l12 rfl ?_
        exact iq_lret J_MPlaceRows_modules_d220 rfl ⟨_, rfl, hM11, ed_some h⟩
      obtain ⟨r9, hr9, hq9⟩ := h
      obtain ⟨n9, hn9⟩ := lp_n hr9
      have I9 : ∀ (n : Nat) (x13 : Int64) (x14 : Int32) (M15 : im_M) (L' : List (Nat × Value)), lw_S w M15 → im_lk L' 0 = some (.ref 130) → im_lk L' 1 = some (.int p0) → im_lk L' 2 = some (.int p1) → im_lk L' 3 = some (.int p2) → im_lk L' 4 = some (.int (im_i (im_setI M 130 0 ((if p0 < 0 then 1 else (if p0 < (im_i M 130 10) then 0 else 1)) : Int32)) 135 (Int32.toNatClampNeg (((6 : Int32) * p0) + 2)))) → im_lk L' 5 = some (.int x8) → im_lk L' 6 = some (.int (im_i (im_setI M 130 0 ((if p0 < 0 then 1 else (if p0 < (im_i M 130 10) then 0 else 1)) : Int32)) 135 (Int32.toNatClampNeg (((6 : Int32) * p0) + 4)))) → im_lk L' 7 = some (.long x13) → im_lk L' 9 = some (.int x14) → lpn (uc3 (f_MPlaceRows_modules_L78 p0 p1 p2 (im_i (im_setI M 130 0 ((if p0 < 0 then 1 else (if p0 < (im_i M 130 10) then 0 else 1)) : Int32)) 135 (Int32.toNatClampNeg (((6 : Int32) * p0) + 2))) x8 (im_i (im_setI M 130 0 ((if p0 < 0 then 1 else (if p0 < (im_i M 130 10) then 0 else 1)) : Int32)) 135 (Int32.toNatClampNeg (((6 : Int32) * p0) + 4))))) n (x13, x14, M15) = some r9 → ia (tb_G L xs) (dep + 2) J_MPlaceRows_modules (rwL w Q) (78, L', [], M15) := by
        intro n
        induction n with
        | zero => intro x13 x14 M15 L' hM15 l16 l17 l18 l19 l20 l21 l22 l23 l24 hn; exact (lpn_0 hn).elim
        | succ n ih =>
          intro x13 x14 M15 L' hM15 l16 l17 l18 l19 l20 l21 l22 l23 l24 hn
          have h := lpn_ed3 hn
          unfold f_MPlaceRows_modules_L78 at h
          refine iq_iload hS 80 J_MPlaceRows_modules_d78 l24 rfl ?_
          refine iq_bipush hS 82 J_MPlaceRows_modules_d80 (v := 64) (by decide +kernel) rfl ?_
          refine iq_icmp_ge hS 85 J_MPlaceRows_modules_d82 (t := 218) rfl (fun q82 => ?_) rfl (fun q82 => ?_)
          · replace h := ed_pos q82 h
            exact K9 _ _ _ hM15 l23 (lq_r h hq9)
          · replace h := ed_neg q82 h
            refine iq_iload_n hS 86 J_MPlaceRows_modules_d85 l18 rfl ?_
            refine iq_i2l hS 87 J_MPlaceRows_modules_d86 rfl ?_
            refine iq_iload hS 89 J_MPlaceRows_modules_d87 l24 rfl ?_
            refine iq_i2l hS 90 J_MPlaceRows_modules_d89 rfl ?_
            refine iq_ladd hS 91 J_MPlaceRows_modules_d90 rfl ?_
            refine iq_lstore hS 93 J_MPlaceRows_modules_d91 (by decide) rfl ?_
            refine iq_lload hS 95 J_MPlaceRows_modules_d93 lk_2s rfl ?_
            refine iq_lconst hS 96 J_MPlaceRows_modules_d95 (v := 0) (by decide +kernel) rfl ?_
            refine iq_lcmp hS 97 J_MPlaceRows_modules_d96 rfl ?_
            obtain ⟨Q25, hQ25, h⟩ := bd2_ed h
            have J25 : ∀ (y40 : Int64) (M41 : im_M) (L' : List (Nat × Value)), lw_S w M41 → im_lk L' 0 = some (.ref 130) → im_lk L' 1 = some (.int p0) → im_lk L' 2 = some (.int p1) → im_lk L' 3 = some (.int p2) → im_lk L' 4 = some (.int (im_i (im_setI M 130 0 ((if p0 < 0 then 1 else (if p0 < (im_i M 130 10) then 0 else 1)) : Int32)) 135 (Int32.toNatClampNeg (((6 : Int32) * p0) + 2)))) → im_lk L' 5 = some (.int x8) → im_lk L' 6 = some (.int (im_i (im_setI M 130 0 ((if p0 < 0 then 1 else (if p0 < (im_i M 130 10) then 0 else 1)) : Int32)) 135 (Int32.toNatClampNeg (((6 : Int32) * p0) + 4)))) → im_lk L' 7 = some (.long y40) → im_lk L' 9 = some (.int x14) → Q25 (y40, M41) → ia (tb_G L xs) (dep + 2) J_MPlaceRows_modules (rwL w Q) (212, L', [], M41) := by
              intro y40 M41 L' hM41 l42 l43 l44 l45 l46 l47 l48 l49 l50 h
              replace h := hQ25 _ _ h
              refine iq_iincv hS 215 J_MPlaceRows_modules_d212 (c := 1) (by decide +kernel) l50 (by decide) rfl ?_
              refine iq_goto hS J_MPlaceRows_modules_d215 (t := 78) rfl ?_
              exact ih _ _ _ _ hM41 (lk_1r l42 (by decide)) (lk_1i l43 (by decide)) (lk_1i l44 (by decide)) (lk_1i l45 (by decide)) (lk_1i l46 (by decide)) (lk_1i l47 (by decide)) (lk_1i l48 (by decide)) (lk_1l l49 (by decide) (by decide)) lk_1s (lq_l h)
            refine iq_if_lt hS 100 J_MPlaceRows_modules_d97 (t := 212) rfl (fun q97 => ?_) rfl (fun q97 => ?_)
            · replace h := ed_pos q97 h
              exact J25 _ _ _ hM15 (lk_2r l16 (by decide) (by decide)) (lk_2i l17 (by decide) (by decide)) (lk_2i l18 (by decide) (by decide)) (lk_2i l19 (by decide) (by decide)) (lk_2i l20 (by decide) (by decide)) (lk_2i l21 (by decide) (by decide)) (lk_2i l22 (by decide) (by decide)) (lk_2l l23 (by decide) (by decide) (by decide)) (lk_2i l24 (by decide) (by decide)) (ed_some h)
            · replace h := ed_neg q97 h
              refine iq_lload hS 102 J_MPlaceRows_modules_d100 lk_2s rfl ?_
              refine iq_iload hS 104 J_MPlaceRows_modules_d102 (lk_2i l21 (by decide) (by decide)) rfl ?_
              refine iq_i2l hS 105 J_MPlaceRows_modules_d104 rfl ?_
              refine iq_lcmp hS 106 J_MPlaceRows_modules_d105 rfl ?_
              refine iq_if_ge hS 109 J_MPlaceRows_modules_d106 (t := 212) rfl (fun q106 => ?_) rfl (fun q106 => ?_)
              · replace h := ed_pos q106 h
                exact J25 _ _ _ hM15 (lk_2r l16 (by decide) (by decide)) (lk_2i l17 (by decide) (by decide)) (lk_2i l18 (by decide) (by decide)) (lk_2i l19 (by decide) (by decide)) (lk_2i l20 (by decide) (by decide)) (lk_2i l21 (by decide) (by decide)) (lk_2i l22 (by decide) (by decide)) (lk_2l l23 (by decide) (by decide) (by decide)) (lk_2i l24 (by decide) (by decide)) (ed_some h)
              · replace h := ed_neg q106 h
                refine iq_iload_n hS 110 J_MPlaceRows_modules_d109 (lk_2i l19 (by decide) (by decide)) rfl ?_
                refine iq_if_lt hS 113 J_MPlaceRows_modules_d110 (t := 212) rfl (fun q110 => ?_) rfl (fun q110 => ?_)
                · replace h := ed_pos q110 h
                  exact J25 _ _ _ hM15 (lk_2r l16 (by decide) (by decide)) (lk_2i l17 (by decide) (by decide)) (lk_2i l18 (by decide) (by decide)) (lk_2i l19 (by decide) (by decide)) (lk_2i l20 (by decide) (by decide)) (lk_2i l21 (by decide) (by decide)) (lk_2i l22 (by decide) (by decide)) (lk_2l l23 (by decide) (by decide) (by decide)) (lk_2i l24 (by decide) (by decide)) (ed_some h)
                · replace h := ed_neg q110 h
                  refine iq_iload_n hS 114 J_MPlaceRows_modules_d113 (lk_2i l19 (by decide) (by decide)) rfl ?_
                  refine iq_iload hS 116 J_MPlaceRows_modules_d114 (lk_2i l21 (by decide) (by decide)) rfl ?_
                  refine iq_icmp_ge hS 119 J_MPlaceRows_modules_d116 (t := 212) rfl (fun q116 => ?_) rfl (fun q116 => ?_)
                  · replace h := ed_pos q116 h
                    exact J25 _ _ _ hM15 (lk_2r l16 (by decide) (by decide)) (lk_2i l17 (by decide) (by decide)) (lk_2i l18 (by decide) (by decide)) (lk_2i l19 (by decide) (by decide)) (lk_2i l20 (by decide) (by decide)) (lk_2i l21 (by decide) (by decide)) (lk_2i l22 (by decide) (by decide)) (lk_2l l23 (by decide) (by decide) (by decide)) (lk_2i l24 (by decide) (by decide)) (ed_some h)
                  · replace h := ed_neg q116 h
                    refine iq_aload_n hS 120 J_MPlaceRows_modules_d119 (lk_2r l16 (by decide) (by decide)) rfl ?_
                    refine iq_getR hS 123 J_MPlaceRows_modules_d120 lf_14_32 (Or.inr ⟨_, rfl⟩) (ka_130 hM15) (ra_130_9 hM15) rfl ?_
                    refine iq_bipush hS 125 J_MPlaceRows_modules_d123 (v := 6) (by decide +kernel) rfl ?_
                    refine iq_iload_n hS 126 J_MPlaceRows_modules_d125 (lk_2i l17 (by decide) (by decide)) rfl ?_
                    refine iq_imul hS 127 J_MPlaceRows_modules_d126 rfl ?_
                    obtain ⟨g127, h⟩ := ed_gd h
                    refine iq_iaload hS 128 J_MPlaceRows_modules_d127 ⟨(ka_135 hM15).1, (ka_135 hM15).2, g127.1, ix_lt (kl_135 hM15) g127.2⟩ rfl ?_
                    refine iq_iload hS 130 J_MPlaceRows_modules_d128 (lk_2i l20 (by decide) (by decide)) rfl ?_
                    refine iq_iload hS 132 J_MPlaceRows_modules_d130 (lk_2i l21 (by decide) (by decide)) rfl ?_
                    refine iq_lload hS 134 J_MPlaceRows_modules_d132 lk_2s rfl ?_
                    refine iq_l2i hS 135 J_MPlaceRows_modules_d134 rfl ?_
                    refine iq_iload_n hS 136 J_MPlaceRows_modules_d135 (lk_2i l19 (by decide) (by decide)) rfl ?_
                    refine iq_iload hS 138 J_MPlaceRows_modules_d136 (lk_2i l22 (by decide) (by decide)) rfl ?_
                    obtain ⟨Q26, hQ26, h⟩ := bd1_ed h
                    refine iq_cpI hS 141 J_MPlaceRows_modules_d138 rfl (pr_stat (vs := [_, _, _, _]) lc_14_75 lT_472 rfl rfl (by decide) rfl (Nat.le_of_ble_eq_true rfl) (Nat.le_of_ble_eq_true rfl)) (f_MPlaceRows_blockX_ok (dep := dep + 1) hM15 h) rfl ?_
                    intro x26 h
                    replace h := hQ26 _ h
                    refine iq_imul hS 142 J_MPlaceRows_modules_d141 rfl ?_
                    refine iq_iadd hS 143 J_MPlaceRows_modules_d142 rfl ?_
                    refine iq_istore hS 145 J_MPlaceRows_modules_d143 (by decide) rfl ?_
                    refine iq_aload_n hS 146 J_MPlaceRows_modules_d145 (lk_1r (lk_2r l16 (by decide) (by decide)) (by decide)) rfl ?_
                    refine iq_getR hS 149 J_MPlaceRows_modules_d146 lf_14_32 (Or.inr ⟨_, rfl⟩) (ka_130 hM15) (ra_130_9 hM15) rfl ?_
                    refine iq_bipush hS 151 J_MPlaceRows_modules_d149 (v := 6) (by decide +kernel) rfl ?_
                    refine iq_iload_n hS 152 J_MPlaceRows_modules_d151 (lk_1i (lk_2i l17 (by decide) (by decide)) (by decide)) rfl ?_
                    refine iq_imul hS 153 J_MPlaceRows_modules_d152 rfl ?_
                    refine iq_iconst hS 154 J_MPlaceRows_modules_d153 (v := 1) (by decide +kernel) rfl ?_
                    refine iq_iadd hS 155 J_MPlaceRows_modules_d154 rfl ?_
                    obtain ⟨g155, h⟩ := ed_gd h
                    refine iq_iaload hS 156 J_MPlaceRows_modules_d155 ⟨(ka_135 hM15).1, (ka_135 hM15).2, g155.1, ix_lt (kl_135 hM15) g155.2⟩ rfl ?_
                    refine iq_iload hS 158 J_MPlaceRows_modules_d156 (lk_1i (lk_2i l20 (by decide) (by decide)) (by decide)) rfl ?_
                    refine iq_iload hS 160 J_MPlaceRows_modules_d158 (lk_1i (lk_2i l21 (by decide) (by decide)) (by decide)) rfl ?_
                    refine iq_lload hS 162 J_MPlaceRows_modules_d160 (lk_1l lk_2s (by decide) (by decide)) rfl ?_
                    refine iq_l2i hS 163 J_MPlaceRows_modules_d162 rfl ?_
                    refine iq_iload_n hS 164 J_MPlaceRows_modules_d163 (lk_1i (lk_2i l19 (by decide) (by decide)) (by decide)) rfl ?_
                    refine iq_iload hS 166 J_MPlaceRows_modules_d164 (lk_1i (lk_2i l22 (by decide) (by decide)) (by decide)) rfl ?_
                    obtain ⟨Q27, hQ27, h⟩ := bd1_ed h
                    refine iq_cpI hS 169 J_MPlaceRows_modules_d166 rfl (pr_stat (vs := [_, _, _, _]) lc_14_78 lT_474 rfl rfl (by decide) rfl (Nat.le_of_ble_eq_true rfl) (Nat.le_of_ble_eq_true rfl)) (f_MPlaceRows_blockY_ok (dep := dep + 1) hM15 h) rfl ?_
                    intro x27 h
                    replace h := hQ27 _ h
                    refine iq_imul hS 170 J_MPlaceRows_modules_d169 rfl ?_
                    refine iq_iadd hS 171 J_MPlaceRows_modules_d170 rfl ?_
                    refine iq_istore hS 173 J_MPlaceRows_modules_d171 (by decide) rfl ?_
                    refine iq_aload_n hS 174 J_MPlaceRows_modules_d173 (lk_1r (lk_1r (lk_2r l16 (by decide) (by decide)) (by decide)) (by decide)) rfl ?_
                    refine iq_iload hS 176 J_MPlaceRows_modules_d174 (lk_1i lk_1s (by decide)) rfl ?_
                    refine iq_iload hS 178 J_MPlaceRows_modules_d176 lk_1s rfl ?_
                    refine iq_iload hS 180 J_MPlaceRows_modules_d178 (lk_1i (lk_1i (lk_2i l20 (by decide) (by decide)) (by decide)) (by decide)) rfl ?_
                    refine iq_iconst hS 181 J_MPlaceRows_modules_d180 (v := 0) (by decide +kernel) rfl ?_
                    refine iq_iconst hS 182 J_MPlaceRows_modules_d181 (v := 0) (by decide +kernel) rfl ?_
                    obtain ⟨Q28, hQ28, h⟩ := bd2_ed h
                    refine iq_cwI hS 185 J_MPlaceRows_modules_d182 rfl (pr_inst (vs := [_, _, _, _, _]) lc_14_81 lT_486 rfl rfl (by decide) (by decide) rfl (Nat.le_of_ble_eq_true rfl) (Nat.le_of_ble_eq_true rfl) (fun _ => Or.inl (pr_b (ka_130 hM15) (by decide) rfl))) (f_MPlaceRows_differ_ok (dep := dep + 0) hM15 h) rfl ?_
                    intro x28 M28 hM28 h
                    replace h := hQ28 _ _ h
                    refine iq_istore hS 187 J_MPlaceRows_modules_d185 (by decide) rfl ?_
                    refine iq_lload hS 189 J_MPlaceRows_modules_d187 (lk_1l (lk_1l (lk_1l (lk_2l l23 (by decide) (by decide) (by decide)) (by decide) (by decide)) (by decide) (by decide)) (by decide) (by decide)) rfl ?_
                    refine iq_iconst hS 190 J_MPlaceRows_modules_d189 (v := 2) (by decide +kernel) rfl ?_
                    refine iq_iload hS 192 J_MPlaceRows_modules_d190 lk_1s rfl ?_
                    refine iq_imul hS 193 J_MPlaceRows_modules_d192 rfl ?_
                    refine iq_iload hS 195 J_MPlaceRows_modules_d193 (lk_1i (lk_1i (lk_1i (lk_2i l20 (by decide) (by decide)) (by decide)) (by decide)) (by decide)) rfl ?_
                    refine iq_iload hS 197 J_MPlaceRows_modules_d195 (lk_1i (lk_1i (lk_1i (lk_2i l20 (by decide) (by decide)) (by decide)) (by decide)) (by decide)) rfl ?_
                    refine iq_imul hS 198 J_MPlaceRows_modules_d197 rfl ?_
                    have J29 : ∀ (z30 : Int64) (L' : List (Nat × Value)), z30 = ((if ((2 : Int32) * x28) ≤ ((im_i (im_setI M 130 0 ((if p0 < 0 then 1 else (if p0 < (im_i M 130 10) then 0 else 1)) : Int32)) 135 (Int32.toNatClampNeg (((6 : Int32) * p0) + 2))) * (im_i (im_setI M 130 0 ((if p0 < 0 then 1 else (if p0 < (im_i M 130 10) then 0 else 1)) : Int32)) 135 (Int32.toNatClampNeg (((6 : Int32) * p0) + 2)))) then 0 else ((1 : Int64) <<< (Int32.toInt64 x14 &&& 63) : Int64)) : Int64) → im_lk L' 0 = some (.ref 130) → im_lk L' 1 = some (.int p0) → im_lk L' 2 = some (.int p1) → im_lk L' 3 = some (.int p2) → im_lk L' 4 = some (.int (im_i (im_setI M 130 0 ((if p0 < 0 then 1 else (if p0 < (im_i M 130 10) then 0 else 1)) : Int32)) 135 (Int32.toNatClampNeg (((6 : Int32) * p0) + 2)))) → im_lk L' 5 = some (.int x8) → im_lk L' 6 = some (.int (im_i (im_setI M 130 0 ((if p0 < 0 then 1 else (if p0 < (im_i M 130 10) then 0 else 1)) : Int32)) 135 (Int32.toNatClampNeg (((6 : Int32) * p0) + 4)))) → im_lk L' 9 = some (.int x14) → ia (tb_G L xs) (dep + 2) J_MPlaceRows_modules (rwL w Q) (209, L', [.long z30, .long x13], M28) := by
                      intro z30 L' e31 l32 l33 l34 l35 l36 l37 l38 l39
                      subst e31
                      refine iq_lor hS 210 J_MPlaceRows_modules_d209 rfl ?_
                      refine iq_lstore hS 212 J_MPlaceRows_modules_d210 (by decide) rfl ?_
                      exact J25 _ _ _ hM28 (lk_2r l32 (by decide) (by decide)) (lk_2i l33 (by decide) (by decide)) (lk_2i l34 (by decide) (by decide)) (lk_2i l35 (by decide) (by decide)) (lk_2i l36 (by decide) (by decide)) (lk_2i l37 (by decide) (by decide)) (lk_2i l38 (by decide) (by decide)) lk_2s (lk_2i l39 (by decide) (by decide)) (ed_some h)
                    refine iq_icmp_le hS 201 J_MPlaceRows_modules_d198 (t := 208) rfl (fun q198 => ?_) rfl (fun q198 => ?_)
                    · refine iq_lconst hS 209 J_MPlaceRows_modules_d208 (v := 0) (by decide +kernel) rfl ?_
                      exact J29 _ _ (by simp only [if_pos q198]) (lk_1r (lk_1r (lk_1r (lk_2r l16 (by decide) (by decide)) (by decide)) (by decide)) (by decide)) (lk_1i (lk_1i (lk_1i (lk_2i l17 (by decide) (by decide)) (by decide)) (by decide)) (by decide)) (lk_1i (lk_1i (lk_1i (lk_2i l18 (by decide) (by decide)) (by decide)) (by decide)) (by decide)) (lk_1i (lk_1i (lk_1i (lk_2i l19 (by decide) (by decide)) (by decide)) (by decide)) (by decide)) (lk_1i (lk_1i (lk_1i (lk_2i l20 (by decide) (by decide)) (by decide)) (by decide)) (by decide)) (lk_1i (lk_1i (lk_1i (lk_2i l21 (by decide) (by decide)) (by decide)) (by decide)) (by decide)) (lk_1i (lk_1i (lk_1i (lk_2i l22 (by decide) (by decide)) (by decide)) (by decide)) (by decide)) (lk_1i (lk_1i (lk_1i (lk_2i l24 (by decide) (by decide)) (by decide)) (by decide)) (by decide))
                    · refine iq_lconst hS 202 J_MPlaceRows_modules_d201 (v := 1) (by decide +kernel) rfl ?_
                      refine iq_iload hS 204 J_MPlaceRows_modules_d202 (lk_1i (lk_1i (lk_1i (lk_2i l24 (by decide) (by decide)) (by decide)) (by decide)) (by decide)) rfl ?_
                      refine iq_lshl hS 205 J_MPlaceRows_modules_d204 rfl ?_
                      refine iq_goto hS J_MPlaceRows_modules_d205 (t := 209) rfl ?_
                      exact J29 _ _ (by simp only [if_neg q198]) (lk_1r (lk_1r (lk_1r (lk_2r l16 (by decide) (by decide)) (by decide)) (by decide)) (by decide)) (lk_1i (lk_1i (lk_1i (lk_2i l17 (by decide) (by decide)) (by decide)) (by decide)) (by decide)) (lk_1i (lk_1i (lk_1i (lk_2i l18 (by decide) (by decide)) (by decide)) (by decide)) (by decide)) (lk_1i (lk_1i (lk_1i (lk_2i l19 (by decide) (by decide)) (by decide)) (by decide)) (by decide)) (lk_1i (lk_1i (lk_1i (lk_2i l20 (by decide) (by decide)) (by decide)) (by decide)) (by decide)) (lk_1i (lk_1i (lk_1i (lk_2i l21 (by decide) (by decide)) (by decide)) (by decide)) (by decide)) (lk_1i (lk_1i (lk_1i (lk_2i l22 (by decide) (by decide)) (by decide)) (by decide)) (by decide)) (lk_1i (lk_1i (lk_1i (lk_2i l24 (by decide) (by decide)) (by decide)) (by decide)) (by decide))
      exact I9 n9 _ _ _ _ (lw_sI hM) (lk_1r (lk_2r (lk_1r (lk_1r (lk_1r l4 (by decide)) (by decide)) (by decide)) (by decide) (by decide)) (by decide)) (lk_1i (lk_2i (lk_1i (lk_1i (lk_1i l5 (by decide)) (by decide)) (by decide)) (by decide) (by decide)) (by decide)) (lk_1i (lk_2i (lk_1i (lk_1i (lk_1i l6 (by decide)) (by decide)) (by decide)) (by decide) (by decide)) (by decide)) (lk_1i (lk_2i (lk_1i (lk_1i (lk_1i l7 (by decide)) (by decide)) (by decide)) (by decide) (by decide)) (by decide)) (lk_1i (lk_2i (lk_1i (lk_1i lk_1s (by decide)) (by decide)) (by decide) (by decide)) (by decide)) (lk_1i (lk_2i (lk_1i lk_1s (by decide)) (by decide) (by decide)) (by decide)) (lk_1i (lk_2i lk_1s (by decide) (by decide)) (by decide)) (lk_1l lk_2s (by decide) (by decide)) lk_1s hn9
    · replace h := ed_neg q25 h
      refine iq_lconst hS 29 J_MPlaceRows_modules_d28 (v := 0) (by decide +kernel) rfl ?_
      exact iq_lret J_MPlaceRows_modules_d29 rfl ⟨_, rfl, (lw_sI hM), ed_some h⟩
  refine iq_if_lt hS 5 J_MPlaceRows_modules_d2 (t := 13) rfl (fun q2 => ?_) rfl (fun q2 => ?_)
  · refine iq_iconst hS 14 J_MPlaceRows_modules_d13 (v := 1) (by decide +kernel) rfl ?_
    refine iq_goto hS J_MPlaceRows_modules_d14 (t := 18) rfl ?_
    exact J1 _ _ (by simp only [if_pos q2]) l0 l1 l2 l3
  · refine iq_iload_n hS 6 J_MPlaceRows_modules_d5 l1 rfl ?_
    refine iq_aload_n hS 7 J_MPlaceRows_modules_d6 l0 rfl ?_
    refine iq_getI hS 10 J_MPlaceRows_modules_d7 lf_14_41 (Or.inl rfl) (ka_130 hM) rfl ?_
    refine iq_icmp_lt hS 13 J_MPlaceRows_modules_d10 (t := 17) rfl (fun q10 => ?_) rfl (fun q10 => ?_)
    · refine iq_iconst hS 18 J_MPlaceRows_modules_d17 (v := 0) (by decide +kernel) rfl ?_
      exact J1 _ _ (by simp only [if_neg q2, if_pos q10]) l0 l1 l2 l3
    · refine iq_iconst hS 14 J_MPlaceRows_modules_d13 (v := 1) (by decide +kernel) rfl ?_
      refine iq_goto hS J_MPlaceRows_modules_d14 (t := 18) rfl ?_
      exact J1 _ _ (by simp only [if_neg q2, if_neg q10]) l0 l1 l2 l3
theorem f_MPlaceRows_modules_fr {p0 : Int32} {p1 : Int32} {p2 : Int32} {M : im_M} {r : Int64 × im_M} (h : f_MPlaceRows_modules p0 p1 p2 M = some r) : fr 2722258935367507707706996859454145691648 [(130, 0)] M r.2 := by
  replace h : ed (f_MPlaceRows_modules p0 p1 p2 M) (fun x => x = r) := ⟨r, h, rfl⟩
  unfold f_MPlaceRows_modules at h
  by_cases q25 : (im_i (im_setI M 130 0 ((if p0 < 0 then 1 else (if p0 < (im_i M 130 10) then 0 else 1)) : Int32)) 130 0) ≤ 0
  · replace h := ed_pos q25 h
    obtain ⟨g40, h⟩ := ed_gd h
    obtain ⟨g53, h⟩ := ed_gd h
    obtain ⟨Q2, hQ2, h⟩ := bd1_ed h
    obtain ⟨x2, e2, h⟩ := h
    replace h := hQ2 _ h
    obtain ⟨g69, h⟩ := ed_gd h
    obtain ⟨Q3, hQ3, h⟩ := bd2_ed h
    have K3 : ∀ (y4 : Int64) (M5 : im_M), fr 2722258935367507707706996859454145691648 [(130, 0)] M M5 → Q3 (y4, M5) → fr 2722258935367507707706996859454145691648 [(130, 0)] M r.2 := by
      intro y4 M5 hM5 h
      replace h := hQ3 _ _ h
      exact fr_ret h hM5
    obtain ⟨r3, hr3, hq3⟩ := h
    obtain ⟨n3, hn3⟩ := lp_n hr3
    have I3 : ∀ (n : Nat) (x6 : Int64) (x7 : Int32) (M8 : im_M), fr 2722258935367507707706996859454145691648 [(130, 0)] M M8 → lpn (uc3 (f_MPlaceRows_modules_L78 p0 p1 p2 (im_i (im_setI M 130 0 ((if p0 < 0 then 1 else (if p0 < (im_i M 130 10) then 0 else 1)) : Int32)) 135 (Int32.toNatClampNeg (((6 : Int32) * p0) + 2))) x2 (im_i (im_setI M 130 0 ((if p0 < 0 then 1 else (if p0 < (im_i M 130 10) then 0 else 1)) : Int32)) 135 (Int32.toNatClampNeg (((6 : Int32) * p0) + 4))))) n (x6, x7, M8) = some r3 → fr 2722258935367507707706996859454145691648 [(130, 0)] M r.2 := by
      intro n
      induction n with
      | zero => intro x6 x7 M8 hM8 hn; exact (lpn_0 hn).elim
      | succ n ih =>
        intro x6 x7 M8 hM8 hn
        have h := lpn_ed3 hn
        unfold f_MPlaceRows_modules_L78 at h
        by_cases q82 : 64 ≤ x7
        · replace h := ed_pos q82 h
          exact K3 _ _ hM8 (lq_r h hq3)
        · replace h := ed_neg q82 h
          obtain ⟨Q9, hQ9, h⟩ := bd2_ed h
          have J9 : ∀ (y14 : Int64) (M15 : im_M), fr 2722258935367507707706996859454145691648 [(130, 0)] M M15 → Q9 (y14, M15) → fr 2722258935367507707706996859454145691648 [(130, 0)] M r.2 := by
            intro y14 M15 hM15 h
            replace h := hQ9 _ _ h
            exact ih _ _ _ hM15 (lq_l h)
          by_cases q97 : (lg_cmp ((Int32.toInt64 p1) + (Int32.toInt64 x7)) 0) < 0
          · replace h := ed_pos q97 h
            exact J9 _ _ hM8 (ed_some h)
          · replace h := ed_neg q97 h
            by_cases q106 : 0 ≤ (lg_cmp ((Int32.toInt64 p1) + (Int32.toInt64 x7)) (Int32.toInt64 x2))
            · replace h := ed_pos q106 h
              exact J9 _ _ hM8 (ed_some h)
            · replace h := ed_neg q106 h
              by_cases q110 : p2 < 0
              · replace h := ed_pos q110 h
                exact J9 _ _ hM8 (ed_some h)
              · replace h := ed_neg q110 h
                by_cases q116 : x2 ≤ p2
                · replace h := ed_pos q116 h
                  exact J9 _ _ hM8 (ed_some h)
                · replace h := ed_neg q116 h
                  obtain ⟨g127, h⟩ := ed_gd h
                  obtain ⟨Q10, hQ10, h⟩ := bd1_ed h
                  obtain ⟨x10, e10, h⟩ := h
                  replace h := hQ10 _ h
                  obtain ⟨g155, h⟩ := ed_gd h
                  obtain ⟨Q11, hQ11, h⟩ := bd1_ed h
                  obtain ⟨x11, e11, h⟩ := h
                  replace h := hQ11 _ h
                  obtain ⟨Q12, hQ12, h⟩ := bd2_ed h
                  obtain ⟨⟨x12, M12⟩, e12, h⟩ := h
                  replace h := hQ12 _ _ h
                  exact J9 _ _ (fr_tr (fr_mono (by decide) (by decide +kernel) (f_MPlaceRows_differ_fr e12)) hM8) (ed_some h)
    exact I3 n3 _ _ _ (fr_F (by decide) fr_refl) hn3
  · replace h := ed_neg q25 h
    exact fr_ret h (fr_F (by decide) fr_refl)
noncomputable def f_MSquareRows_spoil_L11 (v2 : Int32) (v3 : Int32) (v4 : Int64) (x5 : Int32) (x6 : Int32) (M7 : im_M) : Option ((Int32 × Int32 × im_M) ⊕ (Int32 × im_M)) := if 64 ≤ x6 then some (.inr (x5, M7)) else bd2 (if ((if (im_i M7 108 7) ≤ 0 then 0 else (if v3 < 0 then 0 else (if (im_i M7 108 8) ≤ v3 then 0 else (if (lg_cmp ((Int32.toInt64 v2) + (Int32.toInt64 x6)) 0) < 0 then 0 else (if 0 ≤ (lg_cmp ((Int32.toInt64 v2) + (Int32.toInt64 x6)) (Int32.toInt64 (im_i M7 108 8))) then 0 else 1))))) : Int32) = 0 then some (x5, M7) else if ¬ (lg_cmp ((v4 >>> (Int32.toInt64 x6 &&& 63) : Int64) &&& 1) 1) = 0 then some (x5, M7) else bd1 (f_MSquareRows_moduleAt (Int64.toInt32 ((Int32.toInt64 v2) + (Int32.toInt64 x6))) v3 M7) fun (x10 : Int32) => bd1 (f_MSquareRows_moduleAt (Int64.toInt32 ((Int32.toInt64 v2) + (Int32.toInt64 x6))) v3 M7) fun (x11 : Int32) => gd (inb x11 31329) <| gd (inb x10 31329) <| some ((x5 + 1), (im_setI M7 112 (Int32.toNatClampNeg x10) ((1 : Int32) - (im_i M7 112 (Int32.toNatClampNeg x11)))))) fun (y12 : Int32) (M13 : im_M) => some (.inl (y12, (x6 + 1), M13))
noncomputable def f_MSquareRows_spoil (p0 : Int32) (p1 : Int32) (p2 : Int64) (M : im_M) : Option (Int32 × im_M) := bd2 (lp (uc3 (f_MSquareRows_spoil_L11 p0 p1 p2)) (0, 0, (im_setI M 108 0 0))) fun (y20 : Int32) (M21 : im_M) => some (y20, M21)
theorem J_MSquareRows_spoil_d0 : decode J_MSquareRows_spoil.2.1 0 = .ok (.aload_n 0, 1) := by decide +kernel
theorem J_MSquareRows_spoil_d1 : decode J_MSquareRows_spoil.2.1 1 = .ok (.iconst 0, 1) := by decide +kernel
theorem J_MSquareRows_spoil_d2 : decode J_MSquareRows_spoil.2.1 2 = .ok (.putfield 73, 3) := by decide +kernel
theorem J_MSquareRows_spoil_d5 : decode J_MSquareRows_spoil.2.1 5 = .ok (.iconst 0, 1) := by decide +kernel
theorem J_MSquareRows_spoil_d6 : decode J_MSquareRows_spoil.2.1 6 = .ok (.istore 5, 2) := by decide +kernel
theorem J_MSquareRows_spoil_d8 : decode J_MSquareRows_spoil.2.1 8 = .ok (.iconst 0, 1) := by decide +kernel
theorem J_MSquareRows_spoil_d9 : decode J_MSquareRows_spoil.2.1 9 = .ok (.istore 6, 2) := by decide +kernel
theorem J_MSquareRows_spoil_d11 : decode J_MSquareRows_spoil.2.1 11 = .ok (.iload 6, 2) := by decide +kernel
theorem J_MSquareRows_spoil_d13 : decode J_MSquareRows_spoil.2.1 13 = .ok (.bipush 64, 2) := by decide +kernel
theorem J_MSquareRows_spoil_d15 : decode J_MSquareRows_spoil.2.1 15 = .ok (.if_icmp .ge 108, 3) := by decide +kernel
theorem J_MSquareRows_spoil_d18 : decode J_MSquareRows_spoil.2.1 18 = .ok (.iload_n 1, 1) := by decide +kernel
theorem J_MSquareRows_spoil_d19 : decode J_MSquareRows_spoil.2.1 19 = .ok (.i2l, 1) := by decide +kernel
theorem J_MSquareRows_spoil_d20 : decode J_MSquareRows_spoil.2.1 20 = .ok (.iload 6, 2) := by decide +kernel
theorem J_MSquareRows_spoil_d22 : decode J_MSquareRows_spoil.2.1 22 = .ok (.i2l, 1) := by decide +kernel
theorem J_MSquareRows_spoil_d23 : decode J_MSquareRows_spoil.2.1 23 = .ok (.ladd, 1) := by decide +kernel
theorem J_MSquareRows_spoil_d24 : decode J_MSquareRows_spoil.2.1 24 = .ok (.lstore 7, 2) := by decide +kernel
theorem J_MSquareRows_spoil_d26 : decode J_MSquareRows_spoil.2.1 26 = .ok (.aload_n 0, 1) := by decide +kernel
theorem J_MSquareRows_spoil_d27 : decode J_MSquareRows_spoil.2.1 27 = .ok (.getfield 229, 3) := by decide +kernel
theorem J_MSquareRows_spoil_d30 : decode J_MSquareRows_spoil.2.1 30 = .ok (.ifCond .le 37, 3) := by decide +kernel
theorem J_MSquareRows_spoil_d33 : decode J_MSquareRows_spoil.2.1 33 = .ok (.iload_n 2, 1) := by decide +kernel
theorem J_MSquareRows_spoil_d34 : decode J_MSquareRows_spoil.2.1 34 = .ok (.ifCond .lt 33, 3) := by decide +kernel
theorem J_MSquareRows_spoil_d37 : decode J_MSquareRows_spoil.2.1 37 = .ok (.iload_n 2, 1) := by decide +kernel
theorem J_MSquareRows_spoil_d38 : decode J_MSquareRows_spoil.2.1 38 = .ok (.aload_n 0, 1) := by decide +kernel
theorem J_MSquareRows_spoil_d39 : decode J_MSquareRows_spoil.2.1 39 = .ok (.getfield 163, 3) := by decide +kernel
theorem J_MSquareRows_spoil_d42 : decode J_MSquareRows_spoil.2.1 42 = .ok (.if_icmp .ge 25, 3) := by decide +kernel
theorem J_MSquareRows_spoil_d45 : decode J_MSquareRows_spoil.2.1 45 = .ok (.lload 7, 2) := by decide +kernel
theorem J_MSquareRows_spoil_d47 : decode J_MSquareRows_spoil.2.1 47 = .ok (.lconst 0, 1) := by decide +kernel
theorem J_MSquareRows_spoil_d48 : decode J_MSquareRows_spoil.2.1 48 = .ok (.lcmp, 1) := by decide +kernel
theorem J_MSquareRows_spoil_d49 : decode J_MSquareRows_spoil.2.1 49 = .ok (.ifCond .lt 18, 3) := by decide +kernel
theorem J_MSquareRows_spoil_d52 : decode J_MSquareRows_spoil.2.1 52 = .ok (.lload 7, 2) := by decide +kernel
theorem J_MSquareRows_spoil_d54 : decode J_MSquareRows_spoil.2.1 54 = .ok (.aload_n 0, 1) := by decide +kernel
theorem J_MSquareRows_spoil_d55 : decode J_MSquareRows_spoil.2.1 55 = .ok (.getfield 163, 3) := by decide +kernel
theorem J_MSquareRows_spoil_d58 : decode J_MSquareRows_spoil.2.1 58 = .ok (.i2l, 1) := by decide +kernel
theorem J_MSquareRows_spoil_d59 : decode J_MSquareRows_spoil.2.1 59 = .ok (.lcmp, 1) := by decide +kernel
theorem J_MSquareRows_spoil_d60 : decode J_MSquareRows_spoil.2.1 60 = .ok (.ifCond .ge 7, 3) := by decide +kernel
theorem J_MSquareRows_spoil_d63 : decode J_MSquareRows_spoil.2.1 63 = .ok (.iconst 1, 1) := by decide +kernel
theorem J_MSquareRows_spoil_d64 : decode J_MSquareRows_spoil.2.1 64 = .ok (.goto 4, 3) := by decide +kernel
theorem J_MSquareRows_spoil_d67 : decode J_MSquareRows_spoil.2.1 67 = .ok (.iconst 0, 1) := by decide +kernel
theorem J_MSquareRows_spoil_d68 : decode J_MSquareRows_spoil.2.1 68 = .ok (.istore 9, 2) := by decide +kernel
theorem J_MSquareRows_spoil_d70 : decode J_MSquareRows_spoil.2.1 70 = .ok (.iload 9, 2) := by decide +kernel
theorem J_MSquareRows_spoil_d72 : decode J_MSquareRows_spoil.2.1 72 = .ok (.ifCond .eq 45, 3) := by decide +kernel
theorem J_MSquareRows_spoil_d75 : decode J_MSquareRows_spoil.2.1 75 = .ok (.lload_n 3, 1) := by decide +kernel
theorem J_MSquareRows_spoil_d76 : decode J_MSquareRows_spoil.2.1 76 = .ok (.iload 6, 2) := by decide +kernel
theorem J_MSquareRows_spoil_d78 : decode J_MSquareRows_spoil.2.1 78 = .ok (.lshr, 1) := by decide +kernel
theorem J_MSquareRows_spoil_d79 : decode J_MSquareRows_spoil.2.1 79 = .ok (.lconst 1, 1) := by decide +kernel
theorem J_MSquareRows_spoil_d80 : decode J_MSquareRows_spoil.2.1 80 = .ok (.land, 1) := by decide +kernel
theorem J_MSquareRows_spoil_d81 : decode J_MSquareRows_spoil.2.1 81 = .ok (.lconst 1, 1) := by decide +kernel
theorem J_MSquareRows_spoil_d82 : decode J_MSquareRows_spoil.2.1 82 = .ok (.lcmp, 1) := by decide +kernel
theorem J_MSquareRows_spoil_d83 : decode J_MSquareRows_spoil.2.1 83 = .ok (.ifCond .ne 34, 3) := by decide +kernel
theorem J_MSquareRows_spoil_d86 : decode J_MSquareRows_spoil.2.1 86 = .ok (.aload_n 0, 1) := by decide +kernel
theorem J_MSquareRows_spoil_d87 : decode J_MSquareRows_spoil.2.1 87 = .ok (.getfield 19, 3) := by decide +kernel
theorem J_MSquareRows_spoil_d90 : decode J_MSquareRows_spoil.2.1 90 = .ok (.aload_n 0, 1) := by decide +kernel
theorem J_MSquareRows_spoil_d91 : decode J_MSquareRows_spoil.2.1 91 = .ok (.lload 7, 2) := by decide +kernel
theorem J_MSquareRows_spoil_d93 : decode J_MSquareRows_spoil.2.1 93 = .ok (.l2i, 1) := by decide +kernel
theorem J_MSquareRows_spoil_d94 : decode J_MSquareRows_spoil.2.1 94 = .ok (.iload_n 2, 1) := by decide +kernel
theorem J_MSquareRows_spoil_d95 : decode J_MSquareRows_spoil.2.1 95 = .ok (.invokevirtual 166, 3) := by decide +kernel
theorem J_MSquareRows_spoil_d98 : decode J_MSquareRows_spoil.2.1 98 = .ok (.iconst 1, 1) := by decide +kernel
theorem J_MSquareRows_spoil_d99 : decode J_MSquareRows_spoil.2.1 99 = .ok (.aload_n 0, 1) := by decide +kernel
theorem J_MSquareRows_spoil_d100 : decode J_MSquareRows_spoil.2.1 100 = .ok (.getfield 19, 3) := by decide +kernel
theorem J_MSquareRows_spoil_d103 : decode J_MSquareRows_spoil.2.1 103 = .ok (.aload_n 0, 1) := by decide +kernel
theorem J_MSquareRows_spoil_d104 : decode J_MSquareRows_spoil.2.1 104 = .ok (.lload 7, 2) := by decide +kernel
theorem J_MSquareRows_spoil_d106 : decode J_MSquareRows_spoil.2.1 106 = .ok (.l2i, 1) := by decide +kernel
theorem J_MSquareRows_spoil_d107 : decode J_MSquareRows_spoil.2.1 107 = .ok (.iload_n 2, 1) := by decide +kernel
theorem J_MSquareRows_spoil_d108 : decode J_MSquareRows_spoil.2.1 108 = .ok (.invokevirtual 166, 3) := by decide +kernel
theorem J_MSquareRows_spoil_d111 : decode J_MSquareRows_spoil.2.1 111 = .ok (.iaload, 1) := by decide +kernel
theorem J_MSquareRows_spoil_d112 : decode J_MSquareRows_spoil.2.1 112 = .ok (.isub, 1) := by decide +kernel
theorem J_MSquareRows_spoil_d113 : decode J_MSquareRows_spoil.2.1 113 = .ok (.iastore, 1) := by decide +kernel
theorem J_MSquareRows_spoil_d114 : decode J_MSquareRows_spoil.2.1 114 = .ok (.iinc 5 1, 3) := by decide +kernel
theorem J_MSquareRows_spoil_d117 : decode J_MSquareRows_spoil.2.1 117 = .ok (.iinc 6 1, 3) := by decide +kernel
theorem J_MSquareRows_spoil_d120 : decode J_MSquareRows_spoil.2.1 120 = .ok (.goto (-109), 3) := by decide +kernel
theorem J_MSquareRows_spoil_d123 : decode J_MSquareRows_spoil.2.1 123 = .ok (.iload 5, 2) := by decide +kernel
theorem J_MSquareRows_spoil_d125 : decode J_MSquareRows_spoil.2.1 125 = .ok (.ireturn, 1) := by decide +kernel
theorem f_MSquareRows_spoil_ok {L : Nat} {xs : Nat → Int32} {dep : Nat} {w : Bool} {p0 : Int32} {p1 : Int32} {p2 : Int64} {M : im_M} {Q : Int32 × im_M → Prop} (hM : lw_S w M) (h : ed (f_MSquareRows_spoil p0 p1 p2 M) Q) : ia (tb_G L xs) (dep + 1) J_MSquareRows_spoil (rwI w Q) (0, lv_args 0 [.ref 108, .int p0, .int p1, .long p2], [], M) := by
  have hS : im_St (tb_G L xs) (dep + 1) J_MSquareRows_spoil (ia (tb_G L xs) (dep + 1) J_MSquareRows_spoil (rwI w Q)) := ia_St
  unfold f_MSquareRows_spoil at h
  have l0 : im_lk (lv_args 0 [.ref 108, .int p0, .int p1, .long p2]) 0 = some (.ref 108) := rfl
  have l1 : im_lk (lv_args 0 [.ref 108, .int p0, .int p1, .long p2]) 1 = some (.int p0) := rfl
  have l2 : im_lk (lv_args 0 [.ref 108, .int p0, .int p1, .long p2]) 2 = some (.int p1) := rfl
  have l3 : im_lk (lv_args 0 [.ref 108, .int p0, .int p1, .long p2]) 3 = some (.long p2) := rfl
  refine iq_aload_n hS 1 J_MSquareRows_spoil_d0 l0 rfl ?_
  refine iq_iconst hS 2 J_MSquareRows_spoil_d1 (v := 0) (by decide +kernel) rfl ?_
  refine iq_putI hS 5 J_MSquareRows_spoil_d2 lf_16_73 (Or.inl rfl) rfl (ka_108 hM) rfl ?_
  refine iq_iconst hS 6 J_MSquareRows_spoil_d5 (v := 0) (by decide +kernel) rfl ?_
  refine iq_istore hS 8 J_MSquareRows_spoil_d6 (by decide) rfl ?_
  refine iq_iconst hS 9 J_MSquareRows_spoil_d8 (v := 0) (by decide +kernel) rfl ?_
  refine iq_istore hS 11 J_MSquareRows_spoil_d9 (by decide) rfl ?_
  obtain ⟨Q1, hQ1, h⟩ := bd2_ed h
  have K1 : ∀ (y2 : Int32) (M3 : im_M) (L' : List (Nat × Value)), lw_S w M3 → im_lk L' 5 = some (.int y2) → Q1 (y2, M3) → ia (tb_G L xs) (dep + 1) J_MSquareRows_spoil (rwI w Q) (123, L', [], M3) := by
    intro y2 M3 L' hM3 l4 h
    replace h := hQ1 _ _ h
    refine iq_iload hS 125 J_MSquareRows_spoil_d123 l4 rfl ?_
    exact iq_iret J_MSquareRows_spoil_d125 rfl rfl ⟨_, rfl, hM3, ed_some h⟩
  obtain ⟨r1, hr1, hq1⟩ := h
  obtain ⟨n1, hn1⟩ := lp_n hr1
  have I1 : ∀ (n : Nat) (x5 : Int32) (x6 : Int32) (M7 : im_M) (L' : List (Nat × Value)), lw_S w M7 → im_lk L' 0 = some (.ref 108) → im_lk L' 1 = some (.int p0) → im_lk L' 2 = some (.int p1) → im_lk L' 3 = some (.long p2) → im_lk L' 5 = some (.int x5) → im_lk L' 6 = some (.int x6) → lpn (uc3 (f_MSquareRows_spoil_L11 p0 p1 p2)) n (x5, x6, M7) = some r1 → ia (tb_G L xs) (dep + 1) J_MSquareRows_spoil (rwI w Q) (11, L', [], M7) := by
    intro n
    induction n with
    | zero => intro x5 x6 M7 L' hM7 l8 l9 l10 l11 l12 l13 hn; exact (lpn_0 hn).elim
    | succ n ih =>
      intro x5 x6 M7 L' hM7 l8 l9 l10 l11 l12 l13 hn
      have h := lpn_ed3 hn
      unfold f_MSquareRows_spoil_L11 at h
      refine iq_iload hS 13 J_MSquareRows_spoil_d11 l13 rfl ?_
      refine iq_bipush hS 15 J_MSquareRows_spoil_d13 (v := 64) (by decide +kernel) rfl ?_
      refine iq_icmp_ge hS 18 J_MSquareRows_spoil_d15 (t := 123) rfl (fun q15 => ?_) rfl (fun q15 => ?_)
      · replace h := ed_pos q15 h
        exact K1 _ _ _ hM7 l12 (lq_r h hq1)
      · replace h := ed_neg q15 h
        refine iq_iload_n hS 19 J_MSquareRows_spoil_d18 l9 rfl ?_
        refine iq_i2l hS 20 J_MSquareRows_spoil_d19 rfl ?_
        refine iq_iload hS 22 J_MSquareRows_spoil_d20 l13 rfl ?_
        refine iq_i2l hS 23 J_MSquareRows_spoil_d22 rfl ?_
        refine iq_ladd hS 24 J_MSquareRows_spoil_d23 rfl ?_
        refine iq_lstore hS 26 J_MSquareRows_spoil_d24 (by decide) rfl ?_
        refine iq_aload_n hS 27 J_MSquareRows_spoil_d26 (lk_2r l8 (by decide) (by decide)) rfl ?_
        refine iq_getI hS 30 J_MSquareRows_spoil_d27 lf_16_229 (Or.inl rfl) (ka_108 hM7) rfl ?_
        have J14 : ∀ (z15 : Int32) (L' : List (Nat × Value)), z15 = ((if (im_i M7 108 7) ≤ 0 then 0 else (if p1 < 0 then 0 else (if (im_i M7 108 8) ≤ p1 then 0 else (if (lg_cmp ((Int32.toInt64 p0) + (Int32.toInt64 x6)) 0) < 0 then 0 else (if 0 ≤ (lg_cmp ((Int32.toInt64 p0) + (Int32.toInt64 x6)) (Int32.toInt64 (im_i M7 108 8))) then 0 else 1))))) : Int32) → im_lk L' 0 = some (.ref 108) → im_lk L' 1 = some (.int p0) → im_lk L' 2 = some (.int p1) → im_lk L' 3 = some (.long p2) → im_lk L' 5 = some (.int x5) → im_lk L' 6 = some (.int x6) → im_lk L' 7 = some (.long ((Int32.toInt64 p0) + (Int32.toInt64 x6))) → ia (tb_G L xs) (dep + 1) J_MSquareRows_spoil (rwI w Q) (68, L', [.int z15], M7) := by
          intro z15 L' e16 l17 l18 l19 l20 l21 l22 l23
          subst e16
          refine iq_istore hS 70 J_MSquareRows_spoil_d68 (by decide) rfl ?_
          refine iq_iload hS 72 J_MSquareRows_spoil_d70 lk_1s rfl ?_
          obtain ⟨Q24, hQ24, h⟩ := bd2_ed h
          have J24 : ∀ (y27 : Int32) (M28 : im_M) (L' : List (Nat × Value)), lw_S w M28 → im_lk L' 0 = some (.ref 108) → im_lk L' 1 = some (.int p0) → im_lk L' 2 = some (.int p1) → im_lk L' 3 = some (.long p2) → im_lk L' 5 = some (.int y27) → im_lk L' 6 = some (.int x6) → Q24 (y27, M28) → ia (tb_G L xs) (dep + 1) J_MSquareRows_spoil (rwI w Q) (117, L', [], M28) := by
            intro y27 M28 L' hM28 l29 l30 l31 l32 l33 l34 h
            replace h := hQ24 _ _ h
            refine iq_iincv hS 120 J_MSquareRows_spoil_d117 (c := 1) (by decide +kernel) l34 (by decide) rfl ?_
            refine iq_goto hS J_MSquareRows_spoil_d120 (t := 11) rfl ?_
            exact ih _ _ _ _ hM28 (lk_1r l29 (by decide)) (lk_1i l30 (by decide)) (lk_1i l31 (by decide)) (lk_1l l32 (by decide) (by decide)) (lk_1i l33 (by decide)) lk_1s (lq_l h)
          refine iq_if_eq hS 75 J_MSquareRows_spoil_d72 (t := 117) rfl (fun q72 => ?_) rfl (fun q72 => ?_)
          · replace h := ed_pos q72 h
            exact J24 _ _ _ hM7 (lk_1r l17 (by decide)) (lk_1i l18 (by decide)) (lk_1i l19 (by decide)) (lk_1l l20 (by decide) (by decide)) (lk_1i l21 (by decide)) (lk_1i l22 (by decide)) (ed_some h)
          · replace h := ed_neg q72 h
            refine iq_lload_n hS 76 J_MSquareRows_spoil_d75 (lk_1l l20 (by decide) (by decide)) rfl ?_
            refine iq_iload hS 78 J_MSquareRows_spoil_d76 (lk_1i l22 (by decide)) rfl ?_
            refine iq_lshr hS 79 J_MSquareRows_spoil_d78 rfl ?_
            refine iq_lconst hS 80 J_MSquareRows_spoil_d79 (v := 1) (by decide +kernel) rfl ?_
            refine iq_land hS 81 J_MSquareRows_spoil_d80 rfl ?_
            refine iq_lconst hS 82 J_MSquareRows_spoil_d81 (v := 1) (by decide +kernel) rfl ?_
            refine iq_lcmp hS 83 J_MSquareRows_spoil_d82 rfl ?_
            refine iq_if_ne hS 86 J_MSquareRows_spoil_d83 (t := 117) rfl (fun q83 => ?_) rfl (fun q83 => ?_)
            · replace h := ed_pos q83 h
              exact J24 _ _ _ hM7 (lk_1r l17 (by decide)) (lk_1i l18 (by decide)) (lk_1i l19 (by decide)) (lk_1l l20 (by decide) (by decide)) (lk_1i l21 (by decide)) (lk_1i l22 (by decide)) (ed_some h)
            · replace h := ed_neg q83 h
              refine iq_aload_n hS 87 J_MSquareRows_spoil_d86 (lk_1r l17 (by decide)) rfl ?_
              refine iq_getR hS 90 J_MSquareRows_spoil_d87 lf_16_19 (Or.inr ⟨_, rfl⟩) (ka_108 hM7) (ra_108_5 hM7) rfl ?_
              refine iq_aload_n hS 91 J_MSquareRows_spoil_d90 (lk_1r l17 (by decide)) rfl ?_
              refine iq_lload hS 93 J_MSquareRows_spoil_d91 (lk_1l l23 (by decide) (by decide)) rfl ?_
              refine iq_l2i hS 94 J_MSquareRows_spoil_d93 rfl ?_
              refine iq_iload_n hS 95 J_MSquareRows_spoil_d94 (lk_1i l19 (by decide)) rfl ?_
              obtain ⟨Q25, hQ25, h⟩ := bd1_ed h
              refine iq_cpI hS 98 J_MSquareRows_spoil_d95 rfl (pr_inst (vs := [_, _]) lc_16_166 lT_418 rfl rfl (by decide) (by decide) rfl (Nat.le_of_ble_eq_true rfl) (Nat.le_of_ble_eq_true rfl) (fun _ => Or.inl (pr_b (ka_108 hM7) (by decide) rfl))) (f_MSquareRows_moduleAt_ok (dep := dep + 0) hM7 h) rfl ?_
              intro x25 h
              replace h := hQ25 _ h
              refine iq_iconst hS 99 J_MSquareRows_spoil_d98 (v := 1) (by decide +kernel) rfl ?_
              refine iq_aload_n hS 100 J_MSquareRows_spoil_d99 (lk_1r l17 (by decide)) rfl ?_
              refine iq_getR hS 103 J_MSquareRows_spoil_d100 lf_16_19 (Or.inr ⟨_, rfl⟩) (ka_108 hM7) (ra_108_5 hM7) rfl ?_
              refine iq_aload_n hS 104 J_MSquareRows_spoil_d103 (lk_1r l17 (by decide)) rfl ?_
              refine iq_lload hS 106 J_MSquareRows_spoil_d104 (lk_1l l23 (by decide) (by decide)) rfl ?_
              refine iq_l2i hS 107 J_MSquareRows_spoil_d106 rfl ?_
              refine iq_iload_n hS 108 J_MSquareRows_spoil_d107 (lk_1i l19 (by decide)) rfl ?_
              obtain ⟨Q26, hQ26, h⟩ := bd1_ed h
              refine iq_cpI hS 111 J_MSquareRows_spoil_d108 rfl (pr_inst (vs := [_, _]) lc_16_166 lT_418 rfl rfl (by decide) (by decide) rfl (Nat.le_of_ble_eq_true rfl) (Nat.le_of_ble_eq_true rfl) (fun _ => Or.inl (pr_b (ka_108 hM7) (by decide) rfl))) (f_MSquareRows_moduleAt_ok (dep := dep + 0) hM7 h) rfl ?_
              intro x26 h
              replace h := hQ26 _ h
              obtain ⟨g111, h⟩ := ed_gd h
              refine iq_iaload hS 112 J_MSquareRows_spoil_d111 ⟨(ka_112 hM7).1, (ka_112 hM7).2, g111.1, ix_lt (kl_112 hM7) g111.2⟩ rfl ?_
              refine iq_isub hS 113 J_MSquareRows_spoil_d112 rfl ?_
              obtain ⟨g113, h⟩ := ed_gd h
              refine iq_iastore hS 114 J_MSquareRows_spoil_d113 ⟨(ka_112 hM7).1, (ka_112 hM7).2, g113.1, ix_lt (kl_112 hM7) g113.2⟩ rfl ?_
              refine iq_iincv hS 117 J_MSquareRows_spoil_d114 (c := 1) (by decide +kernel) (lk_1i l21 (by decide)) (by decide) rfl ?_
              exact J24 _ _ _ (lw_sI hM7) (lk_1r (lk_1r l17 (by decide)) (by decide)) (lk_1i (lk_1i l18 (by decide)) (by decide)) (lk_1i (lk_1i l19 (by decide)) (by decide)) (lk_1l (lk_1l l20 (by decide) (by decide)) (by decide) (by decide)) lk_1s (lk_1i (lk_1i l22 (by decide)) (by decide)) (ed_some h)
        refine iq_if_le hS 33 J_MSquareRows_spoil_d30 (t := 67) rfl (fun q30 => ?_) rfl (fun q30 => ?_)
        · refine iq_iconst hS 68 J_MSquareRows_spoil_d67 (v := 0) (by decide +kernel) rfl ?_
          exact J14 _ _ (by simp only [if_pos q30]) (lk_2r l8 (by decide) (by decide)) (lk_2i l9 (by decide) (by decide)) (lk_2i l10 (by decide) (by decide)) (lk_2l l11 (by decide) (by decide) (by decide)) (lk_2i l12 (by decide) (by decide)) (lk_2i l13 (by decide) (by decide)) lk_2s
        · refine iq_iload_n hS 34 J_MSquareRows_spoil_d33 (lk_2i l10 (by decide) (by decide)) rfl ?_
          refine iq_if_lt hS 37 J_MSquareRows_spoil_d34 (t := 67) rfl (fun q34 => ?_) rfl (fun q34 => ?_)
          · refine iq_iconst hS 68 J_MSquareRows_spoil_d67 (v := 0) (by decide +kernel) rfl ?_
            exact J14 _ _ (by simp only [if_neg q30, if_pos q34]) (lk_2r l8 (by decide) (by decide)) (lk_2i l9 (by decide) (by decide)) (lk_2i l10 (by decide) (by decide)) (lk_2l l11 (by decide) (by decide) (by decide)) (lk_2i l12 (by decide) (by decide)) (lk_2i l13 (by decide) (by decide)) lk_2s
          · refine iq_iload_n hS 38 J_MSquareRows_spoil_d37 (lk_2i l10 (by decide) (by decide)) rfl ?_
            refine iq_aload_n hS 39 J_MSquareRows_spoil_d38 (lk_2r l8 (by decide) (by decide)) rfl ?_
            refine iq_getI hS 42 J_MSquareRows_spoil_d39 lf_16_163 (Or.inl rfl) (ka_108 hM7) rfl ?_
            refine iq_icmp_ge hS 45 J_MSquareRows_spoil_d42 (t := 67) rfl (fun q42 => ?_) rfl (fun q42 => ?_)
            · refine iq_iconst hS 68 J_MSquareRows_spoil_d67 (v := 0) (by decide +kernel) rfl ?_
              exact J14 _ _ (by simp only [if_neg q30, if_neg q34, if_pos q42]) (lk_2r l8 (by decide) (by decide)) (lk_2i l9 (by decide) (by decide)) (lk_2i l10 (by decide) (by decide)) (lk_2l l11 (by decide) (by decide) (by decide)) (lk_2i l12 (by decide) (by decide)) (lk_2i l13 (by decide) (by decide)) lk_2s
            · refine iq_lload hS 47 J_MSquareRows_spoil_d45 lk_2s rfl ?_
              refine iq_lconst hS 48 J_MSquareRows_spoil_d47 (v := 0) (by decide +kernel) rfl ?_
              refine iq_lcmp hS 49 J_MSquareRows_spoil_d48 rfl ?_
              refine iq_if_lt hS 52 J_MSquareRows_spoil_d49 (t := 67) rfl (fun q49 => ?_) rfl (fun q49 => ?_)
              · refine iq_iconst hS 68 J_MSquareRows_spoil_d67 (v := 0) (by decide +kernel) rfl ?_
                exact J14 _ _ (by simp only [if_neg q30, if_neg q34, if_neg q42, if_pos q49]) (lk_2r l8 (by decide) (by decide)) (lk_2i l9 (by decide) (by decide)) (lk_2i l10 (by decide) (by decide)) (lk_2l l11 (by decide) (by decide) (by decide)) (lk_2i l12 (by decide) (by decide)) (lk_2i l13 (by decide) (by decide)) lk_2s
              · refine iq_lload hS 54 J_MSquareRows_spoil_d52 lk_2s rfl ?_
                refine iq_aload_n hS 55 J_MSquareRows_spoil_d54 (lk_2r l8 (by decide) (by decide)) rfl ?_
                refine iq_getI hS 58 J_MSquareRows_spoil_d55 lf_16_163 (Or.inl rfl) (ka_108 hM7) rfl ?_
                refine iq_i2l hS 59 J_MSquareRows_spoil_d58 rfl ?_
                refine iq_lcmp hS 60 J_MSquareRows_spoil_d59 rfl ?_
                refine iq_if_ge hS 63 J_MSquareRows_spoil_d60 (t := 67) rfl (fun q60 => ?_) rfl (fun q60 => ?_)
                · refine iq_iconst hS 68 J_MSquareRows_spoil_d67 (v := 0) (by decide +kernel) rfl ?_
                  exact J14 _ _ (by simp only [if_neg q30, if_neg q34, if_neg q42, if_neg q49, if_pos q60]) (lk_2r l8 (by decide) (by decide)) (lk_2i l9 (by decide) (by decide)) (lk_2i l10 (by decide) (by decide)) (lk_2l l11 (by decide) (by decide) (by decide)) (lk_2i l12 (by decide) (by decide)) (lk_2i l13 (by decide) (by decide)) lk_2s
                · refine iq_iconst hS 64 J_MSquareRows_spoil_d63 (v := 1) (by decide +kernel) rfl ?_
                  refine iq_goto hS J_MSquareRows_spoil_d64 (t := 68) rfl ?_
                  exact J14 _ _ (by simp only [if_neg q30, if_neg q34, if_neg q42, if_neg q49, if_neg q60]) (lk_2r l8 (by decide) (by decide)) (lk_2i l9 (by decide) (by decide)) (lk_2i l10 (by decide) (by decide)) (lk_2l l11 (by decide) (by decide) (by decide)) (lk_2i l12 (by decide) (by decide)) (lk_2i l13 (by decide) (by decide)) lk_2s
  exact I1 n1 _ _ _ _ (lw_sI hM) (lk_1r (lk_1r l0 (by decide)) (by decide)) (lk_1i (lk_1i l1 (by decide)) (by decide)) (lk_1i (lk_1i l2 (by decide)) (by decide)) (lk_1l (lk_1l l3 (by decide) (by decide)) (by decide) (by decide)) (lk_1i lk_1s (by decide)) lk_1s hn1
theorem f_MSquareRows_spoil_fr {p0 : Int32} {p1 : Int32} {p2 : Int64} {M : im_M} {r : Int32 × im_M} (h : f_MSquareRows_spoil p0 p1 p2 M = some r) : fr 5192296858534827628530496329220096 [(108, 0)] M r.2 := by
  replace h : ed (f_MSquareRows_spoil p0 p1 p2 M) (fun x => x = r) := ⟨r, h, rfl⟩
  unfold f_MSquareRows_spoil at h
  obtain ⟨Q1, hQ1, h⟩ := bd2_ed h
  have K1 : ∀ (y2 : Int32) (M3 : im_M), fr 5192296858534827628530496329220096 [(108, 0)] M M3 → Q1 (y2, M3) → fr 5192296858534827628530496329220096 [(108, 0)] M r.2 := by
    intro y2 M3 hM3 h
    replace h := hQ1 _ _ h
    exact fr_ret h hM3
  obtain ⟨r1, hr1, hq1⟩ := h
  obtain ⟨n1, hn1⟩ := lp_n hr1
  have I1 : ∀ (n : Nat) (x4 : Int32) (x5 : Int32) (M6 : im_M), fr 5192296858534827628530496329220096 [(108, 0)] M M6 → lpn (uc3 (f_MSquareRows_spoil_L11 p0 p1 p2)) n (x4, x5, M6) = some r1 → fr 5192296858534827628530496329220096 [(108, 0)] M r.2 := by
    intro n
    induction n with
    | zero => intro x4 x5 M6 hM6 hn; exact (lpn_0 hn).elim
    | succ n ih =>
      intro x4 x5 M6 hM6 hn
      have h := lpn_ed3 hn
      unfold f_MSquareRows_spoil_L11 at h
      by_cases q15 : 64 ≤ x5
      · replace h := ed_pos q15 h
        exact K1 _ _ hM6 (lq_r h hq1)
      · replace h := ed_neg q15 h
        obtain ⟨Q8, hQ8, h⟩ := bd2_ed h
        have J8 : ∀ (y11 : Int32) (M12 : im_M), fr 5192296858534827628530496329220096 [(108, 0)] M M12 → Q8 (y11, M12) → fr 5192296858534827628530496329220096 [(108, 0)] M r.2 := by
          intro y11 M12 hM12 h
          replace h := hQ8 _ _ h
          exact ih _ _ _ hM12 (lq_l h)
        by_cases q72 : ((if (im_i M6 108 7) ≤ 0 then 0 else (if p1 < 0 then 0 else (if (im_i M6 108 8) ≤ p1 then 0 else (if (lg_cmp ((Int32.toInt64 p0) + (Int32.toInt64 x5)) 0) < 0 then 0 else (if 0 ≤ (lg_cmp ((Int32.toInt64 p0) + (Int32.toInt64 x5)) (Int32.toInt64 (im_i M6 108 8))) then 0 else 1))))) : Int32) = 0
        · replace h := ed_pos q72 h
          exact J8 _ _ hM6 (ed_some h)
        · replace h := ed_neg q72 h
          by_cases q83 : ¬ (lg_cmp ((p2 >>> (Int32.toInt64 x5 &&& 63) : Int64) &&& 1) 1) = 0
          · replace h := ed_pos q83 h
            exact J8 _ _ hM6 (ed_some h)
          · replace h := ed_neg q83 h
            obtain ⟨Q9, hQ9, h⟩ := bd1_ed h
            obtain ⟨x9, e9, h⟩ := h
            replace h := hQ9 _ h
            obtain ⟨Q10, hQ10, h⟩ := bd1_ed h
            obtain ⟨x10, e10, h⟩ := h
            replace h := hQ10 _ h
            obtain ⟨g111, h⟩ := ed_gd h
            obtain ⟨g113, h⟩ := ed_gd h
            exact J8 _ _ (fr_I (by decide) hM6) (ed_some h)
  exact I1 n1 _ _ _ (fr_F (by decide) fr_refl) hn1
noncomputable def f_MSquareRows_formBits_L4 (v2 : Int32) (M5 : im_M) (x3 : Int32) (x4 : Int32) : Option ((Int32 × Int32) ⊕ (Int32)) := if 15 ≤ x4 then some (.inr x3) else bd1 (f_MSquareRows_formX x4 v2 (im_i M5 108 8) M5) fun (x6 : Int32) => bd1 (f_MSquareRows_formY x4 v2 (im_i M5 108 8) M5) fun (x7 : Int32) => bd1 (f_MSquareRows_moduleAt x6 x7 M5) fun (x8 : Int32) => gd (inb x8 31329) <| some (.inl ((x3 ||| ((im_i M5 112 (Int32.toNatClampNeg x8)) <<< (x4 &&& 31 : Int32) : Int32)), (x4 + 1)))
noncomputable def f_MSquareRows_formBits (p0 : Int32) (M : im_M) : Option (Int32) := bd1 (lp (uc2 (f_MSquareRows_formBits_L4 p0 M)) (0, 0)) fun (y9 : Int32) => some y9
theorem J_MSquareRows_formBits_d0 : decode J_MSquareRows_formBits.2.1 0 = .ok (.iconst 0, 1) := by decide +kernel
theorem J_MSquareRows_formBits_d1 : decode J_MSquareRows_formBits.2.1 1 = .ok (.istore_n 2, 1) := by decide +kernel
theorem J_MSquareRows_formBits_d2 : decode J_MSquareRows_formBits.2.1 2 = .ok (.iconst 0, 1) := by decide +kernel
theorem J_MSquareRows_formBits_d3 : decode J_MSquareRows_formBits.2.1 3 = .ok (.istore_n 3, 1) := by decide +kernel
theorem J_MSquareRows_formBits_d4 : decode J_MSquareRows_formBits.2.1 4 = .ok (.iload_n 3, 1) := by decide +kernel
theorem J_MSquareRows_formBits_d5 : decode J_MSquareRows_formBits.2.1 5 = .ok (.bipush 15, 2) := by decide +kernel
theorem J_MSquareRows_formBits_d7 : decode J_MSquareRows_formBits.2.1 7 = .ok (.if_icmp .ge 41, 3) := by decide +kernel
theorem J_MSquareRows_formBits_d10 : decode J_MSquareRows_formBits.2.1 10 = .ok (.iload_n 2, 1) := by decide +kernel
theorem J_MSquareRows_formBits_d11 : decode J_MSquareRows_formBits.2.1 11 = .ok (.aload_n 0, 1) := by decide +kernel
theorem J_MSquareRows_formBits_d12 : decode J_MSquareRows_formBits.2.1 12 = .ok (.getfield 19, 3) := by decide +kernel
theorem J_MSquareRows_formBits_d15 : decode J_MSquareRows_formBits.2.1 15 = .ok (.aload_n 0, 1) := by decide +kernel
theorem J_MSquareRows_formBits_d16 : decode J_MSquareRows_formBits.2.1 16 = .ok (.iload_n 3, 1) := by decide +kernel
theorem J_MSquareRows_formBits_d17 : decode J_MSquareRows_formBits.2.1 17 = .ok (.iload_n 1, 1) := by decide +kernel
theorem J_MSquareRows_formBits_d18 : decode J_MSquareRows_formBits.2.1 18 = .ok (.aload_n 0, 1) := by decide +kernel
theorem J_MSquareRows_formBits_d19 : decode J_MSquareRows_formBits.2.1 19 = .ok (.getfield 163, 3) := by decide +kernel
theorem J_MSquareRows_formBits_d22 : decode J_MSquareRows_formBits.2.1 22 = .ok (.invokestatic 178, 3) := by decide +kernel
theorem J_MSquareRows_formBits_d25 : decode J_MSquareRows_formBits.2.1 25 = .ok (.iload_n 3, 1) := by decide +kernel
theorem J_MSquareRows_formBits_d26 : decode J_MSquareRows_formBits.2.1 26 = .ok (.iload_n 1, 1) := by decide +kernel
theorem J_MSquareRows_formBits_d27 : decode J_MSquareRows_formBits.2.1 27 = .ok (.aload_n 0, 1) := by decide +kernel
theorem J_MSquareRows_formBits_d28 : decode J_MSquareRows_formBits.2.1 28 = .ok (.getfield 163, 3) := by decide +kernel
theorem J_MSquareRows_formBits_d31 : decode J_MSquareRows_formBits.2.1 31 = .ok (.invokestatic 182, 3) := by decide +kernel
theorem J_MSquareRows_formBits_d34 : decode J_MSquareRows_formBits.2.1 34 = .ok (.invokevirtual 166, 3) := by decide +kernel
theorem J_MSquareRows_formBits_d37 : decode J_MSquareRows_formBits.2.1 37 = .ok (.iaload, 1) := by decide +kernel
theorem J_MSquareRows_formBits_d38 : decode J_MSquareRows_formBits.2.1 38 = .ok (.iload_n 3, 1) := by decide +kernel
theorem J_MSquareRows_formBits_d39 : decode J_MSquareRows_formBits.2.1 39 = .ok (.ishl, 1) := by decide +kernel
theorem J_MSquareRows_formBits_d40 : decode J_MSquareRows_formBits.2.1 40 = .ok (.ior, 1) := by decide +kernel
theorem J_MSquareRows_formBits_d41 : decode J_MSquareRows_formBits.2.1 41 = .ok (.istore_n 2, 1) := by decide +kernel
theorem J_MSquareRows_formBits_d42 : decode J_MSquareRows_formBits.2.1 42 = .ok (.iinc 3 1, 3) := by decide +kernel
theorem J_MSquareRows_formBits_d45 : decode J_MSquareRows_formBits.2.1 45 = .ok (.goto (-41), 3) := by decide +kernel
theorem J_MSquareRows_formBits_d48 : decode J_MSquareRows_formBits.2.1 48 = .ok (.iload_n 2, 1) := by decide +kernel
theorem J_MSquareRows_formBits_d49 : decode J_MSquareRows_formBits.2.1 49 = .ok (.ireturn, 1) := by decide +kernel
theorem f_MSquareRows_formBits_ok {L : Nat} {xs : Nat → Int32} {dep : Nat} {w : Bool} {p0 : Int32} {M : im_M} {Q : Int32 → Prop} (hM : lw_S w M) (h : ed (f_MSquareRows_formBits p0 M) Q) : ia (tb_G L xs) (dep + 1) J_MSquareRows_formBits (rpI M Q) (0, lv_args 0 [.ref 108, .int p0], [], M) := by
  have hS : im_St (tb_G L xs) (dep + 1) J_MSquareRows_formBits (ia (tb_G L xs) (dep + 1) J_MSquareRows_formBits (rpI M Q)) := ia_St
  unfold f_MSquareRows_formBits at h
  have l0 : im_lk (lv_args 0 [.ref 108, .int p0]) 0 = some (.ref 108) := rfl
  have l1 : im_lk (lv_args 0 [.ref 108, .int p0]) 1 = some (.int p0) := rfl
  refine iq_iconst hS 1 J_MSquareRows_formBits_d0 (v := 0) (by decide +kernel) rfl ?_
  refine iq_istore_n hS 2 J_MSquareRows_formBits_d1 (by decide) rfl ?_
  refine iq_iconst hS 3 J_MSquareRows_formBits_d2 (v := 0) (by decide +kernel) rfl ?_
  refine iq_istore_n hS 4 J_MSquareRows_formBits_d3 (by decide) rfl ?_
  obtain ⟨Q1, hQ1, h⟩ := bd1_ed h
  have K1 : ∀ (y2 : Int32) (L' : List (Nat × Value)), im_lk L' 2 = some (.int y2) → Q1 y2 → ia (tb_G L xs) (dep + 1) J_MSquareRows_formBits (rpI M Q) (48, L', [], M) := by
    intro y2 L' l3 h
    replace h := hQ1 _ h
    refine iq_iload_n hS 49 J_MSquareRows_formBits_d48 l3 rfl ?_
    exact iq_iret J_MSquareRows_formBits_d49 rfl rfl ⟨_, rfl, rfl, ed_some h⟩
  obtain ⟨r1, hr1, hq1⟩ := h
  obtain ⟨n1, hn1⟩ := lp_n hr1
  have I1 : ∀ (n : Nat) (x4 : Int32) (x5 : Int32) (L' : List (Nat × Value)), im_lk L' 0 = some (.ref 108) → im_lk L' 1 = some (.int p0) → im_lk L' 2 = some (.int x4) → im_lk L' 3 = some (.int x5) → lpn (uc2 (f_MSquareRows_formBits_L4 p0 M)) n (x4, x5) = some r1 → ia (tb_G L xs) (dep + 1) J_MSquareRows_formBits (rpI M Q) (4, L', [], M) := by
    intro n
    induction n with
    | zero => intro x4 x5 L' l6 l7 l8 l9 hn; exact (lpn_0 hn).elim
    | succ n ih =>
      intro x4 x5 L' l6 l7 l8 l9 hn
      have h := lpn_ed2 hn
      unfold f_MSquareRows_formBits_L4 at h
      refine iq_iload_n hS 5 J_MSquareRows_formBits_d4 l9 rfl ?_
      refine iq_bipush hS 7 J_MSquareRows_formBits_d5 (v := 15) (by decide +kernel) rfl ?_
      refine iq_icmp_ge hS 10 J_MSquareRows_formBits_d7 (t := 48) rfl (fun q7 => ?_) rfl (fun q7 => ?_)
      · replace h := ed_pos q7 h
        exact K1 _ _ l8 (lq_r h hq1)
      · replace h := ed_neg q7 h
        refine iq_iload_n hS 11 J_MSquareRows_formBits_d10 l8 rfl ?_
        refine iq_aload_n hS 12 J_MSquareRows_formBits_d11 l6 rfl ?_
        refine iq_getR hS 15 J_MSquareRows_formBits_d12 lf_16_19 (Or.inr ⟨_, rfl⟩) (ka_108 hM) (ra_108_5 hM) rfl ?_
        refine iq_aload_n hS 16 J_MSquareRows_formBits_d15 l6 rfl ?_
        refine iq_iload_n hS 17 J_MSquareRows_formBits_d16 l9 rfl ?_
        refine iq_iload_n hS 18 J_MSquareRows_formBits_d17 l7 rfl ?_
        refine iq_aload_n hS 19 J_MSquareRows_formBits_d18 l6 rfl ?_
        refine iq_getI hS 22 J_MSquareRows_formBits_d19 lf_16_163 (Or.inl rfl) (ka_108 hM) rfl ?_
        obtain ⟨Q10, hQ10, h⟩ := bd1_ed h
        refine iq_cpI hS 25 J_MSquareRows_formBits_d22 rfl (pr_stat (vs := [_, _, _]) lc_16_178 lT_425 rfl rfl (by decide) rfl (Nat.le_of_ble_eq_true rfl) (Nat.le_of_ble_eq_true rfl)) (f_MSquareRows_formX_ok (dep := dep + 0) hM h) rfl ?_
        intro x10 h
        replace h := hQ10 _ h
        refine iq_iload_n hS 26 J_MSquareRows_formBits_d25 l9 rfl ?_
        refine iq_iload_n hS 27 J_MSquareRows_formBits_d26 l7 rfl ?_
        refine iq_aload_n hS 28 J_MSquareRows_formBits_d27 l6 rfl ?_
        refine iq_getI hS 31 J_MSquareRows_formBits_d28 lf_16_163 (Or.inl rfl) (ka_108 hM) rfl ?_
        obtain ⟨Q11, hQ11, h⟩ := bd1_ed h
        refine iq_cpI hS 34 J_MSquareRows_formBits_d31 rfl (pr_stat (vs := [_, _, _]) lc_16_182 lT_426 rfl rfl (by decide) rfl (Nat.le_of_ble_eq_true rfl) (Nat.le_of_ble_eq_true rfl)) (f_MSquareRows_formY_ok (dep := dep + 0) hM h) rfl ?_
        intro x11 h
        replace h := hQ11 _ h
        obtain ⟨Q12, hQ12, h⟩ := bd1_ed h
        refine iq_cpI hS 37 J_MSquareRows_formBits_d34 rfl (pr_inst (vs := [_, _]) lc_16_166 lT_418 rfl rfl (by decide) (by decide) rfl (Nat.le_of_ble_eq_true rfl) (Nat.le_of_ble_eq_true rfl) (fun _ => Or.inl (pr_b (ka_108 hM) (by decide) rfl))) (f_MSquareRows_moduleAt_ok (dep := dep + 0) hM h) rfl ?_
        intro x12 h
        replace h := hQ12 _ h
        obtain ⟨g37, h⟩ := ed_gd h
        refine iq_iaload hS 38 J_MSquareRows_formBits_d37 ⟨(ka_112 hM).1, (ka_112 hM).2, g37.1, ix_lt (kl_112 hM) g37.2⟩ rfl ?_
        refine iq_iload_n hS 39 J_MSquareRows_formBits_d38 l9 rfl ?_
        refine iq_ishl hS 40 J_MSquareRows_formBits_d39 rfl ?_
        refine iq_ior hS 41 J_MSquareRows_formBits_d40 rfl ?_
        refine iq_istore_n hS 42 J_MSquareRows_formBits_d41 (by decide) rfl ?_
        refine iq_iincv hS 45 J_MSquareRows_formBits_d42 (c := 1) (by decide +kernel) (lk_1i l9 (by decide)) (by decide) rfl ?_
        refine iq_goto hS J_MSquareRows_formBits_d45 (t := 4) rfl ?_
        exact ih _ _ _ (lk_1r (lk_1r l6 (by decide)) (by decide)) (lk_1i (lk_1i l7 (by decide)) (by decide)) (lk_1i lk_1s (by decide)) lk_1s (lq_l h)
  exact I1 n1 _ _ _ (lk_1r (lk_1r l0 (by decide)) (by decide)) (lk_1i (lk_1i l1 (by decide)) (by decide)) (lk_1i lk_1s (by decide)) lk_1s hn1
noncomputable def f_MSquareRows_ones_L4 (v2 : Int32) (M5 : im_M) (x3 : Int32) (x4 : Int32) : Option ((Int32 × Int32) ⊕ (Int32)) := if 15 ≤ x4 then some (.inr x3) else some (.inl ((x3 + ((v2 >>> (x4 &&& 31 : Int32) : Int32) &&& 1)), (x4 + 1)))
noncomputable def f_MSquareRows_ones (p0 : Int32) (M : im_M) : Option (Int32) := bd1 (lp (uc2 (f_MSquareRows_ones_L4 p0 M)) (0, 0)) fun (y6 : Int32) => some y6
theorem J_MSquareRows_ones_d0 : decode J_MSquareRows_ones.2.1 0 = .ok (.iconst 0, 1) := by decide +kernel
theorem J_MSquareRows_ones_d1 : decode J_MSquareRows_ones.2.1 1 = .ok (.istore_n 1, 1) := by decide +kernel
theorem J_MSquareRows_ones_d2 : decode J_MSquareRows_ones.2.1 2 = .ok (.iconst 0, 1) := by decide +kernel
theorem J_MSquareRows_ones_d3 : decode J_MSquareRows_ones.2.1 3 = .ok (.istore_n 2, 1) := by decide +kernel
theorem J_MSquareRows_ones_d4 : decode J_MSquareRows_ones.2.1 4 = .ok (.iload_n 2, 1) := by decide +kernel
theorem J_MSquareRows_ones_d5 : decode J_MSquareRows_ones.2.1 5 = .ok (.bipush 15, 2) := by decide +kernel
theorem J_MSquareRows_ones_d7 : decode J_MSquareRows_ones.2.1 7 = .ok (.if_icmp .ge 17, 3) := by decide +kernel
theorem J_MSquareRows_ones_d10 : decode J_MSquareRows_ones.2.1 10 = .ok (.iload_n 1, 1) := by decide +kernel
theorem J_MSquareRows_ones_d11 : decode J_MSquareRows_ones.2.1 11 = .ok (.iload_n 0, 1) := by decide +kernel
theorem J_MSquareRows_ones_d12 : decode J_MSquareRows_ones.2.1 12 = .ok (.iload_n 2, 1) := by decide +kernel
theorem J_MSquareRows_ones_d13 : decode J_MSquareRows_ones.2.1 13 = .ok (.ishr, 1) := by decide +kernel
theorem J_MSquareRows_ones_d14 : decode J_MSquareRows_ones.2.1 14 = .ok (.iconst 1, 1) := by decide +kernel
theorem J_MSquareRows_ones_d15 : decode J_MSquareRows_ones.2.1 15 = .ok (.iand, 1) := by decide +kernel
theorem J_MSquareRows_ones_d16 : decode J_MSquareRows_ones.2.1 16 = .ok (.iadd, 1) := by decide +kernel
theorem J_MSquareRows_ones_d17 : decode J_MSquareRows_ones.2.1 17 = .ok (.istore_n 1, 1) := by decide +kernel
theorem J_MSquareRows_ones_d18 : decode J_MSquareRows_ones.2.1 18 = .ok (.iinc 2 1, 3) := by decide +kernel
theorem J_MSquareRows_ones_d21 : decode J_MSquareRows_ones.2.1 21 = .ok (.goto (-17), 3) := by decide +kernel
theorem J_MSquareRows_ones_d24 : decode J_MSquareRows_ones.2.1 24 = .ok (.iload_n 1, 1) := by decide +kernel
theorem J_MSquareRows_ones_d25 : decode J_MSquareRows_ones.2.1 25 = .ok (.ireturn, 1) := by decide +kernel
theorem f_MSquareRows_ones_ok {L : Nat} {xs : Nat → Int32} {dep : Nat} {w : Bool} {p0 : Int32} {M : im_M} {Q : Int32 → Prop} (hM : lw_S w M) (h : ed (f_MSquareRows_ones p0 M) Q) : ia (tb_G L xs) dep J_MSquareRows_ones (rpI M Q) (0, lv_args 0 [.int p0], [], M) := by
  have hS : im_St (tb_G L xs) dep J_MSquareRows_ones (ia (tb_G L xs) dep J_MSquareRows_ones (rpI M Q)) := ia_St
  unfold f_MSquareRows_ones at h
  have l0 : im_lk (lv_args 0 [.int p0]) 0 = some (.int p0) := rfl
  refine iq_iconst hS 1 J_MSquareRows_ones_d0 (v := 0) (by decide +kernel) rfl ?_
  refine iq_istore_n hS 2 J_MSquareRows_ones_d1 (by decide) rfl ?_
  refine iq_iconst hS 3 J_MSquareRows_ones_d2 (v := 0) (by decide +kernel) rfl ?_
  refine iq_istore_n hS 4 J_MSquareRows_ones_d3 (by decide) rfl ?_
  obtain ⟨Q1, hQ1, h⟩ := bd1_ed h
  have K1 : ∀ (y2 : Int32) (L' : List (Nat × Value)), im_lk L' 1 = some (.int y2) → Q1 y2 → ia (tb_G L xs) dep J_MSquareRows_ones (rpI M Q) (24, L', [], M) := by
    intro y2 L' l3 h
    replace h := hQ1 _ h
    refine iq_iload_n hS 25 J_MSquareRows_ones_d24 l3 rfl ?_
    exact iq_iret J_MSquareRows_ones_d25 rfl rfl ⟨_, rfl, rfl, ed_some h⟩
  obtain ⟨r1, hr1, hq1⟩ := h
  obtain ⟨n1, hn1⟩ := lp_n hr1
  have I1 : ∀ (n : Nat) (x4 : Int32) (x5 : Int32) (L' : List (Nat × Value)), im_lk L' 0 = some (.int p0) → im_lk L' 1 = some (.int x4) → im_lk L' 2 = some (.int x5) → lpn (uc2 (f_MSquareRows_ones_L4 p0 M)) n (x4, x5) = some r1 → ia (tb_G L xs) dep J_MSquareRows_ones (rpI M Q) (4, L', [], M) := by
    intro n
    induction n with
    | zero => intro x4 x5 L' l6 l7 l8 hn; exact (lpn_0 hn).elim
    | succ n ih =>
      intro x4 x5 L' l6 l7 l8 hn
      have h := lpn_ed2 hn
      unfold f_MSquareRows_ones_L4 at h
      refine iq_iload_n hS 5 J_MSquareRows_ones_d4 l8 rfl ?_
      refine iq_bipush hS 7 J_MSquareRows_ones_d5 (v := 15) (by decide +kernel) rfl ?_
      refine iq_icmp_ge hS 10 J_MSquareRows_ones_d7 (t := 24) rfl (fun q7 => ?_) rfl (fun q7 => ?_)
      · replace h := ed_pos q7 h
        exact K1 _ _ l7 (lq_r h hq1)
      · replace h := ed_neg q7 h
        refine iq_iload_n hS 11 J_MSquareRows_ones_d10 l7 rfl ?_
        refine iq_iload_n hS 12 J_MSquareRows_ones_d11 l6 rfl ?_
        refine iq_iload_n hS 13 J_MSquareRows_ones_d12 l8 rfl ?_
        refine iq_ishr hS 14 J_MSquareRows_ones_d13 rfl ?_
        refine iq_iconst hS 15 J_MSquareRows_ones_d14 (v := 1) (by decide +kernel) rfl ?_
        refine iq_iand hS 16 J_MSquareRows_ones_d15 rfl ?_
        refine iq_iadd hS 17 J_MSquareRows_ones_d16 rfl ?_
        refine iq_istore_n hS 18 J_MSquareRows_ones_d17 (by decide) rfl ?_
        refine iq_iincv hS 21 J_MSquareRows_ones_d18 (c := 1) (by decide +kernel) (lk_1i l8 (by decide)) (by decide) rfl ?_
        refine iq_goto hS J_MSquareRows_ones_d21 (t := 4) rfl ?_
        exact ih _ _ _ (lk_1i (lk_1i l6 (by decide)) (by decide)) (lk_1i lk_1s (by decide)) lk_1s (lq_l h)
  exact I1 n1 _ _ _ (lk_1i (lk_1i l0 (by decide)) (by decide)) (lk_1i lk_1s (by decide)) lk_1s hn1
noncomputable def f_MSquareRows_formNumberRead_L24 (v7 : Int32) (v8 : Int32) (M10 : im_M) (x9 : Int32) : Option ((Int32) ⊕ ((Unit) ⊕ (Int32))) := if 32 ≤ x9 then some (.inr (.inl ())) else bd1 (f_MSquareRows_formWord x9 M10) fun (x11 : Int32) => bd1 (f_MSquareRows_ones (v8 ^^^ x11) M10) fun (x12 : Int32) => if 3 < x12 then some (.inl (x9 + 1)) else some (.inr (.inr x9))
noncomputable def f_MSquareRows_formNumberRead_L2 (M3 : im_M) (x2 : Int32) : Option ((Int32) ⊕ ((Unit) ⊕ (Int32))) := if 2 ≤ x2 then some (.inr (.inl ())) else bd1 (f_MSquareRows_formBits ((if ¬ x2 = 1 then 0 else 1) : Int32) M3) fun (x5 : Int32) => bs0 (lp (uc1 (f_MSquareRows_formNumberRead_L24 x2 x5 M3)) 0) (fun (_ : Unit) => some (.inl (x2 + 1))) (fun t => some (.inr (.inr t)))
noncomputable def f_MSquareRows_formNumberRead (M : im_M) : Option (Int32) := bs0 (lp (uc1 (f_MSquareRows_formNumberRead_L2 M)) 0) (fun (_ : Unit) => some (-1)) (fun t => some t)
theorem J_MSquareRows_formNumberRead_d0 : decode J_MSquareRows_formNumberRead.2.1 0 = .ok (.iconst 0, 1) := by decide +kernel
theorem J_MSquareRows_formNumberRead_d1 : decode J_MSquareRows_formNumberRead.2.1 1 = .ok (.istore_n 1, 1) := by decide +kernel
theorem J_MSquareRows_formNumberRead_d2 : decode J_MSquareRows_formNumberRead.2.1 2 = .ok (.iload_n 1, 1) := by decide +kernel
theorem J_MSquareRows_formNumberRead_d3 : decode J_MSquareRows_formNumberRead.2.1 3 = .ok (.iconst 2, 1) := by decide +kernel
theorem J_MSquareRows_formNumberRead_d4 : decode J_MSquareRows_formNumberRead.2.1 4 = .ok (.if_icmp .ge 53, 3) := by decide +kernel
theorem J_MSquareRows_formNumberRead_d7 : decode J_MSquareRows_formNumberRead.2.1 7 = .ok (.aload_n 0, 1) := by decide +kernel
theorem J_MSquareRows_formNumberRead_d8 : decode J_MSquareRows_formNumberRead.2.1 8 = .ok (.iload_n 1, 1) := by decide +kernel
theorem J_MSquareRows_formNumberRead_d9 : decode J_MSquareRows_formNumberRead.2.1 9 = .ok (.iconst 1, 1) := by decide +kernel
theorem J_MSquareRows_formNumberRead_d10 : decode J_MSquareRows_formNumberRead.2.1 10 = .ok (.if_icmp .ne 7, 3) := by decide +kernel
theorem J_MSquareRows_formNumberRead_d13 : decode J_MSquareRows_formNumberRead.2.1 13 = .ok (.iconst 1, 1) := by decide +kernel
theorem J_MSquareRows_formNumberRead_d14 : decode J_MSquareRows_formNumberRead.2.1 14 = .ok (.goto 4, 3) := by decide +kernel
theorem J_MSquareRows_formNumberRead_d17 : decode J_MSquareRows_formNumberRead.2.1 17 = .ok (.iconst 0, 1) := by decide +kernel
theorem J_MSquareRows_formNumberRead_d18 : decode J_MSquareRows_formNumberRead.2.1 18 = .ok (.invokevirtual 267, 3) := by decide +kernel
theorem J_MSquareRows_formNumberRead_d21 : decode J_MSquareRows_formNumberRead.2.1 21 = .ok (.istore_n 2, 1) := by decide +kernel
theorem J_MSquareRows_formNumberRead_d22 : decode J_MSquareRows_formNumberRead.2.1 22 = .ok (.iconst 0, 1) := by decide +kernel
theorem J_MSquareRows_formNumberRead_d23 : decode J_MSquareRows_formNumberRead.2.1 23 = .ok (.istore_n 3, 1) := by decide +kernel
theorem J_MSquareRows_formNumberRead_d24 : decode J_MSquareRows_formNumberRead.2.1 24 = .ok (.iload_n 3, 1) := by decide +kernel
theorem J_MSquareRows_formNumberRead_d25 : decode J_MSquareRows_formNumberRead.2.1 25 = .ok (.bipush 32, 2) := by decide +kernel
theorem J_MSquareRows_formNumberRead_d27 : decode J_MSquareRows_formNumberRead.2.1 27 = .ok (.if_icmp .ge 24, 3) := by decide +kernel
theorem J_MSquareRows_formNumberRead_d30 : decode J_MSquareRows_formNumberRead.2.1 30 = .ok (.iload_n 2, 1) := by decide +kernel
theorem J_MSquareRows_formNumberRead_d31 : decode J_MSquareRows_formNumberRead.2.1 31 = .ok (.iload_n 3, 1) := by decide +kernel
theorem J_MSquareRows_formNumberRead_d32 : decode J_MSquareRows_formNumberRead.2.1 32 = .ok (.invokestatic 175, 3) := by decide +kernel
theorem J_MSquareRows_formNumberRead_d35 : decode J_MSquareRows_formNumberRead.2.1 35 = .ok (.ixor, 1) := by decide +kernel
theorem J_MSquareRows_formNumberRead_d36 : decode J_MSquareRows_formNumberRead.2.1 36 = .ok (.invokestatic 270, 3) := by decide +kernel
theorem J_MSquareRows_formNumberRead_d39 : decode J_MSquareRows_formNumberRead.2.1 39 = .ok (.iconst 3, 1) := by decide +kernel
theorem J_MSquareRows_formNumberRead_d40 : decode J_MSquareRows_formNumberRead.2.1 40 = .ok (.if_icmp .gt 5, 3) := by decide +kernel
theorem J_MSquareRows_formNumberRead_d43 : decode J_MSquareRows_formNumberRead.2.1 43 = .ok (.iload_n 3, 1) := by decide +kernel
theorem J_MSquareRows_formNumberRead_d44 : decode J_MSquareRows_formNumberRead.2.1 44 = .ok (.ireturn, 1) := by decide +kernel
theorem J_MSquareRows_formNumberRead_d45 : decode J_MSquareRows_formNumberRead.2.1 45 = .ok (.iinc 3 1, 3) := by decide +kernel
theorem J_MSquareRows_formNumberRead_d48 : decode J_MSquareRows_formNumberRead.2.1 48 = .ok (.goto (-24), 3) := by decide +kernel
theorem J_MSquareRows_formNumberRead_d51 : decode J_MSquareRows_formNumberRead.2.1 51 = .ok (.iinc 1 1, 3) := by decide +kernel
theorem J_MSquareRows_formNumberRead_d54 : decode J_MSquareRows_formNumberRead.2.1 54 = .ok (.goto (-52), 3) := by decide +kernel
theorem J_MSquareRows_formNumberRead_d57 : decode J_MSquareRows_formNumberRead.2.1 57 = .ok (.iconst (-1), 1) := by decide +kernel
theorem J_MSquareRows_formNumberRead_d58 : decode J_MSquareRows_formNumberRead.2.1 58 = .ok (.ireturn, 1) := by decide +kernel
theorem f_MSquareRows_formNumberRead_ok {L : Nat} {xs : Nat → Int32} {dep : Nat} {w : Bool} {M : im_M} {Q : Int32 → Prop} (hM : lw_S w M) (h : ed (f_MSquareRows_formNumberRead M) Q) : ia (tb_G L xs) (dep + 2) J_MSquareRows_formNumberRead (rpI M Q) (0, lv_args 0 [.ref 108], [], M) := by
  have hS : im_St (tb_G L xs) (dep + 2) J_MSquareRows_formNumberRead (ia (tb_G L xs) (dep + 2) J_MSquareRows_formNumberRead (rpI M Q)) := ia_St
  unfold f_MSquareRows_formNumberRead at h
  have l0 : im_lk (lv_args 0 [.ref 108]) 0 = some (.ref 108) := rfl
  refine iq_iconst hS 1 J_MSquareRows_formNumberRead_d0 (v := 0) (by decide +kernel) rfl ?_
  refine iq_istore_n hS 2 J_MSquareRows_formNumberRead_d1 (by decide) rfl ?_
  obtain ⟨Q1, hQ1, hR1, h⟩ := bs0_ed h
  have K1 : ∀  (L' : List (Nat × Value)), Q1 (.inl ()) → ia (tb_G L xs) (dep + 2) J_MSquareRows_formNumberRead (rpI M Q) (57, L', [], M) := by
    intro  L'  h
    replace h := hQ1  h
    refine iq_iconst hS 58 J_MSquareRows_formNumberRead_d57 (v := (-1)) (by decide +kernel) rfl ?_
    exact iq_iret J_MSquareRows_formNumberRead_d58 rfl rfl ⟨_, rfl, rfl, ed_some h⟩
  obtain ⟨r1, hr1, hq1⟩ := h
  obtain ⟨n1, hn1⟩ := lp_n hr1
  have I1 : ∀ (n : Nat) (x2 : Int32) (L' : List (Nat × Value)), im_lk L' 0 = some (.ref 108) → im_lk L' 1 = some (.int x2) → lpn (uc1 (f_MSquareRows_formNumberRead_L2 M)) n x2 = some r1 → ia (tb_G L xs) (dep + 2) J_MSquareRows_formNumberRead (rpI M Q) (2, L', [], M) := by
    intro n
    induction n with
    | zero => intro x2 L' l3 l4 hn; exact (lpn_0 hn).elim
    | succ n ih =>
      intro x2 L' l3 l4 hn
      have h := lpn_ed1 hn
      unfold f_MSquareRows_formNumberRead_L2 at h
      refine iq_iload_n hS 3 J_MSquareRows_formNumberRead_d2 l4 rfl ?_
      refine iq_iconst hS 4 J_MSquareRows_formNumberRead_d3 (v := 2) (by decide +kernel) rfl ?_
      refine iq_icmp_ge hS 7 J_MSquareRows_formNumberRead_d4 (t := 57) rfl (fun q4 => ?_) rfl (fun q4 => ?_)
      · replace h := ed_pos q4 h
        exact K1  _  (lq_r h hq1)
      · replace h := ed_neg q4 h
        refine iq_aload_n hS 8 J_MSquareRows_formNumberRead_d7 l3 rfl ?_
        refine iq_iload_n hS 9 J_MSquareRows_formNumberRead_d8 l4 rfl ?_
        refine iq_iconst hS 10 J_MSquareRows_formNumberRead_d9 (v := 1) (by decide +kernel) rfl ?_
        have J5 : ∀ (z6 : Int32) (L' : List (Nat × Value)), z6 = ((if ¬ x2 = 1 then 0 else 1) : Int32) → im_lk L' 0 = some (.ref 108) → im_lk L' 1 = some (.int x2) → ia (tb_G L xs) (dep + 2) J_MSquareRows_formNumberRead (rpI M Q) (18, L', [.int z6, .ref 108], M) := by
          intro z6 L' e7 l8 l9
          subst e7
          obtain ⟨Q10, hQ10, h⟩ := bd1_ed h
          refine iq_cpI hS 21 J_MSquareRows_formNumberRead_d18 rfl (pr_inst (vs := [_]) lc_16_267 lT_490 rfl rfl (by decide) (by decide) rfl (Nat.le_of_ble_eq_true rfl) (Nat.le_of_ble_eq_true rfl) (fun _ => Or.inl (pr_b (ka_108 hM) (by decide) rfl))) (f_MSquareRows_formBits_ok (dep := dep + 0) hM h) rfl ?_
          intro x10 h
          replace h := hQ10 _ h
          refine iq_istore_n hS 22 J_MSquareRows_formNumberRead_d21 (by decide) rfl ?_
          refine iq_iconst hS 23 J_MSquareRows_formNumberRead_d22 (v := 0) (by decide +kernel) rfl ?_
          refine iq_istore_n hS 24 J_MSquareRows_formNumberRead_d23 (by decide) rfl ?_
          obtain ⟨Q11, hQ11, hR11, h⟩ := bs0_ed h
          have K11 : ∀  (L' : List (Nat × Value)), im_lk L' 0 = some (.ref 108) → im_lk L' 1 = some (.int x2) → Q11 (.inl ()) → ia (tb_G L xs) (dep + 2) J_MSquareRows_formNumberRead (rpI M Q) (51, L', [], M) := by
            intro  L' l12 l13 h
            replace h := hQ11  h
            refine iq_iincv hS 54 J_MSquareRows_formNumberRead_d51 (c := 1) (by decide +kernel) l13 (by decide) rfl ?_
            refine iq_goto hS J_MSquareRows_formNumberRead_d54 (t := 2) rfl ?_
            exact ih _ _ (lk_1r l12 (by decide)) lk_1s (lq_l h)
          obtain ⟨r11, hr11, hq11⟩ := h
          obtain ⟨n11, hn11⟩ := lp_n hr11
          have I11 : ∀ (n : Nat) (x14 : Int32) (L' : List (Nat × Value)), im_lk L' 0 = some (.ref 108) → im_lk L' 1 = some (.int x2) → im_lk L' 2 = some (.int x10) → im_lk L' 3 = some (.int x14) → lpn (uc1 (f_MSquareRows_formNumberRead_L24 x2 x10 M)) n x14 = some r11 → ia (tb_G L xs) (dep + 2) J_MSquareRows_formNumberRead (rpI M Q) (24, L', [], M) := by
            intro n
            induction n with
            | zero => intro x14 L' l15 l16 l17 l18 hn; exact (lpn_0 hn).elim
            | succ n ih =>
              intro x14 L' l15 l16 l17 l18 hn
              have h := lpn_ed1 hn
              unfold f_MSquareRows_formNumberRead_L24 at h
              refine iq_iload_n hS 25 J_MSquareRows_formNumberRead_d24 l18 rfl ?_
              refine iq_bipush hS 27 J_MSquareRows_formNumberRead_d25 (v := 32) (by decide +kernel) rfl ?_
              refine iq_icmp_ge hS 30 J_MSquareRows_formNumberRead_d27 (t := 51) rfl (fun q27 => ?_) rfl (fun q27 => ?_)
              · replace h := ed_pos q27 h
                exact K11  _ l15 l16 (lq_r h hq11)
              · replace h := ed_neg q27 h
                refine iq_iload_n hS 31 J_MSquareRows_formNumberRead_d30 l17 rfl ?_
                refine iq_iload_n hS 32 J_MSquareRows_formNumberRead_d31 l18 rfl ?_
                obtain ⟨Q19, hQ19, h⟩ := bd1_ed h
                refine iq_cpI hS 35 J_MSquareRows_formNumberRead_d32 rfl (pr_stat (vs := [_]) lc_16_175 lT_423 rfl rfl (by decide) rfl (Nat.le_of_ble_eq_true rfl) (Nat.le_of_ble_eq_true rfl)) (f_MSquareRows_formWord_ok (dep := dep + 0) hM h) rfl ?_
                intro x19 h
                replace h := hQ19 _ h
                refine iq_ixor hS 36 J_MSquareRows_formNumberRead_d35 rfl ?_
                obtain ⟨Q20, hQ20, h⟩ := bd1_ed h
                refine iq_cpI hS 39 J_MSquareRows_formNumberRead_d36 rfl (pr_stat (vs := [_]) lc_16_270 lT_491 rfl rfl (by decide) rfl (Nat.le_of_ble_eq_true rfl) (Nat.le_of_ble_eq_true rfl)) (f_MSquareRows_ones_ok (dep := dep + 1) hM h) rfl ?_
                intro x20 h
                replace h := hQ20 _ h
                refine iq_iconst hS 40 J_MSquareRows_formNumberRead_d39 (v := 3) (by decide +kernel) rfl ?_
                refine iq_icmp_gt hS 43 J_MSquareRows_formNumberRead_d40 (t := 45) rfl (fun q40 => ?_) rfl (fun q40 => ?_)
                · replace h := ed_pos q40 h
                  refine iq_iincv hS 48 J_MSquareRows_formNumberRead_d45 (c := 1) (by decide +kernel) l18 (by decide) rfl ?_
                  refine iq_goto hS J_MSquareRows_formNumberRead_d48 (t := 24) rfl ?_
                  exact ih _ _ (lk_1r l15 (by decide)) (lk_1i l16 (by decide)) (lk_1i l17 (by decide)) lk_1s (lq_l h)
                · replace h := ed_neg q40 h
                  refine iq_iload_n hS 44 J_MSquareRows_formNumberRead_d43 l18 rfl ?_
                  exact iq_iret J_MSquareRows_formNumberRead_d44 rfl rfl ⟨_, rfl, rfl, ed_some (hR1 _ (lq_r (hR11 _ (lq_r h hq11)) hq1))⟩
          exact I11 n11 _ _ (lk_1r (lk_1r l8 (by decide)) (by decide)) (lk_1i (lk_1i l9 (by decide)) (by decide)) (lk_1i lk_1s (by decide)) lk_1s hn11
        refine iq_icmp_ne hS 13 J_MSquareRows_formNumberRead_d10 (t := 17) rfl (fun q10 => ?_) rfl (fun q10 => ?_)
        · refine iq_iconst hS 18 J_MSquareRows_formNumberRead_d17 (v := 0) (by decide +kernel) rfl ?_
          exact J5 _ _ (by simp only [if_pos q10]) l3 l4
        · refine iq_iconst hS 14 J_MSquareRows_formNumberRead_d13 (v := 1) (by decide +kernel) rfl ?_
          refine iq_goto hS J_MSquareRows_formNumberRead_d14 (t := 18) rfl ?_
          exact J5 _ _ (by simp only [if_neg q10]) l3 l4
  exact I1 n1 _ _ (lk_1r l0 (by decide)) lk_1s hn1
noncomputable def f_MSquareRows_spared (p0 : Int32) (p1 : Int32) (M : im_M) : Option (Int32) := if ¬ p0 = 1 then if p1 ≤ 0 then if ¬ p0 = 2 then if ¬ p0 = 3 then some 0 else some 1 else some 2 else some 0 else if ¬ p1 = 0 then if ¬ p1 = 1 then some 1 else some 2 else some 3
theorem J_MSquareRows_spared_d0 : decode J_MSquareRows_spared.2.1 0 = .ok (.iload_n 0, 1) := by decide +kernel
theorem J_MSquareRows_spared_d1 : decode J_MSquareRows_spared.2.1 1 = .ok (.iconst 1, 1) := by decide +kernel
theorem J_MSquareRows_spared_d2 : decode J_MSquareRows_spared.2.1 2 = .ok (.if_icmp .ne 22, 3) := by decide +kernel
theorem J_MSquareRows_spared_d5 : decode J_MSquareRows_spared.2.1 5 = .ok (.iload_n 1, 1) := by decide +kernel
theorem J_MSquareRows_spared_d6 : decode J_MSquareRows_spared.2.1 6 = .ok (.ifCond .ne 7, 3) := by decide +kernel
theorem J_MSquareRows_spared_d9 : decode J_MSquareRows_spared.2.1 9 = .ok (.iconst 3, 1) := by decide +kernel
theorem J_MSquareRows_spared_d10 : decode J_MSquareRows_spared.2.1 10 = .ok (.goto 13, 3) := by decide +kernel
theorem J_MSquareRows_spared_d13 : decode J_MSquareRows_spared.2.1 13 = .ok (.iload_n 1, 1) := by decide +kernel
theorem J_MSquareRows_spared_d14 : decode J_MSquareRows_spared.2.1 14 = .ok (.iconst 1, 1) := by decide +kernel
theorem J_MSquareRows_spared_d15 : decode J_MSquareRows_spared.2.1 15 = .ok (.if_icmp .ne 7, 3) := by decide +kernel
theorem J_MSquareRows_spared_d18 : decode J_MSquareRows_spared.2.1 18 = .ok (.iconst 2, 1) := by decide +kernel
theorem J_MSquareRows_spared_d19 : decode J_MSquareRows_spared.2.1 19 = .ok (.goto 4, 3) := by decide +kernel
theorem J_MSquareRows_spared_d22 : decode J_MSquareRows_spared.2.1 22 = .ok (.iconst 1, 1) := by decide +kernel
theorem J_MSquareRows_spared_d23 : decode J_MSquareRows_spared.2.1 23 = .ok (.ireturn, 1) := by decide +kernel
theorem J_MSquareRows_spared_d24 : decode J_MSquareRows_spared.2.1 24 = .ok (.iload_n 1, 1) := by decide +kernel
theorem J_MSquareRows_spared_d25 : decode J_MSquareRows_spared.2.1 25 = .ok (.ifCond .le 7, 3) := by decide +kernel
theorem J_MSquareRows_spared_d28 : decode J_MSquareRows_spared.2.1 28 = .ok (.iconst 0, 1) := by decide +kernel
theorem J_MSquareRows_spared_d29 : decode J_MSquareRows_spared.2.1 29 = .ok (.goto 22, 3) := by decide +kernel
theorem J_MSquareRows_spared_d32 : decode J_MSquareRows_spared.2.1 32 = .ok (.iload_n 0, 1) := by decide +kernel
theorem J_MSquareRows_spared_d33 : decode J_MSquareRows_spared.2.1 33 = .ok (.iconst 2, 1) := by decide +kernel
theorem J_MSquareRows_spared_d34 : decode J_MSquareRows_spared.2.1 34 = .ok (.if_icmp .ne 7, 3) := by decide +kernel
theorem J_MSquareRows_spared_d37 : decode J_MSquareRows_spared.2.1 37 = .ok (.iconst 2, 1) := by decide +kernel
theorem J_MSquareRows_spared_d38 : decode J_MSquareRows_spared.2.1 38 = .ok (.goto 13, 3) := by decide +kernel
theorem J_MSquareRows_spared_d41 : decode J_MSquareRows_spared.2.1 41 = .ok (.iload_n 0, 1) := by decide +kernel
theorem J_MSquareRows_spared_d42 : decode J_MSquareRows_spared.2.1 42 = .ok (.iconst 3, 1) := by decide +kernel
theorem J_MSquareRows_spared_d43 : decode J_MSquareRows_spared.2.1 43 = .ok (.if_icmp .ne 7, 3) := by decide +kernel
theorem J_MSquareRows_spared_d46 : decode J_MSquareRows_spared.2.1 46 = .ok (.iconst 1, 1) := by decide +kernel
theorem J_MSquareRows_spared_d47 : decode J_MSquareRows_spared.2.1 47 = .ok (.goto 4, 3) := by decide +kernel
theorem J_MSquareRows_spared_d50 : decode J_MSquareRows_spared.2.1 50 = .ok (.iconst 0, 1) := by decide +kernel
theorem J_MSquareRows_spared_d51 : decode J_MSquareRows_spared.2.1 51 = .ok (.ireturn, 1) := by decide +kernel
theorem f_MSquareRows_spared_ok {L : Nat} {xs : Nat → Int32} {dep : Nat} {w : Bool} {p0 : Int32} {p1 : Int32} {M : im_M} {Q : Int32 → Prop} (hM : lw_S w M) (h : ed (f_MSquareRows_spared p0 p1 M) Q) : ia (tb_G L xs) dep J_MSquareRows_spared (rpI M Q) (0, lv_args 0 [.int p0, .int p1], [], M) := by
  have hS : im_St (tb_G L xs) dep J_MSquareRows_spared (ia (tb_G L xs) dep J_MSquareRows_spared (rpI M Q)) := ia_St
  unfold f_MSquareRows_spared at h
  have l0 : im_lk (lv_args 0 [.int p0, .int p1]) 0 = some (.int p0) := rfl
  have l1 : im_lk (lv_args 0 [.int p0, .int p1]) 1 = some (.int p1) := rfl
  refine iq_iload_n hS 1 J_MSquareRows_spared_d0 l0 rfl ?_
  refine iq_iconst hS 2 J_MSquareRows_spared_d1 (v := 1) (by decide +kernel) rfl ?_
  refine iq_icmp_ne hS 5 J_MSquareRows_spared_d2 (t := 24) rfl (fun q2 => ?_) rfl (fun q2 => ?_)
  · replace h := ed_pos q2 h
    refine iq_iload_n hS 25 J_MSquareRows_spared_d24 l1 rfl ?_
    refine iq_if_le hS 28 J_MSquareRows_spared_d25 (t := 32) rfl (fun q25 => ?_) rfl (fun q25 => ?_)
    · replace h := ed_pos q25 h
      refine iq_iload_n hS 33 J_MSquareRows_spared_d32 l0 rfl ?_
      refine iq_iconst hS 34 J_MSquareRows_spared_d33 (v := 2) (by decide +kernel) rfl ?_
      refine iq_icmp_ne hS 37 J_MSquareRows_spared_d34 (t := 41) rfl (fun q34 => ?_) rfl (fun q34 => ?_)
      · replace h := ed_pos q34 h
        refine iq_iload_n hS 42 J_MSquareRows_spared_d41 l0 rfl ?_
        refine iq_iconst hS 43 J_MSquareRows_spared_d42 (v := 3) (by decide +kernel) rfl ?_
        refine iq_icmp_ne hS 46 J_MSquareRows_spared_d43 (t := 50) rfl (fun q43 => ?_) rfl (fun q43 => ?_)
        · replace h := ed_pos q43 h
          refine iq_iconst hS 51 J_MSquareRows_spared_d50 (v := 0) (by decide +kernel) rfl ?_
          exact iq_iret J_MSquareRows_spared_d51 rfl rfl ⟨_, rfl, rfl, ed_some h⟩
        · replace h := ed_neg q43 h
          refine iq_iconst hS 47 J_MSquareRows_spared_d46 (v := 1) (by decide +kernel) rfl ?_
          refine iq_goto hS J_MSquareRows_spared_d47 (t := 51) rfl ?_
          exact iq_iret J_MSquareRows_spared_d51 rfl rfl ⟨_, rfl, rfl, ed_some h⟩
      · replace h := ed_neg q34 h
        refine iq_iconst hS 38 J_MSquareRows_spared_d37 (v := 2) (by decide +kernel) rfl ?_
        refine iq_goto hS J_MSquareRows_spared_d38 (t := 51) rfl ?_
        exact iq_iret J_MSquareRows_spared_d51 rfl rfl ⟨_, rfl, rfl, ed_some h⟩
    · replace h := ed_neg q25 h
      refine iq_iconst hS 29 J_MSquareRows_spared_d28 (v := 0) (by decide +kernel) rfl ?_
      refine iq_goto hS J_MSquareRows_spared_d29 (t := 51) rfl ?_
      exact iq_iret J_MSquareRows_spared_d51 rfl rfl ⟨_, rfl, rfl, ed_some h⟩
  · replace h := ed_neg q2 h
    refine iq_iload_n hS 6 J_MSquareRows_spared_d5 l1 rfl ?_
    refine iq_if_ne hS 9 J_MSquareRows_spared_d6 (t := 13) rfl (fun q6 => ?_) rfl (fun q6 => ?_)
    · replace h := ed_pos q6 h
      refine iq_iload_n hS 14 J_MSquareRows_spared_d13 l1 rfl ?_
      refine iq_iconst hS 15 J_MSquareRows_spared_d14 (v := 1) (by decide +kernel) rfl ?_
      refine iq_icmp_ne hS 18 J_MSquareRows_spared_d15 (t := 22) rfl (fun q15 => ?_) rfl (fun q15 => ?_)
      · replace h := ed_pos q15 h
        refine iq_iconst hS 23 J_MSquareRows_spared_d22 (v := 1) (by decide +kernel) rfl ?_
        exact iq_iret J_MSquareRows_spared_d23 rfl rfl ⟨_, rfl, rfl, ed_some h⟩
      · replace h := ed_neg q15 h
        refine iq_iconst hS 19 J_MSquareRows_spared_d18 (v := 2) (by decide +kernel) rfl ?_
        refine iq_goto hS J_MSquareRows_spared_d19 (t := 23) rfl ?_
        exact iq_iret J_MSquareRows_spared_d23 rfl rfl ⟨_, rfl, rfl, ed_some h⟩
    · replace h := ed_neg q6 h
      refine iq_iconst hS 10 J_MSquareRows_spared_d9 (v := 3) (by decide +kernel) rfl ?_
      refine iq_goto hS J_MSquareRows_spared_d10 (t := 23) rfl ?_
      exact iq_iret J_MSquareRows_spared_d23 rfl rfl ⟨_, rfl, rfl, ed_some h⟩
noncomputable def f_MSquareRows_isZero_L25 (v9 : Int32) (v10 : Int32) (v11 : Int32) (v12 : Int32) (v13 : Int32) (M16 : im_M) (x14 : Int32) (x15 : Int32) : Option ((Int32 × Int32) ⊕ (Int32)) := if v9 ≤ x15 then some (.inr x14) else bd1 (f_MSquareRows_times x14 v13 M16) fun (x17 : Int32) => gd (inb x15 256) <| some (.inl ((x17 ^^^ (im_i M16 121 (Int32.toNatClampNeg x15))), (x15 + 1)))
noncomputable def f_MSquareRows_isZero_L6 (v2 : Int32) (v3 : Int32) (x4 : Int32) (x5 : Int32) (M6 : im_M) : Option ((Int32 × Int32 × im_M) ⊕ (Int32 × im_M)) := if v3 ≤ x5 then some (.inr (x4, M6)) else bd1 (f_MSquareRows_two x5 M6) fun (x7 : Int32) => bd1 (lp (uc2 (f_MSquareRows_isZero_L25 v2 v3 x4 x5 x7 M6)) (0, 0)) fun (y18 : Int32) => gd (inb x5 32) <| some (.inl (((if x4 = 0 then 0 else (if ¬ y18 = 0 then 0 else 1)) : Int32), (x5 + 1), (im_setI M6 123 (Int32.toNatClampNeg x5) y18)))
noncomputable def f_MSquareRows_isZero (p1 : Int32) (p2 : Int32) (M : im_M) : Option (Int32 × im_M) := bd2 (lp (uc3 (f_MSquareRows_isZero_L6 p1 p2)) (1, 0, M)) fun (y20 : Int32) (M21 : im_M) => gd (y20 = 0 ∨ y20 = 1) <| some (y20, M21)
theorem J_MSquareRows_isZero_d0 : decode J_MSquareRows_isZero.2.1 0 = .ok (.iconst 1, 1) := by decide +kernel
theorem J_MSquareRows_isZero_d1 : decode J_MSquareRows_isZero.2.1 1 = .ok (.istore 4, 2) := by decide +kernel
theorem J_MSquareRows_isZero_d3 : decode J_MSquareRows_isZero.2.1 3 = .ok (.iconst 0, 1) := by decide +kernel
theorem J_MSquareRows_isZero_d4 : decode J_MSquareRows_isZero.2.1 4 = .ok (.istore 5, 2) := by decide +kernel
theorem J_MSquareRows_isZero_d6 : decode J_MSquareRows_isZero.2.1 6 = .ok (.iload 5, 2) := by decide +kernel
theorem J_MSquareRows_isZero_d8 : decode J_MSquareRows_isZero.2.1 8 = .ok (.iload_n 3, 1) := by decide +kernel
theorem J_MSquareRows_isZero_d9 : decode J_MSquareRows_isZero.2.1 9 = .ok (.if_icmp .ge 74, 3) := by decide +kernel
theorem J_MSquareRows_isZero_d12 : decode J_MSquareRows_isZero.2.1 12 = .ok (.iload 5, 2) := by decide +kernel
theorem J_MSquareRows_isZero_d14 : decode J_MSquareRows_isZero.2.1 14 = .ok (.invokestatic 144, 3) := by decide +kernel
theorem J_MSquareRows_isZero_d17 : decode J_MSquareRows_isZero.2.1 17 = .ok (.istore 6, 2) := by decide +kernel
theorem J_MSquareRows_isZero_d19 : decode J_MSquareRows_isZero.2.1 19 = .ok (.iconst 0, 1) := by decide +kernel
theorem J_MSquareRows_isZero_d20 : decode J_MSquareRows_isZero.2.1 20 = .ok (.istore 7, 2) := by decide +kernel
theorem J_MSquareRows_isZero_d22 : decode J_MSquareRows_isZero.2.1 22 = .ok (.iconst 0, 1) := by decide +kernel
theorem J_MSquareRows_isZero_d23 : decode J_MSquareRows_isZero.2.1 23 = .ok (.istore 8, 2) := by decide +kernel
theorem J_MSquareRows_isZero_d25 : decode J_MSquareRows_isZero.2.1 25 = .ok (.iload 8, 2) := by decide +kernel
theorem J_MSquareRows_isZero_d27 : decode J_MSquareRows_isZero.2.1 27 = .ok (.iload_n 2, 1) := by decide +kernel
theorem J_MSquareRows_isZero_d28 : decode J_MSquareRows_isZero.2.1 28 = .ok (.if_icmp .ge 23, 3) := by decide +kernel
theorem J_MSquareRows_isZero_d31 : decode J_MSquareRows_isZero.2.1 31 = .ok (.iload 7, 2) := by decide +kernel
theorem J_MSquareRows_isZero_d33 : decode J_MSquareRows_isZero.2.1 33 = .ok (.iload 6, 2) := by decide +kernel
theorem J_MSquareRows_isZero_d35 : decode J_MSquareRows_isZero.2.1 35 = .ok (.invokestatic 147, 3) := by decide +kernel
theorem J_MSquareRows_isZero_d38 : decode J_MSquareRows_isZero.2.1 38 = .ok (.aload_n 1, 1) := by decide +kernel
theorem J_MSquareRows_isZero_d39 : decode J_MSquareRows_isZero.2.1 39 = .ok (.iload 8, 2) := by decide +kernel
theorem J_MSquareRows_isZero_d41 : decode J_MSquareRows_isZero.2.1 41 = .ok (.iaload, 1) := by decide +kernel
theorem J_MSquareRows_isZero_d42 : decode J_MSquareRows_isZero.2.1 42 = .ok (.ixor, 1) := by decide +kernel
theorem J_MSquareRows_isZero_d43 : decode J_MSquareRows_isZero.2.1 43 = .ok (.istore 7, 2) := by decide +kernel
theorem J_MSquareRows_isZero_d45 : decode J_MSquareRows_isZero.2.1 45 = .ok (.iinc 8 1, 3) := by decide +kernel
theorem J_MSquareRows_isZero_d48 : decode J_MSquareRows_isZero.2.1 48 = .ok (.goto (-23), 3) := by decide +kernel
theorem J_MSquareRows_isZero_d51 : decode J_MSquareRows_isZero.2.1 51 = .ok (.aload_n 0, 1) := by decide +kernel
theorem J_MSquareRows_isZero_d52 : decode J_MSquareRows_isZero.2.1 52 = .ok (.getfield 52, 3) := by decide +kernel
theorem J_MSquareRows_isZero_d55 : decode J_MSquareRows_isZero.2.1 55 = .ok (.iload 5, 2) := by decide +kernel
theorem J_MSquareRows_isZero_d57 : decode J_MSquareRows_isZero.2.1 57 = .ok (.iload 7, 2) := by decide +kernel
theorem J_MSquareRows_isZero_d59 : decode J_MSquareRows_isZero.2.1 59 = .ok (.iastore, 1) := by decide +kernel
theorem J_MSquareRows_isZero_d60 : decode J_MSquareRows_isZero.2.1 60 = .ok (.iload 4, 2) := by decide +kernel
theorem J_MSquareRows_isZero_d62 : decode J_MSquareRows_isZero.2.1 62 = .ok (.ifCond .eq 12, 3) := by decide +kernel
theorem J_MSquareRows_isZero_d65 : decode J_MSquareRows_isZero.2.1 65 = .ok (.iload 7, 2) := by decide +kernel
theorem J_MSquareRows_isZero_d67 : decode J_MSquareRows_isZero.2.1 67 = .ok (.ifCond .ne 7, 3) := by decide +kernel
theorem J_MSquareRows_isZero_d70 : decode J_MSquareRows_isZero.2.1 70 = .ok (.iconst 1, 1) := by decide +kernel
theorem J_MSquareRows_isZero_d71 : decode J_MSquareRows_isZero.2.1 71 = .ok (.goto 4, 3) := by decide +kernel
theorem J_MSquareRows_isZero_d74 : decode J_MSquareRows_isZero.2.1 74 = .ok (.iconst 0, 1) := by decide +kernel
theorem J_MSquareRows_isZero_d75 : decode J_MSquareRows_isZero.2.1 75 = .ok (.istore 4, 2) := by decide +kernel
theorem J_MSquareRows_isZero_d77 : decode J_MSquareRows_isZero.2.1 77 = .ok (.iinc 5 1, 3) := by decide +kernel
theorem J_MSquareRows_isZero_d80 : decode J_MSquareRows_isZero.2.1 80 = .ok (.goto (-74), 3) := by decide +kernel
theorem J_MSquareRows_isZero_d83 : decode J_MSquareRows_isZero.2.1 83 = .ok (.iload 4, 2) := by decide +kernel
theorem J_MSquareRows_isZero_d85 : decode J_MSquareRows_isZero.2.1 85 = .ok (.ireturn, 1) := by decide +kernel
theorem f_MSquareRows_isZero_ok {L : Nat} {xs : Nat → Int32} {dep : Nat} {w : Bool} {p1 : Int32} {p2 : Int32} {M : im_M} {Q : Int32 × im_M → Prop} (hM : lw_S w M) (h : ed (f_MSquareRows_isZero p1 p2 M) Q) : ia (tb_G L xs) (dep + 1) J_MSquareRows_isZero (rwI w Q) (0, lv_args 0 [.ref 108, .ref 121, .int p1, .int p2], [], M) := by
  have hS : im_St (tb_G L xs) (dep + 1) J_MSquareRows_isZero (ia (tb_G L xs) (dep + 1) J_MSquareRows_isZero (rwI w Q)) := ia_St
  unfold f_MSquareRows_isZero at h
  have l0 : im_lk (lv_args 0 [.ref 108, .ref 121, .int p1, .int p2]) 0 = some (.ref 108) := rfl
  have l1 : im_lk (lv_args 0 [.ref 108, .ref 121, .int p1, .int p2]) 1 = some (.ref 121) := rfl
  have l2 : im_lk (lv_args 0 [.ref 108, .ref 121, .int p1, .int p2]) 2 = some (.int p1) := rfl
  have l3 : im_lk (lv_args 0 [.ref 108, .ref 121, .int p1, .int p2]) 3 = some (.int p2) := rfl
  refine iq_iconst hS 1 J_MSquareRows_isZero_d0 (v := 1) (by decide +kernel) rfl ?_
  refine iq_istore hS 3 J_MSquareRows_isZero_d1 (by decide) rfl ?_
  refine iq_iconst hS 4 J_MSquareRows_isZero_d3 (v := 0) (by decide +kernel) rfl ?_
  refine iq_istore hS 6 J_MSquareRows_isZero_d4 (by decide) rfl ?_
  obtain ⟨Q1, hQ1, h⟩ := bd2_ed h
  have K1 : ∀ (y2 : Int32) (M3 : im_M) (L' : List (Nat × Value)), lw_S w M3 → im_lk L' 4 = some (.int y2) → Q1 (y2, M3) → ia (tb_G L xs) (dep + 1) J_MSquareRows_isZero (rwI w Q) (83, L', [], M3) := by
    intro y2 M3 L' hM3 l4 h
    replace h := hQ1 _ _ h
    refine iq_iload hS 85 J_MSquareRows_isZero_d83 l4 rfl ?_
    obtain ⟨g85, h⟩ := ed_gd h
    exact iq_iret J_MSquareRows_isZero_d85 rfl (nar_z g85) ⟨_, rfl, hM3, ed_some h⟩
  obtain ⟨r1, hr1, hq1⟩ := h
  obtain ⟨n1, hn1⟩ := lp_n hr1
  have I1 : ∀ (n : Nat) (x5 : Int32) (x6 : Int32) (M7 : im_M) (L' : List (Nat × Value)), lw_S w M7 → im_lk L' 0 = some (.ref 108) → im_lk L' 1 = some (.ref 121) → im_lk L' 2 = some (.int p1) → im_lk L' 3 = some (.int p2) → im_lk L' 4 = some (.int x5) → im_lk L' 5 = some (.int x6) → lpn (uc3 (f_MSquareRows_isZero_L6 p1 p2)) n (x5, x6, M7) = some r1 → ia (tb_G L xs) (dep + 1) J_MSquareRows_isZero (rwI w Q) (6, L', [], M7) := by
    intro n
    induction n with
    | zero => intro x5 x6 M7 L' hM7 l8 l9 l10 l11 l12 l13 hn; exact (lpn_0 hn).elim
    | succ n ih =>
      intro x5 x6 M7 L' hM7 l8 l9 l10 l11 l12 l13 hn
      have h := lpn_ed3 hn
      unfold f_MSquareRows_isZero_L6 at h
      refine iq_iload hS 8 J_MSquareRows_isZero_d6 l13 rfl ?_
      refine iq_iload_n hS 9 J_MSquareRows_isZero_d8 l11 rfl ?_
      refine iq_icmp_ge hS 12 J_MSquareRows_isZero_d9 (t := 83) rfl (fun q9 => ?_) rfl (fun q9 => ?_)
      · replace h := ed_pos q9 h
        exact K1 _ _ _ hM7 l12 (lq_r h hq1)
      · replace h := ed_neg q9 h
        refine iq_iload hS 14 J_MSquareRows_isZero_d12 l13 rfl ?_
        obtain ⟨Q14, hQ14, h⟩ := bd1_ed h
        refine iq_cpI hS 17 J_MSquareRows_isZero_d14 rfl (pr_stat (vs := [_]) lc_16_144 lT_410 rfl rfl (by decide) rfl (Nat.le_of_ble_eq_true rfl) (Nat.le_of_ble_eq_true rfl)) (f_MSquareRows_two_ok (dep := dep + 0) hM7 h) rfl ?_
        intro x14 h
        replace h := hQ14 _ h
        refine iq_istore hS 19 J_MSquareRows_isZero_d17 (by decide) rfl ?_
        refine iq_iconst hS 20 J_MSquareRows_isZero_d19 (v := 0) (by decide +kernel) rfl ?_
        refine iq_istore hS 22 J_MSquareRows_isZero_d20 (by decide) rfl ?_
        refine iq_iconst hS 23 J_MSquareRows_isZero_d22 (v := 0) (by decide +kernel) rfl ?_
        refine iq_istore hS 25 J_MSquareRows_isZero_d23 (by decide) rfl ?_
        obtain ⟨Q15, hQ15, h⟩ := bd1_ed h
        have K15 : ∀ (y16 : Int32) (L' : List (Nat × Value)), im_lk L' 0 = some (.ref 108) → im_lk L' 1 = some (.ref 121) → im_lk L' 2 = some (.int p1) → im_lk L' 3 = some (.int p2) → im_lk L' 4 = some (.int x5) → im_lk L' 5 = some (.int x6) → im_lk L' 7 = some (.int y16) → Q15 y16 → ia (tb_G L xs) (dep + 1) J_MSquareRows_isZero (rwI w Q) (51, L', [], M7) := by
          intro y16 L' l17 l18 l19 l20 l21 l22 l23 h
          replace h := hQ15 _ h
          refine iq_aload_n hS 52 J_MSquareRows_isZero_d51 l17 rfl ?_
          refine iq_getR hS 55 J_MSquareRows_isZero_d52 lf_16_52 (Or.inr ⟨_, rfl⟩) (ka_108 hM7) (ra_108_22 hM7) rfl ?_
          refine iq_iload hS 57 J_MSquareRows_isZero_d55 l22 rfl ?_
          refine iq_iload hS 59 J_MSquareRows_isZero_d57 l23 rfl ?_
          obtain ⟨g59, h⟩ := ed_gd h
          refine iq_iastore hS 60 J_MSquareRows_isZero_d59 ⟨(ka_123 hM7).1, (ka_123 hM7).2, g59.1, ix_lt (kl_123 hM7) g59.2⟩ rfl ?_
          refine iq_iload hS 62 J_MSquareRows_isZero_d60 l21 rfl ?_
          have J24 : ∀ (z25 : Int32) (L' : List (Nat × Value)), z25 = ((if x5 = 0 then 0 else (if ¬ y16 = 0 then 0 else 1)) : Int32) → im_lk L' 0 = some (.ref 108) → im_lk L' 1 = some (.ref 121) → im_lk L' 2 = some (.int p1) → im_lk L' 3 = some (.int p2) → im_lk L' 5 = some (.int x6) → ia (tb_G L xs) (dep + 1) J_MSquareRows_isZero (rwI w Q) (75, L', [.int z25], (im_setI M7 123 (Int32.toNatClampNeg x6) y16)) := by
            intro z25 L' e26 l27 l28 l29 l30 l31
            subst e26
            refine iq_istore hS 77 J_MSquareRows_isZero_d75 (by decide) rfl ?_
            refine iq_iincv hS 80 J_MSquareRows_isZero_d77 (c := 1) (by decide +kernel) (lk_1i l31 (by decide)) (by decide) rfl ?_
            refine iq_goto hS J_MSquareRows_isZero_d80 (t := 6) rfl ?_
            exact ih _ _ _ _ (lw_sI hM7) (lk_1r (lk_1r l27 (by decide)) (by decide)) (lk_1r (lk_1r l28 (by decide)) (by decide)) (lk_1i (lk_1i l29 (by decide)) (by decide)) (lk_1i (lk_1i l30 (by decide)) (by decide)) (lk_1i lk_1s (by decide)) lk_1s (lq_l h)
          refine iq_if_eq hS 65 J_MSquareRows_isZero_d62 (t := 74) rfl (fun q62 => ?_) rfl (fun q62 => ?_)
          · refine iq_iconst hS 75 J_MSquareRows_isZero_d74 (v := 0) (by decide +kernel) rfl ?_
            exact J24 _ _ (by simp only [if_pos q62]) l17 l18 l19 l20 l22
          · refine iq_iload hS 67 J_MSquareRows_isZero_d65 l23 rfl ?_
            refine iq_if_ne hS 70 J_MSquareRows_isZero_d67 (t := 74) rfl (fun q67 => ?_) rfl (fun q67 => ?_)
            · refine iq_iconst hS 75 J_MSquareRows_isZero_d74 (v := 0) (by decide +kernel) rfl ?_
              exact J24 _ _ (by simp only [if_neg q62, if_pos q67]) l17 l18 l19 l20 l22
            · refine iq_iconst hS 71 J_MSquareRows_isZero_d70 (v := 1) (by decide +kernel) rfl ?_
              refine iq_goto hS J_MSquareRows_isZero_d71 (t := 75) rfl ?_
              exact J24 _ _ (by simp only [if_neg q62, if_neg q67]) l17 l18 l19 l20 l22
        obtain ⟨r15, hr15, hq15⟩ := h
        obtain ⟨n15, hn15⟩ := lp_n hr15
        have I15 : ∀ (n : Nat) (x32 : Int32) (x33 : Int32) (L' : List (Nat × Value)), im_lk L' 0 = some (.ref 108) → im_lk L' 1 = some (.ref 121) → im_lk L' 2 = some (.int p1) → im_lk L' 3 = some (.int p2) → im_lk L' 4 = some (.int x5) → im_lk L' 5 = some (.int x6) → im_lk L' 6 = some (.int x14) → im_lk L' 7 = some (.int x32) → im_lk L' 8 = some (.int x33) → lpn (uc2 (f_MSquareRows_isZero_L25 p1 p2 x5 x6 x14 M7)) n (x32, x33) = some r15 → ia (tb_G L xs) (dep + 1) J_MSquareRows_isZero (rwI w Q) (25, L', [], M7) := by
          intro n
          induction n with
          | zero => intro x32 x33 L' l34 l35 l36 l37 l38 l39 l40 l41 l42 hn; exact (lpn_0 hn).elim
          | succ n ih =>
            intro x32 x33 L' l34 l35 l36 l37 l38 l39 l40 l41 l42 hn
            have h := lpn_ed2 hn
            unfold f_MSquareRows_isZero_L25 at h
            refine iq_iload hS 27 J_MSquareRows_isZero_d25 l42 rfl ?_
            refine iq_iload_n hS 28 J_MSquareRows_isZero_d27 l36 rfl ?_
            refine iq_icmp_ge hS 31 J_MSquareRows_isZero_d28 (t := 51) rfl (fun q28 => ?_) rfl (fun q28 => ?_)
            · replace h := ed_pos q28 h
              exact K15 _ _ l34 l35 l36 l37 l38 l39 l41 (lq_r h hq15)
            · replace h := ed_neg q28 h
              refine iq_iload hS 33 J_MSquareRows_isZero_d31 l41 rfl ?_
              refine iq_iload hS 35 J_MSquareRows_isZero_d33 l40 rfl ?_
              obtain ⟨Q43, hQ43, h⟩ := bd1_ed h
              refine iq_cpI hS 38 J_MSquareRows_isZero_d35 rfl (pr_stat (vs := [_, _]) lc_16_147 lT_411 rfl rfl (by decide) rfl (Nat.le_of_ble_eq_true rfl) (Nat.le_of_ble_eq_true rfl)) (f_MSquareRows_times_ok (dep := dep + 0) hM7 h) rfl ?_
              intro x43 h
              replace h := hQ43 _ h
              refine iq_aload_n hS 39 J_MSquareRows_isZero_d38 l35 rfl ?_
              refine iq_iload hS 41 J_MSquareRows_isZero_d39 l42 rfl ?_
              obtain ⟨g41, h⟩ := ed_gd h
              refine iq_iaload hS 42 J_MSquareRows_isZero_d41 ⟨(ka_121 hM7).1, (ka_121 hM7).2, g41.1, ix_lt (kl_121 hM7) g41.2⟩ rfl ?_
              refine iq_ixor hS 43 J_MSquareRows_isZero_d42 rfl ?_
              refine iq_istore hS 45 J_MSquareRows_isZero_d43 (by decide) rfl ?_
              refine iq_iincv hS 48 J_MSquareRows_isZero_d45 (c := 1) (by decide +kernel) (lk_1i l42 (by decide)) (by decide) rfl ?_
              refine iq_goto hS J_MSquareRows_isZero_d48 (t := 25) rfl ?_
              exact ih _ _ _ (lk_1r (lk_1r l34 (by decide)) (by decide)) (lk_1r (lk_1r l35 (by decide)) (by decide)) (lk_1i (lk_1i l36 (by decide)) (by decide)) (lk_1i (lk_1i l37 (by decide)) (by decide)) (lk_1i (lk_1i l38 (by decide)) (by decide)) (lk_1i (lk_1i l39 (by decide)) (by decide)) (lk_1i (lk_1i l40 (by decide)) (by decide)) (lk_1i lk_1s (by decide)) lk_1s (lq_l h)
        exact I15 n15 _ _ _ (lk_1r (lk_1r (lk_1r l8 (by decide)) (by decide)) (by decide)) (lk_1r (lk_1r (lk_1r l9 (by decide)) (by decide)) (by decide)) (lk_1i (lk_1i (lk_1i l10 (by decide)) (by decide)) (by decide)) (lk_1i (lk_1i (lk_1i l11 (by decide)) (by decide)) (by decide)) (lk_1i (lk_1i (lk_1i l12 (by decide)) (by decide)) (by decide)) (lk_1i (lk_1i (lk_1i l13 (by decide)) (by decide)) (by decide)) (lk_1i (lk_1i lk_1s (by decide)) (by decide)) (lk_1i lk_1s (by decide)) lk_1s hn15
  exact I1 n1 _ _ _ _ hM (lk_1r (lk_1r l0 (by decide)) (by decide)) (lk_1r (lk_1r l1 (by decide)) (by decide)) (lk_1i (lk_1i l2 (by decide)) (by decide)) (lk_1i (lk_1i l3 (by decide)) (by decide)) (lk_1i lk_1s (by decide)) lk_1s hn1
theorem f_MSquareRows_isZero_fr {p1 : Int32} {p2 : Int32} {M : im_M} {r : Int32 × im_M} (h : f_MSquareRows_isZero p1 p2 M = some r) : fr 10633823966279326983230456482242756608 [] M r.2 := by
  replace h : ed (f_MSquareRows_isZero p1 p2 M) (fun x => x = r) := ⟨r, h, rfl⟩
  unfold f_MSquareRows_isZero at h
  obtain ⟨Q1, hQ1, h⟩ := bd2_ed h
  have K1 : ∀ (y2 : Int32) (M3 : im_M), fr 10633823966279326983230456482242756608 [] M M3 → Q1 (y2, M3) → fr 10633823966279326983230456482242756608 [] M r.2 := by
    intro y2 M3 hM3 h
    replace h := hQ1 _ _ h
    obtain ⟨g85, h⟩ := ed_gd h
    exact fr_ret h hM3
  obtain ⟨r1, hr1, hq1⟩ := h
  obtain ⟨n1, hn1⟩ := lp_n hr1
  have I1 : ∀ (n : Nat) (x4 : Int32) (x5 : Int32) (M6 : im_M), fr 10633823966279326983230456482242756608 [] M M6 → lpn (uc3 (f_MSquareRows_isZero_L6 p1 p2)) n (x4, x5, M6) = some r1 → fr 10633823966279326983230456482242756608 [] M r.2 := by
    intro n
    induction n with
    | zero => intro x4 x5 M6 hM6 hn; exact (lpn_0 hn).elim
    | succ n ih =>
      intro x4 x5 M6 hM6 hn
      have h := lpn_ed3 hn
      unfold f_MSquareRows_isZero_L6 at h
      by_cases q9 : p2 ≤ x5
      · replace h := ed_pos q9 h
        exact K1 _ _ hM6 (lq_r h hq1)
      · replace h := ed_neg q9 h
        obtain ⟨Q7, hQ7, h⟩ := bd1_ed h
        obtain ⟨x7, e7, h⟩ := h
        replace h := hQ7 _ h
        obtain ⟨Q8, hQ8, h⟩ := bd1_ed h
        have K8 : ∀ (y9 : Int32), Q8 y9 → fr 10633823966279326983230456482242756608 [] M r.2 := by
          intro y9 h
          replace h := hQ8 _ h
          obtain ⟨g59, h⟩ := ed_gd h
          exact ih _ _ _ (fr_I (by decide) hM6) (lq_l h)
        obtain ⟨r8, hr8, hq8⟩ := h
        obtain ⟨n8, hn8⟩ := lp_n hr8
        have I8 : ∀ (n : Nat) (x11 : Int32) (x12 : Int32), lpn (uc2 (f_MSquareRows_isZero_L25 p1 p2 x4 x5 x7 M6)) n (x11, x12) = some r8 → fr 10633823966279326983230456482242756608 [] M r.2 := by
          intro n
          induction n with
          | zero => intro x11 x12 hn; exact (lpn_0 hn).elim
          | succ n ih =>
            intro x11 x12 hn
            have h := lpn_ed2 hn
            unfold f_MSquareRows_isZero_L25 at h
            by_cases q28 : p1 ≤ x12
            · replace h := ed_pos q28 h
              exact K8 _ (lq_r h hq8)
            · replace h := ed_neg q28 h
              obtain ⟨Q13, hQ13, h⟩ := bd1_ed h
              obtain ⟨x13, e13, h⟩ := h
              replace h := hQ13 _ h
              obtain ⟨g41, h⟩ := ed_gd h
              exact ih _ _ (lq_l h)
        exact I8 n8 _ _ hn8
  exact I1 n1 _ _ _ fr_refl hn1
noncomputable def f_MSquareRows_inverse_L2 (v2 : Int32) (M4 : im_M) (x3 : Int32) : Option ((Int32) ⊕ (Int32)) := bd1 (f_MSquareRows_times x3 v2 M4) fun (x5 : Int32) => if x5 = 1 then some (.inr x3) else some (.inl (x3 + 1))
noncomputable def f_MSquareRows_inverse (p0 : Int32) (M : im_M) : Option (Int32) := bd1 (lp (uc1 (f_MSquareRows_inverse_L2 p0 M)) 1) fun (y6 : Int32) => some y6
theorem J_MSquareRows_inverse_d0 : decode J_MSquareRows_inverse.2.1 0 = .ok (.iconst 1, 1) := by decide +kernel
theorem J_MSquareRows_inverse_d1 : decode J_MSquareRows_inverse.2.1 1 = .ok (.istore_n 1, 1) := by decide +kernel
theorem J_MSquareRows_inverse_d2 : decode J_MSquareRows_inverse.2.1 2 = .ok (.iload_n 1, 1) := by decide +kernel
theorem J_MSquareRows_inverse_d3 : decode J_MSquareRows_inverse.2.1 3 = .ok (.iload_n 0, 1) := by decide +kernel
theorem J_MSquareRows_inverse_d4 : decode J_MSquareRows_inverse.2.1 4 = .ok (.invokestatic 147, 3) := by decide +kernel
theorem J_MSquareRows_inverse_d7 : decode J_MSquareRows_inverse.2.1 7 = .ok (.iconst 1, 1) := by decide +kernel
theorem J_MSquareRows_inverse_d8 : decode J_MSquareRows_inverse.2.1 8 = .ok (.if_icmp .eq 9, 3) := by decide +kernel
theorem J_MSquareRows_inverse_d11 : decode J_MSquareRows_inverse.2.1 11 = .ok (.iinc 1 1, 3) := by decide +kernel
theorem J_MSquareRows_inverse_d14 : decode J_MSquareRows_inverse.2.1 14 = .ok (.goto (-12), 3) := by decide +kernel
theorem J_MSquareRows_inverse_d17 : decode J_MSquareRows_inverse.2.1 17 = .ok (.iload_n 1, 1) := by decide +kernel
theorem J_MSquareRows_inverse_d18 : decode J_MSquareRows_inverse.2.1 18 = .ok (.ireturn, 1) := by decide +kernel
theorem f_MSquareRows_inverse_ok {L : Nat} {xs : Nat → Int32} {dep : Nat} {w : Bool} {p0 : Int32} {M : im_M} {Q : Int32 → Prop} (hM : lw_S w M) (h : ed (f_MSquareRows_inverse p0 M) Q) : ia (tb_G L xs) (dep + 1) J_MSquareRows_inverse (rpI M Q) (0, lv_args 0 [.int p0], [], M) := by
  have hS : im_St (tb_G L xs) (dep + 1) J_MSquareRows_inverse (ia (tb_G L xs) (dep + 1) J_MSquareRows_inverse (rpI M Q)) := ia_St
  unfold f_MSquareRows_inverse at h
  have l0 : im_lk (lv_args 0 [.int p0]) 0 = some (.int p0) := rfl
  refine iq_iconst hS 1 J_MSquareRows_inverse_d0 (v := 1) (by decide +kernel) rfl ?_
  refine iq_istore_n hS 2 J_MSquareRows_inverse_d1 (by decide) rfl ?_
  obtain ⟨Q1, hQ1, h⟩ := bd1_ed h
  have K1 : ∀ (y2 : Int32) (L' : List (Nat × Value)), im_lk L' 1 = some (.int y2) → Q1 y2 → ia (tb_G L xs) (dep + 1) J_MSquareRows_inverse (rpI M Q) (17, L', [], M) := by
    intro y2 L' l3 h
    replace h := hQ1 _ h
    refine iq_iload_n hS 18 J_MSquareRows_inverse_d17 l3 rfl ?_
    exact iq_iret J_MSquareRows_inverse_d18 rfl rfl ⟨_, rfl, rfl, ed_some h⟩
  obtain ⟨r1, hr1, hq1⟩ := h
  obtain ⟨n1, hn1⟩ := lp_n hr1
  have I1 : ∀ (n : Nat) (x4 : Int32) (L' : List (Nat × Value)), im_lk L' 0 = some (.int p0) → im_lk L' 1 = some (.int x4) → lpn (uc1 (f_MSquareRows_inverse_L2 p0 M)) n x4 = some r1 → ia (tb_G L xs) (dep + 1) J_MSquareRows_inverse (rpI M Q) (2, L', [], M) := by
    intro n
    induction n with
    | zero => intro x4 L' l5 l6 hn; exact (lpn_0 hn).elim
    | succ n ih =>
      intro x4 L' l5 l6 hn
      have h := lpn_ed1 hn
      unfold f_MSquareRows_inverse_L2 at h
      refine iq_iload_n hS 3 J_MSquareRows_inverse_d2 l6 rfl ?_
      refine iq_iload_n hS 4 J_MSquareRows_inverse_d3 l5 rfl ?_
      obtain ⟨Q7, hQ7, h⟩ := bd1_ed h
      refine iq_cpI hS 7 J_MSquareRows_inverse_d4 rfl (pr_stat (vs := [_, _]) lc_16_147 lT_411 rfl rfl (by decide) rfl (Nat.le_of_ble_eq_true rfl) (Nat.le_of_ble_eq_true rfl)) (f_MSquareRows_times_ok (dep := dep + 0) hM h) rfl ?_
      intro x7 h
      replace h := hQ7 _ h
      refine iq_iconst hS 8 J_MSquareRows_inverse_d7 (v := 1) (by decide +kernel) rfl ?_
      refine iq_icmp_eq hS 11 J_MSquareRows_inverse_d8 (t := 17) rfl (fun q8 => ?_) rfl (fun q8 => ?_)
      · replace h := ed_pos q8 h
        exact K1 _ _ l6 (lq_r h hq1)
      · replace h := ed_neg q8 h
        refine iq_iincv hS 14 J_MSquareRows_inverse_d11 (c := 1) (by decide +kernel) l6 (by decide) rfl ?_
        refine iq_goto hS J_MSquareRows_inverse_d14 (t := 2) rfl ?_
        exact ih _ _ (lk_1i l5 (by decide)) lk_1s (lq_l h)
  exact I1 n1 _ _ (lk_1i l0 (by decide)) lk_1s hn1
noncomputable def f_MSquareRows_solves_L9 (v6 : Int32) (v7 : Int32) (M9 : im_M) (x8 : Int32) : Option ((Int32) ⊕ (Int32)) := if v6 ≤ x8 then some (.inr x8) else gd (inb (((17 : Int32) * x8) + v7) 272) <| if ¬ (im_i M9 124 (Int32.toNatClampNeg (((17 : Int32) * x8) + v7))) = 0 then some (.inr x8) else some (.inl (x8 + 1))
noncomputable def f_MSquareRows_solves_L44 (v12 : Int32) (v13 : Int32) (v14 : Int32) (x15 : Int32) (M16 : im_M) : Option ((Int32 × im_M) ⊕ (im_M)) := if v12 < x15 then some (.inr M16) else gd (inb (((17 : Int32) * v14) + x15) 272) <| gd (inb (((17 : Int32) * v13) + x15) 272) <| gd (inb (((17 : Int32) * v14) + x15) 272) <| gd (inb (((17 : Int32) * v13) + x15) 272) <| some (.inl ((x15 + 1), (im_setI (im_setI M16 124 (Int32.toNatClampNeg (((17 : Int32) * v14) + x15)) (im_i M16 124 (Int32.toNatClampNeg (((17 : Int32) * v13) + x15)))) 124 (Int32.toNatClampNeg (((17 : Int32) * v13) + x15)) (im_i M16 124 (Int32.toNatClampNeg (((17 : Int32) * v14) + x15))))))
noncomputable def f_MSquareRows_solves_L127 (v20 : Int32) (v21 : Int32) (v22 : Int32) (x23 : Int32) (M24 : im_M) : Option ((Int32 × im_M) ⊕ (im_M)) := if v20 < x23 then some (.inr M24) else gd (inb (((17 : Int32) * v21) + x23) 272) <| bd1 (f_MSquareRows_times (im_i M24 124 (Int32.toNatClampNeg (((17 : Int32) * v21) + x23))) v22 M24) fun (x25 : Int32) => gd (inb (((17 : Int32) * v21) + x23) 272) <| some (.inl ((x23 + 1), (im_setI M24 124 (Int32.toNatClampNeg (((17 : Int32) * v21) + x23)) x25)))
noncomputable def f_MSquareRows_solves_L194 (v33 : Int32) (v34 : Int32) (v35 : Int32) (v36 : Int32) (x37 : Int32) (M38 : im_M) : Option ((Int32 × im_M) ⊕ (im_M)) := if v33 < x37 then some (.inr M38) else if v35 = v34 then some (.inr M38) else gd (inb (((17 : Int32) * v35) + x37) 272) <| gd (inb (((17 : Int32) * v34) + x37) 272) <| bd1 (f_MSquareRows_times v36 (im_i M38 124 (Int32.toNatClampNeg (((17 : Int32) * v34) + x37))) M38) fun (x39 : Int32) => gd (inb (((17 : Int32) * v35) + x37) 272) <| some (.inl ((x37 + 1), (im_setI M38 124 (Int32.toNatClampNeg (((17 : Int32) * v35) + x37)) ((im_i M38 124 (Int32.toNatClampNeg (((17 : Int32) * v35) + x37))) ^^^ x39))))
noncomputable def f_MSquareRows_solves_L171 (v28 : Int32) (v29 : Int32) (x30 : Int32) (M31 : im_M) : Option ((Int32 × im_M) ⊕ (im_M)) := if v28 ≤ x30 then some (.inr M31) else gd (inb (((17 : Int32) * x30) + v29) 272) <| bd1 (lp (uc2 (f_MSquareRows_solves_L194 v28 v29 x30 (im_i M31 124 (Int32.toNatClampNeg (((17 : Int32) * x30) + v29))))) (0, M31)) fun (M40 : im_M) => some (.inl ((x30 + 1), M40))
noncomputable def f_MSquareRows_solves_L2 (v2 : Int32) (x3 : Int32) (M4 : im_M) : Option ((Int32 × im_M) ⊕ ((im_M) ⊕ (Int32 × im_M))) := if v2 ≤ x3 then some (.inr (.inl M4)) else bd1 (lp (uc1 (f_MSquareRows_solves_L9 v2 x3 M4)) x3) fun (y10 : Int32) => if ¬ y10 = v2 then bd1 (lp (uc2 (f_MSquareRows_solves_L44 v2 x3 y10)) (0, M4)) fun (M17 : im_M) => gd (inb (((17 : Int32) * x3) + x3) 272) <| bd1 (f_MSquareRows_inverse (im_i M17 124 (Int32.toNatClampNeg (((17 : Int32) * x3) + x3))) M17) fun (x18 : Int32) => bd1 (lp (uc2 (f_MSquareRows_solves_L127 v2 x3 x18)) (0, M17)) fun (M26 : im_M) => bd1 (lp (uc2 (f_MSquareRows_solves_L171 v2 x3)) (0, M26)) fun (M41 : im_M) => some (.inl ((x3 + 1), M41)) else some (.inr (.inr (0, M4)))
noncomputable def f_MSquareRows_solves_L270 (v44 : Int32) (x45 : Int32) (M46 : im_M) : Option ((Int32 × im_M) ⊕ (im_M)) := if v44 ≤ x45 then some (.inr M46) else gd (inb (((17 : Int32) * x45) + v44) 272) <| gd (inb x45 16) <| some (.inl ((x45 + 1), (im_setI M46 125 (Int32.toNatClampNeg x45) (im_i M46 124 (Int32.toNatClampNeg (((17 : Int32) * x45) + v44))))))
noncomputable def f_MSquareRows_solves (p0 : Int32) (M : im_M) : Option (Int32 × im_M) := bs1 (lp (uc2 (f_MSquareRows_solves_L2 p0)) (0, M)) (fun (M42 : im_M) => bd1 (lp (uc2 (f_MSquareRows_solves_L270 p0)) (0, M42)) fun (M47 : im_M) => some (1, M47)) (fun t => some t)
theorem J_MSquareRows_solves_d0 : decode J_MSquareRows_solves.2.1 0 = .ok (.iconst 0, 1) := by decide +kernel
theorem J_MSquareRows_solves_d1 : decode J_MSquareRows_solves.2.1 1 = .ok (.istore_n 2, 1) := by decide +kernel
theorem J_MSquareRows_solves_d2 : decode J_MSquareRows_solves.2.1 2 = .ok (.iload_n 2, 1) := by decide +kernel
theorem J_MSquareRows_solves_d3 : decode J_MSquareRows_solves.2.1 3 = .ok (.iload_n 1, 1) := by decide +kernel
theorem J_MSquareRows_solves_d4 : decode J_MSquareRows_solves.2.1 4 = .ok (.if_icmp .ge 264, 3) := by decide +kernel
theorem J_MSquareRows_solves_d7 : decode J_MSquareRows_solves.2.1 7 = .ok (.iload_n 2, 1) := by decide +kernel
theorem J_MSquareRows_solves_d8 : decode J_MSquareRows_solves.2.1 8 = .ok (.istore_n 3, 1) := by decide +kernel
theorem J_MSquareRows_solves_d9 : decode J_MSquareRows_solves.2.1 9 = .ok (.iload_n 3, 1) := by decide +kernel
theorem J_MSquareRows_solves_d10 : decode J_MSquareRows_solves.2.1 10 = .ok (.iload_n 1, 1) := by decide +kernel
theorem J_MSquareRows_solves_d11 : decode J_MSquareRows_solves.2.1 11 = .ok (.if_icmp .ge 23, 3) := by decide +kernel
theorem J_MSquareRows_solves_d14 : decode J_MSquareRows_solves.2.1 14 = .ok (.aload_n 0, 1) := by decide +kernel
theorem J_MSquareRows_solves_d15 : decode J_MSquareRows_solves.2.1 15 = .ok (.getfield 55, 3) := by decide +kernel
theorem J_MSquareRows_solves_d18 : decode J_MSquareRows_solves.2.1 18 = .ok (.bipush 17, 2) := by decide +kernel
theorem J_MSquareRows_solves_d20 : decode J_MSquareRows_solves.2.1 20 = .ok (.iload_n 3, 1) := by decide +kernel
theorem J_MSquareRows_solves_d21 : decode J_MSquareRows_solves.2.1 21 = .ok (.imul, 1) := by decide +kernel
theorem J_MSquareRows_solves_d22 : decode J_MSquareRows_solves.2.1 22 = .ok (.iload_n 2, 1) := by decide +kernel
theorem J_MSquareRows_solves_d23 : decode J_MSquareRows_solves.2.1 23 = .ok (.iadd, 1) := by decide +kernel
theorem J_MSquareRows_solves_d24 : decode J_MSquareRows_solves.2.1 24 = .ok (.iaload, 1) := by decide +kernel
theorem J_MSquareRows_solves_d25 : decode J_MSquareRows_solves.2.1 25 = .ok (.ifCond .ne 9, 3) := by decide +kernel
theorem J_MSquareRows_solves_d28 : decode J_MSquareRows_solves.2.1 28 = .ok (.iinc 3 1, 3) := by decide +kernel
theorem J_MSquareRows_solves_d31 : decode J_MSquareRows_solves.2.1 31 = .ok (.goto (-22), 3) := by decide +kernel
theorem J_MSquareRows_solves_d34 : decode J_MSquareRows_solves.2.1 34 = .ok (.iload_n 3, 1) := by decide +kernel
theorem J_MSquareRows_solves_d35 : decode J_MSquareRows_solves.2.1 35 = .ok (.iload_n 1, 1) := by decide +kernel
theorem J_MSquareRows_solves_d36 : decode J_MSquareRows_solves.2.1 36 = .ok (.if_icmp .ne 5, 3) := by decide +kernel
theorem J_MSquareRows_solves_d39 : decode J_MSquareRows_solves.2.1 39 = .ok (.iconst 0, 1) := by decide +kernel
theorem J_MSquareRows_solves_d40 : decode J_MSquareRows_solves.2.1 40 = .ok (.ireturn, 1) := by decide +kernel
theorem J_MSquareRows_solves_d41 : decode J_MSquareRows_solves.2.1 41 = .ok (.iconst 0, 1) := by decide +kernel
theorem J_MSquareRows_solves_d42 : decode J_MSquareRows_solves.2.1 42 = .ok (.istore 4, 2) := by decide +kernel
theorem J_MSquareRows_solves_d44 : decode J_MSquareRows_solves.2.1 44 = .ok (.iload 4, 2) := by decide +kernel
theorem J_MSquareRows_solves_d46 : decode J_MSquareRows_solves.2.1 46 = .ok (.iload_n 1, 1) := by decide +kernel
theorem J_MSquareRows_solves_d47 : decode J_MSquareRows_solves.2.1 47 = .ok (.if_icmp .gt 61, 3) := by decide +kernel
theorem J_MSquareRows_solves_d50 : decode J_MSquareRows_solves.2.1 50 = .ok (.aload_n 0, 1) := by decide +kernel
theorem J_MSquareRows_solves_d51 : decode J_MSquareRows_solves.2.1 51 = .ok (.getfield 55, 3) := by decide +kernel
theorem J_MSquareRows_solves_d54 : decode J_MSquareRows_solves.2.1 54 = .ok (.bipush 17, 2) := by decide +kernel
theorem J_MSquareRows_solves_d56 : decode J_MSquareRows_solves.2.1 56 = .ok (.iload_n 3, 1) := by decide +kernel
theorem J_MSquareRows_solves_d57 : decode J_MSquareRows_solves.2.1 57 = .ok (.imul, 1) := by decide +kernel
theorem J_MSquareRows_solves_d58 : decode J_MSquareRows_solves.2.1 58 = .ok (.iload 4, 2) := by decide +kernel
theorem J_MSquareRows_solves_d60 : decode J_MSquareRows_solves.2.1 60 = .ok (.iadd, 1) := by decide +kernel
theorem J_MSquareRows_solves_d61 : decode J_MSquareRows_solves.2.1 61 = .ok (.iaload, 1) := by decide +kernel
theorem J_MSquareRows_solves_d62 : decode J_MSquareRows_solves.2.1 62 = .ok (.istore 5, 2) := by decide +kernel
theorem J_MSquareRows_solves_d64 : decode J_MSquareRows_solves.2.1 64 = .ok (.aload_n 0, 1) := by decide +kernel
theorem J_MSquareRows_solves_d65 : decode J_MSquareRows_solves.2.1 65 = .ok (.getfield 55, 3) := by decide +kernel
theorem J_MSquareRows_solves_d68 : decode J_MSquareRows_solves.2.1 68 = .ok (.bipush 17, 2) := by decide +kernel
theorem J_MSquareRows_solves_d70 : decode J_MSquareRows_solves.2.1 70 = .ok (.iload_n 3, 1) := by decide +kernel
theorem J_MSquareRows_solves_d71 : decode J_MSquareRows_solves.2.1 71 = .ok (.imul, 1) := by decide +kernel
theorem J_MSquareRows_solves_d72 : decode J_MSquareRows_solves.2.1 72 = .ok (.iload 4, 2) := by decide +kernel
theorem J_MSquareRows_solves_d74 : decode J_MSquareRows_solves.2.1 74 = .ok (.iadd, 1) := by decide +kernel
theorem J_MSquareRows_solves_d75 : decode J_MSquareRows_solves.2.1 75 = .ok (.aload_n 0, 1) := by decide +kernel
theorem J_MSquareRows_solves_d76 : decode J_MSquareRows_solves.2.1 76 = .ok (.getfield 55, 3) := by decide +kernel
theorem J_MSquareRows_solves_d79 : decode J_MSquareRows_solves.2.1 79 = .ok (.bipush 17, 2) := by decide +kernel
theorem J_MSquareRows_solves_d81 : decode J_MSquareRows_solves.2.1 81 = .ok (.iload_n 2, 1) := by decide +kernel
theorem J_MSquareRows_solves_d82 : decode J_MSquareRows_solves.2.1 82 = .ok (.imul, 1) := by decide +kernel
theorem J_MSquareRows_solves_d83 : decode J_MSquareRows_solves.2.1 83 = .ok (.iload 4, 2) := by decide +kernel
theorem J_MSquareRows_solves_d85 : decode J_MSquareRows_solves.2.1 85 = .ok (.iadd, 1) := by decide +kernel
theorem J_MSquareRows_solves_d86 : decode J_MSquareRows_solves.2.1 86 = .ok (.iaload, 1) := by decide +kernel
theorem J_MSquareRows_solves_d87 : decode J_MSquareRows_solves.2.1 87 = .ok (.iastore, 1) := by decide +kernel
theorem J_MSquareRows_solves_d88 : decode J_MSquareRows_solves.2.1 88 = .ok (.aload_n 0, 1) := by decide +kernel
theorem J_MSquareRows_solves_d89 : decode J_MSquareRows_solves.2.1 89 = .ok (.getfield 55, 3) := by decide +kernel
theorem J_MSquareRows_solves_d92 : decode J_MSquareRows_solves.2.1 92 = .ok (.bipush 17, 2) := by decide +kernel
theorem J_MSquareRows_solves_d94 : decode J_MSquareRows_solves.2.1 94 = .ok (.iload_n 2, 1) := by decide +kernel
theorem J_MSquareRows_solves_d95 : decode J_MSquareRows_solves.2.1 95 = .ok (.imul, 1) := by decide +kernel
theorem J_MSquareRows_solves_d96 : decode J_MSquareRows_solves.2.1 96 = .ok (.iload 4, 2) := by decide +kernel
theorem J_MSquareRows_solves_d98 : decode J_MSquareRows_solves.2.1 98 = .ok (.iadd, 1) := by decide +kernel
theorem J_MSquareRows_solves_d99 : decode J_MSquareRows_solves.2.1 99 = .ok (.iload 5, 2) := by decide +kernel
theorem J_MSquareRows_solves_d101 : decode J_MSquareRows_solves.2.1 101 = .ok (.iastore, 1) := by decide +kernel
theorem J_MSquareRows_solves_d102 : decode J_MSquareRows_solves.2.1 102 = .ok (.iinc 4 1, 3) := by decide +kernel
theorem J_MSquareRows_solves_d105 : decode J_MSquareRows_solves.2.1 105 = .ok (.goto (-61), 3) := by decide +kernel
theorem J_MSquareRows_solves_d108 : decode J_MSquareRows_solves.2.1 108 = .ok (.aload_n 0, 1) := by decide +kernel
theorem J_MSquareRows_solves_d109 : decode J_MSquareRows_solves.2.1 109 = .ok (.getfield 55, 3) := by decide +kernel
theorem J_MSquareRows_solves_d112 : decode J_MSquareRows_solves.2.1 112 = .ok (.bipush 17, 2) := by decide +kernel
theorem J_MSquareRows_solves_d114 : decode J_MSquareRows_solves.2.1 114 = .ok (.iload_n 2, 1) := by decide +kernel
theorem J_MSquareRows_solves_d115 : decode J_MSquareRows_solves.2.1 115 = .ok (.imul, 1) := by decide +kernel
theorem J_MSquareRows_solves_d116 : decode J_MSquareRows_solves.2.1 116 = .ok (.iload_n 2, 1) := by decide +kernel
theorem J_MSquareRows_solves_d117 : decode J_MSquareRows_solves.2.1 117 = .ok (.iadd, 1) := by decide +kernel
theorem J_MSquareRows_solves_d118 : decode J_MSquareRows_solves.2.1 118 = .ok (.iaload, 1) := by decide +kernel
theorem J_MSquareRows_solves_d119 : decode J_MSquareRows_solves.2.1 119 = .ok (.invokestatic 250, 3) := by decide +kernel
theorem J_MSquareRows_solves_d122 : decode J_MSquareRows_solves.2.1 122 = .ok (.istore 4, 2) := by decide +kernel
theorem J_MSquareRows_solves_d124 : decode J_MSquareRows_solves.2.1 124 = .ok (.iconst 0, 1) := by decide +kernel
theorem J_MSquareRows_solves_d125 : decode J_MSquareRows_solves.2.1 125 = .ok (.istore 5, 2) := by decide +kernel
theorem J_MSquareRows_solves_d127 : decode J_MSquareRows_solves.2.1 127 = .ok (.iload 5, 2) := by decide +kernel
theorem J_MSquareRows_solves_d129 : decode J_MSquareRows_solves.2.1 129 = .ok (.iload_n 1, 1) := by decide +kernel
theorem J_MSquareRows_solves_d130 : decode J_MSquareRows_solves.2.1 130 = .ok (.if_icmp .gt 38, 3) := by decide +kernel
theorem J_MSquareRows_solves_d133 : decode J_MSquareRows_solves.2.1 133 = .ok (.aload_n 0, 1) := by decide +kernel
theorem J_MSquareRows_solves_d134 : decode J_MSquareRows_solves.2.1 134 = .ok (.getfield 55, 3) := by decide +kernel
theorem J_MSquareRows_solves_d137 : decode J_MSquareRows_solves.2.1 137 = .ok (.bipush 17, 2) := by decide +kernel
theorem J_MSquareRows_solves_d139 : decode J_MSquareRows_solves.2.1 139 = .ok (.iload_n 2, 1) := by decide +kernel
theorem J_MSquareRows_solves_d140 : decode J_MSquareRows_solves.2.1 140 = .ok (.imul, 1) := by decide +kernel
theorem J_MSquareRows_solves_d141 : decode J_MSquareRows_solves.2.1 141 = .ok (.iload 5, 2) := by decide +kernel
theorem J_MSquareRows_solves_d143 : decode J_MSquareRows_solves.2.1 143 = .ok (.iadd, 1) := by decide +kernel
theorem J_MSquareRows_solves_d144 : decode J_MSquareRows_solves.2.1 144 = .ok (.aload_n 0, 1) := by decide +kernel
theorem J_MSquareRows_solves_d145 : decode J_MSquareRows_solves.2.1 145 = .ok (.getfield 55, 3) := by decide +kernel
theorem J_MSquareRows_solves_d148 : decode J_MSquareRows_solves.2.1 148 = .ok (.bipush 17, 2) := by decide +kernel
theorem J_MSquareRows_solves_d150 : decode J_MSquareRows_solves.2.1 150 = .ok (.iload_n 2, 1) := by decide +kernel
theorem J_MSquareRows_solves_d151 : decode J_MSquareRows_solves.2.1 151 = .ok (.imul, 1) := by decide +kernel
theorem J_MSquareRows_solves_d152 : decode J_MSquareRows_solves.2.1 152 = .ok (.iload 5, 2) := by decide +kernel
theorem J_MSquareRows_solves_d154 : decode J_MSquareRows_solves.2.1 154 = .ok (.iadd, 1) := by decide +kernel
theorem J_MSquareRows_solves_d155 : decode J_MSquareRows_solves.2.1 155 = .ok (.iaload, 1) := by decide +kernel
theorem J_MSquareRows_solves_d156 : decode J_MSquareRows_solves.2.1 156 = .ok (.iload 4, 2) := by decide +kernel
theorem J_MSquareRows_solves_d158 : decode J_MSquareRows_solves.2.1 158 = .ok (.invokestatic 147, 3) := by decide +kernel
theorem J_MSquareRows_solves_d161 : decode J_MSquareRows_solves.2.1 161 = .ok (.iastore, 1) := by decide +kernel
theorem J_MSquareRows_solves_d162 : decode J_MSquareRows_solves.2.1 162 = .ok (.iinc 5 1, 3) := by decide +kernel
theorem J_MSquareRows_solves_d165 : decode J_MSquareRows_solves.2.1 165 = .ok (.goto (-38), 3) := by decide +kernel
theorem J_MSquareRows_solves_d168 : decode J_MSquareRows_solves.2.1 168 = .ok (.iconst 0, 1) := by decide +kernel
theorem J_MSquareRows_solves_d169 : decode J_MSquareRows_solves.2.1 169 = .ok (.istore 5, 2) := by decide +kernel
theorem J_MSquareRows_solves_d171 : decode J_MSquareRows_solves.2.1 171 = .ok (.iload 5, 2) := by decide +kernel
theorem J_MSquareRows_solves_d173 : decode J_MSquareRows_solves.2.1 173 = .ok (.iload_n 1, 1) := by decide +kernel
theorem J_MSquareRows_solves_d174 : decode J_MSquareRows_solves.2.1 174 = .ok (.if_icmp .ge 88, 3) := by decide +kernel
theorem J_MSquareRows_solves_d177 : decode J_MSquareRows_solves.2.1 177 = .ok (.aload_n 0, 1) := by decide +kernel
theorem J_MSquareRows_solves_d178 : decode J_MSquareRows_solves.2.1 178 = .ok (.getfield 55, 3) := by decide +kernel
theorem J_MSquareRows_solves_d181 : decode J_MSquareRows_solves.2.1 181 = .ok (.bipush 17, 2) := by decide +kernel
theorem J_MSquareRows_solves_d183 : decode J_MSquareRows_solves.2.1 183 = .ok (.iload 5, 2) := by decide +kernel
theorem J_MSquareRows_solves_d185 : decode J_MSquareRows_solves.2.1 185 = .ok (.imul, 1) := by decide +kernel
theorem J_MSquareRows_solves_d186 : decode J_MSquareRows_solves.2.1 186 = .ok (.iload_n 2, 1) := by decide +kernel
theorem J_MSquareRows_solves_d187 : decode J_MSquareRows_solves.2.1 187 = .ok (.iadd, 1) := by decide +kernel
theorem J_MSquareRows_solves_d188 : decode J_MSquareRows_solves.2.1 188 = .ok (.iaload, 1) := by decide +kernel
theorem J_MSquareRows_solves_d189 : decode J_MSquareRows_solves.2.1 189 = .ok (.istore 6, 2) := by decide +kernel
theorem J_MSquareRows_solves_d191 : decode J_MSquareRows_solves.2.1 191 = .ok (.iconst 0, 1) := by decide +kernel
theorem J_MSquareRows_solves_d192 : decode J_MSquareRows_solves.2.1 192 = .ok (.istore 7, 2) := by decide +kernel
theorem J_MSquareRows_solves_d194 : decode J_MSquareRows_solves.2.1 194 = .ok (.iload 7, 2) := by decide +kernel
theorem J_MSquareRows_solves_d196 : decode J_MSquareRows_solves.2.1 196 = .ok (.iload_n 1, 1) := by decide +kernel
theorem J_MSquareRows_solves_d197 : decode J_MSquareRows_solves.2.1 197 = .ok (.if_icmp .gt 59, 3) := by decide +kernel
theorem J_MSquareRows_solves_d200 : decode J_MSquareRows_solves.2.1 200 = .ok (.iload 5, 2) := by decide +kernel
theorem J_MSquareRows_solves_d202 : decode J_MSquareRows_solves.2.1 202 = .ok (.iload_n 2, 1) := by decide +kernel
theorem J_MSquareRows_solves_d203 : decode J_MSquareRows_solves.2.1 203 = .ok (.if_icmp .eq 53, 3) := by decide +kernel
theorem J_MSquareRows_solves_d206 : decode J_MSquareRows_solves.2.1 206 = .ok (.aload_n 0, 1) := by decide +kernel
theorem J_MSquareRows_solves_d207 : decode J_MSquareRows_solves.2.1 207 = .ok (.getfield 55, 3) := by decide +kernel
theorem J_MSquareRows_solves_d210 : decode J_MSquareRows_solves.2.1 210 = .ok (.bipush 17, 2) := by decide +kernel
theorem J_MSquareRows_solves_d212 : decode J_MSquareRows_solves.2.1 212 = .ok (.iload 5, 2) := by decide +kernel
theorem J_MSquareRows_solves_d214 : decode J_MSquareRows_solves.2.1 214 = .ok (.imul, 1) := by decide +kernel
theorem J_MSquareRows_solves_d215 : decode J_MSquareRows_solves.2.1 215 = .ok (.iload 7, 2) := by decide +kernel
theorem J_MSquareRows_solves_d217 : decode J_MSquareRows_solves.2.1 217 = .ok (.iadd, 1) := by decide +kernel
theorem J_MSquareRows_solves_d218 : decode J_MSquareRows_solves.2.1 218 = .ok (.aload_n 0, 1) := by decide +kernel
theorem J_MSquareRows_solves_d219 : decode J_MSquareRows_solves.2.1 219 = .ok (.getfield 55, 3) := by decide +kernel
theorem J_MSquareRows_solves_d222 : decode J_MSquareRows_solves.2.1 222 = .ok (.bipush 17, 2) := by decide +kernel
theorem J_MSquareRows_solves_d224 : decode J_MSquareRows_solves.2.1 224 = .ok (.iload 5, 2) := by decide +kernel
theorem J_MSquareRows_solves_d226 : decode J_MSquareRows_solves.2.1 226 = .ok (.imul, 1) := by decide +kernel
theorem J_MSquareRows_solves_d227 : decode J_MSquareRows_solves.2.1 227 = .ok (.iload 7, 2) := by decide +kernel
theorem J_MSquareRows_solves_d229 : decode J_MSquareRows_solves.2.1 229 = .ok (.iadd, 1) := by decide +kernel
theorem J_MSquareRows_solves_d230 : decode J_MSquareRows_solves.2.1 230 = .ok (.iaload, 1) := by decide +kernel
theorem J_MSquareRows_solves_d231 : decode J_MSquareRows_solves.2.1 231 = .ok (.iload 6, 2) := by decide +kernel
theorem J_MSquareRows_solves_d233 : decode J_MSquareRows_solves.2.1 233 = .ok (.aload_n 0, 1) := by decide +kernel
theorem J_MSquareRows_solves_d234 : decode J_MSquareRows_solves.2.1 234 = .ok (.getfield 55, 3) := by decide +kernel
theorem J_MSquareRows_solves_d237 : decode J_MSquareRows_solves.2.1 237 = .ok (.bipush 17, 2) := by decide +kernel
theorem J_MSquareRows_solves_d239 : decode J_MSquareRows_solves.2.1 239 = .ok (.iload_n 2, 1) := by decide +kernel
theorem J_MSquareRows_solves_d240 : decode J_MSquareRows_solves.2.1 240 = .ok (.imul, 1) := by decide +kernel
theorem J_MSquareRows_solves_d241 : decode J_MSquareRows_solves.2.1 241 = .ok (.iload 7, 2) := by decide +kernel
theorem J_MSquareRows_solves_d243 : decode J_MSquareRows_solves.2.1 243 = .ok (.iadd, 1) := by decide +kernel
theorem J_MSquareRows_solves_d244 : decode J_MSquareRows_solves.2.1 244 = .ok (.iaload, 1) := by decide +kernel
theorem J_MSquareRows_solves_d245 : decode J_MSquareRows_solves.2.1 245 = .ok (.invokestatic 147, 3) := by decide +kernel
theorem J_MSquareRows_solves_d248 : decode J_MSquareRows_solves.2.1 248 = .ok (.ixor, 1) := by decide +kernel
theorem J_MSquareRows_solves_d249 : decode J_MSquareRows_solves.2.1 249 = .ok (.iastore, 1) := by decide +kernel
theorem J_MSquareRows_solves_d250 : decode J_MSquareRows_solves.2.1 250 = .ok (.iinc 7 1, 3) := by decide +kernel
theorem J_MSquareRows_solves_d253 : decode J_MSquareRows_solves.2.1 253 = .ok (.goto (-59), 3) := by decide +kernel
theorem J_MSquareRows_solves_d256 : decode J_MSquareRows_solves.2.1 256 = .ok (.iinc 5 1, 3) := by decide +kernel
theorem J_MSquareRows_solves_d259 : decode J_MSquareRows_solves.2.1 259 = .ok (.goto (-88), 3) := by decide +kernel
theorem J_MSquareRows_solves_d262 : decode J_MSquareRows_solves.2.1 262 = .ok (.iinc 2 1, 3) := by decide +kernel
theorem J_MSquareRows_solves_d265 : decode J_MSquareRows_solves.2.1 265 = .ok (.goto (-263), 3) := by decide +kernel
theorem J_MSquareRows_solves_d268 : decode J_MSquareRows_solves.2.1 268 = .ok (.iconst 0, 1) := by decide +kernel
theorem J_MSquareRows_solves_d269 : decode J_MSquareRows_solves.2.1 269 = .ok (.istore_n 2, 1) := by decide +kernel
theorem J_MSquareRows_solves_d270 : decode J_MSquareRows_solves.2.1 270 = .ok (.iload_n 2, 1) := by decide +kernel
theorem J_MSquareRows_solves_d271 : decode J_MSquareRows_solves.2.1 271 = .ok (.iload_n 1, 1) := by decide +kernel
theorem J_MSquareRows_solves_d272 : decode J_MSquareRows_solves.2.1 272 = .ok (.if_icmp .ge 26, 3) := by decide +kernel
theorem J_MSquareRows_solves_d275 : decode J_MSquareRows_solves.2.1 275 = .ok (.aload_n 0, 1) := by decide +kernel
theorem J_MSquareRows_solves_d276 : decode J_MSquareRows_solves.2.1 276 = .ok (.getfield 58, 3) := by decide +kernel
theorem J_MSquareRows_solves_d279 : decode J_MSquareRows_solves.2.1 279 = .ok (.iload_n 2, 1) := by decide +kernel
theorem J_MSquareRows_solves_d280 : decode J_MSquareRows_solves.2.1 280 = .ok (.aload_n 0, 1) := by decide +kernel
theorem J_MSquareRows_solves_d281 : decode J_MSquareRows_solves.2.1 281 = .ok (.getfield 55, 3) := by decide +kernel
theorem J_MSquareRows_solves_d284 : decode J_MSquareRows_solves.2.1 284 = .ok (.bipush 17, 2) := by decide +kernel
theorem J_MSquareRows_solves_d286 : decode J_MSquareRows_solves.2.1 286 = .ok (.iload_n 2, 1) := by decide +kernel
theorem J_MSquareRows_solves_d287 : decode J_MSquareRows_solves.2.1 287 = .ok (.imul, 1) := by decide +kernel
theorem J_MSquareRows_solves_d288 : decode J_MSquareRows_solves.2.1 288 = .ok (.iload_n 1, 1) := by decide +kernel
theorem J_MSquareRows_solves_d289 : decode J_MSquareRows_solves.2.1 289 = .ok (.iadd, 1) := by decide +kernel
theorem J_MSquareRows_solves_d290 : decode J_MSquareRows_solves.2.1 290 = .ok (.iaload, 1) := by decide +kernel
theorem J_MSquareRows_solves_d291 : decode J_MSquareRows_solves.2.1 291 = .ok (.iastore, 1) := by decide +kernel
theorem J_MSquareRows_solves_d292 : decode J_MSquareRows_solves.2.1 292 = .ok (.iinc 2 1, 3) := by decide +kernel
theorem J_MSquareRows_solves_d295 : decode J_MSquareRows_solves.2.1 295 = .ok (.goto (-25), 3) := by decide +kernel
theorem J_MSquareRows_solves_d298 : decode J_MSquareRows_solves.2.1 298 = .ok (.iconst 1, 1) := by decide +kernel
theorem J_MSquareRows_solves_d299 : decode J_MSquareRows_solves.2.1 299 = .ok (.ireturn, 1) := by decide +kernel
theorem f_MSquareRows_solves_ok {L : Nat} {xs : Nat → Int32} {dep : Nat} {w : Bool} {p0 : Int32} {M : im_M} {Q : Int32 × im_M → Prop} (hM : lw_S w M) (h : ed (f_MSquareRows_solves p0 M) Q) : ia (tb_G L xs) (dep + 2) J_MSquareRows_solves (rwI w Q) (0, lv_args 0 [.ref 108, .int p0], [], M) := by
  have hS : im_St (tb_G L xs) (dep + 2) J_MSquareRows_solves (ia (tb_G L xs) (dep + 2) J_MSquareRows_solves (rwI w Q)) := ia_St
  unfold f_MSquareRows_solves at h
  have l0 : im_lk (lv_args 0 [.ref 108, .int p0]) 0 = some (.ref 108) := rfl
  have l1 : im_lk (lv_args 0 [.ref 108, .int p0]) 1 = some (.int p0) := rfl
  refine iq_iconst hS 1 J_MSquareRows_solves_d0 (v := 0) (by decide +kernel) rfl ?_
  refine iq_istore_n hS 2 J_MSquareRows_solves_d1 (by decide) rfl ?_
  obtain ⟨Q1, hQ1, hR1, h⟩ := bs1_ed h
  have K1 : ∀ (M2 : im_M) (L' : List (Nat × Value)), lw_S w M2 → im_lk L' 0 = some (.ref 108) → im_lk L' 1 = some (.int p0) → Q1 (.inl M2) → ia (tb_G L xs) (dep + 2) J_MSquareRows_solves (rwI w Q) (268, L', [], M2) := by
    intro M2 L' hM2 l3 l4 h
    replace h := hQ1 _ h
    refine iq_iconst hS 269 J_MSquareRows_solves_d268 (v := 0) (by decide +kernel) rfl ?_
    refine iq_istore_n hS 270 J_MSquareRows_solves_d269 (by decide) rfl ?_
    obtain ⟨Q5, hQ5, h⟩ := bd1_ed h
    have K5 : ∀ (M6 : im_M) (L' : List (Nat × Value)), lw_S w M6 → Q5 M6 → ia (tb_G L xs) (dep + 2) J_MSquareRows_solves (rwI w Q) (298, L', [], M6) := by
      intro M6 L' hM6  h
      replace h := hQ5 _ h
      refine iq_iconst hS 299 J_MSquareRows_solves_d298 (v := 1) (by decide +kernel) rfl ?_
      exact iq_iret J_MSquareRows_solves_d299 rfl rfl ⟨_, rfl, hM6, ed_some h⟩
    obtain ⟨r5, hr5, hq5⟩ := h
    obtain ⟨n5, hn5⟩ := lp_n hr5
    have I5 : ∀ (n : Nat) (x7 : Int32) (M8 : im_M) (L' : List (Nat × Value)), lw_S w M8 → im_lk L' 0 = some (.ref 108) → im_lk L' 1 = some (.int p0) → im_lk L' 2 = some (.int x7) → lpn (uc2 (f_MSquareRows_solves_L270 p0)) n (x7, M8) = some r5 → ia (tb_G L xs) (dep + 2) J_MSquareRows_solves (rwI w Q) (270, L', [], M8) := by
      intro n
      induction n with
      | zero => intro x7 M8 L' hM8 l9 l10 l11 hn; exact (lpn_0 hn).elim
      | succ n ih =>
        intro x7 M8 L' hM8 l9 l10 l11 hn
        have h := lpn_ed2 hn
        unfold f_MSquareRows_solves_L270 at h
        refine iq_iload_n hS 271 J_MSquareRows_solves_d270 l11 rfl ?_
        refine iq_iload_n hS 272 J_MSquareRows_solves_d271 l10 rfl ?_
        refine iq_icmp_ge hS 275 J_MSquareRows_solves_d272 (t := 298) rfl (fun q272 => ?_) rfl (fun q272 => ?_)
        · replace h := ed_pos q272 h
          exact K5 _ _ hM8  (lq_r h hq5)
        · replace h := ed_neg q272 h
          refine iq_aload_n hS 276 J_MSquareRows_solves_d275 l9 rfl ?_
          refine iq_getR hS 279 J_MSquareRows_solves_d276 lf_16_58 (Or.inr ⟨_, rfl⟩) (ka_108 hM8) (ra_108_24 hM8) rfl ?_
          refine iq_iload_n hS 280 J_MSquareRows_solves_d279 l11 rfl ?_
          refine iq_aload_n hS 281 J_MSquareRows_solves_d280 l9 rfl ?_
          refine iq_getR hS 284 J_MSquareRows_solves_d281 lf_16_55 (Or.inr ⟨_, rfl⟩) (ka_108 hM8) (ra_108_23 hM8) rfl ?_
          refine iq_bipush hS 286 J_MSquareRows_solves_d284 (v := 17) (by decide +kernel) rfl ?_
          refine iq_iload_n hS 287 J_MSquareRows_solves_d286 l11 rfl ?_
          refine iq_imul hS 288 J_MSquareRows_solves_d287 rfl ?_
          refine iq_iload_n hS 289 J_MSquareRows_solves_d288 l10 rfl ?_
          refine iq_iadd hS 290 J_MSquareRows_solves_d289 rfl ?_
          obtain ⟨g290, h⟩ := ed_gd h
          refine iq_iaload hS 291 J_MSquareRows_solves_d290 ⟨(ka_124 hM8).1, (ka_124 hM8).2, g290.1, ix_lt (kl_124 hM8) g290.2⟩ rfl ?_
          obtain ⟨g291, h⟩ := ed_gd h
          refine iq_iastore hS 292 J_MSquareRows_solves_d291 ⟨(ka_125 hM8).1, (ka_125 hM8).2, g291.1, ix_lt (kl_125 hM8) g291.2⟩ rfl ?_
          refine iq_iincv hS 295 J_MSquareRows_solves_d292 (c := 1) (by decide +kernel) l11 (by decide) rfl ?_
          refine iq_goto hS J_MSquareRows_solves_d295 (t := 270) rfl ?_
          exact ih _ _ _ (lw_sI hM8) (lk_1r l9 (by decide)) (lk_1i l10 (by decide)) lk_1s (lq_l h)
    exact I5 n5 _ _ _ hM2 (lk_1r l3 (by decide)) (lk_1i l4 (by decide)) lk_1s hn5
  obtain ⟨r1, hr1, hq1⟩ := h
  obtain ⟨n1, hn1⟩ := lp_n hr1
  have I1 : ∀ (n : Nat) (x12 : Int32) (M13 : im_M) (L' : List (Nat × Value)), lw_S w M13 → im_lk L' 0 = some (.ref 108) → im_lk L' 1 = some (.int p0) → im_lk L' 2 = some (.int x12) → lpn (uc2 (f_MSquareRows_solves_L2 p0)) n (x12, M13) = some r1 → ia (tb_G L xs) (dep + 2) J_MSquareRows_solves (rwI w Q) (2, L', [], M13) := by
    intro n
    induction n with
    | zero => intro x12 M13 L' hM13 l14 l15 l16 hn; exact (lpn_0 hn).elim
    | succ n ih =>
      intro x12 M13 L' hM13 l14 l15 l16 hn
      have h := lpn_ed2 hn
      unfold f_MSquareRows_solves_L2 at h
      refine iq_iload_n hS 3 J_MSquareRows_solves_d2 l16 rfl ?_
      refine iq_iload_n hS 4 J_MSquareRows_solves_d3 l15 rfl ?_
      refine iq_icmp_ge hS 7 J_MSquareRows_solves_d4 (t := 268) rfl (fun q4 => ?_) rfl (fun q4 => ?_)
      · replace h := ed_pos q4 h
        exact K1 _ _ hM13 l14 l15 (lq_r h hq1)
      · replace h := ed_neg q4 h
        refine iq_iload_n hS 8 J_MSquareRows_solves_d7 l16 rfl ?_
        refine iq_istore_n hS 9 J_MSquareRows_solves_d8 (by decide) rfl ?_
        obtain ⟨Q17, hQ17, h⟩ := bd1_ed h
        have K17 : ∀ (y18 : Int32) (L' : List (Nat × Value)), im_lk L' 0 = some (.ref 108) → im_lk L' 1 = some (.int p0) → im_lk L' 2 = some (.int x12) → im_lk L' 3 = some (.int y18) → Q17 y18 → ia (tb_G L xs) (dep + 2) J_MSquareRows_solves (rwI w Q) (34, L', [], M13) := by
          intro y18 L' l19 l20 l21 l22 h
          replace h := hQ17 _ h
          refine iq_iload_n hS 35 J_MSquareRows_solves_d34 l22 rfl ?_
          refine iq_iload_n hS 36 J_MSquareRows_solves_d35 l20 rfl ?_
          refine iq_icmp_ne hS 39 J_MSquareRows_solves_d36 (t := 41) rfl (fun q36 => ?_) rfl (fun q36 => ?_)
          · replace h := ed_pos q36 h
            refine iq_iconst hS 42 J_MSquareRows_solves_d41 (v := 0) (by decide +kernel) rfl ?_
            refine iq_istore hS 44 J_MSquareRows_solves_d42 (by decide) rfl ?_
            obtain ⟨Q23, hQ23, h⟩ := bd1_ed h
            have K23 : ∀ (M24 : im_M) (L' : List (Nat × Value)), lw_S w M24 → im_lk L' 0 = some (.ref 108) → im_lk L' 1 = some (.int p0) → im_lk L' 2 = some (.int x12) → Q23 M24 → ia (tb_G L xs) (dep + 2) J_MSquareRows_solves (rwI w Q) (108, L', [], M24) := by
              intro M24 L' hM24 l25 l26 l27 h
              replace h := hQ23 _ h
              refine iq_aload_n hS 109 J_MSquareRows_solves_d108 l25 rfl ?_
              refine iq_getR hS 112 J_MSquareRows_solves_d109 lf_16_55 (Or.inr ⟨_, rfl⟩) (ka_108 hM24) (ra_108_23 hM24) rfl ?_
              refine iq_bipush hS 114 J_MSquareRows_solves_d112 (v := 17) (by decide +kernel) rfl ?_
              refine iq_iload_n hS 115 J_MSquareRows_solves_d114 l27 rfl ?_
              refine iq_imul hS 116 J_MSquareRows_solves_d115 rfl ?_
              refine iq_iload_n hS 117 J_MSquareRows_solves_d116 l27 rfl ?_
              refine iq_iadd hS 118 J_MSquareRows_solves_d117 rfl ?_
              obtain ⟨g118, h⟩ := ed_gd h
              refine iq_iaload hS 119 J_MSquareRows_solves_d118 ⟨(ka_124 hM24).1, (ka_124 hM24).2, g118.1, ix_lt (kl_124 hM24) g118.2⟩ rfl ?_
              obtain ⟨Q28, hQ28, h⟩ := bd1_ed h
              refine iq_cpI hS 122 J_MSquareRows_solves_d119 rfl (pr_stat (vs := [_]) lc_16_250 lT_498 rfl rfl (by decide) rfl (Nat.le_of_ble_eq_true rfl) (Nat.le_of_ble_eq_true rfl)) (f_MSquareRows_inverse_ok (dep := dep + 0) hM24 h) rfl ?_
              intro x28 h
              replace h := hQ28 _ h
              refine iq_istore hS 124 J_MSquareRows_solves_d122 (by decide) rfl ?_
              refine iq_iconst hS 125 J_MSquareRows_solves_d124 (v := 0) (by decide +kernel) rfl ?_
              refine iq_istore hS 127 J_MSquareRows_solves_d125 (by decide) rfl ?_
              obtain ⟨Q29, hQ29, h⟩ := bd1_ed h
              have K29 : ∀ (M30 : im_M) (L' : List (Nat × Value)), lw_S w M30 → im_lk L' 0 = some (.ref 108) → im_lk L' 1 = some (.int p0) → im_lk L' 2 = some (.int x12) → Q29 M30 → ia (tb_G L xs) (dep + 2) J_MSquareRows_solves (rwI w Q) (168, L', [], M30) := by
                intro M30 L' hM30 l31 l32 l33 h
                replace h := hQ29 _ h
                refine iq_iconst hS 169 J_MSquareRows_solves_d168 (v := 0) (by decide +kernel) rfl ?_
                refine iq_istore hS 171 J_MSquareRows_solves_d169 (by decide) rfl ?_
                obtain ⟨Q34, hQ34, h⟩ := bd1_ed h
                have K34 : ∀ (M35 : im_M) (L' : List (Nat × Value)), lw_S w M35 → im_lk L' 0 = some (.ref 108) → im_lk L' 1 = some (.int p0) → im_lk L' 2 = some (.int x12) → Q34 M35 → ia (tb_G L xs) (dep + 2) J_MSquareRows_solves (rwI w Q) (262, L', [], M35) := by
                  intro M35 L' hM35 l36 l37 l38 h
                  replace h := hQ34 _ h
                  refine iq_iincv hS 265 J_MSquareRows_solves_d262 (c := 1) (by decide +kernel) l38 (by decide) rfl ?_
                  refine iq_goto hS J_MSquareRows_solves_d265 (t := 2) rfl ?_
                  exact ih _ _ _ hM35 (lk_1r l36 (by decide)) (lk_1i l37 (by decide)) lk_1s (lq_l h)
                obtain ⟨r34, hr34, hq34⟩ := h
                obtain ⟨n34, hn34⟩ := lp_n hr34
                have I34 : ∀ (n : Nat) (x39 : Int32) (M40 : im_M) (L' : List (Nat × Value)), lw_S w M40 → im_lk L' 0 = some (.ref 108) → im_lk L' 1 = some (.int p0) → im_lk L' 2 = some (.int x12) → im_lk L' 5 = some (.int x39) → lpn (uc2 (f_MSquareRows_solves_L171 p0 x12)) n (x39, M40) = some r34 → ia (tb_G L xs) (dep + 2) J_MSquareRows_solves (rwI w Q) (171, L', [], M40) := by
                  intro n
                  induction n with
                  | zero => intro x39 M40 L' hM40 l41 l42 l43 l44 hn; exact (lpn_0 hn).elim
                  | succ n ih =>
                    intro x39 M40 L' hM40 l41 l42 l43 l44 hn
                    have h := lpn_ed2 hn
                    unfold f_MSquareRows_solves_L171 at h
                    refine iq_iload hS 173 J_MSquareRows_solves_d171 l44 rfl ?_
                    refine iq_iload_n hS 174 J_MSquareRows_solves_d173 l42 rfl ?_
                    refine iq_icmp_ge hS 177 J_MSquareRows_solves_d174 (t := 262) rfl (fun q174 => ?_) rfl (fun q174 => ?_)
                    · replace h := ed_pos q174 h
                      exact K34 _ _ hM40 l41 l42 l43 (lq_r h hq34)
                    · replace h := ed_neg q174 h
                      refine iq_aload_n hS 178 J_MSquareRows_solves_d177 l41 rfl ?_
                      refine iq_getR hS 181 J_MSquareRows_solves_d178 lf_16_55 (Or.inr ⟨_, rfl⟩) (ka_108 hM40) (ra_108_23 hM40) rfl ?_
                      refine iq_bipush hS 183 J_MSquareRows_solves_d181 (v := 17) (by decide +kernel) rfl ?_
                      refine iq_iload hS 185 J_MSquareRows_solves_d183 l44 rfl ?_
                      refine iq_imul hS 186 J_MSquareRows_solves_d185 rfl ?_
                      refine iq_iload_n hS 187 J_MSquareRows_solves_d186 l43 rfl ?_
                      refine iq_iadd hS 188 J_MSquareRows_solves_d187 rfl ?_
                      obtain ⟨g188, h⟩ := ed_gd h
                      refine iq_iaload hS 189 J_MSquareRows_solves_d188 ⟨(ka_124 hM40).1, (ka_124 hM40).2, g188.1, ix_lt (kl_124 hM40) g188.2⟩ rfl ?_
                      refine iq_istore hS 191 J_MSquareRows_solves_d189 (by decide) rfl ?_
                      refine iq_iconst hS 192 J_MSquareRows_solves_d191 (v := 0) (by decide +kernel) rfl ?_
                      refine iq_istore hS 194 J_MSquareRows_solves_d192 (by decide) rfl ?_
                      obtain ⟨Q45, hQ45, h⟩ := bd1_ed h
                      have K45 : ∀ (M46 : im_M) (L' : List (Nat × Value)), lw_S w M46 → im_lk L' 0 = some (.ref 108) → im_lk L' 1 = some (.int p0) → im_lk L' 2 = some (.int x12) → im_lk L' 5 = some (.int x39) → Q45 M46 → ia (tb_G L xs) (dep + 2) J_MSquareRows_solves (rwI w Q) (256, L', [], M46) := by
                        intro M46 L' hM46 l47 l48 l49 l50 h
                        replace h := hQ45 _ h
                        refine iq_iincv hS 259 J_MSquareRows_solves_d256 (c := 1) (by decide +kernel) l50 (by decide) rfl ?_
                        refine iq_goto hS J_MSquareRows_solves_d259 (t := 171) rfl ?_
                        exact ih _ _ _ hM46 (lk_1r l47 (by decide)) (lk_1i l48 (by decide)) (lk_1i l49 (by decide)) lk_1s (lq_l h)
                      obtain ⟨r45, hr45, hq45⟩ := h
                      obtain ⟨n45, hn45⟩ := lp_n hr45
                      have I45 : ∀ (n : Nat) (x51 : Int32) (M52 : im_M) (L' : List (Nat × Value)), lw_S w M52 → im_lk L' 0 = some (.ref 108) → im_lk L' 1 = some (.int p0) → im_lk L' 2 = some (.int x12) → im_lk L' 5 = some (.int x39) → im_lk L' 6 = some (.int (im_i M40 124 (Int32.toNatClampNeg (((17 : Int32) * x39) + x12)))) → im_lk L' 7 = some (.int x51) → lpn (uc2 (f_MSquareRows_solves_L194 p0 x12 x39 (im_i M40 124 (Int32.toNatClampNeg (((17 : Int32) * x39) + x12))))) n (x51, M52) = some r45 → ia (tb_G L xs) (dep + 2) J_MSquareRows_solves (rwI w Q) (194, L', [], M52) := by
                        intro n
                        induction n with
                        | zero => intro x51 M52 L' hM52 l53 l54 l55 l56 l57 l58 hn; exact (lpn_0 hn).elim
                        | succ n ih =>
                          intro x51 M52 L' hM52 l53 l54 l55 l56 l57 l58 hn
                          have h := lpn_ed2 hn
                          unfold f_MSquareRows_solves_L194 at h
                          refine iq_iload hS 196 J_MSquareRows_solves_d194 l58 rfl ?_
                          refine iq_iload_n hS 197 J_MSquareRows_solves_d196 l54 rfl ?_
                          refine iq_icmp_gt hS 200 J_MSquareRows_solves_d197 (t := 256) rfl (fun q197 => ?_) rfl (fun q197 => ?_)
                          · replace h := ed_pos q197 h
                            exact K45 _ _ hM52 l53 l54 l55 l56 (lq_r h hq45)
                          · replace h := ed_neg q197 h
                            refine iq_iload hS 202 J_MSquareRows_solves_d200 l56 rfl ?_
                            refine iq_iload_n hS 203 J_MSquareRows_solves_d202 l55 rfl ?_
                            refine iq_icmp_eq hS 206 J_MSquareRows_solves_d203 (t := 256) rfl (fun q203 => ?_) rfl (fun q203 => ?_)
                            · replace h := ed_pos q203 h
                              exact K45 _ _ hM52 l53 l54 l55 l56 (lq_r h hq45)
                            · replace h := ed_neg q203 h
                              refine iq_aload_n hS 207 J_MSquareRows_solves_d206 l53 rfl ?_
                              refine iq_getR hS 210 J_MSquareRows_solves_d207 lf_16_55 (Or.inr ⟨_, rfl⟩) (ka_108 hM52) (ra_108_23 hM52) rfl ?_
                              refine iq_bipush hS 212 J_MSquareRows_solves_d210 (v := 17) (by decide +kernel) rfl ?_
                              refine iq_iload hS 214 J_MSquareRows_solves_d212 l56 rfl ?_
                              refine iq_imul hS 215 J_MSquareRows_solves_d214 rfl ?_
                              refine iq_iload hS 217 J_MSquareRows_solves_d215 l58 rfl ?_
                              refine iq_iadd hS 218 J_MSquareRows_solves_d217 rfl ?_
                              refine iq_aload_n hS 219 J_MSquareRows_solves_d218 l53 rfl ?_
                              refine iq_getR hS 222 J_MSquareRows_solves_d219 lf_16_55 (Or.inr ⟨_, rfl⟩) (ka_108 hM52) (ra_108_23 hM52) rfl ?_
                              refine iq_bipush hS 224 J_MSquareRows_solves_d222 (v := 17) (by decide +kernel) rfl ?_
                              refine iq_iload hS 226 J_MSquareRows_solves_d224 l56 rfl ?_
                              refine iq_imul hS 227 J_MSquareRows_solves_d226 rfl ?_
                              refine iq_iload hS 229 J_MSquareRows_solves_d227 l58 rfl ?_
                              refine iq_iadd hS 230 J_MSquareRows_solves_d229 rfl ?_
                              obtain ⟨g230, h⟩ := ed_gd h
                              refine iq_iaload hS 231 J_MSquareRows_solves_d230 ⟨(ka_124 hM52).1, (ka_124 hM52).2, g230.1, ix_lt (kl_124 hM52) g230.2⟩ rfl ?_
                              refine iq_iload hS 233 J_MSquareRows_solves_d231 l57 rfl ?_
                              refine iq_aload_n hS 234 J_MSquareRows_solves_d233 l53 rfl ?_
                              refine iq_getR hS 237 J_MSquareRows_solves_d234 lf_16_55 (Or.inr ⟨_, rfl⟩) (ka_108 hM52) (ra_108_23 hM52) rfl ?_
                              refine iq_bipush hS 239 J_MSquareRows_solves_d237 (v := 17) (by decide +kernel) rfl ?_
                              refine iq_iload_n hS 240 J_MSquareRows_solves_d239 l55 rfl ?_
                              refine iq_imul hS 241 J_MSquareRows_solves_d240 rfl ?_
                              refine iq_iload hS 243 J_MSquareRows_solves_d241 l58 rfl ?_
                              refine iq_iadd hS 244 J_MSquareRows_solves_d243 rfl ?_
                              obtain ⟨g244, h⟩ := ed_gd h
                              refine iq_iaload hS 245 J_MSquareRows_solves_d244 ⟨(ka_124 hM52).1, (ka_124 hM52).2, g244.1, ix_lt (kl_124 hM52) g244.2⟩ rfl ?_
                              obtain ⟨Q59, hQ59, h⟩ := bd1_ed h
                              refine iq_cpI hS 248 J_MSquareRows_solves_d245 rfl (pr_stat (vs := [_, _]) lc_16_147 lT_411 rfl rfl (by decide) rfl (Nat.le_of_ble_eq_true rfl) (Nat.le_of_ble_eq_true rfl)) (f_MSquareRows_times_ok (dep := dep + 1) hM52 h) rfl ?_
                              intro x59 h
                              replace h := hQ59 _ h
                              refine iq_ixor hS 249 J_MSquareRows_solves_d248 rfl ?_
                              obtain ⟨g249, h⟩ := ed_gd h
                              refine iq_iastore hS 250 J_MSquareRows_solves_d249 ⟨(ka_124 hM52).1, (ka_124 hM52).2, g249.1, ix_lt (kl_124 hM52) g249.2⟩ rfl ?_
                              refine iq_iincv hS 253 J_MSquareRows_solves_d250 (c := 1) (by decide +kernel) l58 (by decide) rfl ?_
                              refine iq_goto hS J_MSquareRows_solves_d253 (t := 194) rfl ?_
                              exact ih _ _ _ (lw_sI hM52) (lk_1r l53 (by decide)) (lk_1i l54 (by decide)) (lk_1i l55 (by decide)) (lk_1i l56 (by decide)) (lk_1i l57 (by decide)) lk_1s (lq_l h)
                      exact I45 n45 _ _ _ hM40 (lk_1r (lk_1r l41 (by decide)) (by decide)) (lk_1i (lk_1i l42 (by decide)) (by decide)) (lk_1i (lk_1i l43 (by decide)) (by decide)) (lk_1i (lk_1i l44 (by decide)) (by decide)) (lk_1i lk_1s (by decide)) lk_1s hn45
                exact I34 n34 _ _ _ hM30 (lk_1r l31 (by decide)) (lk_1i l32 (by decide)) (lk_1i l33 (by decide)) lk_1s hn34
              obtain ⟨r29, hr29, hq29⟩ := h
              obtain ⟨n29, hn29⟩ := lp_n hr29
              have I29 : ∀ (n : Nat) (x60 : Int32) (M61 : im_M) (L' : List (Nat × Value)), lw_S w M61 → im_lk L' 0 = some (.ref 108) → im_lk L' 1 = some (.int p0) → im_lk L' 2 = some (.int x12) → im_lk L' 4 = some (.int x28) → im_lk L' 5 = some (.int x60) → lpn (uc2 (f_MSquareRows_solves_L127 p0 x12 x28)) n (x60, M61) = some r29 → ia (tb_G L xs) (dep + 2) J_MSquareRows_solves (rwI w Q) (127, L', [], M61) := by
                intro n
                induction n with
                | zero => intro x60 M61 L' hM61 l62 l63 l64 l65 l66 hn; exact (lpn_0 hn).elim
                | succ n ih =>
                  intro x60 M61 L' hM61 l62 l63 l64 l65 l66 hn
                  have h := lpn_ed2 hn
                  unfold f_MSquareRows_solves_L127 at h
                  refine iq_iload hS 129 J_MSquareRows_solves_d127 l66 rfl ?_
                  refine iq_iload_n hS 130 J_MSquareRows_solves_d129 l63 rfl ?_
                  refine iq_icmp_gt hS 133 J_MSquareRows_solves_d130 (t := 168) rfl (fun q130 => ?_) rfl (fun q130 => ?_)
                  · replace h := ed_pos q130 h
                    exact K29 _ _ hM61 l62 l63 l64 (lq_r h hq29)
                  · replace h := ed_neg q130 h
                    refine iq_aload_n hS 134 J_MSquareRows_solves_d133 l62 rfl ?_
                    refine iq_getR hS 137 J_MSquareRows_solves_d134 lf_16_55 (Or.inr ⟨_, rfl⟩) (ka_108 hM61) (ra_108_23 hM61) rfl ?_
                    refine iq_bipush hS 139 J_MSquareRows_solves_d137 (v := 17) (by decide +kernel) rfl ?_
                    refine iq_iload_n hS 140 J_MSquareRows_solves_d139 l64 rfl ?_
                    refine iq_imul hS 141 J_MSquareRows_solves_d140 rfl ?_
                    refine iq_iload hS 143 J_MSquareRows_solves_d141 l66 rfl ?_
                    refine iq_iadd hS 144 J_MSquareRows_solves_d143 rfl ?_
                    refine iq_aload_n hS 145 J_MSquareRows_solves_d144 l62 rfl ?_
                    refine iq_getR hS 148 J_MSquareRows_solves_d145 lf_16_55 (Or.inr ⟨_, rfl⟩) (ka_108 hM61) (ra_108_23 hM61) rfl ?_
                    refine iq_bipush hS 150 J_MSquareRows_solves_d148 (v := 17) (by decide +kernel) rfl ?_
                    refine iq_iload_n hS 151 J_MSquareRows_solves_d150 l64 rfl ?_
                    refine iq_imul hS 152 J_MSquareRows_solves_d151 rfl ?_
                    refine iq_iload hS 154 J_MSquareRows_solves_d152 l66 rfl ?_
                    refine iq_iadd hS 155 J_MSquareRows_solves_d154 rfl ?_
                    obtain ⟨g155, h⟩ := ed_gd h
                    refine iq_iaload hS 156 J_MSquareRows_solves_d155 ⟨(ka_124 hM61).1, (ka_124 hM61).2, g155.1, ix_lt (kl_124 hM61) g155.2⟩ rfl ?_
                    refine iq_iload hS 158 J_MSquareRows_solves_d156 l65 rfl ?_
                    obtain ⟨Q67, hQ67, h⟩ := bd1_ed h
                    refine iq_cpI hS 161 J_MSquareRows_solves_d158 rfl (pr_stat (vs := [_, _]) lc_16_147 lT_411 rfl rfl (by decide) rfl (Nat.le_of_ble_eq_true rfl) (Nat.le_of_ble_eq_true rfl)) (f_MSquareRows_times_ok (dep := dep + 1) hM61 h) rfl ?_
                    intro x67 h
                    replace h := hQ67 _ h
                    obtain ⟨g161, h⟩ := ed_gd h
                    refine iq_iastore hS 162 J_MSquareRows_solves_d161 ⟨(ka_124 hM61).1, (ka_124 hM61).2, g161.1, ix_lt (kl_124 hM61) g161.2⟩ rfl ?_
                    refine iq_iincv hS 165 J_MSquareRows_solves_d162 (c := 1) (by decide +kernel) l66 (by decide) rfl ?_
                    refine iq_goto hS J_MSquareRows_solves_d165 (t := 127) rfl ?_
                    exact ih _ _ _ (lw_sI hM61) (lk_1r l62 (by decide)) (lk_1i l63 (by decide)) (lk_1i l64 (by decide)) (lk_1i l65 (by decide)) lk_1s (lq_l h)
              exact I29 n29 _ _ _ hM24 (lk_1r (lk_1r l25 (by decide)) (by decide)) (lk_1i (lk_1i l26 (by decide)) (by decide)) (lk_1i (lk_1i l27 (by decide)) (by decide)) (lk_1i lk_1s (by decide)) lk_1s hn29
            obtain ⟨r23, hr23, hq23⟩ := h
            obtain ⟨n23, hn23⟩ := lp_n hr23
            have I23 : ∀ (n : Nat) (x68 : Int32) (M69 : im_M) (L' : List (Nat × Value)), lw_S w M69 → im_lk L' 0 = some (.ref 108) → im_lk L' 1 = some (.int p0) → im_lk L' 2 = some (.int x12) → im_lk L' 3 = some (.int y18) → im_lk L' 4 = some (.int x68) → lpn (uc2 (f_MSquareRows_solves_L44 p0 x12 y18)) n (x68, M69) = some r23 → ia (tb_G L xs) (dep + 2) J_MSquareRows_solves (rwI w Q) (44, L', [], M69) := by
              intro n
              induction n with
              | zero => intro x68 M69 L' hM69 l70 l71 l72 l73 l74 hn; exact (lpn_0 hn).elim
              | succ n ih =>
                intro x68 M69 L' hM69 l70 l71 l72 l73 l74 hn
                have h := lpn_ed2 hn
                unfold f_MSquareRows_solves_L44 at h
                refine iq_iload hS 46 J_MSquareRows_solves_d44 l74 rfl ?_
                refine iq_iload_n hS 47 J_MSquareRows_solves_d46 l71 rfl ?_
                refine iq_icmp_gt hS 50 J_MSquareRows_solves_d47 (t := 108) rfl (fun q47 => ?_) rfl (fun q47 => ?_)
                · replace h := ed_pos q47 h
                  exact K23 _ _ hM69 l70 l71 l72 (lq_r h hq23)
                · replace h := ed_neg q47 h
                  refine iq_aload_n hS 51 J_MSquareRows_solves_d50 l70 rfl ?_
                  refine iq_getR hS 54 J_MSquareRows_solves_d51 lf_16_55 (Or.inr ⟨_, rfl⟩) (ka_108 hM69) (ra_108_23 hM69) rfl ?_
                  refine iq_bipush hS 56 J_MSquareRows_solves_d54 (v := 17) (by decide +kernel) rfl ?_
                  refine iq_iload_n hS 57 J_MSquareRows_solves_d56 l73 rfl ?_
                  refine iq_imul hS 58 J_MSquareRows_solves_d57 rfl ?_
                  refine iq_iload hS 60 J_MSquareRows_solves_d58 l74 rfl ?_
                  refine iq_iadd hS 61 J_MSquareRows_solves_d60 rfl ?_
                  obtain ⟨g61, h⟩ := ed_gd h
                  refine iq_iaload hS 62 J_MSquareRows_solves_d61 ⟨(ka_124 hM69).1, (ka_124 hM69).2, g61.1, ix_lt (kl_124 hM69) g61.2⟩ rfl ?_
                  refine iq_istore hS 64 J_MSquareRows_solves_d62 (by decide) rfl ?_
                  refine iq_aload_n hS 65 J_MSquareRows_solves_d64 (lk_1r l70 (by decide)) rfl ?_
                  refine iq_getR hS 68 J_MSquareRows_solves_d65 lf_16_55 (Or.inr ⟨_, rfl⟩) (ka_108 hM69) (ra_108_23 hM69) rfl ?_
                  refine iq_bipush hS 70 J_MSquareRows_solves_d68 (v := 17) (by decide +kernel) rfl ?_
                  refine iq_iload_n hS 71 J_MSquareRows_solves_d70 (lk_1i l73 (by decide)) rfl ?_
                  refine iq_imul hS 72 J_MSquareRows_solves_d71 rfl ?_
                  refine iq_iload hS 74 J_MSquareRows_solves_d72 (lk_1i l74 (by decide)) rfl ?_
                  refine iq_iadd hS 75 J_MSquareRows_solves_d74 rfl ?_
                  refine iq_aload_n hS 76 J_MSquareRows_solves_d75 (lk_1r l70 (by decide)) rfl ?_
                  refine iq_getR hS 79 J_MSquareRows_solves_d76 lf_16_55 (Or.inr ⟨_, rfl⟩) (ka_108 hM69) (ra_108_23 hM69) rfl ?_
                  refine iq_bipush hS 81 J_MSquareRows_solves_d79 (v := 17) (by decide +kernel) rfl ?_
                  refine iq_iload_n hS 82 J_MSquareRows_solves_d81 (lk_1i l72 (by decide)) rfl ?_
                  refine iq_imul hS 83 J_MSquareRows_solves_d82 rfl ?_
                  refine iq_iload hS 85 J_MSquareRows_solves_d83 (lk_1i l74 (by decide)) rfl ?_
                  refine iq_iadd hS 86 J_MSquareRows_solves_d85 rfl ?_
                  obtain ⟨g86, h⟩ := ed_gd h
                  refine iq_iaload hS 87 J_MSquareRows_solves_d86 ⟨(ka_124 hM69).1, (ka_124 hM69).2, g86.1, ix_lt (kl_124 hM69) g86.2⟩ rfl ?_
                  obtain ⟨g87, h⟩ := ed_gd h
                  refine iq_iastore hS 88 J_MSquareRows_solves_d87 ⟨(ka_124 hM69).1, (ka_124 hM69).2, g87.1, ix_lt (kl_124 hM69) g87.2⟩ rfl ?_
                  refine iq_aload_n hS 89 J_MSquareRows_solves_d88 (lk_1r l70 (by decide)) rfl ?_
                  refine iq_getR hS 92 J_MSquareRows_solves_d89 lf_16_55 (Or.inr ⟨_, rfl⟩) (ka_108 (lw_sI hM69)) (ra_108_23 (lw_sI hM69)) rfl ?_
                  refine iq_bipush hS 94 J_MSquareRows_solves_d92 (v := 17) (by decide +kernel) rfl ?_
                  refine iq_iload_n hS 95 J_MSquareRows_solves_d94 (lk_1i l72 (by decide)) rfl ?_
                  refine iq_imul hS 96 J_MSquareRows_solves_d95 rfl ?_
                  refine iq_iload hS 98 J_MSquareRows_solves_d96 (lk_1i l74 (by decide)) rfl ?_
                  refine iq_iadd hS 99 J_MSquareRows_solves_d98 rfl ?_
                  refine iq_iload hS 101 J_MSquareRows_solves_d99 lk_1s rfl ?_
                  obtain ⟨g101, h⟩ := ed_gd h
                  refine iq_iastore hS 102 J_MSquareRows_solves_d101 ⟨(ka_124 (lw_sI hM69)).1, (ka_124 (lw_sI hM69)).2, g101.1, ix_lt (kl_124 (lw_sI hM69)) g101.2⟩ rfl ?_
                  refine iq_iincv hS 105 J_MSquareRows_solves_d102 (c := 1) (by decide +kernel) (lk_1i l74 (by decide)) (by decide) rfl ?_
                  refine iq_goto hS J_MSquareRows_solves_d105 (t := 44) rfl ?_
                  exact ih _ _ _ (lw_sI (lw_sI hM69)) (lk_1r (lk_1r l70 (by decide)) (by decide)) (lk_1i (lk_1i l71 (by decide)) (by decide)) (lk_1i (lk_1i l72 (by decide)) (by decide)) (lk_1i (lk_1i l73 (by decide)) (by decide)) lk_1s (lq_l h)
            exact I23 n23 _ _ _ hM13 (lk_1r l19 (by decide)) (lk_1i l20 (by decide)) (lk_1i l21 (by decide)) (lk_1i l22 (by decide)) lk_1s hn23
          · replace h := ed_neg q36 h
            refine iq_iconst hS 40 J_MSquareRows_solves_d39 (v := 0) (by decide +kernel) rfl ?_
            exact iq_iret J_MSquareRows_solves_d40 rfl rfl ⟨_, rfl, hM13, ed_some (hR1 _ (lq_r h hq1))⟩
        obtain ⟨r17, hr17, hq17⟩ := h
        obtain ⟨n17, hn17⟩ := lp_n hr17
        have I17 : ∀ (n : Nat) (x75 : Int32) (L' : List (Nat × Value)), im_lk L' 0 = some (.ref 108) → im_lk L' 1 = some (.int p0) → im_lk L' 2 = some (.int x12) → im_lk L' 3 = some (.int x75) → lpn (uc1 (f_MSquareRows_solves_L9 p0 x12 M13)) n x75 = some r17 → ia (tb_G L xs) (dep + 2) J_MSquareRows_solves (rwI w Q) (9, L', [], M13) := by
          intro n
          induction n with
          | zero => intro x75 L' l76 l77 l78 l79 hn; exact (lpn_0 hn).elim
          | succ n ih =>
            intro x75 L' l76 l77 l78 l79 hn
            have h := lpn_ed1 hn
            unfold f_MSquareRows_solves_L9 at h
            refine iq_iload_n hS 10 J_MSquareRows_solves_d9 l79 rfl ?_
            refine iq_iload_n hS 11 J_MSquareRows_solves_d10 l77 rfl ?_
            refine iq_icmp_ge hS 14 J_MSquareRows_solves_d11 (t := 34) rfl (fun q11 => ?_) rfl (fun q11 => ?_)
            · replace h := ed_pos q11 h
              exact K17 _ _ l76 l77 l78 l79 (lq_r h hq17)
            · replace h := ed_neg q11 h
              refine iq_aload_n hS 15 J_MSquareRows_solves_d14 l76 rfl ?_
              refine iq_getR hS 18 J_MSquareRows_solves_d15 lf_16_55 (Or.inr ⟨_, rfl⟩) (ka_108 hM13) (ra_108_23 hM13) rfl ?_
              refine iq_bipush hS 20 J_MSquareRows_solves_d18 (v := 17) (by decide +kernel) rfl ?_
              refine iq_iload_n hS 21 J_MSquareRows_solves_d20 l79 rfl ?_
              refine iq_imul hS 22 J_MSquareRows_solves_d21 rfl ?_
              refine iq_iload_n hS 23 J_MSquareRows_solves_d22 l78 rfl ?_
              refine iq_iadd hS 24 J_MSquareRows_solves_d23 rfl ?_
              obtain ⟨g24, h⟩ := ed_gd h
              refine iq_iaload hS 25 J_MSquareRows_solves_d24 ⟨(ka_124 hM13).1, (ka_124 hM13).2, g24.1, ix_lt (kl_124 hM13) g24.2⟩ rfl ?_
              refine iq_if_ne hS 28 J_MSquareRows_solves_d25 (t := 34) rfl (fun q25 => ?_) rfl (fun q25 => ?_)
              · replace h := ed_pos q25 h
                exact K17 _ _ l76 l77 l78 l79 (lq_r h hq17)
              · replace h := ed_neg q25 h
                refine iq_iincv hS 31 J_MSquareRows_solves_d28 (c := 1) (by decide +kernel) l79 (by decide) rfl ?_
                refine iq_goto hS J_MSquareRows_solves_d31 (t := 9) rfl ?_
                exact ih _ _ (lk_1r l76 (by decide)) (lk_1i l77 (by decide)) (lk_1i l78 (by decide)) lk_1s (lq_l h)
        exact I17 n17 _ _ (lk_1r l14 (by decide)) (lk_1i l15 (by decide)) (lk_1i l16 (by decide)) lk_1s hn17
  exact I1 n1 _ _ _ hM (lk_1r l0 (by decide)) (lk_1i l1 (by decide)) lk_1s hn1
theorem f_MSquareRows_solves_fr {p0 : Int32} {M : im_M} {r : Int32 × im_M} (h : f_MSquareRows_solves p0 M = some r) : fr 63802943797675961899382738893456539648 [] M r.2 := by
  replace h : ed (f_MSquareRows_solves p0 M) (fun x => x = r) := ⟨r, h, rfl⟩
  unfold f_MSquareRows_solves at h
  obtain ⟨Q1, hQ1, hR1, h⟩ := bs1_ed h
  have K1 : ∀ (M2 : im_M), fr 63802943797675961899382738893456539648 [] M M2 → Q1 (.inl M2) → fr 63802943797675961899382738893456539648 [] M r.2 := by
    intro M2 hM2 h
    replace h := hQ1 _ h
    obtain ⟨Q3, hQ3, h⟩ := bd1_ed h
    have K3 : ∀ (M4 : im_M), fr 63802943797675961899382738893456539648 [] M M4 → Q3 M4 → fr 63802943797675961899382738893456539648 [] M r.2 := by
      intro M4 hM4 h
      replace h := hQ3 _ h
      exact fr_ret h hM4
    obtain ⟨r3, hr3, hq3⟩ := h
    obtain ⟨n3, hn3⟩ := lp_n hr3
    have I3 : ∀ (n : Nat) (x5 : Int32) (M6 : im_M), fr 63802943797675961899382738893456539648 [] M M6 → lpn (uc2 (f_MSquareRows_solves_L270 p0)) n (x5, M6) = some r3 → fr 63802943797675961899382738893456539648 [] M r.2 := by
      intro n
      induction n with
      | zero => intro x5 M6 hM6 hn; exact (lpn_0 hn).elim
      | succ n ih =>
        intro x5 M6 hM6 hn
        have h := lpn_ed2 hn
        unfold f_MSquareRows_solves_L270 at h
        by_cases q272 : p0 ≤ x5
        · replace h := ed_pos q272 h
          exact K3 _ hM6 (lq_r h hq3)
        · replace h := ed_neg q272 h
          obtain ⟨g290, h⟩ := ed_gd h
          obtain ⟨g291, h⟩ := ed_gd h
          exact ih _ _ (fr_I (by decide) hM6) (lq_l h)
    exact I3 n3 _ _ hM2 hn3
  obtain ⟨r1, hr1, hq1⟩ := h
  obtain ⟨n1, hn1⟩ := lp_n hr1
  have I1 : ∀ (n : Nat) (x7 : Int32) (M8 : im_M), fr 63802943797675961899382738893456539648 [] M M8 → lpn (uc2 (f_MSquareRows_solves_L2 p0)) n (x7, M8) = some r1 → fr 63802943797675961899382738893456539648 [] M r.2 := by
    intro n
    induction n with
    | zero => intro x7 M8 hM8 hn; exact (lpn_0 hn).elim
    | succ n ih =>
      intro x7 M8 hM8 hn
      have h := lpn_ed2 hn
      unfold f_MSquareRows_solves_L2 at h
      by_cases q4 : p0 ≤ x7
      · replace h := ed_pos q4 h
        exact K1 _ hM8 (lq_r h hq1)
      · replace h := ed_neg q4 h
        obtain ⟨Q9, hQ9, h⟩ := bd1_ed h
        have K9 : ∀ (y10 : Int32), Q9 y10 → fr 63802943797675961899382738893456539648 [] M r.2 := by
          intro y10 h
          replace h := hQ9 _ h
          by_cases q36 : ¬ y10 = p0
          · replace h := ed_pos q36 h
            obtain ⟨Q11, hQ11, h⟩ := bd1_ed h
            have K11 : ∀ (M12 : im_M), fr 63802943797675961899382738893456539648 [] M M12 → Q11 M12 → fr 63802943797675961899382738893456539648 [] M r.2 := by
              intro M12 hM12 h
              replace h := hQ11 _ h
              obtain ⟨g118, h⟩ := ed_gd h
              obtain ⟨Q13, hQ13, h⟩ := bd1_ed h
              obtain ⟨x13, e13, h⟩ := h
              replace h := hQ13 _ h
              obtain ⟨Q14, hQ14, h⟩ := bd1_ed h
              have K14 : ∀ (M15 : im_M), fr 63802943797675961899382738893456539648 [] M M15 → Q14 M15 → fr 63802943797675961899382738893456539648 [] M r.2 := by
                intro M15 hM15 h
                replace h := hQ14 _ h
                obtain ⟨Q16, hQ16, h⟩ := bd1_ed h
                have K16 : ∀ (M17 : im_M), fr 63802943797675961899382738893456539648 [] M M17 → Q16 M17 → fr 63802943797675961899382738893456539648 [] M r.2 := by
                  intro M17 hM17 h
                  replace h := hQ16 _ h
                  exact ih _ _ hM17 (lq_l h)
                obtain ⟨r16, hr16, hq16⟩ := h
                obtain ⟨n16, hn16⟩ := lp_n hr16
                have I16 : ∀ (n : Nat) (x18 : Int32) (M19 : im_M), fr 63802943797675961899382738893456539648 [] M M19 → lpn (uc2 (f_MSquareRows_solves_L171 p0 x7)) n (x18, M19) = some r16 → fr 63802943797675961899382738893456539648 [] M r.2 := by
                  intro n
                  induction n with
                  | zero => intro x18 M19 hM19 hn; exact (lpn_0 hn).elim
                  | succ n ih =>
                    intro x18 M19 hM19 hn
                    have h := lpn_ed2 hn
                    unfold f_MSquareRows_solves_L171 at h
                    by_cases q174 : p0 ≤ x18
                    · replace h := ed_pos q174 h
                      exact K16 _ hM19 (lq_r h hq16)
                    · replace h := ed_neg q174 h
                      obtain ⟨g188, h⟩ := ed_gd h
                      obtain ⟨Q20, hQ20, h⟩ := bd1_ed h
                      have K20 : ∀ (M21 : im_M), fr 63802943797675961899382738893456539648 [] M M21 → Q20 M21 → fr 63802943797675961899382738893456539648 [] M r.2 := by
                        intro M21 hM21 h
                        replace h := hQ20 _ h
                        exact ih _ _ hM21 (lq_l h)
                      obtain ⟨r20, hr20, hq20⟩ := h
                      obtain ⟨n20, hn20⟩ := lp_n hr20
                      have I20 : ∀ (n : Nat) (x22 : Int32) (M23 : im_M), fr 63802943797675961899382738893456539648 [] M M23 → lpn (uc2 (f_MSquareRows_solves_L194 p0 x7 x18 (im_i M19 124 (Int32.toNatClampNeg (((17 : Int32) * x18) + x7))))) n (x22, M23) = some r20 → fr 63802943797675961899382738893456539648 [] M r.2 := by
                        intro n
                        induction n with
                        | zero => intro x22 M23 hM23 hn; exact (lpn_0 hn).elim
                        | succ n ih =>
                          intro x22 M23 hM23 hn
                          have h := lpn_ed2 hn
                          unfold f_MSquareRows_solves_L194 at h
                          by_cases q197 : p0 < x22
                          · replace h := ed_pos q197 h
                            exact K20 _ hM23 (lq_r h hq20)
                          · replace h := ed_neg q197 h
                            by_cases q203 : x18 = x7
                            · replace h := ed_pos q203 h
                              exact K20 _ hM23 (lq_r h hq20)
                            · replace h := ed_neg q203 h
                              obtain ⟨g230, h⟩ := ed_gd h
                              obtain ⟨g244, h⟩ := ed_gd h
                              obtain ⟨Q24, hQ24, h⟩ := bd1_ed h
                              obtain ⟨x24, e24, h⟩ := h
                              replace h := hQ24 _ h
                              obtain ⟨g249, h⟩ := ed_gd h
                              exact ih _ _ (fr_I (by decide) hM23) (lq_l h)
                      exact I20 n20 _ _ hM19 hn20
                exact I16 n16 _ _ hM15 hn16
              obtain ⟨r14, hr14, hq14⟩ := h
              obtain ⟨n14, hn14⟩ := lp_n hr14
              have I14 : ∀ (n : Nat) (x25 : Int32) (M26 : im_M), fr 63802943797675961899382738893456539648 [] M M26 → lpn (uc2 (f_MSquareRows_solves_L127 p0 x7 x13)) n (x25, M26) = some r14 → fr 63802943797675961899382738893456539648 [] M r.2 := by
                intro n
                induction n with
                | zero => intro x25 M26 hM26 hn; exact (lpn_0 hn).elim
                | succ n ih =>
                  intro x25 M26 hM26 hn
                  have h := lpn_ed2 hn
                  unfold f_MSquareRows_solves_L127 at h
                  by_cases q130 : p0 < x25
                  · replace h := ed_pos q130 h
                    exact K14 _ hM26 (lq_r h hq14)
                  · replace h := ed_neg q130 h
                    obtain ⟨g155, h⟩ := ed_gd h
                    obtain ⟨Q27, hQ27, h⟩ := bd1_ed h
                    obtain ⟨x27, e27, h⟩ := h
                    replace h := hQ27 _ h
                    obtain ⟨g161, h⟩ := ed_gd h
                    exact ih _ _ (fr_I (by decide) hM26) (lq_l h)
              exact I14 n14 _ _ hM12 hn14
            obtain ⟨r11, hr11, hq11⟩ := h
            obtain ⟨n11, hn11⟩ := lp_n hr11
            have I11 : ∀ (n : Nat) (x28 : Int32) (M29 : im_M), fr 63802943797675961899382738893456539648 [] M M29 → lpn (uc2 (f_MSquareRows_solves_L44 p0 x7 y10)) n (x28, M29) = some r11 → fr 63802943797675961899382738893456539648 [] M r.2 := by
              intro n
              induction n with
              | zero => intro x28 M29 hM29 hn; exact (lpn_0 hn).elim
              | succ n ih =>
                intro x28 M29 hM29 hn
                have h := lpn_ed2 hn
                unfold f_MSquareRows_solves_L44 at h
                by_cases q47 : p0 < x28
                · replace h := ed_pos q47 h
                  exact K11 _ hM29 (lq_r h hq11)
                · replace h := ed_neg q47 h
                  obtain ⟨g61, h⟩ := ed_gd h
                  obtain ⟨g86, h⟩ := ed_gd h
                  obtain ⟨g87, h⟩ := ed_gd h
                  obtain ⟨g101, h⟩ := ed_gd h
                  exact ih _ _ (fr_I (by decide) (fr_I (by decide) hM29)) (lq_l h)
            exact I11 n11 _ _ hM8 hn11
          · replace h := ed_neg q36 h
            exact fr_ret (hR1 _ (lq_r h hq1)) hM8
        obtain ⟨r9, hr9, hq9⟩ := h
        obtain ⟨n9, hn9⟩ := lp_n hr9
        have I9 : ∀ (n : Nat) (x30 : Int32), lpn (uc1 (f_MSquareRows_solves_L9 p0 x7 M8)) n x30 = some r9 → fr 63802943797675961899382738893456539648 [] M r.2 := by
          intro n
          induction n with
          | zero => intro x30 hn; exact (lpn_0 hn).elim
          | succ n ih =>
            intro x30 hn
            have h := lpn_ed1 hn
            unfold f_MSquareRows_solves_L9 at h
            by_cases q11 : p0 ≤ x30
            · replace h := ed_pos q11 h
              exact K9 _ (lq_r h hq9)
            · replace h := ed_neg q11 h
              obtain ⟨g24, h⟩ := ed_gd h
              by_cases q25 : ¬ (im_i M8 124 (Int32.toNatClampNeg (((17 : Int32) * x30) + x7))) = 0
              · replace h := ed_pos q25 h
                exact K9 _ (lq_r h hq9)
              · replace h := ed_neg q25 h
                exact ih _ (lq_l h)
        exact I9 n9 _ hn9
  exact I1 n1 _ _ fr_refl hn1
noncomputable def f_MSquareRows_finds_L10 (v7 : Int32) (v8 : Int32) (v9 : Int32) (x10 : Int32) (M11 : im_M) : Option ((Int32 × im_M) ⊕ (im_M)) := if v7 ≤ x10 then some (.inr M11) else gd (inb (((v7 + v9) - 1) - x10) 32) <| gd (inb (((17 : Int32) * v9) + x10) 272) <| some (.inl ((x10 + 1), (im_setI M11 124 (Int32.toNatClampNeg (((17 : Int32) * v9) + x10)) (im_i M11 123 (Int32.toNatClampNeg (((v7 + v9) - 1) - x10))))))
noncomputable def f_MSquareRows_finds_L2 (v2 : Int32) (v3 : Int32) (x4 : Int32) (M5 : im_M) : Option ((Int32 × im_M) ⊕ (im_M)) := if v2 ≤ x4 then some (.inr M5) else bd1 (lp (uc2 (f_MSquareRows_finds_L10 v2 v3 x4)) (0, M5)) fun (M12 : im_M) => gd (inb (v2 + x4) 32) <| gd (inb (((17 : Int32) * x4) + v2) 272) <| some (.inl ((x4 + 1), (im_setI M12 124 (Int32.toNatClampNeg (((17 : Int32) * x4) + v2)) (im_i M12 123 (Int32.toNatClampNeg (v2 + x4))))))
noncomputable def f_MSquareRows_finds_L112 (v23 : Int32) (v24 : Int32) (v25 : Int32) (v26 : Int32) (v27 : Int32) (M30 : im_M) (x28 : Int32) (x29 : Int32) : Option ((Int32 × Int32) ⊕ (Int32)) := if x29 < 0 then some (.inr x28) else gd (inb x29 16) <| bd1 (f_MSquareRows_times (x28 ^^^ (im_i M30 125 (Int32.toNatClampNeg x29))) v27 M30) fun (x31 : Int32) => some (.inl (x31, (x29 + (-1))))
noncomputable def f_MSquareRows_finds_L87 (v16 : Int32) (v17 : Int32) (x18 : Int32) (x19 : Int32) (M20 : im_M) : Option ((Int32 × Int32 × im_M) ⊕ ((Int32 × im_M) ⊕ (Int32 × im_M))) := if v17 ≤ x19 then some (.inr (.inl (x18, M20))) else bd1 (f_MSquareRows_two ((x19 + 1) - v17) M20) fun (x21 : Int32) => bd1 (lp (uc2 (f_MSquareRows_finds_L112 v16 v17 x18 x19 x21 M20)) (0, (v16 - 1))) fun (y32 : Int32) => jn2 (fun (y34 : Int32) (M35 : im_M) => some (.inl (y34, (x19 + 1), M35))) fun k33 => if ¬ y32 = 1 then k33 x18 M20 else if ¬ x18 = v16 then gd (inb x18 16) <| k33 (x18 + 1) (im_setI M20 126 (Int32.toNatClampNeg x18) x19) else some (.inr (.inr (0, M20)))
noncomputable def f_MSquareRows_finds (p0 : Int32) (p1 : Int32) (M : im_M) : Option (Int32 × im_M) := bd1 (lp (uc2 (f_MSquareRows_finds_L2 p0 p1)) (0, M)) fun (M13 : im_M) => bd2 (f_MSquareRows_solves p0 M13) fun (x14 : Int32) (M14 : im_M) => if ¬ x14 = 0 then bs2 (lp (uc3 (f_MSquareRows_finds_L87 p0 p1)) (0, 0, M14)) (fun (y41 : Int32) (M42 : im_M) => if ¬ y41 = p0 then some (0, M42) else some (1, M42)) (fun t => some t) else some (0, M14)
theorem J_MSquareRows_finds_d0 : decode J_MSquareRows_finds.2.1 0 = .ok (.iconst 0, 1) := by decide +kernel
theorem J_MSquareRows_finds_d1 : decode J_MSquareRows_finds.2.1 1 = .ok (.istore_n 3, 1) := by decide +kernel
theorem J_MSquareRows_finds_d2 : decode J_MSquareRows_finds.2.1 2 = .ok (.iload_n 3, 1) := by decide +kernel
theorem J_MSquareRows_finds_d3 : decode J_MSquareRows_finds.2.1 3 = .ok (.iload_n 1, 1) := by decide +kernel
theorem J_MSquareRows_finds_d4 : decode J_MSquareRows_finds.2.1 4 = .ok (.if_icmp .ge 68, 3) := by decide +kernel
theorem J_MSquareRows_finds_d7 : decode J_MSquareRows_finds.2.1 7 = .ok (.iconst 0, 1) := by decide +kernel
theorem J_MSquareRows_finds_d8 : decode J_MSquareRows_finds.2.1 8 = .ok (.istore 4, 2) := by decide +kernel
theorem J_MSquareRows_finds_d10 : decode J_MSquareRows_finds.2.1 10 = .ok (.iload 4, 2) := by decide +kernel
theorem J_MSquareRows_finds_d12 : decode J_MSquareRows_finds.2.1 12 = .ok (.iload_n 1, 1) := by decide +kernel
theorem J_MSquareRows_finds_d13 : decode J_MSquareRows_finds.2.1 13 = .ok (.if_icmp .ge 34, 3) := by decide +kernel
theorem J_MSquareRows_finds_d16 : decode J_MSquareRows_finds.2.1 16 = .ok (.aload_n 0, 1) := by decide +kernel
theorem J_MSquareRows_finds_d17 : decode J_MSquareRows_finds.2.1 17 = .ok (.getfield 55, 3) := by decide +kernel
theorem J_MSquareRows_finds_d20 : decode J_MSquareRows_finds.2.1 20 = .ok (.bipush 17, 2) := by decide +kernel
theorem J_MSquareRows_finds_d22 : decode J_MSquareRows_finds.2.1 22 = .ok (.iload_n 3, 1) := by decide +kernel
theorem J_MSquareRows_finds_d23 : decode J_MSquareRows_finds.2.1 23 = .ok (.imul, 1) := by decide +kernel
theorem J_MSquareRows_finds_d24 : decode J_MSquareRows_finds.2.1 24 = .ok (.iload 4, 2) := by decide +kernel
theorem J_MSquareRows_finds_d26 : decode J_MSquareRows_finds.2.1 26 = .ok (.iadd, 1) := by decide +kernel
theorem J_MSquareRows_finds_d27 : decode J_MSquareRows_finds.2.1 27 = .ok (.aload_n 0, 1) := by decide +kernel
theorem J_MSquareRows_finds_d28 : decode J_MSquareRows_finds.2.1 28 = .ok (.getfield 52, 3) := by decide +kernel
theorem J_MSquareRows_finds_d31 : decode J_MSquareRows_finds.2.1 31 = .ok (.iload_n 1, 1) := by decide +kernel
theorem J_MSquareRows_finds_d32 : decode J_MSquareRows_finds.2.1 32 = .ok (.iload_n 3, 1) := by decide +kernel
theorem J_MSquareRows_finds_d33 : decode J_MSquareRows_finds.2.1 33 = .ok (.iadd, 1) := by decide +kernel
theorem J_MSquareRows_finds_d34 : decode J_MSquareRows_finds.2.1 34 = .ok (.iconst 1, 1) := by decide +kernel
theorem J_MSquareRows_finds_d35 : decode J_MSquareRows_finds.2.1 35 = .ok (.isub, 1) := by decide +kernel
theorem J_MSquareRows_finds_d36 : decode J_MSquareRows_finds.2.1 36 = .ok (.iload 4, 2) := by decide +kernel
theorem J_MSquareRows_finds_d38 : decode J_MSquareRows_finds.2.1 38 = .ok (.isub, 1) := by decide +kernel
theorem J_MSquareRows_finds_d39 : decode J_MSquareRows_finds.2.1 39 = .ok (.iaload, 1) := by decide +kernel
theorem J_MSquareRows_finds_d40 : decode J_MSquareRows_finds.2.1 40 = .ok (.iastore, 1) := by decide +kernel
theorem J_MSquareRows_finds_d41 : decode J_MSquareRows_finds.2.1 41 = .ok (.iinc 4 1, 3) := by decide +kernel
theorem J_MSquareRows_finds_d44 : decode J_MSquareRows_finds.2.1 44 = .ok (.goto (-34), 3) := by decide +kernel
theorem J_MSquareRows_finds_d47 : decode J_MSquareRows_finds.2.1 47 = .ok (.aload_n 0, 1) := by decide +kernel
theorem J_MSquareRows_finds_d48 : decode J_MSquareRows_finds.2.1 48 = .ok (.getfield 55, 3) := by decide +kernel
theorem J_MSquareRows_finds_d51 : decode J_MSquareRows_finds.2.1 51 = .ok (.bipush 17, 2) := by decide +kernel
theorem J_MSquareRows_finds_d53 : decode J_MSquareRows_finds.2.1 53 = .ok (.iload_n 3, 1) := by decide +kernel
theorem J_MSquareRows_finds_d54 : decode J_MSquareRows_finds.2.1 54 = .ok (.imul, 1) := by decide +kernel
theorem J_MSquareRows_finds_d55 : decode J_MSquareRows_finds.2.1 55 = .ok (.iload_n 1, 1) := by decide +kernel
theorem J_MSquareRows_finds_d56 : decode J_MSquareRows_finds.2.1 56 = .ok (.iadd, 1) := by decide +kernel
theorem J_MSquareRows_finds_d57 : decode J_MSquareRows_finds.2.1 57 = .ok (.aload_n 0, 1) := by decide +kernel
theorem J_MSquareRows_finds_d58 : decode J_MSquareRows_finds.2.1 58 = .ok (.getfield 52, 3) := by decide +kernel
theorem J_MSquareRows_finds_d61 : decode J_MSquareRows_finds.2.1 61 = .ok (.iload_n 1, 1) := by decide +kernel
theorem J_MSquareRows_finds_d62 : decode J_MSquareRows_finds.2.1 62 = .ok (.iload_n 3, 1) := by decide +kernel
theorem J_MSquareRows_finds_d63 : decode J_MSquareRows_finds.2.1 63 = .ok (.iadd, 1) := by decide +kernel
theorem J_MSquareRows_finds_d64 : decode J_MSquareRows_finds.2.1 64 = .ok (.iaload, 1) := by decide +kernel
theorem J_MSquareRows_finds_d65 : decode J_MSquareRows_finds.2.1 65 = .ok (.iastore, 1) := by decide +kernel
theorem J_MSquareRows_finds_d66 : decode J_MSquareRows_finds.2.1 66 = .ok (.iinc 3 1, 3) := by decide +kernel
theorem J_MSquareRows_finds_d69 : decode J_MSquareRows_finds.2.1 69 = .ok (.goto (-67), 3) := by decide +kernel
theorem J_MSquareRows_finds_d72 : decode J_MSquareRows_finds.2.1 72 = .ok (.aload_n 0, 1) := by decide +kernel
theorem J_MSquareRows_finds_d73 : decode J_MSquareRows_finds.2.1 73 = .ok (.iload_n 1, 1) := by decide +kernel
theorem J_MSquareRows_finds_d74 : decode J_MSquareRows_finds.2.1 74 = .ok (.invokevirtual 253, 3) := by decide +kernel
theorem J_MSquareRows_finds_d77 : decode J_MSquareRows_finds.2.1 77 = .ok (.ifCond .ne 5, 3) := by decide +kernel
theorem J_MSquareRows_finds_d80 : decode J_MSquareRows_finds.2.1 80 = .ok (.iconst 0, 1) := by decide +kernel
theorem J_MSquareRows_finds_d81 : decode J_MSquareRows_finds.2.1 81 = .ok (.ireturn, 1) := by decide +kernel
theorem J_MSquareRows_finds_d82 : decode J_MSquareRows_finds.2.1 82 = .ok (.iconst 0, 1) := by decide +kernel
theorem J_MSquareRows_finds_d83 : decode J_MSquareRows_finds.2.1 83 = .ok (.istore_n 3, 1) := by decide +kernel
theorem J_MSquareRows_finds_d84 : decode J_MSquareRows_finds.2.1 84 = .ok (.iconst 0, 1) := by decide +kernel
theorem J_MSquareRows_finds_d85 : decode J_MSquareRows_finds.2.1 85 = .ok (.istore 4, 2) := by decide +kernel
theorem J_MSquareRows_finds_d87 : decode J_MSquareRows_finds.2.1 87 = .ok (.iload 4, 2) := by decide +kernel
theorem J_MSquareRows_finds_d89 : decode J_MSquareRows_finds.2.1 89 = .ok (.iload_n 2, 1) := by decide +kernel
theorem J_MSquareRows_finds_d90 : decode J_MSquareRows_finds.2.1 90 = .ok (.if_icmp .ge 80, 3) := by decide +kernel
theorem J_MSquareRows_finds_d93 : decode J_MSquareRows_finds.2.1 93 = .ok (.iload 4, 2) := by decide +kernel
theorem J_MSquareRows_finds_d95 : decode J_MSquareRows_finds.2.1 95 = .ok (.iconst 1, 1) := by decide +kernel
theorem J_MSquareRows_finds_d96 : decode J_MSquareRows_finds.2.1 96 = .ok (.iadd, 1) := by decide +kernel
theorem J_MSquareRows_finds_d97 : decode J_MSquareRows_finds.2.1 97 = .ok (.iload_n 2, 1) := by decide +kernel
theorem J_MSquareRows_finds_d98 : decode J_MSquareRows_finds.2.1 98 = .ok (.isub, 1) := by decide +kernel
theorem J_MSquareRows_finds_d99 : decode J_MSquareRows_finds.2.1 99 = .ok (.invokestatic 144, 3) := by decide +kernel
theorem J_MSquareRows_finds_d102 : decode J_MSquareRows_finds.2.1 102 = .ok (.istore 5, 2) := by decide +kernel
theorem J_MSquareRows_finds_d104 : decode J_MSquareRows_finds.2.1 104 = .ok (.iconst 0, 1) := by decide +kernel
theorem J_MSquareRows_finds_d105 : decode J_MSquareRows_finds.2.1 105 = .ok (.istore 6, 2) := by decide +kernel
theorem J_MSquareRows_finds_d107 : decode J_MSquareRows_finds.2.1 107 = .ok (.iload_n 1, 1) := by decide +kernel
theorem J_MSquareRows_finds_d108 : decode J_MSquareRows_finds.2.1 108 = .ok (.iconst 1, 1) := by decide +kernel
theorem J_MSquareRows_finds_d109 : decode J_MSquareRows_finds.2.1 109 = .ok (.isub, 1) := by decide +kernel
theorem J_MSquareRows_finds_d110 : decode J_MSquareRows_finds.2.1 110 = .ok (.istore 7, 2) := by decide +kernel
theorem J_MSquareRows_finds_d112 : decode J_MSquareRows_finds.2.1 112 = .ok (.iload 7, 2) := by decide +kernel
theorem J_MSquareRows_finds_d114 : decode J_MSquareRows_finds.2.1 114 = .ok (.ifCond .lt 26, 3) := by decide +kernel
theorem J_MSquareRows_finds_d117 : decode J_MSquareRows_finds.2.1 117 = .ok (.iload 6, 2) := by decide +kernel
theorem J_MSquareRows_finds_d119 : decode J_MSquareRows_finds.2.1 119 = .ok (.aload_n 0, 1) := by decide +kernel
theorem J_MSquareRows_finds_d120 : decode J_MSquareRows_finds.2.1 120 = .ok (.getfield 58, 3) := by decide +kernel
theorem J_MSquareRows_finds_d123 : decode J_MSquareRows_finds.2.1 123 = .ok (.iload 7, 2) := by decide +kernel
theorem J_MSquareRows_finds_d125 : decode J_MSquareRows_finds.2.1 125 = .ok (.iaload, 1) := by decide +kernel
theorem J_MSquareRows_finds_d126 : decode J_MSquareRows_finds.2.1 126 = .ok (.ixor, 1) := by decide +kernel
theorem J_MSquareRows_finds_d127 : decode J_MSquareRows_finds.2.1 127 = .ok (.iload 5, 2) := by decide +kernel
theorem J_MSquareRows_finds_d129 : decode J_MSquareRows_finds.2.1 129 = .ok (.invokestatic 147, 3) := by decide +kernel
theorem J_MSquareRows_finds_d132 : decode J_MSquareRows_finds.2.1 132 = .ok (.istore 6, 2) := by decide +kernel
theorem J_MSquareRows_finds_d134 : decode J_MSquareRows_finds.2.1 134 = .ok (.iinc 7 (-1), 3) := by decide +kernel
theorem J_MSquareRows_finds_d137 : decode J_MSquareRows_finds.2.1 137 = .ok (.goto (-25), 3) := by decide +kernel
theorem J_MSquareRows_finds_d140 : decode J_MSquareRows_finds.2.1 140 = .ok (.iload 6, 2) := by decide +kernel
theorem J_MSquareRows_finds_d142 : decode J_MSquareRows_finds.2.1 142 = .ok (.iconst 1, 1) := by decide +kernel
theorem J_MSquareRows_finds_d143 : decode J_MSquareRows_finds.2.1 143 = .ok (.if_icmp .ne 21, 3) := by decide +kernel
theorem J_MSquareRows_finds_d146 : decode J_MSquareRows_finds.2.1 146 = .ok (.iload_n 3, 1) := by decide +kernel
theorem J_MSquareRows_finds_d147 : decode J_MSquareRows_finds.2.1 147 = .ok (.iload_n 1, 1) := by decide +kernel
theorem J_MSquareRows_finds_d148 : decode J_MSquareRows_finds.2.1 148 = .ok (.if_icmp .ne 5, 3) := by decide +kernel
theorem J_MSquareRows_finds_d151 : decode J_MSquareRows_finds.2.1 151 = .ok (.iconst 0, 1) := by decide +kernel
theorem J_MSquareRows_finds_d152 : decode J_MSquareRows_finds.2.1 152 = .ok (.ireturn, 1) := by decide +kernel
theorem J_MSquareRows_finds_d153 : decode J_MSquareRows_finds.2.1 153 = .ok (.aload_n 0, 1) := by decide +kernel
theorem J_MSquareRows_finds_d154 : decode J_MSquareRows_finds.2.1 154 = .ok (.getfield 61, 3) := by decide +kernel
theorem J_MSquareRows_finds_d157 : decode J_MSquareRows_finds.2.1 157 = .ok (.iload_n 3, 1) := by decide +kernel
theorem J_MSquareRows_finds_d158 : decode J_MSquareRows_finds.2.1 158 = .ok (.iload 4, 2) := by decide +kernel
theorem J_MSquareRows_finds_d160 : decode J_MSquareRows_finds.2.1 160 = .ok (.iastore, 1) := by decide +kernel
theorem J_MSquareRows_finds_d161 : decode J_MSquareRows_finds.2.1 161 = .ok (.iinc 3 1, 3) := by decide +kernel
theorem J_MSquareRows_finds_d164 : decode J_MSquareRows_finds.2.1 164 = .ok (.iinc 4 1, 3) := by decide +kernel
theorem J_MSquareRows_finds_d167 : decode J_MSquareRows_finds.2.1 167 = .ok (.goto (-80), 3) := by decide +kernel
theorem J_MSquareRows_finds_d170 : decode J_MSquareRows_finds.2.1 170 = .ok (.iload_n 3, 1) := by decide +kernel
theorem J_MSquareRows_finds_d171 : decode J_MSquareRows_finds.2.1 171 = .ok (.iload_n 1, 1) := by decide +kernel
theorem J_MSquareRows_finds_d172 : decode J_MSquareRows_finds.2.1 172 = .ok (.if_icmp .ne 7, 3) := by decide +kernel
theorem J_MSquareRows_finds_d175 : decode J_MSquareRows_finds.2.1 175 = .ok (.iconst 1, 1) := by decide +kernel
theorem J_MSquareRows_finds_d176 : decode J_MSquareRows_finds.2.1 176 = .ok (.goto 4, 3) := by decide +kernel
theorem J_MSquareRows_finds_d179 : decode J_MSquareRows_finds.2.1 179 = .ok (.iconst 0, 1) := by decide +kernel
theorem J_MSquareRows_finds_d180 : decode J_MSquareRows_finds.2.1 180 = .ok (.ireturn, 1) := by decide +kernel
theorem f_MSquareRows_finds_ok {L : Nat} {xs : Nat → Int32} {dep : Nat} {w : Bool} {p0 : Int32} {p1 : Int32} {M : im_M} {Q : Int32 × im_M → Prop} (hM : lw_S w M) (h : ed (f_MSquareRows_finds p0 p1 M) Q) : ia (tb_G L xs) (dep + 3) J_MSquareRows_finds (rwI w Q) (0, lv_args 0 [.ref 108, .int p0, .int p1], [], M) := by
  have hS : im_St (tb_G L xs) (dep + 3) J_MSquareRows_finds (ia (tb_G L xs) (dep + 3) J_MSquareRows_finds (rwI w Q)) := ia_St
  unfold f_MSquareRows_finds at h
  have l0 : im_lk (lv_args 0 [.ref 108, .int p0, .int p1]) 0 = some (.ref 108) := rfl
  have l1 : im_lk (lv_args 0 [.ref 108, .int p0, .int p1]) 1 = some (.int p0) := rfl
  have l2 : im_lk (lv_args 0 [.ref 108, .int p0, .int p1]) 2 = some (.int p1) := rfl
  refine iq_iconst hS 1 J_MSquareRows_finds_d0 (v := 0) (by decide +kernel) rfl ?_
  refine iq_istore_n hS 2 J_MSquareRows_finds_d1 (by decide) rfl ?_
  obtain ⟨Q1, hQ1, h⟩ := bd1_ed h
  have K1 : ∀ (M2 : im_M) (L' : List (Nat × Value)), lw_S w M2 → im_lk L' 0 = some (.ref 108) → im_lk L' 1 = some (.int p0) → im_lk L' 2 = some (.int p1) → Q1 M2 → ia (tb_G L xs) (dep + 3) J_MSquareRows_finds (rwI w Q) (72, L', [], M2) := by
    intro M2 L' hM2 l3 l4 l5 h
    replace h := hQ1 _ h
    refine iq_aload_n hS 73 J_MSquareRows_finds_d72 l3 rfl ?_
    refine iq_iload_n hS 74 J_MSquareRows_finds_d73 l4 rfl ?_
    obtain ⟨Q6, hQ6, h⟩ := bd2_ed h
    refine iq_cwI hS 77 J_MSquareRows_finds_d74 rfl (pr_inst (vs := [_]) lc_16_253 lT_497 rfl rfl (by decide) (by decide) rfl (Nat.le_of_ble_eq_true rfl) (Nat.le_of_ble_eq_true rfl) (fun _ => Or.inl (pr_b (ka_108 hM2) (by decide) rfl))) (f_MSquareRows_solves_ok (dep := dep + 0) hM2 h) rfl ?_
    intro x6 M6 hM6 h
    replace h := hQ6 _ _ h
    refine iq_if_ne hS 80 J_MSquareRows_finds_d77 (t := 82) rfl (fun q77 => ?_) rfl (fun q77 => ?_)
    · replace h := ed_pos q77 h
      refine iq_iconst hS 83 J_MSquareRows_finds_d82 (v := 0) (by decide +kernel) rfl ?_
      refine iq_istore_n hS 84 J_MSquareRows_finds_d83 (by decide) rfl ?_
      refine iq_iconst hS 85 J_MSquareRows_finds_d84 (v := 0) (by decide +kernel) rfl ?_
      refine iq_istore hS 87 J_MSquareRows_finds_d85 (by decide) rfl ?_
      obtain ⟨Q7, hQ7, hR7, h⟩ := bs2_ed h
      have K7 : ∀ (y8 : Int32) (M9 : im_M) (L' : List (Nat × Value)), lw_S w M9 → im_lk L' 1 = some (.int p0) → im_lk L' 3 = some (.int y8) → Q7 (.inl (y8, M9)) → ia (tb_G L xs) (dep + 3) J_MSquareRows_finds (rwI w Q) (170, L', [], M9) := by
        intro y8 M9 L' hM9 l10 l11 h
        replace h := hQ7 _ _ h
        refine iq_iload_n hS 171 J_MSquareRows_finds_d170 l11 rfl ?_
        refine iq_iload_n hS 172 J_MSquareRows_finds_d171 l10 rfl ?_
        refine iq_icmp_ne hS 175 J_MSquareRows_finds_d172 (t := 179) rfl (fun q172 => ?_) rfl (fun q172 => ?_)
        · replace h := ed_pos q172 h
          refine iq_iconst hS 180 J_MSquareRows_finds_d179 (v := 0) (by decide +kernel) rfl ?_
          exact iq_iret J_MSquareRows_finds_d180 rfl rfl ⟨_, rfl, hM9, ed_some h⟩
        · replace h := ed_neg q172 h
          refine iq_iconst hS 176 J_MSquareRows_finds_d175 (v := 1) (by decide +kernel) rfl ?_
          refine iq_goto hS J_MSquareRows_finds_d176 (t := 180) rfl ?_
          exact iq_iret J_MSquareRows_finds_d180 rfl rfl ⟨_, rfl, hM9, ed_some h⟩
      obtain ⟨r7, hr7, hq7⟩ := h
      obtain ⟨n7, hn7⟩ := lp_n hr7
      have I7 : ∀ (n : Nat) (x12 : Int32) (x13 : Int32) (M14 : im_M) (L' : List (Nat × Value)), lw_S w M14 → im_lk L' 0 = some (.ref 108) → im_lk L' 1 = some (.int p0) → im_lk L' 2 = some (.int p1) → im_lk L' 3 = some (.int x12) → im_lk L' 4 = some (.int x13) → lpn (uc3 (f_MSquareRows_finds_L87 p0 p1)) n (x12, x13, M14) = some r7 → ia (tb_G L xs) (dep + 3) J_MSquareRows_finds (rwI w Q) (87, L', [], M14) := by
        intro n
        induction n with
        | zero => intro x12 x13 M14 L' hM14 l15 l16 l17 l18 l19 hn; exact (lpn_0 hn).elim
        | succ n ih =>
          intro x12 x13 M14 L' hM14 l15 l16 l17 l18 l19 hn
          have h := lpn_ed3 hn
          unfold f_MSquareRows_finds_L87 at h
          refine iq_iload hS 89 J_MSquareRows_finds_d87 l19 rfl ?_
          refine iq_iload_n hS 90 J_MSquareRows_finds_d89 l17 rfl ?_
          refine iq_icmp_ge hS 93 J_MSquareRows_finds_d90 (t := 170) rfl (fun q90 => ?_) rfl (fun q90 => ?_)
          · replace h := ed_pos q90 h
            exact K7 _ _ _ hM14 l16 l18 (lq_r h hq7)
          · replace h := ed_neg q90 h
            refine iq_iload hS 95 J_MSquareRows_finds_d93 l19 rfl ?_
            refine iq_iconst hS 96 J_MSquareRows_finds_d95 (v := 1) (by decide +kernel) rfl ?_
            refine iq_iadd hS 97 J_MSquareRows_finds_d96 rfl ?_
            refine iq_iload_n hS 98 J_MSquareRows_finds_d97 l17 rfl ?_
            refine iq_isub hS 99 J_MSquareRows_finds_d98 rfl ?_
            obtain ⟨Q20, hQ20, h⟩ := bd1_ed h
            refine iq_cpI hS 102 J_MSquareRows_finds_d99 rfl (pr_stat (vs := [_]) lc_16_144 lT_410 rfl rfl (by decide) rfl (Nat.le_of_ble_eq_true rfl) (Nat.le_of_ble_eq_true rfl)) (f_MSquareRows_two_ok (dep := dep + 2) hM14 h) rfl ?_
            intro x20 h
            replace h := hQ20 _ h
            refine iq_istore hS 104 J_MSquareRows_finds_d102 (by decide) rfl ?_
            refine iq_iconst hS 105 J_MSquareRows_finds_d104 (v := 0) (by decide +kernel) rfl ?_
            refine iq_istore hS 107 J_MSquareRows_finds_d105 (by decide) rfl ?_
            refine iq_iload_n hS 108 J_MSquareRows_finds_d107 (lk_1i (lk_1i l16 (by decide)) (by decide)) rfl ?_
            refine iq_iconst hS 109 J_MSquareRows_finds_d108 (v := 1) (by decide +kernel) rfl ?_
            refine iq_isub hS 110 J_MSquareRows_finds_d109 rfl ?_
            refine iq_istore hS 112 J_MSquareRows_finds_d110 (by decide) rfl ?_
            obtain ⟨Q21, hQ21, h⟩ := bd1_ed h
            have K21 : ∀ (y22 : Int32) (L' : List (Nat × Value)), im_lk L' 0 = some (.ref 108) → im_lk L' 1 = some (.int p0) → im_lk L' 2 = some (.int p1) → im_lk L' 3 = some (.int x12) → im_lk L' 4 = some (.int x13) → im_lk L' 6 = some (.int y22) → Q21 y22 → ia (tb_G L xs) (dep + 3) J_MSquareRows_finds (rwI w Q) (140, L', [], M14) := by
              intro y22 L' l23 l24 l25 l26 l27 l28 h
              replace h := hQ21 _ h
              refine iq_iload hS 142 J_MSquareRows_finds_d140 l28 rfl ?_
              refine iq_iconst hS 143 J_MSquareRows_finds_d142 (v := 1) (by decide +kernel) rfl ?_
              obtain ⟨k29, Q29, hQ29, hk29, h⟩ := jn2_ed h
              have J29 : ∀ (y30 : Int32) (M31 : im_M) (L' : List (Nat × Value)), lw_S w M31 → im_lk L' 0 = some (.ref 108) → im_lk L' 1 = some (.int p0) → im_lk L' 2 = some (.int p1) → im_lk L' 3 = some (.int y30) → im_lk L' 4 = some (.int x13) → Q29 y30 M31 → ia (tb_G L xs) (dep + 3) J_MSquareRows_finds (rwI w Q) (164, L', [], M31) := by
                intro y30 M31 L' hM31 l32 l33 l34 l35 l36 h
                replace h := hQ29 _ _ h
                refine iq_iincv hS 167 J_MSquareRows_finds_d164 (c := 1) (by decide +kernel) l36 (by decide) rfl ?_
                refine iq_goto hS J_MSquareRows_finds_d167 (t := 87) rfl ?_
                exact ih _ _ _ _ hM31 (lk_1r l32 (by decide)) (lk_1i l33 (by decide)) (lk_1i l34 (by decide)) (lk_1i l35 (by decide)) lk_1s (lq_l h)
              refine iq_icmp_ne hS 146 J_MSquareRows_finds_d143 (t := 164) rfl (fun q143 => ?_) rfl (fun q143 => ?_)
              · replace h := ed_pos q143 h
                exact J29 _ _ _ hM14 l23 l24 l25 l26 l27 (hk29 _ _ h)
              · replace h := ed_neg q143 h
                refine iq_iload_n hS 147 J_MSquareRows_finds_d146 l26 rfl ?_
                refine iq_iload_n hS 148 J_MSquareRows_finds_d147 l24 rfl ?_
                refine iq_icmp_ne hS 151 J_MSquareRows_finds_d148 (t := 153) rfl (fun q148 => ?_) rfl (fun q148 => ?_)
                · replace h := ed_pos q148 h
                  refine iq_aload_n hS 154 J_MSquareRows_finds_d153 l23 rfl ?_
                  refine iq_getR hS 157 J_MSquareRows_finds_d154 lf_16_61 (Or.inr ⟨_, rfl⟩) (ka_108 hM14) (ra_108_25 hM14) rfl ?_
                  refine iq_iload_n hS 158 J_MSquareRows_finds_d157 l26 rfl ?_
                  refine iq_iload hS 160 J_MSquareRows_finds_d158 l27 rfl ?_
                  obtain ⟨g160, h⟩ := ed_gd h
                  refine iq_iastore hS 161 J_MSquareRows_finds_d160 ⟨(ka_126 hM14).1, (ka_126 hM14).2, g160.1, ix_lt (kl_126 hM14) g160.2⟩ rfl ?_
                  refine iq_iincv hS 164 J_MSquareRows_finds_d161 (c := 1) (by decide +kernel) l26 (by decide) rfl ?_
                  exact J29 _ _ _ (lw_sI hM14) (lk_1r l23 (by decide)) (lk_1i l24 (by decide)) (lk_1i l25 (by decide)) lk_1s (lk_1i l27 (by decide)) (hk29 _ _ h)
                · replace h := ed_neg q148 h
                  refine iq_iconst hS 152 J_MSquareRows_finds_d151 (v := 0) (by decide +kernel) rfl ?_
                  exact iq_iret J_MSquareRows_finds_d152 rfl rfl ⟨_, rfl, hM14, ed_some (hR7 _ (lq_r h hq7))⟩
            obtain ⟨r21, hr21, hq21⟩ := h
            obtain ⟨n21, hn21⟩ := lp_n hr21
            have I21 : ∀ (n : Nat) (x37 : Int32) (x38 : Int32) (L' : List (Nat × Value)), im_lk L' 0 = some (.ref 108) → im_lk L' 1 = some (.int p0) → im_lk L' 2 = some (.int p1) → im_lk L' 3 = some (.int x12) → im_lk L' 4 = some (.int x13) → im_lk L' 5 = some (.int x20) → im_lk L' 6 = some (.int x37) → im_lk L' 7 = some (.int x38) → lpn (uc2 (f_MSquareRows_finds_L112 p0 p1 x12 x13 x20 M14)) n (x37, x38) = some r21 → ia (tb_G L xs) (dep + 3) J_MSquareRows_finds (rwI w Q) (112, L', [], M14) := by
              intro n
              induction n with
              | zero => intro x37 x38 L' l39 l40 l41 l42 l43 l44 l45 l46 hn; exact (lpn_0 hn).elim
              | succ n ih =>
                intro x37 x38 L' l39 l40 l41 l42 l43 l44 l45 l46 hn
                have h := lpn_ed2 hn
                unfold f_MSquareRows_finds_L112 at h
                refine iq_iload hS 114 J_MSquareRows_finds_d112 l46 rfl ?_
                refine iq_if_lt hS 117 J_MSquareRows_finds_d114 (t := 140) rfl (fun q114 => ?_) rfl (fun q114 => ?_)
                · replace h := ed_pos q114 h
                  exact K21 _ _ l39 l40 l41 l42 l43 l45 (lq_r h hq21)
                · replace h := ed_neg q114 h
                  refine iq_iload hS 119 J_MSquareRows_finds_d117 l45 rfl ?_
                  refine iq_aload_n hS 120 J_MSquareRows_finds_d119 l39 rfl ?_
                  refine iq_getR hS 123 J_MSquareRows_finds_d120 lf_16_58 (Or.inr ⟨_, rfl⟩) (ka_108 hM14) (ra_108_24 hM14) rfl ?_
                  refine iq_iload hS 125 J_MSquareRows_finds_d123 l46 rfl ?_
                  obtain ⟨g125, h⟩ := ed_gd h
                  refine iq_iaload hS 126 J_MSquareRows_finds_d125 ⟨(ka_125 hM14).1, (ka_125 hM14).2, g125.1, ix_lt (kl_125 hM14) g125.2⟩ rfl ?_
                  refine iq_ixor hS 127 J_MSquareRows_finds_d126 rfl ?_
                  refine iq_iload hS 129 J_MSquareRows_finds_d127 l44 rfl ?_
                  obtain ⟨Q47, hQ47, h⟩ := bd1_ed h
                  refine iq_cpI hS 132 J_MSquareRows_finds_d129 rfl (pr_stat (vs := [_, _]) lc_16_147 lT_411 rfl rfl (by decide) rfl (Nat.le_of_ble_eq_true rfl) (Nat.le_of_ble_eq_true rfl)) (f_MSquareRows_times_ok (dep := dep + 2) hM14 h) rfl ?_
                  intro x47 h
                  replace h := hQ47 _ h
                  refine iq_istore hS 134 J_MSquareRows_finds_d132 (by decide) rfl ?_
                  refine iq_iincv hS 137 J_MSquareRows_finds_d134 (c := (-1)) (by decide +kernel) (lk_1i l46 (by decide)) (by decide) rfl ?_
                  refine iq_goto hS J_MSquareRows_finds_d137 (t := 112) rfl ?_
                  exact ih _ _ _ (lk_1r (lk_1r l39 (by decide)) (by decide)) (lk_1i (lk_1i l40 (by decide)) (by decide)) (lk_1i (lk_1i l41 (by decide)) (by decide)) (lk_1i (lk_1i l42 (by decide)) (by decide)) (lk_1i (lk_1i l43 (by decide)) (by decide)) (lk_1i (lk_1i l44 (by decide)) (by decide)) (lk_1i lk_1s (by decide)) lk_1s (lq_l h)
            exact I21 n21 _ _ _ (lk_1r (lk_1r (lk_1r l15 (by decide)) (by decide)) (by decide)) (lk_1i (lk_1i (lk_1i l16 (by decide)) (by decide)) (by decide)) (lk_1i (lk_1i (lk_1i l17 (by decide)) (by decide)) (by decide)) (lk_1i (lk_1i (lk_1i l18 (by decide)) (by decide)) (by decide)) (lk_1i (lk_1i (lk_1i l19 (by decide)) (by decide)) (by decide)) (lk_1i (lk_1i lk_1s (by decide)) (by decide)) (lk_1i lk_1s (by decide)) lk_1s hn21
      exact I7 n7 _ _ _ _ hM6 (lk_1r (lk_1r l3 (by decide)) (by decide)) (lk_1i (lk_1i l4 (by decide)) (by decide)) (lk_1i (lk_1i l5 (by decide)) (by decide)) (lk_1i lk_1s (by decide)) lk_1s hn7
    · replace h := ed_neg q77 h
      refine iq_iconst hS 81 J_MSquareRows_finds_d80 (v := 0) (by decide +kernel) rfl ?_
      exact iq_iret J_MSquareRows_finds_d81 rfl rfl ⟨_, rfl, hM6, ed_some h⟩
  obtain ⟨r1, hr1, hq1⟩ := h
  obtain ⟨n1, hn1⟩ := lp_n hr1
  have I1 : ∀ (n : Nat) (x48 : Int32) (M49 : im_M) (L' : List (Nat × Value)), lw_S w M49 → im_lk L' 0 = some (.ref 108) → im_lk L' 1 = some (.int p0) → im_lk L' 2 = some (.int p1) → im_lk L' 3 = some (.int x48) → lpn (uc2 (f_MSquareRows_finds_L2 p0 p1)) n (x48, M49) = some r1 → ia (tb_G L xs) (dep + 3) J_MSquareRows_finds (rwI w Q) (2, L', [], M49) := by
    intro n
    induction n with
    | zero => intro x48 M49 L' hM49 l50 l51 l52 l53 hn; exact (lpn_0 hn).elim
    | succ n ih =>
      intro x48 M49 L' hM49 l50 l51 l52 l53 hn
      have h := lpn_ed2 hn
      unfold f_MSquareRows_finds_L2 at h
      refine iq_iload_n hS 3 J_MSquareRows_finds_d2 l53 rfl ?_
      refine iq_iload_n hS 4 J_MSquareRows_finds_d3 l51 rfl ?_
      refine iq_icmp_ge hS 7 J_MSquareRows_finds_d4 (t := 72) rfl (fun q4 => ?_) rfl (fun q4 => ?_)
      · replace h := ed_pos q4 h
        exact K1 _ _ hM49 l50 l51 l52 (lq_r h hq1)
      · replace h := ed_neg q4 h
        refine iq_iconst hS 8 J_MSquareRows_finds_d7 (v := 0) (by decide +kernel) rfl ?_
        refine iq_istore hS 10 J_MSquareRows_finds_d8 (by decide) rfl ?_
        obtain ⟨Q54, hQ54, h⟩ := bd1_ed h
        have K54 : ∀ (M55 : im_M) (L' : List (Nat × Value)), lw_S w M55 → im_lk L' 0 = some (.ref 108) → im_lk L' 1 = some (.int p0) → im_lk L' 2 = some (.int p1) → im_lk L' 3 = some (.int x48) → Q54 M55 → ia (tb_G L xs) (dep + 3) J_MSquareRows_finds (rwI w Q) (47, L', [], M55) := by
          intro M55 L' hM55 l56 l57 l58 l59 h
          replace h := hQ54 _ h
          refine iq_aload_n hS 48 J_MSquareRows_finds_d47 l56 rfl ?_
          refine iq_getR hS 51 J_MSquareRows_finds_d48 lf_16_55 (Or.inr ⟨_, rfl⟩) (ka_108 hM55) (ra_108_23 hM55) rfl ?_
          refine iq_bipush hS 53 J_MSquareRows_finds_d51 (v := 17) (by decide +kernel) rfl ?_
          refine iq_iload_n hS 54 J_MSquareRows_finds_d53 l59 rfl ?_
          refine iq_imul hS 55 J_MSquareRows_finds_d54 rfl ?_
          refine iq_iload_n hS 56 J_MSquareRows_finds_d55 l57 rfl ?_
          refine iq_iadd hS 57 J_MSquareRows_finds_d56 rfl ?_
          refine iq_aload_n hS 58 J_MSquareRows_finds_d57 l56 rfl ?_
          refine iq_getR hS 61 J_MSquareRows_finds_d58 lf_16_52 (Or.inr ⟨_, rfl⟩) (ka_108 hM55) (ra_108_22 hM55) rfl ?_
          refine iq_iload_n hS 62 J_MSquareRows_finds_d61 l57 rfl ?_
          refine iq_iload_n hS 63 J_MSquareRows_finds_d62 l59 rfl ?_
          refine iq_iadd hS 64 J_MSquareRows_finds_d63 rfl ?_
          obtain ⟨g64, h⟩ := ed_gd h
          refine iq_iaload hS 65 J_MSquareRows_finds_d64 ⟨(ka_123 hM55).1, (ka_123 hM55).2, g64.1, ix_lt (kl_123 hM55) g64.2⟩ rfl ?_
          obtain ⟨g65, h⟩ := ed_gd h
          refine iq_iastore hS 66 J_MSquareRows_finds_d65 ⟨(ka_124 hM55).1, (ka_124 hM55).2, g65.1, ix_lt (kl_124 hM55) g65.2⟩ rfl ?_
          refine iq_iincv hS 69 J_MSquareRows_finds_d66 (c := 1) (by decide +kernel) l59 (by decide) rfl ?_
          refine iq_goto hS J_MSquareRows_finds_d69 (t := 2) rfl ?_
          exact ih _ _ _ (lw_sI hM55) (lk_1r l56 (by decide)) (lk_1i l57 (by decide)) (lk_1i l58 (by decide)) lk_1s (lq_l h)
        obtain ⟨r54, hr54, hq54⟩ := h
        obtain ⟨n54, hn54⟩ := lp_n hr54
        have I54 : ∀ (n : Nat) (x60 : Int32) (M61 : im_M) (L' : List (Nat × Value)), lw_S w M61 → im_lk L' 0 = some (.ref 108) → im_lk L' 1 = some (.int p0) → im_lk L' 2 = some (.int p1) → im_lk L' 3 = some (.int x48) → im_lk L' 4 = some (.int x60) → lpn (uc2 (f_MSquareRows_finds_L10 p0 p1 x48)) n (x60, M61) = some r54 → ia (tb_G L xs) (dep + 3) J_MSquareRows_finds (rwI w Q) (10, L', [], M61) := by
          intro n
          induction n with
          | zero => intro x60 M61 L' hM61 l62 l63 l64 l65 l66 hn; exact (lpn_0 hn).elim
          | succ n ih =>
            intro x60 M61 L' hM61 l62 l63 l64 l65 l66 hn
            have h := lpn_ed2 hn
            unfold f_MSquareRows_finds_L10 at h
            refine iq_iload hS 12 J_MSquareRows_finds_d10 l66 rfl ?_
            refine iq_iload_n hS 13 J_MSquareRows_finds_d12 l63 rfl ?_
            refine iq_icmp_ge hS 16 J_MSquareRows_finds_d13 (t := 47) rfl (fun q13 => ?_) rfl (fun q13 => ?_)
            · replace h := ed_pos q13 h
              exact K54 _ _ hM61 l62 l63 l64 l65 (lq_r h hq54)
            · replace h := ed_neg q13 h
              refine iq_aload_n hS 17 J_MSquareRows_finds_d16 l62 rfl ?_
              refine iq_getR hS 20 J_MSquareRows_finds_d17 lf_16_55 (Or.inr ⟨_, rfl⟩) (ka_108 hM61) (ra_108_23 hM61) rfl ?_
              refine iq_bipush hS 22 J_MSquareRows_finds_d20 (v := 17) (by decide +kernel) rfl ?_
              refine iq_iload_n hS 23 J_MSquareRows_finds_d22 l65 rfl ?_
              refine iq_imul hS 24 J_MSquareRows_finds_d23 rfl ?_
              refine iq_iload hS 26 J_MSquareRows_finds_d24 l66 rfl ?_
              refine iq_iadd hS 27 J_MSquareRows_finds_d26 rfl ?_
              refine iq_aload_n hS 28 J_MSquareRows_finds_d27 l62 rfl ?_
              refine iq_getR hS 31 J_MSquareRows_finds_d28 lf_16_52 (Or.inr ⟨_, rfl⟩) (ka_108 hM61) (ra_108_22 hM61) rfl ?_
              refine iq_iload_n hS 32 J_MSquareRows_finds_d31 l63 rfl ?_
              refine iq_iload_n hS 33 J_MSquareRows_finds_d32 l65 rfl ?_
              refine iq_iadd hS 34 J_MSquareRows_finds_d33 rfl ?_
              refine iq_iconst hS 35 J_MSquareRows_finds_d34 (v := 1) (by decide +kernel) rfl ?_
              refine iq_isub hS 36 J_MSquareRows_finds_d35 rfl ?_
              refine iq_iload hS 38 J_MSquareRows_finds_d36 l66 rfl ?_
              refine iq_isub hS 39 J_MSquareRows_finds_d38 rfl ?_
              obtain ⟨g39, h⟩ := ed_gd h
              refine iq_iaload hS 40 J_MSquareRows_finds_d39 ⟨(ka_123 hM61).1, (ka_123 hM61).2, g39.1, ix_lt (kl_123 hM61) g39.2⟩ rfl ?_
              obtain ⟨g40, h⟩ := ed_gd h
              refine iq_iastore hS 41 J_MSquareRows_finds_d40 ⟨(ka_124 hM61).1, (ka_124 hM61).2, g40.1, ix_lt (kl_124 hM61) g40.2⟩ rfl ?_
              refine iq_iincv hS 44 J_MSquareRows_finds_d41 (c := 1) (by decide +kernel) l66 (by decide) rfl ?_
              refine iq_goto hS J_MSquareRows_finds_d44 (t := 10) rfl ?_
              exact ih _ _ _ (lw_sI hM61) (lk_1r l62 (by decide)) (lk_1i l63 (by decide)) (lk_1i l64 (by decide)) (lk_1i l65 (by decide)) lk_1s (lq_l h)
        exact I54 n54 _ _ _ hM49 (lk_1r l50 (by decide)) (lk_1i l51 (by decide)) (lk_1i l52 (by decide)) (lk_1i l53 (by decide)) lk_1s hn54
  exact I1 n1 _ _ _ hM (lk_1r l0 (by decide)) (lk_1i l1 (by decide)) (lk_1i l2 (by decide)) lk_1s hn1
theorem f_MSquareRows_finds_fr {p0 : Int32} {p1 : Int32} {M : im_M} {r : Int32 × im_M} (h : f_MSquareRows_finds p0 p1 M = some r) : fr 148873535527910577765226390751398592512 [] M r.2 := by
  replace h : ed (f_MSquareRows_finds p0 p1 M) (fun x => x = r) := ⟨r, h, rfl⟩
  unfold f_MSquareRows_finds at h
  obtain ⟨Q1, hQ1, h⟩ := bd1_ed h
  have K1 : ∀ (M2 : im_M), fr 148873535527910577765226390751398592512 [] M M2 → Q1 M2 → fr 148873535527910577765226390751398592512 [] M r.2 := by
    intro M2 hM2 h
    replace h := hQ1 _ h
    obtain ⟨Q3, hQ3, h⟩ := bd2_ed h
    obtain ⟨⟨x3, M3⟩, e3, h⟩ := h
    replace h := hQ3 _ _ h
    by_cases q77 : ¬ x3 = 0
    · replace h := ed_pos q77 h
      obtain ⟨Q4, hQ4, hR4, h⟩ := bs2_ed h
      have K4 : ∀ (y5 : Int32) (M6 : im_M), fr 148873535527910577765226390751398592512 [] M M6 → Q4 (.inl (y5, M6)) → fr 148873535527910577765226390751398592512 [] M r.2 := by
        intro y5 M6 hM6 h
        replace h := hQ4 _ _ h
        by_cases q172 : ¬ y5 = p0
        · replace h := ed_pos q172 h
          exact fr_ret h hM6
        · replace h := ed_neg q172 h
          exact fr_ret h hM6
      obtain ⟨r4, hr4, hq4⟩ := h
      obtain ⟨n4, hn4⟩ := lp_n hr4
      have I4 : ∀ (n : Nat) (x7 : Int32) (x8 : Int32) (M9 : im_M), fr 148873535527910577765226390751398592512 [] M M9 → lpn (uc3 (f_MSquareRows_finds_L87 p0 p1)) n (x7, x8, M9) = some r4 → fr 148873535527910577765226390751398592512 [] M r.2 := by
        intro n
        induction n with
        | zero => intro x7 x8 M9 hM9 hn; exact (lpn_0 hn).elim
        | succ n ih =>
          intro x7 x8 M9 hM9 hn
          have h := lpn_ed3 hn
          unfold f_MSquareRows_finds_L87 at h
          by_cases q90 : p1 ≤ x8
          · replace h := ed_pos q90 h
            exact K4 _ _ hM9 (lq_r h hq4)
          · replace h := ed_neg q90 h
            obtain ⟨Q10, hQ10, h⟩ := bd1_ed h
            obtain ⟨x10, e10, h⟩ := h
            replace h := hQ10 _ h
            obtain ⟨Q11, hQ11, h⟩ := bd1_ed h
            have K11 : ∀ (y12 : Int32), Q11 y12 → fr 148873535527910577765226390751398592512 [] M r.2 := by
              intro y12 h
              replace h := hQ11 _ h
              obtain ⟨k13, Q13, hQ13, hk13, h⟩ := jn2_ed h
              have J13 : ∀ (y14 : Int32) (M15 : im_M), fr 148873535527910577765226390751398592512 [] M M15 → Q13 y14 M15 → fr 148873535527910577765226390751398592512 [] M r.2 := by
                intro y14 M15 hM15 h
                replace h := hQ13 _ _ h
                exact ih _ _ _ hM15 (lq_l h)
              by_cases q143 : ¬ y12 = 1
              · replace h := ed_pos q143 h
                exact J13 _ _ hM9 (hk13 _ _ h)
              · replace h := ed_neg q143 h
                by_cases q148 : ¬ x7 = p0
                · replace h := ed_pos q148 h
                  obtain ⟨g160, h⟩ := ed_gd h
                  exact J13 _ _ (fr_I (by decide) hM9) (hk13 _ _ h)
                · replace h := ed_neg q148 h
                  exact fr_ret (hR4 _ (lq_r h hq4)) hM9
            obtain ⟨r11, hr11, hq11⟩ := h
            obtain ⟨n11, hn11⟩ := lp_n hr11
            have I11 : ∀ (n : Nat) (x21 : Int32) (x22 : Int32), lpn (uc2 (f_MSquareRows_finds_L112 p0 p1 x7 x8 x10 M9)) n (x21, x22) = some r11 → fr 148873535527910577765226390751398592512 [] M r.2 := by
              intro n
              induction n with
              | zero => intro x21 x22 hn; exact (lpn_0 hn).elim
              | succ n ih =>
                intro x21 x22 hn
                have h := lpn_ed2 hn
                unfold f_MSquareRows_finds_L112 at h
                by_cases q114 : x22 < 0
                · replace h := ed_pos q114 h
                  exact K11 _ (lq_r h hq11)
                · replace h := ed_neg q114 h
                  obtain ⟨g125, h⟩ := ed_gd h
                  obtain ⟨Q23, hQ23, h⟩ := bd1_ed h
                  obtain ⟨x23, e23, h⟩ := h
                  replace h := hQ23 _ h
                  exact ih _ _ (lq_l h)
            exact I11 n11 _ _ hn11
      exact I4 n4 _ _ _ (fr_tr (fr_mono (by decide) (by decide +kernel) (f_MSquareRows_solves_fr e3)) hM2) hn4
    · replace h := ed_neg q77 h
      exact fr_ret h (fr_tr (fr_mono (by decide) (by decide +kernel) (f_MSquareRows_solves_fr e3)) hM2)
  obtain ⟨r1, hr1, hq1⟩ := h
  obtain ⟨n1, hn1⟩ := lp_n hr1
  have I1 : ∀ (n : Nat) (x24 : Int32) (M25 : im_M), fr 148873535527910577765226390751398592512 [] M M25 → lpn (uc2 (f_MSquareRows_finds_L2 p0 p1)) n (x24, M25) = some r1 → fr 148873535527910577765226390751398592512 [] M r.2 := by
    intro n
    induction n with
    | zero => intro x24 M25 hM25 hn; exact (lpn_0 hn).elim
    | succ n ih =>
      intro x24 M25 hM25 hn
      have h := lpn_ed2 hn
      unfold f_MSquareRows_finds_L2 at h
      by_cases q4 : p0 ≤ x24
      · replace h := ed_pos q4 h
        exact K1 _ hM25 (lq_r h hq1)
      · replace h := ed_neg q4 h
        obtain ⟨Q26, hQ26, h⟩ := bd1_ed h
        have K26 : ∀ (M27 : im_M), fr 148873535527910577765226390751398592512 [] M M27 → Q26 M27 → fr 148873535527910577765226390751398592512 [] M r.2 := by
          intro M27 hM27 h
          replace h := hQ26 _ h
          obtain ⟨g64, h⟩ := ed_gd h
          obtain ⟨g65, h⟩ := ed_gd h
          exact ih _ _ (fr_I (by decide) hM27) (lq_l h)
        obtain ⟨r26, hr26, hq26⟩ := h
        obtain ⟨n26, hn26⟩ := lp_n hr26
        have I26 : ∀ (n : Nat) (x28 : Int32) (M29 : im_M), fr 148873535527910577765226390751398592512 [] M M29 → lpn (uc2 (f_MSquareRows_finds_L10 p0 p1 x24)) n (x28, M29) = some r26 → fr 148873535527910577765226390751398592512 [] M r.2 := by
          intro n
          induction n with
          | zero => intro x28 M29 hM29 hn; exact (lpn_0 hn).elim
          | succ n ih =>
            intro x28 M29 hM29 hn
            have h := lpn_ed2 hn
            unfold f_MSquareRows_finds_L10 at h
            by_cases q13 : p0 ≤ x28
            · replace h := ed_pos q13 h
              exact K26 _ hM29 (lq_r h hq26)
            · replace h := ed_neg q13 h
              obtain ⟨g39, h⟩ := ed_gd h
              obtain ⟨g40, h⟩ := ed_gd h
              exact ih _ _ (fr_I (by decide) hM29) (lq_l h)
        exact I26 n26 _ _ hM25 hn26
  exact I1 n1 _ _ fr_refl hn1
noncomputable def f_MSquareRows_mends_L10 (v7 : Int32) (v8 : Int32) (v9 : Int32) (x10 : Int32) (M11 : im_M) : Option ((Int32 × im_M) ⊕ (im_M)) := if v7 ≤ x10 then some (.inr M11) else gd (inb x10 16) <| bd1 (f_MSquareRows_two (((v8 - 1) - (im_i M11 126 (Int32.toNatClampNeg x10))) * v9) M11) fun (x12 : Int32) => gd (inb (((17 : Int32) * v9) + x10) 272) <| some (.inl ((x10 + 1), (im_setI M11 124 (Int32.toNatClampNeg (((17 : Int32) * v9) + x10)) x12)))
noncomputable def f_MSquareRows_mends_L2 (v2 : Int32) (v3 : Int32) (x4 : Int32) (M5 : im_M) : Option ((Int32 × im_M) ⊕ (im_M)) := if v2 ≤ x4 then some (.inr M5) else bd1 (lp (uc2 (f_MSquareRows_mends_L10 v2 v3 x4)) (0, M5)) fun (M13 : im_M) => gd (inb x4 32) <| gd (inb (((17 : Int32) * x4) + v2) 272) <| some (.inl ((x4 + 1), (im_setI M13 124 (Int32.toNatClampNeg (((17 : Int32) * x4) + v2)) (im_i M13 123 (Int32.toNatClampNeg x4)))))
noncomputable def f_MSquareRows_mends_L85 (v17 : Int32) (v18 : Int32) (x19 : Int32) (M20 : im_M) : Option ((Int32 × im_M) ⊕ (im_M)) := if v18 ≤ x19 then some (.inr M20) else gd (inb x19 256) <| gd (inb x19 256) <| some (.inl ((x19 + 1), (im_setI M20 122 (Int32.toNatClampNeg x19) (im_i M20 121 (Int32.toNatClampNeg x19)))))
noncomputable def f_MSquareRows_mends_L113 (v23 : Int32) (x24 : Int32) (x25 : Int32) (M26 : im_M) : Option ((Int32 × Int32 × im_M) ⊕ (Int32 × im_M)) := if v23 ≤ x25 then some (.inr (x24, M26)) else gd (inb x25 16) <| gd (inb x25 16) <| gd (inb (im_i M26 126 (Int32.toNatClampNeg x25)) 256) <| gd (inb x25 16) <| gd (inb (im_i M26 126 (Int32.toNatClampNeg x25)) 256) <| bd1 (jn0 (fun (_ : Unit) => some 0) fun k28 => if x24 = 0 then k28 () else gd (inb x25 16) <| if (im_i (im_setI M26 122 (Int32.toNatClampNeg (im_i M26 126 (Int32.toNatClampNeg x25))) ((im_i M26 122 (Int32.toNatClampNeg (im_i M26 126 (Int32.toNatClampNeg x25)))) ^^^ (im_i M26 125 (Int32.toNatClampNeg x25)))) 125 (Int32.toNatClampNeg x25)) = 0 then k28 () else some 1) fun (y32 : Int32) => some (.inl (y32, (x25 + 1), (im_setI M26 122 (Int32.toNatClampNeg (im_i M26 126 (Int32.toNatClampNeg x25))) ((im_i M26 122 (Int32.toNatClampNeg (im_i M26 126 (Int32.toNatClampNeg x25)))) ^^^ (im_i M26 125 (Int32.toNatClampNeg x25))))))
noncomputable def f_MSquareRows_mends (p0 : Int32) (p1 : Int32) (M : im_M) : Option (Int32 × im_M) := bd1 (lp (uc2 (f_MSquareRows_mends_L2 p0 p1)) (0, M)) fun (M14 : im_M) => bd2 (f_MSquareRows_solves p0 M14) fun (x15 : Int32) (M15 : im_M) => if ¬ x15 = 0 then bd1 (lp (uc2 (f_MSquareRows_mends_L85 p0 p1)) (0, M15)) fun (M21 : im_M) => bd2 (lp (uc3 (f_MSquareRows_mends_L113 p0)) (1, 0, M21)) fun (y36 : Int32) (M37 : im_M) => gd (y36 = 0 ∨ y36 = 1) <| some (y36, M37) else some (0, M15)
theorem J_MSquareRows_mends_d0 : decode J_MSquareRows_mends.2.1 0 = .ok (.iconst 0, 1) := by decide +kernel
theorem J_MSquareRows_mends_d1 : decode J_MSquareRows_mends.2.1 1 = .ok (.istore_n 3, 1) := by decide +kernel
theorem J_MSquareRows_mends_d2 : decode J_MSquareRows_mends.2.1 2 = .ok (.iload_n 3, 1) := by decide +kernel
theorem J_MSquareRows_mends_d3 : decode J_MSquareRows_mends.2.1 3 = .ok (.iload_n 1, 1) := by decide +kernel
theorem J_MSquareRows_mends_d4 : decode J_MSquareRows_mends.2.1 4 = .ok (.if_icmp .ge 69, 3) := by decide +kernel
theorem J_MSquareRows_mends_d7 : decode J_MSquareRows_mends.2.1 7 = .ok (.iconst 0, 1) := by decide +kernel
theorem J_MSquareRows_mends_d8 : decode J_MSquareRows_mends.2.1 8 = .ok (.istore 4, 2) := by decide +kernel
theorem J_MSquareRows_mends_d10 : decode J_MSquareRows_mends.2.1 10 = .ok (.iload 4, 2) := by decide +kernel
theorem J_MSquareRows_mends_d12 : decode J_MSquareRows_mends.2.1 12 = .ok (.iload_n 1, 1) := by decide +kernel
theorem J_MSquareRows_mends_d13 : decode J_MSquareRows_mends.2.1 13 = .ok (.if_icmp .ge 37, 3) := by decide +kernel
theorem J_MSquareRows_mends_d16 : decode J_MSquareRows_mends.2.1 16 = .ok (.aload_n 0, 1) := by decide +kernel
theorem J_MSquareRows_mends_d17 : decode J_MSquareRows_mends.2.1 17 = .ok (.getfield 55, 3) := by decide +kernel
theorem J_MSquareRows_mends_d20 : decode J_MSquareRows_mends.2.1 20 = .ok (.bipush 17, 2) := by decide +kernel
theorem J_MSquareRows_mends_d22 : decode J_MSquareRows_mends.2.1 22 = .ok (.iload_n 3, 1) := by decide +kernel
theorem J_MSquareRows_mends_d23 : decode J_MSquareRows_mends.2.1 23 = .ok (.imul, 1) := by decide +kernel
theorem J_MSquareRows_mends_d24 : decode J_MSquareRows_mends.2.1 24 = .ok (.iload 4, 2) := by decide +kernel
theorem J_MSquareRows_mends_d26 : decode J_MSquareRows_mends.2.1 26 = .ok (.iadd, 1) := by decide +kernel
theorem J_MSquareRows_mends_d27 : decode J_MSquareRows_mends.2.1 27 = .ok (.iload_n 2, 1) := by decide +kernel
theorem J_MSquareRows_mends_d28 : decode J_MSquareRows_mends.2.1 28 = .ok (.iconst 1, 1) := by decide +kernel
theorem J_MSquareRows_mends_d29 : decode J_MSquareRows_mends.2.1 29 = .ok (.isub, 1) := by decide +kernel
theorem J_MSquareRows_mends_d30 : decode J_MSquareRows_mends.2.1 30 = .ok (.aload_n 0, 1) := by decide +kernel
theorem J_MSquareRows_mends_d31 : decode J_MSquareRows_mends.2.1 31 = .ok (.getfield 61, 3) := by decide +kernel
theorem J_MSquareRows_mends_d34 : decode J_MSquareRows_mends.2.1 34 = .ok (.iload 4, 2) := by decide +kernel
theorem J_MSquareRows_mends_d36 : decode J_MSquareRows_mends.2.1 36 = .ok (.iaload, 1) := by decide +kernel
theorem J_MSquareRows_mends_d37 : decode J_MSquareRows_mends.2.1 37 = .ok (.isub, 1) := by decide +kernel
theorem J_MSquareRows_mends_d38 : decode J_MSquareRows_mends.2.1 38 = .ok (.iload_n 3, 1) := by decide +kernel
theorem J_MSquareRows_mends_d39 : decode J_MSquareRows_mends.2.1 39 = .ok (.imul, 1) := by decide +kernel
theorem J_MSquareRows_mends_d40 : decode J_MSquareRows_mends.2.1 40 = .ok (.invokestatic 144, 3) := by decide +kernel
theorem J_MSquareRows_mends_d43 : decode J_MSquareRows_mends.2.1 43 = .ok (.iastore, 1) := by decide +kernel
theorem J_MSquareRows_mends_d44 : decode J_MSquareRows_mends.2.1 44 = .ok (.iinc 4 1, 3) := by decide +kernel
theorem J_MSquareRows_mends_d47 : decode J_MSquareRows_mends.2.1 47 = .ok (.goto (-37), 3) := by decide +kernel
theorem J_MSquareRows_mends_d50 : decode J_MSquareRows_mends.2.1 50 = .ok (.aload_n 0, 1) := by decide +kernel
theorem J_MSquareRows_mends_d51 : decode J_MSquareRows_mends.2.1 51 = .ok (.getfield 55, 3) := by decide +kernel
theorem J_MSquareRows_mends_d54 : decode J_MSquareRows_mends.2.1 54 = .ok (.bipush 17, 2) := by decide +kernel
theorem J_MSquareRows_mends_d56 : decode J_MSquareRows_mends.2.1 56 = .ok (.iload_n 3, 1) := by decide +kernel
theorem J_MSquareRows_mends_d57 : decode J_MSquareRows_mends.2.1 57 = .ok (.imul, 1) := by decide +kernel
theorem J_MSquareRows_mends_d58 : decode J_MSquareRows_mends.2.1 58 = .ok (.iload_n 1, 1) := by decide +kernel
theorem J_MSquareRows_mends_d59 : decode J_MSquareRows_mends.2.1 59 = .ok (.iadd, 1) := by decide +kernel
theorem J_MSquareRows_mends_d60 : decode J_MSquareRows_mends.2.1 60 = .ok (.aload_n 0, 1) := by decide +kernel
theorem J_MSquareRows_mends_d61 : decode J_MSquareRows_mends.2.1 61 = .ok (.getfield 52, 3) := by decide +kernel
theorem J_MSquareRows_mends_d64 : decode J_MSquareRows_mends.2.1 64 = .ok (.iload_n 3, 1) := by decide +kernel
theorem J_MSquareRows_mends_d65 : decode J_MSquareRows_mends.2.1 65 = .ok (.iaload, 1) := by decide +kernel
theorem J_MSquareRows_mends_d66 : decode J_MSquareRows_mends.2.1 66 = .ok (.iastore, 1) := by decide +kernel
theorem J_MSquareRows_mends_d67 : decode J_MSquareRows_mends.2.1 67 = .ok (.iinc 3 1, 3) := by decide +kernel
theorem J_MSquareRows_mends_d70 : decode J_MSquareRows_mends.2.1 70 = .ok (.goto (-68), 3) := by decide +kernel
theorem J_MSquareRows_mends_d73 : decode J_MSquareRows_mends.2.1 73 = .ok (.aload_n 0, 1) := by decide +kernel
theorem J_MSquareRows_mends_d74 : decode J_MSquareRows_mends.2.1 74 = .ok (.iload_n 1, 1) := by decide +kernel
theorem J_MSquareRows_mends_d75 : decode J_MSquareRows_mends.2.1 75 = .ok (.invokevirtual 253, 3) := by decide +kernel
theorem J_MSquareRows_mends_d78 : decode J_MSquareRows_mends.2.1 78 = .ok (.ifCond .ne 5, 3) := by decide +kernel
theorem J_MSquareRows_mends_d81 : decode J_MSquareRows_mends.2.1 81 = .ok (.iconst 0, 1) := by decide +kernel
theorem J_MSquareRows_mends_d82 : decode J_MSquareRows_mends.2.1 82 = .ok (.ireturn, 1) := by decide +kernel
theorem J_MSquareRows_mends_d83 : decode J_MSquareRows_mends.2.1 83 = .ok (.iconst 0, 1) := by decide +kernel
theorem J_MSquareRows_mends_d84 : decode J_MSquareRows_mends.2.1 84 = .ok (.istore_n 3, 1) := by decide +kernel
theorem J_MSquareRows_mends_d85 : decode J_MSquareRows_mends.2.1 85 = .ok (.iload_n 3, 1) := by decide +kernel
theorem J_MSquareRows_mends_d86 : decode J_MSquareRows_mends.2.1 86 = .ok (.iload_n 2, 1) := by decide +kernel
theorem J_MSquareRows_mends_d87 : decode J_MSquareRows_mends.2.1 87 = .ok (.if_icmp .ge 21, 3) := by decide +kernel
theorem J_MSquareRows_mends_d90 : decode J_MSquareRows_mends.2.1 90 = .ok (.aload_n 0, 1) := by decide +kernel
theorem J_MSquareRows_mends_d91 : decode J_MSquareRows_mends.2.1 91 = .ok (.getfield 49, 3) := by decide +kernel
theorem J_MSquareRows_mends_d94 : decode J_MSquareRows_mends.2.1 94 = .ok (.iload_n 3, 1) := by decide +kernel
theorem J_MSquareRows_mends_d95 : decode J_MSquareRows_mends.2.1 95 = .ok (.aload_n 0, 1) := by decide +kernel
theorem J_MSquareRows_mends_d96 : decode J_MSquareRows_mends.2.1 96 = .ok (.getfield 46, 3) := by decide +kernel
theorem J_MSquareRows_mends_d99 : decode J_MSquareRows_mends.2.1 99 = .ok (.iload_n 3, 1) := by decide +kernel
theorem J_MSquareRows_mends_d100 : decode J_MSquareRows_mends.2.1 100 = .ok (.iaload, 1) := by decide +kernel
theorem J_MSquareRows_mends_d101 : decode J_MSquareRows_mends.2.1 101 = .ok (.iastore, 1) := by decide +kernel
theorem J_MSquareRows_mends_d102 : decode J_MSquareRows_mends.2.1 102 = .ok (.iinc 3 1, 3) := by decide +kernel
theorem J_MSquareRows_mends_d105 : decode J_MSquareRows_mends.2.1 105 = .ok (.goto (-20), 3) := by decide +kernel
theorem J_MSquareRows_mends_d108 : decode J_MSquareRows_mends.2.1 108 = .ok (.iconst 1, 1) := by decide +kernel
theorem J_MSquareRows_mends_d109 : decode J_MSquareRows_mends.2.1 109 = .ok (.istore_n 3, 1) := by decide +kernel
theorem J_MSquareRows_mends_d110 : decode J_MSquareRows_mends.2.1 110 = .ok (.iconst 0, 1) := by decide +kernel
theorem J_MSquareRows_mends_d111 : decode J_MSquareRows_mends.2.1 111 = .ok (.istore 4, 2) := by decide +kernel
theorem J_MSquareRows_mends_d113 : decode J_MSquareRows_mends.2.1 113 = .ok (.iload 4, 2) := by decide +kernel
theorem J_MSquareRows_mends_d115 : decode J_MSquareRows_mends.2.1 115 = .ok (.iload_n 1, 1) := by decide +kernel
theorem J_MSquareRows_mends_d116 : decode J_MSquareRows_mends.2.1 116 = .ok (.if_icmp .ge 61, 3) := by decide +kernel
theorem J_MSquareRows_mends_d119 : decode J_MSquareRows_mends.2.1 119 = .ok (.aload_n 0, 1) := by decide +kernel
theorem J_MSquareRows_mends_d120 : decode J_MSquareRows_mends.2.1 120 = .ok (.getfield 49, 3) := by decide +kernel
theorem J_MSquareRows_mends_d123 : decode J_MSquareRows_mends.2.1 123 = .ok (.aload_n 0, 1) := by decide +kernel
theorem J_MSquareRows_mends_d124 : decode J_MSquareRows_mends.2.1 124 = .ok (.getfield 61, 3) := by decide +kernel
theorem J_MSquareRows_mends_d127 : decode J_MSquareRows_mends.2.1 127 = .ok (.iload 4, 2) := by decide +kernel
theorem J_MSquareRows_mends_d129 : decode J_MSquareRows_mends.2.1 129 = .ok (.iaload, 1) := by decide +kernel
theorem J_MSquareRows_mends_d130 : decode J_MSquareRows_mends.2.1 130 = .ok (.aload_n 0, 1) := by decide +kernel
theorem J_MSquareRows_mends_d131 : decode J_MSquareRows_mends.2.1 131 = .ok (.getfield 49, 3) := by decide +kernel
theorem J_MSquareRows_mends_d134 : decode J_MSquareRows_mends.2.1 134 = .ok (.aload_n 0, 1) := by decide +kernel
theorem J_MSquareRows_mends_d135 : decode J_MSquareRows_mends.2.1 135 = .ok (.getfield 61, 3) := by decide +kernel
theorem J_MSquareRows_mends_d138 : decode J_MSquareRows_mends.2.1 138 = .ok (.iload 4, 2) := by decide +kernel
theorem J_MSquareRows_mends_d140 : decode J_MSquareRows_mends.2.1 140 = .ok (.iaload, 1) := by decide +kernel
theorem J_MSquareRows_mends_d141 : decode J_MSquareRows_mends.2.1 141 = .ok (.iaload, 1) := by decide +kernel
theorem J_MSquareRows_mends_d142 : decode J_MSquareRows_mends.2.1 142 = .ok (.aload_n 0, 1) := by decide +kernel
theorem J_MSquareRows_mends_d143 : decode J_MSquareRows_mends.2.1 143 = .ok (.getfield 58, 3) := by decide +kernel
theorem J_MSquareRows_mends_d146 : decode J_MSquareRows_mends.2.1 146 = .ok (.iload 4, 2) := by decide +kernel
theorem J_MSquareRows_mends_d148 : decode J_MSquareRows_mends.2.1 148 = .ok (.iaload, 1) := by decide +kernel
theorem J_MSquareRows_mends_d149 : decode J_MSquareRows_mends.2.1 149 = .ok (.ixor, 1) := by decide +kernel
theorem J_MSquareRows_mends_d150 : decode J_MSquareRows_mends.2.1 150 = .ok (.iastore, 1) := by decide +kernel
theorem J_MSquareRows_mends_d151 : decode J_MSquareRows_mends.2.1 151 = .ok (.iload_n 3, 1) := by decide +kernel
theorem J_MSquareRows_mends_d152 : decode J_MSquareRows_mends.2.1 152 = .ok (.ifCond .eq 17, 3) := by decide +kernel
theorem J_MSquareRows_mends_d155 : decode J_MSquareRows_mends.2.1 155 = .ok (.aload_n 0, 1) := by decide +kernel
theorem J_MSquareRows_mends_d156 : decode J_MSquareRows_mends.2.1 156 = .ok (.getfield 58, 3) := by decide +kernel
theorem J_MSquareRows_mends_d159 : decode J_MSquareRows_mends.2.1 159 = .ok (.iload 4, 2) := by decide +kernel
theorem J_MSquareRows_mends_d161 : decode J_MSquareRows_mends.2.1 161 = .ok (.iaload, 1) := by decide +kernel
theorem J_MSquareRows_mends_d162 : decode J_MSquareRows_mends.2.1 162 = .ok (.ifCond .eq 7, 3) := by decide +kernel
theorem J_MSquareRows_mends_d165 : decode J_MSquareRows_mends.2.1 165 = .ok (.iconst 1, 1) := by decide +kernel
theorem J_MSquareRows_mends_d166 : decode J_MSquareRows_mends.2.1 166 = .ok (.goto 4, 3) := by decide +kernel
theorem J_MSquareRows_mends_d169 : decode J_MSquareRows_mends.2.1 169 = .ok (.iconst 0, 1) := by decide +kernel
theorem J_MSquareRows_mends_d170 : decode J_MSquareRows_mends.2.1 170 = .ok (.istore_n 3, 1) := by decide +kernel
theorem J_MSquareRows_mends_d171 : decode J_MSquareRows_mends.2.1 171 = .ok (.iinc 4 1, 3) := by decide +kernel
theorem J_MSquareRows_mends_d174 : decode J_MSquareRows_mends.2.1 174 = .ok (.goto (-61), 3) := by decide +kernel
theorem J_MSquareRows_mends_d177 : decode J_MSquareRows_mends.2.1 177 = .ok (.iload_n 3, 1) := by decide +kernel
theorem J_MSquareRows_mends_d178 : decode J_MSquareRows_mends.2.1 178 = .ok (.ireturn, 1) := by decide +kernel
theorem f_MSquareRows_mends_ok {L : Nat} {xs : Nat → Int32} {dep : Nat} {w : Bool} {p0 : Int32} {p1 : Int32} {M : im_M} {Q : Int32 × im_M → Prop} (hM : lw_S w M) (h : ed (f_MSquareRows_mends p0 p1 M) Q) : ia (tb_G L xs) (dep + 3) J_MSquareRows_mends (rwI w Q) (0, lv_args 0 [.ref 108, .int p0, .int p1], [], M) := by
  have hS : im_St (tb_G L xs) (dep + 3) J_MSquareRows_mends (ia (tb_G L xs) (dep + 3) J_MSquareRows_mends (rwI w Q)) := ia_St
  unfold f_MSquareRows_mends at h
  have l0 : im_lk (lv_args 0 [.ref 108, .int p0, .int p1]) 0 = some (.ref 108) := rfl
  have l1 : im_lk (lv_args 0 [.ref 108, .int p0, .int p1]) 1 = some (.int p0) := rfl
  have l2 : im_lk (lv_args 0 [.ref 108, .int p0, .int p1]) 2 = some (.int p1) := rfl
  refine iq_iconst hS 1 J_MSquareRows_mends_d0 (v := 0) (by decide +kernel) rfl ?_
  refine iq_istore_n hS 2 J_MSquareRows_mends_d1 (by decide) rfl ?_
  obtain ⟨Q1, hQ1, h⟩ := bd1_ed h
  have K1 : ∀ (M2 : im_M) (L' : List (Nat × Value)), lw_S w M2 → im_lk L' 0 = some (.ref 108) → im_lk L' 1 = some (.int p0) → im_lk L' 2 = some (.int p1) → Q1 M2 → ia (tb_G L xs) (dep + 3) J_MSquareRows_mends (rwI w Q) (73, L', [], M2) := by
    intro M2 L' hM2 l3 l4 l5 h
    replace h := hQ1 _ h
    refine iq_aload_n hS 74 J_MSquareRows_mends_d73 l3 rfl ?_
    refine iq_iload_n hS 75 J_MSquareRows_mends_d74 l4 rfl ?_
    obtain ⟨Q6, hQ6, h⟩ := bd2_ed h
    refine iq_cwI hS 78 J_MSquareRows_mends_d75 rfl (pr_inst (vs := [_]) lc_16_253 lT_497 rfl rfl (by decide) (by decide) rfl (Nat.le_of_ble_eq_true rfl) (Nat.le_of_ble_eq_true rfl) (fun _ => Or.inl (pr_b (ka_108 hM2) (by decide) rfl))) (f_MSquareRows_solves_ok (dep := dep + 0) hM2 h) rfl ?_
    intro x6 M6 hM6 h
    replace h := hQ6 _ _ h
    refine iq_if_ne hS 81 J_MSquareRows_mends_d78 (t := 83) rfl (fun q78 => ?_) rfl (fun q78 => ?_)
    · replace h := ed_pos q78 h
      refine iq_iconst hS 84 J_MSquareRows_mends_d83 (v := 0) (by decide +kernel) rfl ?_
      refine iq_istore_n hS 85 J_MSquareRows_mends_d84 (by decide) rfl ?_
      obtain ⟨Q7, hQ7, h⟩ := bd1_ed h
      have K7 : ∀ (M8 : im_M) (L' : List (Nat × Value)), lw_S w M8 → im_lk L' 0 = some (.ref 108) → im_lk L' 1 = some (.int p0) → Q7 M8 → ia (tb_G L xs) (dep + 3) J_MSquareRows_mends (rwI w Q) (108, L', [], M8) := by
        intro M8 L' hM8 l9 l10 h
        replace h := hQ7 _ h
        refine iq_iconst hS 109 J_MSquareRows_mends_d108 (v := 1) (by decide +kernel) rfl ?_
        refine iq_istore_n hS 110 J_MSquareRows_mends_d109 (by decide) rfl ?_
        refine iq_iconst hS 111 J_MSquareRows_mends_d110 (v := 0) (by decide +kernel) rfl ?_
        refine iq_istore hS 113 J_MSquareRows_mends_d111 (by decide) rfl ?_
        obtain ⟨Q11, hQ11, h⟩ := bd2_ed h
        have K11 : ∀ (y12 : Int32) (M13 : im_M) (L' : List (Nat × Value)), lw_S w M13 → im_lk L' 3 = some (.int y12) → Q11 (y12, M13) → ia (tb_G L xs) (dep + 3) J_MSquareRows_mends (rwI w Q) (177, L', [], M13) := by
          intro y12 M13 L' hM13 l14 h
          replace h := hQ11 _ _ h
          refine iq_iload_n hS 178 J_MSquareRows_mends_d177 l14 rfl ?_
          obtain ⟨g178, h⟩ := ed_gd h
          exact iq_iret J_MSquareRows_mends_d178 rfl (nar_z g178) ⟨_, rfl, hM13, ed_some h⟩
        obtain ⟨r11, hr11, hq11⟩ := h
        obtain ⟨n11, hn11⟩ := lp_n hr11
        have I11 : ∀ (n : Nat) (x15 : Int32) (x16 : Int32) (M17 : im_M) (L' : List (Nat × Value)), lw_S w M17 → im_lk L' 0 = some (.ref 108) → im_lk L' 1 = some (.int p0) → im_lk L' 3 = some (.int x15) → im_lk L' 4 = some (.int x16) → lpn (uc3 (f_MSquareRows_mends_L113 p0)) n (x15, x16, M17) = some r11 → ia (tb_G L xs) (dep + 3) J_MSquareRows_mends (rwI w Q) (113, L', [], M17) := by
          intro n
          induction n with
          | zero => intro x15 x16 M17 L' hM17 l18 l19 l20 l21 hn; exact (lpn_0 hn).elim
          | succ n ih =>
            intro x15 x16 M17 L' hM17 l18 l19 l20 l21 hn
            have h := lpn_ed3 hn
            unfold f_MSquareRows_mends_L113 at h
            refine iq_iload hS 115 J_MSquareRows_mends_d113 l21 rfl ?_
            refine iq_iload_n hS 116 J_MSquareRows_mends_d115 l19 rfl ?_
            refine iq_icmp_ge hS 119 J_MSquareRows_mends_d116 (t := 177) rfl (fun q116 => ?_) rfl (fun q116 => ?_)
            · replace h := ed_pos q116 h
              exact K11 _ _ _ hM17 l20 (lq_r h hq11)
            · replace h := ed_neg q116 h
              refine iq_aload_n hS 120 J_MSquareRows_mends_d119 l18 rfl ?_
              refine iq_getR hS 123 J_MSquareRows_mends_d120 lf_16_49 (Or.inr ⟨_, rfl⟩) (ka_108 hM17) (ra_108_21 hM17) rfl ?_
              refine iq_aload_n hS 124 J_MSquareRows_mends_d123 l18 rfl ?_
              refine iq_getR hS 127 J_MSquareRows_mends_d124 lf_16_61 (Or.inr ⟨_, rfl⟩) (ka_108 hM17) (ra_108_25 hM17) rfl ?_
              refine iq_iload hS 129 J_MSquareRows_mends_d127 l21 rfl ?_
              obtain ⟨g129, h⟩ := ed_gd h
              refine iq_iaload hS 130 J_MSquareRows_mends_d129 ⟨(ka_126 hM17).1, (ka_126 hM17).2, g129.1, ix_lt (kl_126 hM17) g129.2⟩ rfl ?_
              refine iq_aload_n hS 131 J_MSquareRows_mends_d130 l18 rfl ?_
              refine iq_getR hS 134 J_MSquareRows_mends_d131 lf_16_49 (Or.inr ⟨_, rfl⟩) (ka_108 hM17) (ra_108_21 hM17) rfl ?_
              refine iq_aload_n hS 135 J_MSquareRows_mends_d134 l18 rfl ?_
              refine iq_getR hS 138 J_MSquareRows_mends_d135 lf_16_61 (Or.inr ⟨_, rfl⟩) (ka_108 hM17) (ra_108_25 hM17) rfl ?_
              refine iq_iload hS 140 J_MSquareRows_mends_d138 l21 rfl ?_
              obtain ⟨g140, h⟩ := ed_gd h
              refine iq_iaload hS 141 J_MSquareRows_mends_d140 ⟨(ka_126 hM17).1, (ka_126 hM17).2, g140.1, ix_lt (kl_126 hM17) g140.2⟩ rfl ?_
              obtain ⟨g141, h⟩ := ed_gd h
              refine iq_iaload hS 142 J_MSquareRows_mends_d141 ⟨(ka_122 hM17).1, (ka_122 hM17).2, g141.1, ix_lt (kl_122 hM17) g141.2⟩ rfl ?_
              refine iq_aload_n hS 143 J_MSquareRows_mends_d142 l18 rfl ?_
              refine iq_getR hS 146 J_MSquareRows_mends_d143 lf_16_58 (Or.inr ⟨_, rfl⟩) (ka_108 hM17) (ra_108_24 hM17) rfl ?_
              refine iq_iload hS 148 J_MSquareRows_mends_d146 l21 rfl ?_
              obtain ⟨g148, h⟩ := ed_gd h
              refine iq_iaload hS 149 J_MSquareRows_mends_d148 ⟨(ka_125 hM17).1, (ka_125 hM17).2, g148.1, ix_lt (kl_125 hM17) g148.2⟩ rfl ?_
              refine iq_ixor hS 150 J_MSquareRows_mends_d149 rfl ?_
              obtain ⟨g150, h⟩ := ed_gd h
              refine iq_iastore hS 151 J_MSquareRows_mends_d150 ⟨(ka_122 hM17).1, (ka_122 hM17).2, g150.1, ix_lt (kl_122 hM17) g150.2⟩ rfl ?_
              refine iq_iload_n hS 152 J_MSquareRows_mends_d151 l20 rfl ?_
              obtain ⟨Q22, hQ22, h⟩ := bd1_ed h
              have J22 : ∀ (y27 : Int32) (L' : List (Nat × Value)), im_lk L' 0 = some (.ref 108) → im_lk L' 1 = some (.int p0) → im_lk L' 4 = some (.int x16) → Q22 y27 → ia (tb_G L xs) (dep + 3) J_MSquareRows_mends (rwI w Q) (170, L', [.int y27], (im_setI M17 122 (Int32.toNatClampNeg (im_i M17 126 (Int32.toNatClampNeg x16))) ((im_i M17 122 (Int32.toNatClampNeg (im_i M17 126 (Int32.toNatClampNeg x16)))) ^^^ (im_i M17 125 (Int32.toNatClampNeg x16))))) := by
                intro y27 L' l28 l29 l30 h
                replace h := hQ22 _ h
                refine iq_istore_n hS 171 J_MSquareRows_mends_d170 (by decide) rfl ?_
                refine iq_iincv hS 174 J_MSquareRows_mends_d171 (c := 1) (by decide +kernel) (lk_1i l30 (by decide)) (by decide) rfl ?_
                refine iq_goto hS J_MSquareRows_mends_d174 (t := 113) rfl ?_
                exact ih _ _ _ _ (lw_sI hM17) (lk_1r (lk_1r l28 (by decide)) (by decide)) (lk_1i (lk_1i l29 (by decide)) (by decide)) (lk_1i lk_1s (by decide)) lk_1s (lq_l h)
              obtain ⟨k23, Q23, hQ23, hk23, h⟩ := jn0_ed h
              have J23 : ∀  (L' : List (Nat × Value)), im_lk L' 0 = some (.ref 108) → im_lk L' 1 = some (.int p0) → im_lk L' 4 = some (.int x16) → Q23 () → ia (tb_G L xs) (dep + 3) J_MSquareRows_mends (rwI w Q) (169, L', [], (im_setI M17 122 (Int32.toNatClampNeg (im_i M17 126 (Int32.toNatClampNeg x16))) ((im_i M17 122 (Int32.toNatClampNeg (im_i M17 126 (Int32.toNatClampNeg x16)))) ^^^ (im_i M17 125 (Int32.toNatClampNeg x16))))) := by
                intro  L' l24 l25 l26 h
                replace h := hQ23  h
                refine iq_iconst hS 170 J_MSquareRows_mends_d169 (v := 0) (by decide +kernel) rfl ?_
                exact J22 _ _ l24 l25 l26 (ed_some h)
              refine iq_if_eq hS 155 J_MSquareRows_mends_d152 (t := 169) rfl (fun q152 => ?_) rfl (fun q152 => ?_)
              · replace h := ed_pos q152 h
                exact J23  _ l18 l19 l21 (hk23  h)
              · replace h := ed_neg q152 h
                refine iq_aload_n hS 156 J_MSquareRows_mends_d155 l18 rfl ?_
                refine iq_getR hS 159 J_MSquareRows_mends_d156 lf_16_58 (Or.inr ⟨_, rfl⟩) (ka_108 (lw_sI hM17)) (ra_108_24 (lw_sI hM17)) rfl ?_
                refine iq_iload hS 161 J_MSquareRows_mends_d159 l21 rfl ?_
                obtain ⟨g161, h⟩ := ed_gd h
                refine iq_iaload hS 162 J_MSquareRows_mends_d161 ⟨(ka_125 (lw_sI hM17)).1, (ka_125 (lw_sI hM17)).2, g161.1, ix_lt (kl_125 (lw_sI hM17)) g161.2⟩ rfl ?_
                refine iq_if_eq hS 165 J_MSquareRows_mends_d162 (t := 169) rfl (fun q162 => ?_) rfl (fun q162 => ?_)
                · replace h := ed_pos q162 h
                  exact J23  _ l18 l19 l21 (hk23  h)
                · replace h := ed_neg q162 h
                  refine iq_iconst hS 166 J_MSquareRows_mends_d165 (v := 1) (by decide +kernel) rfl ?_
                  refine iq_goto hS J_MSquareRows_mends_d166 (t := 170) rfl ?_
                  exact J22 _ _ l18 l19 l21 (ed_some h)
        exact I11 n11 _ _ _ _ hM8 (lk_1r (lk_1r l9 (by decide)) (by decide)) (lk_1i (lk_1i l10 (by decide)) (by decide)) (lk_1i lk_1s (by decide)) lk_1s hn11
      obtain ⟨r7, hr7, hq7⟩ := h
      obtain ⟨n7, hn7⟩ := lp_n hr7
      have I7 : ∀ (n : Nat) (x31 : Int32) (M32 : im_M) (L' : List (Nat × Value)), lw_S w M32 → im_lk L' 0 = some (.ref 108) → im_lk L' 1 = some (.int p0) → im_lk L' 2 = some (.int p1) → im_lk L' 3 = some (.int x31) → lpn (uc2 (f_MSquareRows_mends_L85 p0 p1)) n (x31, M32) = some r7 → ia (tb_G L xs) (dep + 3) J_MSquareRows_mends (rwI w Q) (85, L', [], M32) := by
        intro n
        induction n with
        | zero => intro x31 M32 L' hM32 l33 l34 l35 l36 hn; exact (lpn_0 hn).elim
        | succ n ih =>
          intro x31 M32 L' hM32 l33 l34 l35 l36 hn
          have h := lpn_ed2 hn
          unfold f_MSquareRows_mends_L85 at h
          refine iq_iload_n hS 86 J_MSquareRows_mends_d85 l36 rfl ?_
          refine iq_iload_n hS 87 J_MSquareRows_mends_d86 l35 rfl ?_
          refine iq_icmp_ge hS 90 J_MSquareRows_mends_d87 (t := 108) rfl (fun q87 => ?_) rfl (fun q87 => ?_)
          · replace h := ed_pos q87 h
            exact K7 _ _ hM32 l33 l34 (lq_r h hq7)
          · replace h := ed_neg q87 h
            refine iq_aload_n hS 91 J_MSquareRows_mends_d90 l33 rfl ?_
            refine iq_getR hS 94 J_MSquareRows_mends_d91 lf_16_49 (Or.inr ⟨_, rfl⟩) (ka_108 hM32) (ra_108_21 hM32) rfl ?_
            refine iq_iload_n hS 95 J_MSquareRows_mends_d94 l36 rfl ?_
            refine iq_aload_n hS 96 J_MSquareRows_mends_d95 l33 rfl ?_
            refine iq_getR hS 99 J_MSquareRows_mends_d96 lf_16_46 (Or.inr ⟨_, rfl⟩) (ka_108 hM32) (ra_108_20 hM32) rfl ?_
            refine iq_iload_n hS 100 J_MSquareRows_mends_d99 l36 rfl ?_
            obtain ⟨g100, h⟩ := ed_gd h
            refine iq_iaload hS 101 J_MSquareRows_mends_d100 ⟨(ka_121 hM32).1, (ka_121 hM32).2, g100.1, ix_lt (kl_121 hM32) g100.2⟩ rfl ?_
            obtain ⟨g101, h⟩ := ed_gd h
            refine iq_iastore hS 102 J_MSquareRows_mends_d101 ⟨(ka_122 hM32).1, (ka_122 hM32).2, g101.1, ix_lt (kl_122 hM32) g101.2⟩ rfl ?_
            refine iq_iincv hS 105 J_MSquareRows_mends_d102 (c := 1) (by decide +kernel) l36 (by decide) rfl ?_
            refine iq_goto hS J_MSquareRows_mends_d105 (t := 85) rfl ?_
            exact ih _ _ _ (lw_sI hM32) (lk_1r l33 (by decide)) (lk_1i l34 (by decide)) (lk_1i l35 (by decide)) lk_1s (lq_l h)
      exact I7 n7 _ _ _ hM6 (lk_1r l3 (by decide)) (lk_1i l4 (by decide)) (lk_1i l5 (by decide)) lk_1s hn7
    · replace h := ed_neg q78 h
      refine iq_iconst hS 82 J_MSquareRows_mends_d81 (v := 0) (by decide +kernel) rfl ?_
      exact iq_iret J_MSquareRows_mends_d82 rfl rfl ⟨_, rfl, hM6, ed_some h⟩
  obtain ⟨r1, hr1, hq1⟩ := h
  obtain ⟨n1, hn1⟩ := lp_n hr1
  have I1 : ∀ (n : Nat) (x37 : Int32) (M38 : im_M) (L' : List (Nat × Value)), lw_S w M38 → im_lk L' 0 = some (.ref 108) → im_lk L' 1 = some (.int p0) → im_lk L' 2 = some (.int p1) → im_lk L' 3 = some (.int x37) → lpn (uc2 (f_MSquareRows_mends_L2 p0 p1)) n (x37, M38) = some r1 → ia (tb_G L xs) (dep + 3) J_MSquareRows_mends (rwI w Q) (2, L', [], M38) := by
    intro n
    induction n with
    | zero => intro x37 M38 L' hM38 l39 l40 l41 l42 hn; exact (lpn_0 hn).elim
    | succ n ih =>
      intro x37 M38 L' hM38 l39 l40 l41 l42 hn
      have h := lpn_ed2 hn
      unfold f_MSquareRows_mends_L2 at h
      refine iq_iload_n hS 3 J_MSquareRows_mends_d2 l42 rfl ?_
      refine iq_iload_n hS 4 J_MSquareRows_mends_d3 l40 rfl ?_
      refine iq_icmp_ge hS 7 J_MSquareRows_mends_d4 (t := 73) rfl (fun q4 => ?_) rfl (fun q4 => ?_)
      · replace h := ed_pos q4 h
        exact K1 _ _ hM38 l39 l40 l41 (lq_r h hq1)
      · replace h := ed_neg q4 h
        refine iq_iconst hS 8 J_MSquareRows_mends_d7 (v := 0) (by decide +kernel) rfl ?_
        refine iq_istore hS 10 J_MSquareRows_mends_d8 (by decide) rfl ?_
        obtain ⟨Q43, hQ43, h⟩ := bd1_ed h
        have K43 : ∀ (M44 : im_M) (L' : List (Nat × Value)), lw_S w M44 → im_lk L' 0 = some (.ref 108) → im_lk L' 1 = some (.int p0) → im_lk L' 2 = some (.int p1) → im_lk L' 3 = some (.int x37) → Q43 M44 → ia (tb_G L xs) (dep + 3) J_MSquareRows_mends (rwI w Q) (50, L', [], M44) := by
          intro M44 L' hM44 l45 l46 l47 l48 h
          replace h := hQ43 _ h
          refine iq_aload_n hS 51 J_MSquareRows_mends_d50 l45 rfl ?_
          refine iq_getR hS 54 J_MSquareRows_mends_d51 lf_16_55 (Or.inr ⟨_, rfl⟩) (ka_108 hM44) (ra_108_23 hM44) rfl ?_
          refine iq_bipush hS 56 J_MSquareRows_mends_d54 (v := 17) (by decide +kernel) rfl ?_
          refine iq_iload_n hS 57 J_MSquareRows_mends_d56 l48 rfl ?_
          refine iq_imul hS 58 J_MSquareRows_mends_d57 rfl ?_
          refine iq_iload_n hS 59 J_MSquareRows_mends_d58 l46 rfl ?_
          refine iq_iadd hS 60 J_MSquareRows_mends_d59 rfl ?_
          refine iq_aload_n hS 61 J_MSquareRows_mends_d60 l45 rfl ?_
          refine iq_getR hS 64 J_MSquareRows_mends_d61 lf_16_52 (Or.inr ⟨_, rfl⟩) (ka_108 hM44) (ra_108_22 hM44) rfl ?_
          refine iq_iload_n hS 65 J_MSquareRows_mends_d64 l48 rfl ?_
          obtain ⟨g65, h⟩ := ed_gd h
          refine iq_iaload hS 66 J_MSquareRows_mends_d65 ⟨(ka_123 hM44).1, (ka_123 hM44).2, g65.1, ix_lt (kl_123 hM44) g65.2⟩ rfl ?_
          obtain ⟨g66, h⟩ := ed_gd h
          refine iq_iastore hS 67 J_MSquareRows_mends_d66 ⟨(ka_124 hM44).1, (ka_124 hM44).2, g66.1, ix_lt (kl_124 hM44) g66.2⟩ rfl ?_
          refine iq_iincv hS 70 J_MSquareRows_mends_d67 (c := 1) (by decide +kernel) l48 (by decide) rfl ?_
          refine iq_goto hS J_MSquareRows_mends_d70 (t := 2) rfl ?_
          exact ih _ _ _ (lw_sI hM44) (lk_1r l45 (by decide)) (lk_1i l46 (by decide)) (lk_1i l47 (by decide)) lk_1s (lq_l h)
        obtain ⟨r43, hr43, hq43⟩ := h
        obtain ⟨n43, hn43⟩ := lp_n hr43
        have I43 : ∀ (n : Nat) (x49 : Int32) (M50 : im_M) (L' : List (Nat × Value)), lw_S w M50 → im_lk L' 0 = some (.ref 108) → im_lk L' 1 = some (.int p0) → im_lk L' 2 = some (.int p1) → im_lk L' 3 = some (.int x37) → im_lk L' 4 = some (.int x49) → lpn (uc2 (f_MSquareRows_mends_L10 p0 p1 x37)) n (x49, M50) = some r43 → ia (tb_G L xs) (dep + 3) J_MSquareRows_mends (rwI w Q) (10, L', [], M50) := by
          intro n
          induction n with
          | zero => intro x49 M50 L' hM50 l51 l52 l53 l54 l55 hn; exact (lpn_0 hn).elim
          | succ n ih =>
            intro x49 M50 L' hM50 l51 l52 l53 l54 l55 hn
            have h := lpn_ed2 hn
            unfold f_MSquareRows_mends_L10 at h
            refine iq_iload hS 12 J_MSquareRows_mends_d10 l55 rfl ?_
            refine iq_iload_n hS 13 J_MSquareRows_mends_d12 l52 rfl ?_
            refine iq_icmp_ge hS 16 J_MSquareRows_mends_d13 (t := 50) rfl (fun q13 => ?_) rfl (fun q13 => ?_)
            · replace h := ed_pos q13 h
              exact K43 _ _ hM50 l51 l52 l53 l54 (lq_r h hq43)
            · replace h := ed_neg q13 h
              refine iq_aload_n hS 17 J_MSquareRows_mends_d16 l51 rfl ?_
              refine iq_getR hS 20 J_MSquareRows_mends_d17 lf_16_55 (Or.inr ⟨_, rfl⟩) (ka_108 hM50) (ra_108_23 hM50) rfl ?_
              refine iq_bipush hS 22 J_MSquareRows_mends_d20 (v := 17) (by decide +kernel) rfl ?_
              refine iq_iload_n hS 23 J_MSquareRows_mends_d22 l54 rfl ?_
              refine iq_imul hS 24 J_MSquareRows_mends_d23 rfl ?_
              refine iq_iload hS 26 J_MSquareRows_mends_d24 l55 rfl ?_
              refine iq_iadd hS 27 J_MSquareRows_mends_d26 rfl ?_
              refine iq_iload_n hS 28 J_MSquareRows_mends_d27 l53 rfl ?_
              refine iq_iconst hS 29 J_MSquareRows_mends_d28 (v := 1) (by decide +kernel) rfl ?_
              refine iq_isub hS 30 J_MSquareRows_mends_d29 rfl ?_
              refine iq_aload_n hS 31 J_MSquareRows_mends_d30 l51 rfl ?_
              refine iq_getR hS 34 J_MSquareRows_mends_d31 lf_16_61 (Or.inr ⟨_, rfl⟩) (ka_108 hM50) (ra_108_25 hM50) rfl ?_
              refine iq_iload hS 36 J_MSquareRows_mends_d34 l55 rfl ?_
              obtain ⟨g36, h⟩ := ed_gd h
              refine iq_iaload hS 37 J_MSquareRows_mends_d36 ⟨(ka_126 hM50).1, (ka_126 hM50).2, g36.1, ix_lt (kl_126 hM50) g36.2⟩ rfl ?_
              refine iq_isub hS 38 J_MSquareRows_mends_d37 rfl ?_
              refine iq_iload_n hS 39 J_MSquareRows_mends_d38 l54 rfl ?_
              refine iq_imul hS 40 J_MSquareRows_mends_d39 rfl ?_
              obtain ⟨Q56, hQ56, h⟩ := bd1_ed h
              refine iq_cpI hS 43 J_MSquareRows_mends_d40 rfl (pr_stat (vs := [_]) lc_16_144 lT_410 rfl rfl (by decide) rfl (Nat.le_of_ble_eq_true rfl) (Nat.le_of_ble_eq_true rfl)) (f_MSquareRows_two_ok (dep := dep + 2) hM50 h) rfl ?_
              intro x56 h
              replace h := hQ56 _ h
              obtain ⟨g43, h⟩ := ed_gd h
              refine iq_iastore hS 44 J_MSquareRows_mends_d43 ⟨(ka_124 hM50).1, (ka_124 hM50).2, g43.1, ix_lt (kl_124 hM50) g43.2⟩ rfl ?_
              refine iq_iincv hS 47 J_MSquareRows_mends_d44 (c := 1) (by decide +kernel) l55 (by decide) rfl ?_
              refine iq_goto hS J_MSquareRows_mends_d47 (t := 10) rfl ?_
              exact ih _ _ _ (lw_sI hM50) (lk_1r l51 (by decide)) (lk_1i l52 (by decide)) (lk_1i l53 (by decide)) (lk_1i l54 (by decide)) lk_1s (lq_l h)
        exact I43 n43 _ _ _ hM38 (lk_1r l39 (by decide)) (lk_1i l40 (by decide)) (lk_1i l41 (by decide)) (lk_1i l42 (by decide)) lk_1s hn43
  exact I1 n1 _ _ _ hM (lk_1r l0 (by decide)) (lk_1i l1 (by decide)) (lk_1i l2 (by decide)) lk_1s hn1
theorem f_MSquareRows_mends_fr {p0 : Int32} {p1 : Int32} {M : im_M} {r : Int32 × im_M} (h : f_MSquareRows_mends p0 p1 M = some r) : fr 69119855780815625390997967134577917952 [] M r.2 := by
  replace h : ed (f_MSquareRows_mends p0 p1 M) (fun x => x = r) := ⟨r, h, rfl⟩
  unfold f_MSquareRows_mends at h
  obtain ⟨Q1, hQ1, h⟩ := bd1_ed h
  have K1 : ∀ (M2 : im_M), fr 69119855780815625390997967134577917952 [] M M2 → Q1 M2 → fr 69119855780815625390997967134577917952 [] M r.2 := by
    intro M2 hM2 h
    replace h := hQ1 _ h
    obtain ⟨Q3, hQ3, h⟩ := bd2_ed h
    obtain ⟨⟨x3, M3⟩, e3, h⟩ := h
    replace h := hQ3 _ _ h
    by_cases q78 : ¬ x3 = 0
    · replace h := ed_pos q78 h
      obtain ⟨Q4, hQ4, h⟩ := bd1_ed h
      have K4 : ∀ (M5 : im_M), fr 69119855780815625390997967134577917952 [] M M5 → Q4 M5 → fr 69119855780815625390997967134577917952 [] M r.2 := by
        intro M5 hM5 h
        replace h := hQ4 _ h
        obtain ⟨Q6, hQ6, h⟩ := bd2_ed h
        have K6 : ∀ (y7 : Int32) (M8 : im_M), fr 69119855780815625390997967134577917952 [] M M8 → Q6 (y7, M8) → fr 69119855780815625390997967134577917952 [] M r.2 := by
          intro y7 M8 hM8 h
          replace h := hQ6 _ _ h
          obtain ⟨g178, h⟩ := ed_gd h
          exact fr_ret h hM8
        obtain ⟨r6, hr6, hq6⟩ := h
        obtain ⟨n6, hn6⟩ := lp_n hr6
        have I6 : ∀ (n : Nat) (x9 : Int32) (x10 : Int32) (M11 : im_M), fr 69119855780815625390997967134577917952 [] M M11 → lpn (uc3 (f_MSquareRows_mends_L113 p0)) n (x9, x10, M11) = some r6 → fr 69119855780815625390997967134577917952 [] M r.2 := by
          intro n
          induction n with
          | zero => intro x9 x10 M11 hM11 hn; exact (lpn_0 hn).elim
          | succ n ih =>
            intro x9 x10 M11 hM11 hn
            have h := lpn_ed3 hn
            unfold f_MSquareRows_mends_L113 at h
            by_cases q116 : p0 ≤ x10
            · replace h := ed_pos q116 h
              exact K6 _ _ hM11 (lq_r h hq6)
            · replace h := ed_neg q116 h
              obtain ⟨g129, h⟩ := ed_gd h
              obtain ⟨g140, h⟩ := ed_gd h
              obtain ⟨g141, h⟩ := ed_gd h
              obtain ⟨g148, h⟩ := ed_gd h
              obtain ⟨g150, h⟩ := ed_gd h
              obtain ⟨Q12, hQ12, h⟩ := bd1_ed h
              have J12 : ∀ (y17 : Int32), Q12 y17 → fr 69119855780815625390997967134577917952 [] M r.2 := by
                intro y17 h
                replace h := hQ12 _ h
                exact ih _ _ _ (fr_I (by decide) hM11) (lq_l h)
              obtain ⟨k13, Q13, hQ13, hk13, h⟩ := jn0_ed h
              have J13 : Q13 () → fr 69119855780815625390997967134577917952 [] M r.2 := by
                intro  h
                replace h := hQ13  h
                exact J12 _ (ed_some h)
              by_cases q152 : x9 = 0
              · replace h := ed_pos q152 h
                exact J13  (hk13  h)
              · replace h := ed_neg q152 h
                obtain ⟨g161, h⟩ := ed_gd h
                by_cases q162 : (im_i (im_setI M11 122 (Int32.toNatClampNeg (im_i M11 126 (Int32.toNatClampNeg x10))) ((im_i M11 122 (Int32.toNatClampNeg (im_i M11 126 (Int32.toNatClampNeg x10)))) ^^^ (im_i M11 125 (Int32.toNatClampNeg x10)))) 125 (Int32.toNatClampNeg x10)) = 0
                · replace h := ed_pos q162 h
                  exact J13  (hk13  h)
                · replace h := ed_neg q162 h
                  exact J12 _ (ed_some h)
        exact I6 n6 _ _ _ hM5 hn6
      obtain ⟨r4, hr4, hq4⟩ := h
      obtain ⟨n4, hn4⟩ := lp_n hr4
      have I4 : ∀ (n : Nat) (x21 : Int32) (M22 : im_M), fr 69119855780815625390997967134577917952 [] M M22 → lpn (uc2 (f_MSquareRows_mends_L85 p0 p1)) n (x21, M22) = some r4 → fr 69119855780815625390997967134577917952 [] M r.2 := by
        intro n
        induction n with
        | zero => intro x21 M22 hM22 hn; exact (lpn_0 hn).elim
        | succ n ih =>
          intro x21 M22 hM22 hn
          have h := lpn_ed2 hn
          unfold f_MSquareRows_mends_L85 at h
          by_cases q87 : p1 ≤ x21
          · replace h := ed_pos q87 h
            exact K4 _ hM22 (lq_r h hq4)
          · replace h := ed_neg q87 h
            obtain ⟨g100, h⟩ := ed_gd h
            obtain ⟨g101, h⟩ := ed_gd h
            exact ih _ _ (fr_I (by decide) hM22) (lq_l h)
      exact I4 n4 _ _ (fr_tr (fr_mono (by decide) (by decide +kernel) (f_MSquareRows_solves_fr e3)) hM2) hn4
    · replace h := ed_neg q78 h
      exact fr_ret h (fr_tr (fr_mono (by decide) (by decide +kernel) (f_MSquareRows_solves_fr e3)) hM2)
  obtain ⟨r1, hr1, hq1⟩ := h
  obtain ⟨n1, hn1⟩ := lp_n hr1
  have I1 : ∀ (n : Nat) (x23 : Int32) (M24 : im_M), fr 69119855780815625390997967134577917952 [] M M24 → lpn (uc2 (f_MSquareRows_mends_L2 p0 p1)) n (x23, M24) = some r1 → fr 69119855780815625390997967134577917952 [] M r.2 := by
    intro n
    induction n with
    | zero => intro x23 M24 hM24 hn; exact (lpn_0 hn).elim
    | succ n ih =>
      intro x23 M24 hM24 hn
      have h := lpn_ed2 hn
      unfold f_MSquareRows_mends_L2 at h
      by_cases q4 : p0 ≤ x23
      · replace h := ed_pos q4 h
        exact K1 _ hM24 (lq_r h hq1)
      · replace h := ed_neg q4 h
        obtain ⟨Q25, hQ25, h⟩ := bd1_ed h
        have K25 : ∀ (M26 : im_M), fr 69119855780815625390997967134577917952 [] M M26 → Q25 M26 → fr 69119855780815625390997967134577917952 [] M r.2 := by
          intro M26 hM26 h
          replace h := hQ25 _ h
          obtain ⟨g65, h⟩ := ed_gd h
          obtain ⟨g66, h⟩ := ed_gd h
          exact ih _ _ (fr_I (by decide) hM26) (lq_l h)
        obtain ⟨r25, hr25, hq25⟩ := h
        obtain ⟨n25, hn25⟩ := lp_n hr25
        have I25 : ∀ (n : Nat) (x27 : Int32) (M28 : im_M), fr 69119855780815625390997967134577917952 [] M M28 → lpn (uc2 (f_MSquareRows_mends_L10 p0 p1 x23)) n (x27, M28) = some r25 → fr 69119855780815625390997967134577917952 [] M r.2 := by
          intro n
          induction n with
          | zero => intro x27 M28 hM28 hn; exact (lpn_0 hn).elim
          | succ n ih =>
            intro x27 M28 hM28 hn
            have h := lpn_ed2 hn
            unfold f_MSquareRows_mends_L10 at h
            by_cases q13 : p0 ≤ x27
            · replace h := ed_pos q13 h
              exact K25 _ hM28 (lq_r h hq25)
            · replace h := ed_neg q13 h
              obtain ⟨g36, h⟩ := ed_gd h
              obtain ⟨Q29, hQ29, h⟩ := bd1_ed h
              obtain ⟨x29, e29, h⟩ := h
              replace h := hQ29 _ h
              obtain ⟨g43, h⟩ := ed_gd h
              exact ih _ _ (fr_I (by decide) hM28) (lq_l h)
        exact I25 n25 _ _ hM24 hn25
  exact I1 n1 _ _ fr_refl hn1
noncomputable def f_MSquareRows_isZero_1_L25 (v9 : Int32) (v10 : Int32) (v11 : Int32) (v12 : Int32) (v13 : Int32) (M16 : im_M) (x14 : Int32) (x15 : Int32) : Option ((Int32 × Int32) ⊕ (Int32)) := if v9 ≤ x15 then some (.inr x14) else bd1 (f_MSquareRows_times x14 v13 M16) fun (x17 : Int32) => gd (inb x15 256) <| some (.inl ((x17 ^^^ (im_i M16 122 (Int32.toNatClampNeg x15))), (x15 + 1)))
noncomputable def f_MSquareRows_isZero_1_L6 (v2 : Int32) (v3 : Int32) (x4 : Int32) (x5 : Int32) (M6 : im_M) : Option ((Int32 × Int32 × im_M) ⊕ (Int32 × im_M)) := if v3 ≤ x5 then some (.inr (x4, M6)) else bd1 (f_MSquareRows_two x5 M6) fun (x7 : Int32) => bd1 (lp (uc2 (f_MSquareRows_isZero_1_L25 v2 v3 x4 x5 x7 M6)) (0, 0)) fun (y18 : Int32) => gd (inb x5 32) <| some (.inl (((if x4 = 0 then 0 else (if ¬ y18 = 0 then 0 else 1)) : Int32), (x5 + 1), (im_setI M6 123 (Int32.toNatClampNeg x5) y18)))
noncomputable def f_MSquareRows_isZero_1 (p1 : Int32) (p2 : Int32) (M : im_M) : Option (Int32 × im_M) := bd2 (lp (uc3 (f_MSquareRows_isZero_1_L6 p1 p2)) (1, 0, M)) fun (y20 : Int32) (M21 : im_M) => gd (y20 = 0 ∨ y20 = 1) <| some (y20, M21)
theorem f_MSquareRows_isZero_1_ok {L : Nat} {xs : Nat → Int32} {dep : Nat} {w : Bool} {p1 : Int32} {p2 : Int32} {M : im_M} {Q : Int32 × im_M → Prop} (hM : lw_S w M) (h : ed (f_MSquareRows_isZero_1 p1 p2 M) Q) : ia (tb_G L xs) (dep + 1) J_MSquareRows_isZero (rwI w Q) (0, lv_args 0 [.ref 108, .ref 122, .int p1, .int p2], [], M) := by
  have hS : im_St (tb_G L xs) (dep + 1) J_MSquareRows_isZero (ia (tb_G L xs) (dep + 1) J_MSquareRows_isZero (rwI w Q)) := ia_St
  unfold f_MSquareRows_isZero_1 at h
  have l0 : im_lk (lv_args 0 [.ref 108, .ref 122, .int p1, .int p2]) 0 = some (.ref 108) := rfl
  have l1 : im_lk (lv_args 0 [.ref 108, .ref 122, .int p1, .int p2]) 1 = some (.ref 122) := rfl
  have l2 : im_lk (lv_args 0 [.ref 108, .ref 122, .int p1, .int p2]) 2 = some (.int p1) := rfl
  have l3 : im_lk (lv_args 0 [.ref 108, .ref 122, .int p1, .int p2]) 3 = some (.int p2) := rfl
  refine iq_iconst hS 1 J_MSquareRows_isZero_d0 (v := 1) (by decide +kernel) rfl ?_
  refine iq_istore hS 3 J_MSquareRows_isZero_d1 (by decide) rfl ?_
  refine iq_iconst hS 4 J_MSquareRows_isZero_d3 (v := 0) (by decide +kernel) rfl ?_
  refine iq_istore hS 6 J_MSquareRows_isZero_d4 (by decide) rfl ?_
  obtain ⟨Q1, hQ1, h⟩ := bd2_ed h
  have K1 : ∀ (y2 : Int32) (M3 : im_M) (L' : List (Nat × Value)), lw_S w M3 → im_lk L' 4 = some (.int y2) → Q1 (y2, M3) → ia (tb_G L xs) (dep + 1) J_MSquareRows_isZero (rwI w Q) (83, L', [], M3) := by
    intro y2 M3 L' hM3 l4 h
    replace h := hQ1 _ _ h
    refine iq_iload hS 85 J_MSquareRows_isZero_d83 l4 rfl ?_
    obtain ⟨g85, h⟩ := ed_gd h
    exact iq_iret J_MSquareRows_isZero_d85 rfl (nar_z g85) ⟨_, rfl, hM3, ed_some h⟩
  obtain ⟨r1, hr1, hq1⟩ := h
  obtain ⟨n1, hn1⟩ := lp_n hr1
  have I1 : ∀ (n : Nat) (x5 : Int32) (x6 : Int32) (M7 : im_M) (L' : List (Nat × Value)), lw_S w M7 → im_lk L' 0 = some (.ref 108) → im_lk L' 1 = some (.ref 122) → im_lk L' 2 = some (.int p1) → im_lk L' 3 = some (.int p2) → im_lk L' 4 = some (.int x5) → im_lk L' 5 = some (.int x6) → lpn (uc3 (f_MSquareRows_isZero_1_L6 p1 p2)) n (x5, x6, M7) = some r1 → ia (tb_G L xs) (dep + 1) J_MSquareRows_isZero (rwI w Q) (6, L', [], M7) := by
    intro n
    induction n with
    | zero => intro x5 x6 M7 L' hM7 l8 l9 l10 l11 l12 l13 hn; exact (lpn_0 hn).elim
    | succ n ih =>
      intro x5 x6 M7 L' hM7 l8 l9 l10 l11 l12 l13 hn
      have h := lpn_ed3 hn
      unfold f_MSquareRows_isZero_1_L6 at h
      refine iq_iload hS 8 J_MSquareRows_isZero_d6 l13 rfl ?_
      refine iq_iload_n hS 9 J_MSquareRows_isZero_d8 l11 rfl ?_
      refine iq_icmp_ge hS 12 J_MSquareRows_isZero_d9 (t := 83) rfl (fun q9 => ?_) rfl (fun q9 => ?_)
      · replace h := ed_pos q9 h
        exact K1 _ _ _ hM7 l12 (lq_r h hq1)
      · replace h := ed_neg q9 h
        refine iq_iload hS 14 J_MSquareRows_isZero_d12 l13 rfl ?_
        obtain ⟨Q14, hQ14, h⟩ := bd1_ed h
        refine iq_cpI hS 17 J_MSquareRows_isZero_d14 rfl (pr_stat (vs := [_]) lc_16_144 lT_410 rfl rfl (by decide) rfl (Nat.le_of_ble_eq_true rfl) (Nat.le_of_ble_eq_true rfl)) (f_MSquareRows_two_ok (dep := dep + 0) hM7 h) rfl ?_
        intro x14 h
        replace h := hQ14 _ h
        refine iq_istore hS 19 J_MSquareRows_isZero_d17 (by decide) rfl ?_
        refine iq_iconst hS 20 J_MSquareRows_isZero_d19 (v := 0) (by decide +kernel) rfl ?_
        refine iq_istore hS 22 J_MSquareRows_isZero_d20 (by decide) rfl ?_
        refine iq_iconst hS 23 J_MSquareRows_isZero_d22 (v := 0) (by decide +kernel) rfl ?_
        refine iq_istore hS 25 J_MSquareRows_isZero_d23 (by decide) rfl ?_
        obtain ⟨Q15, hQ15, h⟩ := bd1_ed h
        have K15 : ∀ (y16 : Int32) (L' : List (Nat × Value)), im_lk L' 0 = some (.ref 108) → im_lk L' 1 = some (.ref 122) → im_lk L' 2 = some (.int p1) → im_lk L' 3 = some (.int p2) → im_lk L' 4 = some (.int x5) → im_lk L' 5 = some (.int x6) → im_lk L' 7 = some (.int y16) → Q15 y16 → ia (tb_G L xs) (dep + 1) J_MSquareRows_isZero (rwI w Q) (51, L', [], M7) := by
          intro y16 L' l17 l18 l19 l20 l21 l22 l23 h
          replace h := hQ15 _ h
          refine iq_aload_n hS 52 J_MSquareRows_isZero_d51 l17 rfl ?_
          refine iq_getR hS 55 J_MSquareRows_isZero_d52 lf_16_52 (Or.inr ⟨_, rfl⟩) (ka_108 hM7) (ra_108_22 hM7) rfl ?_
          refine iq_iload hS 57 J_MSquareRows_isZero_d55 l22 rfl ?_
          refine iq_iload hS 59 J_MSquareRows_isZero_d57 l23 rfl ?_
          obtain ⟨g59, h⟩ := ed_gd h
          refine iq_iastore hS 60 J_MSquareRows_isZero_d59 ⟨(ka_123 hM7).1, (ka_123 hM7).2, g59.1, ix_lt (kl_123 hM7) g59.2⟩ rfl ?_
          refine iq_iload hS 62 J_MSquareRows_isZero_d60 l21 rfl ?_
          have J24 : ∀ (z25 : Int32) (L' : List (Nat × Value)), z25 = ((if x5 = 0 then 0 else (if ¬ y16 = 0 then 0 else 1)) : Int32) → im_lk L' 0 = some (.ref 108) → im_lk L' 1 = some (.ref 122) → im_lk L' 2 = some (.int p1) → im_lk L' 3 = some (.int p2) → im_lk L' 5 = some (.int x6) → ia (tb_G L xs) (dep + 1) J_MSquareRows_isZero (rwI w Q) (75, L', [.int z25], (im_setI M7 123 (Int32.toNatClampNeg x6) y16)) := by
            intro z25 L' e26 l27 l28 l29 l30 l31
            subst e26
            refine iq_istore hS 77 J_MSquareRows_isZero_d75 (by decide) rfl ?_
            refine iq_iincv hS 80 J_MSquareRows_isZero_d77 (c := 1) (by decide +kernel) (lk_1i l31 (by decide)) (by decide) rfl ?_
            refine iq_goto hS J_MSquareRows_isZero_d80 (t := 6) rfl ?_
            exact ih _ _ _ _ (lw_sI hM7) (lk_1r (lk_1r l27 (by decide)) (by decide)) (lk_1r (lk_1r l28 (by decide)) (by decide)) (lk_1i (lk_1i l29 (by decide)) (by decide)) (lk_1i (lk_1i l30 (by decide)) (by decide)) (lk_1i lk_1s (by decide)) lk_1s (lq_l h)
          refine iq_if_eq hS 65 J_MSquareRows_isZero_d62 (t := 74) rfl (fun q62 => ?_) rfl (fun q62 => ?_)
          · refine iq_iconst hS 75 J_MSquareRows_isZero_d74 (v := 0) (by decide +kernel) rfl ?_
            exact J24 _ _ (by simp only [if_pos q62]) l17 l18 l19 l20 l22
          · refine iq_iload hS 67 J_MSquareRows_isZero_d65 l23 rfl ?_
            refine iq_if_ne hS 70 J_MSquareRows_isZero_d67 (t := 74) rfl (fun q67 => ?_) rfl (fun q67 => ?_)
            · refine iq_iconst hS 75 J_MSquareRows_isZero_d74 (v := 0) (by decide +kernel) rfl ?_
              exact J24 _ _ (by simp only [if_neg q62, if_pos q67]) l17 l18 l19 l20 l22
            · refine iq_iconst hS 71 J_MSquareRows_isZero_d70 (v := 1) (by decide +kernel) rfl ?_
              refine iq_goto hS J_MSquareRows_isZero_d71 (t := 75) rfl ?_
              exact J24 _ _ (by simp only [if_neg q62, if_neg q67]) l17 l18 l19 l20 l22
        obtain ⟨r15, hr15, hq15⟩ := h
        obtain ⟨n15, hn15⟩ := lp_n hr15
        have I15 : ∀ (n : Nat) (x32 : Int32) (x33 : Int32) (L' : List (Nat × Value)), im_lk L' 0 = some (.ref 108) → im_lk L' 1 = some (.ref 122) → im_lk L' 2 = some (.int p1) → im_lk L' 3 = some (.int p2) → im_lk L' 4 = some (.int x5) → im_lk L' 5 = some (.int x6) → im_lk L' 6 = some (.int x14) → im_lk L' 7 = some (.int x32) → im_lk L' 8 = some (.int x33) → lpn (uc2 (f_MSquareRows_isZero_1_L25 p1 p2 x5 x6 x14 M7)) n (x32, x33) = some r15 → ia (tb_G L xs) (dep + 1) J_MSquareRows_isZero (rwI w Q) (25, L', [], M7) := by
          intro n
          induction n with
          | zero => intro x32 x33 L' l34 l35 l36 l37 l38 l39 l40 l41 l42 hn; exact (lpn_0 hn).elim
          | succ n ih =>
            intro x32 x33 L' l34 l35 l36 l37 l38 l39 l40 l41 l42 hn
            have h := lpn_ed2 hn
            unfold f_MSquareRows_isZero_1_L25 at h
            refine iq_iload hS 27 J_MSquareRows_isZero_d25 l42 rfl ?_
            refine iq_iload_n hS 28 J_MSquareRows_isZero_d27 l36 rfl ?_
            refine iq_icmp_ge hS 31 J_MSquareRows_isZero_d28 (t := 51) rfl (fun q28 => ?_) rfl (fun q28 => ?_)
            · replace h := ed_pos q28 h
              exact K15 _ _ l34 l35 l36 l37 l38 l39 l41 (lq_r h hq15)
            · replace h := ed_neg q28 h
              refine iq_iload hS 33 J_MSquareRows_isZero_d31 l41 rfl ?_
              refine iq_iload hS 35 J_MSquareRows_isZero_d33 l40 rfl ?_
              obtain ⟨Q43, hQ43, h⟩ := bd1_ed h
              refine iq_cpI hS 38 J_MSquareRows_isZero_d35 rfl (pr_stat (vs := [_, _]) lc_16_147 lT_411 rfl rfl (by decide) rfl (Nat.le_of_ble_eq_true rfl) (Nat.le_of_ble_eq_true rfl)) (f_MSquareRows_times_ok (dep := dep + 0) hM7 h) rfl ?_
              intro x43 h
              replace h := hQ43 _ h
              refine iq_aload_n hS 39 J_MSquareRows_isZero_d38 l35 rfl ?_
              refine iq_iload hS 41 J_MSquareRows_isZero_d39 l42 rfl ?_
              obtain ⟨g41, h⟩ := ed_gd h
              refine iq_iaload hS 42 J_MSquareRows_isZero_d41 ⟨(ka_122 hM7).1, (ka_122 hM7).2, g41.1, ix_lt (kl_122 hM7) g41.2⟩ rfl ?_
              refine iq_ixor hS 43 J_MSquareRows_isZero_d42 rfl ?_
              refine iq_istore hS 45 J_MSquareRows_isZero_d43 (by decide) rfl ?_
              refine iq_iincv hS 48 J_MSquareRows_isZero_d45 (c := 1) (by decide +kernel) (lk_1i l42 (by decide)) (by decide) rfl ?_
              refine iq_goto hS J_MSquareRows_isZero_d48 (t := 25) rfl ?_
              exact ih _ _ _ (lk_1r (lk_1r l34 (by decide)) (by decide)) (lk_1r (lk_1r l35 (by decide)) (by decide)) (lk_1i (lk_1i l36 (by decide)) (by decide)) (lk_1i (lk_1i l37 (by decide)) (by decide)) (lk_1i (lk_1i l38 (by decide)) (by decide)) (lk_1i (lk_1i l39 (by decide)) (by decide)) (lk_1i (lk_1i l40 (by decide)) (by decide)) (lk_1i lk_1s (by decide)) lk_1s (lq_l h)
        exact I15 n15 _ _ _ (lk_1r (lk_1r (lk_1r l8 (by decide)) (by decide)) (by decide)) (lk_1r (lk_1r (lk_1r l9 (by decide)) (by decide)) (by decide)) (lk_1i (lk_1i (lk_1i l10 (by decide)) (by decide)) (by decide)) (lk_1i (lk_1i (lk_1i l11 (by decide)) (by decide)) (by decide)) (lk_1i (lk_1i (lk_1i l12 (by decide)) (by decide)) (by decide)) (lk_1i (lk_1i (lk_1i l13 (by decide)) (by decide)) (by decide)) (lk_1i (lk_1i lk_1s (by decide)) (by decide)) (lk_1i lk_1s (by decide)) lk_1s hn15
  exact I1 n1 _ _ _ _ hM (lk_1r (lk_1r l0 (by decide)) (by decide)) (lk_1r (lk_1r l1 (by decide)) (by decide)) (lk_1i (lk_1i l2 (by decide)) (by decide)) (lk_1i (lk_1i l3 (by decide)) (by decide)) (lk_1i lk_1s (by decide)) lk_1s hn1
theorem f_MSquareRows_isZero_1_fr {p1 : Int32} {p2 : Int32} {M : im_M} {r : Int32 × im_M} (h : f_MSquareRows_isZero_1 p1 p2 M = some r) : fr 10633823966279326983230456482242756608 [] M r.2 := by
  replace h : ed (f_MSquareRows_isZero_1 p1 p2 M) (fun x => x = r) := ⟨r, h, rfl⟩
  unfold f_MSquareRows_isZero_1 at h
  obtain ⟨Q1, hQ1, h⟩ := bd2_ed h
  have K1 : ∀ (y2 : Int32) (M3 : im_M), fr 10633823966279326983230456482242756608 [] M M3 → Q1 (y2, M3) → fr 10633823966279326983230456482242756608 [] M r.2 := by
    intro y2 M3 hM3 h
    replace h := hQ1 _ _ h
    obtain ⟨g85, h⟩ := ed_gd h
    exact fr_ret h hM3
  obtain ⟨r1, hr1, hq1⟩ := h
  obtain ⟨n1, hn1⟩ := lp_n hr1
  have I1 : ∀ (n : Nat) (x4 : Int32) (x5 : Int32) (M6 : im_M), fr 10633823966279326983230456482242756608 [] M M6 → lpn (uc3 (f_MSquareRows_isZero_1_L6 p1 p2)) n (x4, x5, M6) = some r1 → fr 10633823966279326983230456482242756608 [] M r.2 := by
    intro n
    induction n with
    | zero => intro x4 x5 M6 hM6 hn; exact (lpn_0 hn).elim
    | succ n ih =>
      intro x4 x5 M6 hM6 hn
      have h := lpn_ed3 hn
      unfold f_MSquareRows_isZero_1_L6 at h
      by_cases q9 : p2 ≤ x5
      · replace h := ed_pos q9 h
        exact K1 _ _ hM6 (lq_r h hq1)
      · replace h := ed_neg q9 h
        obtain ⟨Q7, hQ7, h⟩ := bd1_ed h
        obtain ⟨x7, e7, h⟩ := h
        replace h := hQ7 _ h
        obtain ⟨Q8, hQ8, h⟩ := bd1_ed h
        have K8 : ∀ (y9 : Int32), Q8 y9 → fr 10633823966279326983230456482242756608 [] M r.2 := by
          intro y9 h
          replace h := hQ8 _ h
          obtain ⟨g59, h⟩ := ed_gd h
          exact ih _ _ _ (fr_I (by decide) hM6) (lq_l h)
        obtain ⟨r8, hr8, hq8⟩ := h
        obtain ⟨n8, hn8⟩ := lp_n hr8
        have I8 : ∀ (n : Nat) (x11 : Int32) (x12 : Int32), lpn (uc2 (f_MSquareRows_isZero_1_L25 p1 p2 x4 x5 x7 M6)) n (x11, x12) = some r8 → fr 10633823966279326983230456482242756608 [] M r.2 := by
          intro n
          induction n with
          | zero => intro x11 x12 hn; exact (lpn_0 hn).elim
          | succ n ih =>
            intro x11 x12 hn
            have h := lpn_ed2 hn
            unfold f_MSquareRows_isZero_1_L25 at h
            by_cases q28 : p1 ≤ x12
            · replace h := ed_pos q28 h
              exact K8 _ (lq_r h hq8)
            · replace h := ed_neg q28 h
              obtain ⟨Q13, hQ13, h⟩ := bd1_ed h
              obtain ⟨x13, e13, h⟩ := h
              replace h := hQ13 _ h
              obtain ⟨g41, h⟩ := ed_gd h
              exact ih _ _ (lq_l h)
        exact I8 n8 _ _ hn8
  exact I1 n1 _ _ _ fr_refl hn1
