/-! Constructors: contracts. -/
abbrev dv_X3 : List Value := [.null, .null, .null, .null, .int 0, .int 0, .int 0, .null]
theorem df_X3 : ∀ j, j < 8 → defaultValue (tyX3 j) = vp_V dv_X3 j := by decide +kernel
abbrev dv_X6 : List Value := [.int 0, .null, .null, .null, .int 0]
theorem df_X6 : ∀ j, j < 5 → defaultValue (tyX6 j) = vp_V dv_X6 j := by decide +kernel
abbrev dv_X4 : List Value := [.null, .null, .null, .null, .int 0]
theorem df_X4 : ∀ j, j < 5 → defaultValue (tyX4 j) = vp_V dv_X4 j := by decide +kernel
abbrev dv_X8 : List Value := [.int 0, .null]
theorem df_X8 : ∀ j, j < 2 → defaultValue (tyX8 j) = vp_V dv_X8 j := by decide +kernel
abbrev dv_X2 : List Value := [.int 0, .int 0, .int 0, .int 0, .int 0, .null, .null, .null, .null, .null, .null, .null, .null, .null, .null, .int 0, .null, .null, .int 0]
theorem df_X2 : ∀ j, j < 19 → defaultValue (tyX2 j) = vp_V dv_X2 j := by decide +kernel
abbrev dv_X9 : List Value := [.null, .null, .null]
theorem df_X9 : ∀ j, j < 3 → defaultValue (tyX9 j) = vp_V dv_X9 j := by decide +kernel
abbrev dv_X0 : List Value := [.null, .null, .int 0, .null, .int 0, .int 0, .int 0, .int 0]
theorem df_X0 : ∀ j, j < 8 → defaultValue (tyX0 j) = vp_V dv_X0 j := by decide +kernel
abbrev dv_X10 : List Value := [.null, .null, .null, .null]
theorem df_X10 : ∀ j, j < 4 → defaultValue (tyX10 j) = vp_V dv_X10 j := by decide +kernel
abbrev dv_X1 : List Value := [.null, .null, .null, .null, .null, .int 0]
theorem df_X1 : ∀ j, j < 6 → defaultValue (tyX1 j) = vp_V dv_X1 j := by decide +kernel
abbrev dv_X7 : List Value := [.null, .null, .int 0, .int 0, .int 0]
theorem df_X7 : ∀ j, j < 5 → defaultValue (tyX7 j) = vp_V dv_X7 j := by decide +kernel
abbrev dv_X5 : List Value := [.null, .int 0, .null, .null, .null, .int 0, .int 0, .int 0, .int 0, .int 0, .int 0]
theorem df_X5 : ∀ j, j < 11 → defaultValue (tyX5 j) = vp_V dv_X5 j := by decide +kernel
abbrev dv_X11 : List Value := [.null, .null, .null, .null, .null, .int 0]
theorem df_X11 : ∀ j, j < 6 → defaultValue (tyX11 j) = vp_V dv_X11 j := by decide +kernel
abbrev dv_X12 : List Value := [.int 0, .null, .int 0, .null, .int 0, .null, .null, .null, .null, .null, .int 0, .int 0, .int 0, .int 0, .int 0, .int 0, .int 0, .int 0, .int 0, .int 0, .null, .null, .null, .int 0, .int 0, .null, .null, .null, .null, .null, .null, .null, .int 0, .null, .null, .null, .null, .null, .int 0, .null, .null, .null, .int 0, .int 0, .null, .null, .null, .null, .int 0, .int 0, .null, .int 0, .int 0, .null, .null, .null, .int 0, .null, .null, .null, .null, .int 0, .null, .null, .null, .null, .int 0, .int 0, .null, .null, .null, .null, .null, .null, .null, .int 0, .null, .null, .null, .null]
theorem df_X12 : ∀ j, j < 80 → defaultValue (tyX12 j) = vp_V dv_X12 j := by decide +kernel
abbrev iv_X7 (a b : Nat) : List Value := [.ref a, .ref b, .int (-1), .int 0, .int (-1)]
abbrev S_X3 : Type := (Nat → Nat)
def L_X3 (E : EE) (h0 : Nat) (u : S_X3) : va_W := (h0, .inr (3, [.ref (u 0), .ref (u 1), .ref (u 2), .ref (u 3), .int (0 : Int32), .int (0 : Int32), .int (1 : Int32), .ref (u 4)])) :: (((((([] : va_W) ++ [((u 0), .inl (E.2.1 0, 7, .inl (fun _ => 0)))]) ++ [((u 1), .inl (E.2.1 0, 7, .inl (fun _ => 0)))]) ++ [((u 2), .inl (E.2.1 0, 7, .inl (fun _ => 0)))]) ++ [((u 3), .inl (E.2.1 0, 7, .inl (fun _ => 0)))]) ++ [((u 4), .inl (E.2.1 0, 20, .inl (fun _ => 1)))])
abbrev rmX3_init : Room := { frames := 1, cells := 5, slots := 48, locals := 23 }
set_option maxHeartbeats 8000000 in
set_option maxRecDepth 100000 in
theorem c_X3 {l : Launch} {E : EE} (h0 sz : Nat) : Met l yX3_init (wy yX3_init cX3_init 1 none) rmX3_init (va_Pc [.ref h0] (fun U => PC E sz h0 (.inr (3, dv_X3)) U)) (QC E sz h0 (.inr (3, dv_X3)) (L_X3 E h0)) rmX3_init.cells rmX3_init.slots (va_A [(h0, .inr (3, dv_X3))] sz) := by
  refine ct_of (rm := rmX3_init) (by decide) rfl (by decide) (fun p e s m args below meth c A hA0 C hin hr hP hD hS hA ls hl => ?_)
  clear hA0
  refine lv_aload_n C.1 C.2.1 dX3_init_0 rfl (lv_at hl 0 rfl) ?_
  refine ct_obj C (tb1 40 rfl rfl) hl.1 dX3_init_1 (Nat.le_of_ble_eq_true rfl) (Nat.le_of_ble_eq_true rfl) ?_
  refine lv_aload_n C.1 C.2.1 dX3_init_4 rfl (lv_at hl 0 rfl) ?_
  refine lv_bipush (v := 7) C.1 C.2.1 dX3_init_5 (by decide) ?_
  refine ct_newI C hP hD hS hA 7 (by decide) (by decide) (Nat.le_of_ble_eq_true rfl) (Nat.le_of_ble_eq_true rfl) (Nat.le_of_ble_eq_true rfl) dX3_init_7 (fun q7 H hP hD hS => ?_)
  refine ct_putF (j := 0) (ty := tyX3) C hin hP hD hS co_X3 tyX3_ok (by decide) (tb1 44 rfl rfl) rfl rfl rfl rfl (Nat.le_of_ble_eq_true rfl) dX3_init_9 (fun H locs hP hD hS => ?_)
  refine lv_aload_n C.1 C.2.1 dX3_init_12 rfl (lv_at hl 0 rfl) ?_
  refine lv_bipush (v := 7) C.1 C.2.1 dX3_init_13 (by decide) ?_
  refine ct_newI C hP hD hS hA 7 (by decide) (by decide) (Nat.le_of_ble_eq_true rfl) (Nat.le_of_ble_eq_true rfl) (Nat.le_of_ble_eq_true rfl) dX3_init_15 (fun q15 H hP hD hS => ?_)
  refine ct_putF (j := 1) (ty := tyX3) C hin hP hD hS co_X3 tyX3_ok (by decide) (tb1 47 rfl rfl) rfl rfl rfl rfl (Nat.le_of_ble_eq_true rfl) dX3_init_17 (fun H locs hP hD hS => ?_)
  refine lv_aload_n C.1 C.2.1 dX3_init_20 rfl (lv_at hl 0 rfl) ?_
  refine lv_bipush (v := 7) C.1 C.2.1 dX3_init_21 (by decide) ?_
  refine ct_newI C hP hD hS hA 7 (by decide) (by decide) (Nat.le_of_ble_eq_true rfl) (Nat.le_of_ble_eq_true rfl) (Nat.le_of_ble_eq_true rfl) dX3_init_23 (fun q23 H hP hD hS => ?_)
  refine ct_putF (j := 2) (ty := tyX3) C hin hP hD hS co_X3 tyX3_ok (by decide) (tb1 50 rfl rfl) rfl rfl rfl rfl (Nat.le_of_ble_eq_true rfl) dX3_init_25 (fun H locs hP hD hS => ?_)
  refine lv_aload_n C.1 C.2.1 dX3_init_28 rfl (lv_at hl 0 rfl) ?_
  refine lv_bipush (v := 7) C.1 C.2.1 dX3_init_29 (by decide) ?_
  refine ct_newI C hP hD hS hA 7 (by decide) (by decide) (Nat.le_of_ble_eq_true rfl) (Nat.le_of_ble_eq_true rfl) (Nat.le_of_ble_eq_true rfl) dX3_init_31 (fun q31 H hP hD hS => ?_)
  refine ct_putF (j := 3) (ty := tyX3) C hin hP hD hS co_X3 tyX3_ok (by decide) (tb1 52 rfl rfl) rfl rfl rfl rfl (Nat.le_of_ble_eq_true rfl) dX3_init_33 (fun H locs hP hD hS => ?_)
  refine lv_aload_n C.1 C.2.1 dX3_init_36 rfl (lv_at hl 0 rfl) ?_
  refine lv_iconst (v := 0) C.1 C.2.1 dX3_init_37 (by decide) ?_
  refine ct_put (j := 4) (ty := tyX3) C hP hD hS co_X3 tyX3_ok (by decide) (tb1 54 rfl rfl) rfl (vp_nar_int _) rfl (Nat.le_of_ble_eq_true rfl) dX3_init_38 (fun H locs hP hD hS => ?_)
  refine lv_aload_n C.1 C.2.1 dX3_init_41 rfl (lv_at hl 0 rfl) ?_
  refine lv_iconst (v := 0) C.1 C.2.1 dX3_init_42 (by decide) ?_
  refine ct_put (j := 5) (ty := tyX3) C hP hD hS co_X3 tyX3_ok (by decide) (tb1 58 rfl rfl) rfl (vp_nar_int _) rfl (Nat.le_of_ble_eq_true rfl) dX3_init_43 (fun H locs hP hD hS => ?_)
  refine lv_aload_n C.1 C.2.1 dX3_init_46 rfl (lv_at hl 0 rfl) ?_
  refine lv_iconst (v := 1) C.1 C.2.1 dX3_init_47 (by decide) ?_
  refine ct_put (j := 6) (ty := tyX3) C hP hD hS co_X3 tyX3_ok (by decide) (tb1 61 rfl rfl) rfl (vp_nar_int _) rfl (Nat.le_of_ble_eq_true rfl) dX3_init_48 (fun H locs hP hD hS => ?_)
  refine lv_aload_n C.1 C.2.1 dX3_init_51 rfl (lv_at hl 0 rfl) ?_
  refine lv_bipush (v := 20) C.1 C.2.1 dX3_init_52 (by decide) ?_
  refine ct_newI C hP hD hS hA 20 (by decide) (by decide) (Nat.le_of_ble_eq_true rfl) (Nat.le_of_ble_eq_true rfl) (Nat.le_of_ble_eq_true rfl) dX3_init_54 (fun q54 H hP hD hS => ?_)
  refine ct_putF (j := 7) (ty := tyX3) C hin hP hD hS co_X3 tyX3_ok (by decide) (tb1 63 rfl rfl) rfl rfl rfl rfl (Nat.le_of_ble_eq_true rfl) dX3_init_56 (fun H locs hP hD hS => ?_)
  refine lv_aload_n C.1 C.2.1 dX3_init_59 rfl (lv_at hl 0 rfl) ?_
  refine ct_get (j := 7) (v := .ref q54) C hP co_X3 (by decide) (tb1 63 rfl rfl) rfl dX3_init_60 ?_
  refine lv_iconst (v := 1) C.1 C.2.1 dX3_init_63 (by decide) ?_
  have hP : va_P E.1 vwCl ((h0, .inr (3, [.ref q7, .ref q15, .ref q23, .ref q31, .int (0 : Int32), .int (0 : Int32), .int (1 : Int32), .ref q54])) :: [(q7, .inl (E.2.1 0, 7, .inl (fun _ => 0))), (q15, .inl (E.2.1 0, 7, .inl (fun _ => 0))), (q23, .inl (E.2.1 0, 7, .inl (fun _ => 0))), (q31, .inl (E.2.1 0, 7, .inl (fun _ => 0)))] ++ [(q54, .inl (E.2.1 0, 20, .inl (fun _ => 0)))]) H := hP
  have hD : va_D A ((h0, .inr (3, [.ref q7, .ref q15, .ref q23, .ref q31, .int (0 : Int32), .int (0 : Int32), .int (1 : Int32), .ref q54])) :: [(q7, .inl (E.2.1 0, 7, .inl (fun _ => 0))), (q15, .inl (E.2.1 0, 7, .inl (fun _ => 0))), (q23, .inl (E.2.1 0, 7, .inl (fun _ => 0))), (q31, .inl (E.2.1 0, 7, .inl (fun _ => 0)))] ++ [(q54, .inl (E.2.1 0, 20, .inl (fun _ => 0)))]) := hD
  refine ct_callS (As := [.ref q54, .int (1 : Int32)]) (rest := []) C hP hD hS hA ms_J7_fill_53178 ml_X3_37 (cFill (by decide)) ⟨Nat.le_of_ble_eq_true rfl, Nat.le_of_ble_eq_true rfl⟩ ⟨Nat.le_of_ble_eq_true rfl, Nat.le_of_ble_eq_true rfl⟩ rfl hl.1 (Nat.le_of_ble_eq_true rfl) rfl dX3_init_64 (fun _ H locs hP hD hS => ?_)
  exact ct_ret (Lf := L_X3 E h0) C hr (fun i => ([q7, q15, q23, q31, q54] : List Nat).getD i 0) hP hD hS dX3_init_67
abbrev S_X6 : Type := (Nat → Nat)
def L_X6 (E : EE) (h0 : Nat) (u : S_X6) : va_W := (h0, .inr (6, [.int (0 : Int32), .ref (u 0), .ref (u 1), .ref (u 2), .int (0 : Int32)])) :: (((([] : va_W) ++ [((u 0), .inl (E.2.1 0, 400, .inl (fun _ => 0)))]) ++ [((u 1), .inl (E.2.1 0, 400, .inl (fun _ => 0)))]) ++ [((u 2), .inl (E.2.1 0, 1680, .inl (fun _ => 0)))])
abbrev rmX6_init : Room := { frames := 1, cells := 3, slots := 2480, locals := 12 }
set_option maxHeartbeats 8000000 in
set_option maxRecDepth 100000 in
theorem c_X6 {l : Launch} {E : EE} (h0 sz : Nat) : Met l yX6_init (wy yX6_init cX6_init 1 none) rmX6_init (va_Pc [.ref h0] (fun U => PC E sz h0 (.inr (6, dv_X6)) U)) (QC E sz h0 (.inr (6, dv_X6)) (L_X6 E h0)) rmX6_init.cells rmX6_init.slots (va_A [(h0, .inr (6, dv_X6))] sz) := by
  refine ct_of (rm := rmX6_init) (by decide) rfl (by decide) (fun p e s m args below meth c A hA0 C hin hr hP hD hS hA ls hl => ?_)
  clear hA0
  refine lv_aload_n C.1 C.2.1 dX6_init_0 rfl (lv_at hl 0 rfl) ?_
  refine ct_obj C (tb1 87 rfl rfl) hl.1 dX6_init_1 (Nat.le_of_ble_eq_true rfl) (Nat.le_of_ble_eq_true rfl) ?_
  refine lv_aload_n C.1 C.2.1 dX6_init_4 rfl (lv_at hl 0 rfl) ?_
  refine lv_iconst (v := 0) C.1 C.2.1 dX6_init_5 (by decide) ?_
  refine ct_put (j := 0) (ty := tyX6) C hP hD hS co_X6 tyX6_ok (by decide) (tb1 88 rfl rfl) rfl (vp_nar_int _) rfl (Nat.le_of_ble_eq_true rfl) dX6_init_6 (fun H locs hP hD hS => ?_)
  refine lv_aload_n C.1 C.2.1 dX6_init_9 rfl (lv_at hl 0 rfl) ?_
  refine lv_sipush (v := 400) C.1 C.2.1 dX6_init_10 (by decide) ?_
  refine ct_newI C hP hD hS hA 400 (by decide) (by decide) (Nat.le_of_ble_eq_true rfl) (Nat.le_of_ble_eq_true rfl) (Nat.le_of_ble_eq_true rfl) dX6_init_13 (fun q13 H hP hD hS => ?_)
  refine ct_putF (j := 1) (ty := tyX6) C hin hP hD hS co_X6 tyX6_ok (by decide) (tb1 90 rfl rfl) rfl rfl rfl rfl (Nat.le_of_ble_eq_true rfl) dX6_init_15 (fun H locs hP hD hS => ?_)
  refine lv_aload_n C.1 C.2.1 dX6_init_18 rfl (lv_at hl 0 rfl) ?_
  refine lv_sipush (v := 400) C.1 C.2.1 dX6_init_19 (by decide) ?_
  refine ct_newI C hP hD hS hA 400 (by decide) (by decide) (Nat.le_of_ble_eq_true rfl) (Nat.le_of_ble_eq_true rfl) (Nat.le_of_ble_eq_true rfl) dX6_init_22 (fun q22 H hP hD hS => ?_)
  refine ct_putF (j := 2) (ty := tyX6) C hin hP hD hS co_X6 tyX6_ok (by decide) (tb1 91 rfl rfl) rfl rfl rfl rfl (Nat.le_of_ble_eq_true rfl) dX6_init_24 (fun H locs hP hD hS => ?_)
  refine lv_aload_n C.1 C.2.1 dX6_init_27 rfl (lv_at hl 0 rfl) ?_
  refine lv_sipush (v := 1680) C.1 C.2.1 dX6_init_28 (by decide) ?_
  refine ct_newI C hP hD hS hA 1680 (by decide) (by decide) (Nat.le_of_ble_eq_true rfl) (Nat.le_of_ble_eq_true rfl) (Nat.le_of_ble_eq_true rfl) dX6_init_31 (fun q31 H hP hD hS => ?_)
  refine ct_putF (j := 3) (ty := tyX6) C hin hP hD hS co_X6 tyX6_ok (by decide) (tb1 92 rfl rfl) rfl rfl rfl rfl (Nat.le_of_ble_eq_true rfl) dX6_init_33 (fun H locs hP hD hS => ?_)
  refine lv_aload_n C.1 C.2.1 dX6_init_36 rfl (lv_at hl 0 rfl) ?_
  refine lv_iconst (v := 0) C.1 C.2.1 dX6_init_37 (by decide) ?_
  refine ct_put (j := 4) (ty := tyX6) C hP hD hS co_X6 tyX6_ok (by decide) (tb1 93 rfl rfl) rfl (vp_nar_int _) rfl (Nat.le_of_ble_eq_true rfl) dX6_init_38 (fun H locs hP hD hS => ?_)
  exact ct_ret (Lf := L_X6 E h0) C hr (fun i => ([q13, q22, q31] : List Nat).getD i 0) hP hD hS dX6_init_41
abbrev S_X4 : Type := (Nat → Nat)
def L_X4 (E : EE) (h0 : Nat) (u : S_X4) : va_W := (h0, .inr (4, [.ref (u 0), .ref (u 1), .ref (u 2), .ref (u 3), .int (0 : Int32)])) :: ((((([] : va_W) ++ [((u 0), .inl (E.2.1 0, 200, .inl (fun _ => 0)))]) ++ [((u 1), .inl (E.2.1 0, 200, .inl (fun _ => 0)))]) ++ [((u 2), .inl (E.2.1 2, 200, .inl (fun _ => 0)))]) ++ [((u 3), .inl (E.2.1 0, 200, .inl (fun _ => 0)))])
abbrev rmX4_init : Room := { frames := 1, cells := 4, slots := 800, locals := 12 }
set_option maxHeartbeats 8000000 in
set_option maxRecDepth 100000 in
theorem c_X4 {l : Launch} {E : EE} (h0 sz : Nat) : Met l yX4_init (wy yX4_init cX4_init 1 none) rmX4_init (va_Pc [.ref h0] (fun U => PC E sz h0 (.inr (4, dv_X4)) U)) (QC E sz h0 (.inr (4, dv_X4)) (L_X4 E h0)) rmX4_init.cells rmX4_init.slots (va_A [(h0, .inr (4, dv_X4))] sz) := by
  refine ct_of (rm := rmX4_init) (by decide) rfl (by decide) (fun p e s m args below meth c A hA0 C hin hr hP hD hS hA ls hl => ?_)
  clear hA0
  refine lv_aload_n C.1 C.2.1 dX4_init_0 rfl (lv_at hl 0 rfl) ?_
  refine ct_obj C (tb1 110 rfl rfl) hl.1 dX4_init_1 (Nat.le_of_ble_eq_true rfl) (Nat.le_of_ble_eq_true rfl) ?_
  refine lv_aload_n C.1 C.2.1 dX4_init_4 rfl (lv_at hl 0 rfl) ?_
  refine lv_sipush (v := 200) C.1 C.2.1 dX4_init_5 (by decide) ?_
  refine ct_newI C hP hD hS hA 200 (by decide) (by decide) (Nat.le_of_ble_eq_true rfl) (Nat.le_of_ble_eq_true rfl) (Nat.le_of_ble_eq_true rfl) dX4_init_8 (fun q8 H hP hD hS => ?_)
  refine ct_putF (j := 0) (ty := tyX4) C hin hP hD hS co_X4 tyX4_ok (by decide) (tb1 111 rfl rfl) rfl rfl rfl rfl (Nat.le_of_ble_eq_true rfl) dX4_init_10 (fun H locs hP hD hS => ?_)
  refine lv_aload_n C.1 C.2.1 dX4_init_13 rfl (lv_at hl 0 rfl) ?_
  refine lv_sipush (v := 200) C.1 C.2.1 dX4_init_14 (by decide) ?_
  refine ct_newI C hP hD hS hA 200 (by decide) (by decide) (Nat.le_of_ble_eq_true rfl) (Nat.le_of_ble_eq_true rfl) (Nat.le_of_ble_eq_true rfl) dX4_init_17 (fun q17 H hP hD hS => ?_)
  refine ct_putF (j := 1) (ty := tyX4) C hin hP hD hS co_X4 tyX4_ok (by decide) (tb1 114 rfl rfl) rfl rfl rfl rfl (Nat.le_of_ble_eq_true rfl) dX4_init_19 (fun H locs hP hD hS => ?_)
  refine lv_aload_n C.1 C.2.1 dX4_init_22 rfl (lv_at hl 0 rfl) ?_
  refine lv_sipush (v := 200) C.1 C.2.1 dX4_init_23 (by decide) ?_
  refine ct_newZ C hP hD hS hA 200 (by decide) (by decide) (Nat.le_of_ble_eq_true rfl) (Nat.le_of_ble_eq_true rfl) (Nat.le_of_ble_eq_true rfl) dX4_init_26 (fun q26 H hP hD hS => ?_)
  refine ct_putF (j := 2) (ty := tyX4) C hin hP hD hS co_X4 tyX4_ok (by decide) (tb1 117 rfl rfl) rfl rfl rfl rfl (Nat.le_of_ble_eq_true rfl) dX4_init_28 (fun H locs hP hD hS => ?_)
  refine lv_aload_n C.1 C.2.1 dX4_init_31 rfl (lv_at hl 0 rfl) ?_
  refine lv_sipush (v := 200) C.1 C.2.1 dX4_init_32 (by decide) ?_
  refine ct_newI C hP hD hS hA 200 (by decide) (by decide) (Nat.le_of_ble_eq_true rfl) (Nat.le_of_ble_eq_true rfl) (Nat.le_of_ble_eq_true rfl) dX4_init_35 (fun q35 H hP hD hS => ?_)
  refine ct_putF (j := 3) (ty := tyX4) C hin hP hD hS co_X4 tyX4_ok (by decide) (tb1 119 rfl rfl) rfl rfl rfl rfl (Nat.le_of_ble_eq_true rfl) dX4_init_37 (fun H locs hP hD hS => ?_)
  refine lv_aload_n C.1 C.2.1 dX4_init_40 rfl (lv_at hl 0 rfl) ?_
  refine lv_iconst (v := 0) C.1 C.2.1 dX4_init_41 (by decide) ?_
  refine ct_put (j := 4) (ty := tyX4) C hP hD hS co_X4 tyX4_ok (by decide) (tb1 121 rfl rfl) rfl (vp_nar_int _) rfl (Nat.le_of_ble_eq_true rfl) dX4_init_42 (fun H locs hP hD hS => ?_)
  exact ct_ret (Lf := L_X4 E h0) C hr (fun i => ([q8, q17, q26, q35] : List Nat).getD i 0) hP hD hS dX4_init_45
abbrev S_X8 : Type := (Nat → Nat)
def L_X8 (E : EE) (h0 : Nat) (u : S_X8) : va_W := (h0, .inr (8, [.int (0 : Int32), .ref (u 0)])) :: (([] : va_W) ++ [((u 0), .inl (E.2.1 1, 2000, .inl (fun _ => 0)))])
abbrev rmX8_init : Room := { frames := 1, cells := 1, slots := 2000, locals := 12 }
set_option maxHeartbeats 8000000 in
set_option maxRecDepth 100000 in
theorem c_X8 {l : Launch} {E : EE} (h0 sz : Nat) : Met l yX8_init (wy yX8_init cX8_init 1 none) rmX8_init (va_Pc [.ref h0] (fun U => PC E sz h0 (.inr (8, dv_X8)) U)) (QC E sz h0 (.inr (8, dv_X8)) (L_X8 E h0)) rmX8_init.cells rmX8_init.slots (va_A [(h0, .inr (8, dv_X8))] sz) := by
  refine ct_of (rm := rmX8_init) (by decide) rfl (by decide) (fun p e s m args below meth c A hA0 C hin hr hP hD hS hA ls hl => ?_)
  clear hA0
  refine lv_aload_n C.1 C.2.1 dX8_init_0 rfl (lv_at hl 0 rfl) ?_
  refine ct_obj C (tb1 147 rfl rfl) hl.1 dX8_init_1 (Nat.le_of_ble_eq_true rfl) (Nat.le_of_ble_eq_true rfl) ?_
  refine lv_aload_n C.1 C.2.1 dX8_init_4 rfl (lv_at hl 0 rfl) ?_
  refine lv_iconst (v := 0) C.1 C.2.1 dX8_init_5 (by decide) ?_
  refine ct_put (j := 0) (ty := tyX8) C hP hD hS co_X8 tyX8_ok (by decide) (tb1 148 rfl rfl) rfl (vp_nar_int _) rfl (Nat.le_of_ble_eq_true rfl) dX8_init_6 (fun H locs hP hD hS => ?_)
  refine lv_aload_n C.1 C.2.1 dX8_init_9 rfl (lv_at hl 0 rfl) ?_
  refine lv_sipush (v := 2000) C.1 C.2.1 dX8_init_10 (by decide) ?_
  refine ct_newB C hP hD hS hA 2000 (by decide) (by decide) (Nat.le_of_ble_eq_true rfl) (Nat.le_of_ble_eq_true rfl) (Nat.le_of_ble_eq_true rfl) dX8_init_13 (fun q13 H hP hD hS => ?_)
  refine ct_putF (j := 1) (ty := tyX8) C hin hP hD hS co_X8 tyX8_ok (by decide) (tb1 152 rfl rfl) rfl rfl rfl rfl (Nat.le_of_ble_eq_true rfl) dX8_init_15 (fun H locs hP hD hS => ?_)
  exact ct_ret (Lf := L_X8 E h0) C hr (fun i => ([q13] : List Nat).getD i 0) hP hD hS dX8_init_18
abbrev S_X2 : Type := (Nat → Nat)
def L_X2 (E : EE) (h0 : Nat) (u : S_X2) : va_W := (h0, .inr (2, [.int (0 : Int32), .int (0 : Int32), .int (0 : Int32), .int (0 : Int32), .int (0 : Int32), .ref (u 0), .ref (u 1), .ref (u 2), .ref (u 3), .ref (u 4), .ref (u 5), .ref (u 6), .ref (u 7), .ref (u 8), .ref (u 9), .int (0 : Int32), .ref (u 10), .ref (u 11), .int (0 : Int32)])) :: ((((((((((((([] : va_W) ++ [((u 0), .inl (E.2.1 0, 30, .inl (fun _ => 0)))]) ++ [((u 1), .inl (E.2.1 2, 30, .inl (fun _ => 0)))]) ++ [((u 2), .inl (E.2.1 0, 30, .inl (fun _ => 0)))]) ++ [((u 3), .inl (E.2.1 0, 30, .inl (fun _ => 0)))]) ++ [((u 4), .inl (E.2.1 0, 30, .inl (fun _ => 0)))]) ++ [((u 5), .inl (E.2.1 0, 30, .inl (fun _ => 0)))]) ++ [((u 6), .inl (E.2.1 3, 10, .inr (.inl (fun _ => 0))))]) ++ [((u 7), .inl (E.2.1 0, 10, .inl (fun _ => 0)))]) ++ [((u 8), .inl (E.2.1 0, 10, .inl (fun _ => 0)))]) ++ [((u 9), .inl (E.2.1 0, 600, .inl (fun _ => 0)))]) ++ [((u 10), .inl (E.2.1 0, 12, .inl (fun _ => 0)))]) ++ [((u 11), .inl (E.2.1 0, 32, .inl (fun _ => 0)))])
abbrev rmX2_init : Room := { frames := 1, cells := 12, slots := 854, locals := 12 }
set_option maxHeartbeats 8000000 in
set_option maxRecDepth 100000 in
theorem c_X2 {l : Launch} {E : EE} (h0 sz : Nat) : Met l yX2_init (wy yX2_init cX2_init 1 none) rmX2_init (va_Pc [.ref h0] (fun U => PC E sz h0 (.inr (2, dv_X2)) U)) (QC E sz h0 (.inr (2, dv_X2)) (L_X2 E h0)) rmX2_init.cells rmX2_init.slots (va_A [(h0, .inr (2, dv_X2))] sz) := by
  refine ct_of (rm := rmX2_init) (by decide) rfl (by decide) (fun p e s m args below meth c A hA0 C hin hr hP hD hS hA ls hl => ?_)
  clear hA0
  refine lv_aload_n C.1 C.2.1 dX2_init_0 rfl (lv_at hl 0 rfl) ?_
  refine ct_obj C (tb1 164 rfl rfl) hl.1 dX2_init_1 (Nat.le_of_ble_eq_true rfl) (Nat.le_of_ble_eq_true rfl) ?_
  refine lv_aload_n C.1 C.2.1 dX2_init_4 rfl (lv_at hl 0 rfl) ?_
  refine lv_iconst (v := 0) C.1 C.2.1 dX2_init_5 (by decide) ?_
  refine ct_put (j := 0) (ty := tyX2) C hP hD hS co_X2 tyX2_ok (by decide) (tb1 165 rfl rfl) rfl (vp_nar_int _) rfl (Nat.le_of_ble_eq_true rfl) dX2_init_6 (fun H locs hP hD hS => ?_)
  refine lv_aload_n C.1 C.2.1 dX2_init_9 rfl (lv_at hl 0 rfl) ?_
  refine lv_iconst (v := 0) C.1 C.2.1 dX2_init_10 (by decide) ?_
  refine ct_put (j := 1) (ty := tyX2) C hP hD hS co_X2 tyX2_ok (by decide) (tb1 167 rfl rfl) rfl (vp_nar_int _) rfl (Nat.le_of_ble_eq_true rfl) dX2_init_11 (fun H locs hP hD hS => ?_)
  refine lv_aload_n C.1 C.2.1 dX2_init_14 rfl (lv_at hl 0 rfl) ?_
  refine lv_iconst (v := 0) C.1 C.2.1 dX2_init_15 (by decide) ?_
  refine ct_put (j := 2) (ty := tyX2) C hP hD hS co_X2 tyX2_ok (by decide) (tb1 170 rfl rfl) rfl (vp_nar_int _) rfl (Nat.le_of_ble_eq_true rfl) dX2_init_16 (fun H locs hP hD hS => ?_)
  refine lv_aload_n C.1 C.2.1 dX2_init_19 rfl (lv_at hl 0 rfl) ?_
  refine lv_iconst (v := 0) C.1 C.2.1 dX2_init_20 (by decide) ?_
  refine ct_put (j := 3) (ty := tyX2) C hP hD hS co_X2 tyX2_ok (by decide) (tb1 172 rfl rfl) rfl (vp_nar_int _) rfl (Nat.le_of_ble_eq_true rfl) dX2_init_21 (fun H locs hP hD hS => ?_)
  refine lv_aload_n C.1 C.2.1 dX2_init_24 rfl (lv_at hl 0 rfl) ?_
  refine lv_iconst (v := 0) C.1 C.2.1 dX2_init_25 (by decide) ?_
  refine ct_put (j := 4) (ty := tyX2) C hP hD hS co_X2 tyX2_ok (by decide) (tb1 174 rfl rfl) rfl (vp_nar_int _) rfl (Nat.le_of_ble_eq_true rfl) dX2_init_26 (fun H locs hP hD hS => ?_)
  refine lv_aload_n C.1 C.2.1 dX2_init_29 rfl (lv_at hl 0 rfl) ?_
  refine lv_bipush (v := 30) C.1 C.2.1 dX2_init_30 (by decide) ?_
  refine ct_newI C hP hD hS hA 30 (by decide) (by decide) (Nat.le_of_ble_eq_true rfl) (Nat.le_of_ble_eq_true rfl) (Nat.le_of_ble_eq_true rfl) dX2_init_32 (fun q32 H hP hD hS => ?_)
  refine ct_putF (j := 5) (ty := tyX2) C hin hP hD hS co_X2 tyX2_ok (by decide) (tb1 176 rfl rfl) rfl rfl rfl rfl (Nat.le_of_ble_eq_true rfl) dX2_init_34 (fun H locs hP hD hS => ?_)
  refine lv_aload_n C.1 C.2.1 dX2_init_37 rfl (lv_at hl 0 rfl) ?_
  refine lv_bipush (v := 30) C.1 C.2.1 dX2_init_38 (by decide) ?_
  refine ct_newZ C hP hD hS hA 30 (by decide) (by decide) (Nat.le_of_ble_eq_true rfl) (Nat.le_of_ble_eq_true rfl) (Nat.le_of_ble_eq_true rfl) dX2_init_40 (fun q40 H hP hD hS => ?_)
  refine ct_putF (j := 6) (ty := tyX2) C hin hP hD hS co_X2 tyX2_ok (by decide) (tb1 178 rfl rfl) rfl rfl rfl rfl (Nat.le_of_ble_eq_true rfl) dX2_init_42 (fun H locs hP hD hS => ?_)
  refine lv_aload_n C.1 C.2.1 dX2_init_45 rfl (lv_at hl 0 rfl) ?_
  refine lv_bipush (v := 30) C.1 C.2.1 dX2_init_46 (by decide) ?_
  refine ct_newI C hP hD hS hA 30 (by decide) (by decide) (Nat.le_of_ble_eq_true rfl) (Nat.le_of_ble_eq_true rfl) (Nat.le_of_ble_eq_true rfl) dX2_init_48 (fun q48 H hP hD hS => ?_)
  refine ct_putF (j := 7) (ty := tyX2) C hin hP hD hS co_X2 tyX2_ok (by decide) (tb1 180 rfl rfl) rfl rfl rfl rfl (Nat.le_of_ble_eq_true rfl) dX2_init_50 (fun H locs hP hD hS => ?_)
  refine lv_aload_n C.1 C.2.1 dX2_init_53 rfl (lv_at hl 0 rfl) ?_
  refine lv_bipush (v := 30) C.1 C.2.1 dX2_init_54 (by decide) ?_
  refine ct_newI C hP hD hS hA 30 (by decide) (by decide) (Nat.le_of_ble_eq_true rfl) (Nat.le_of_ble_eq_true rfl) (Nat.le_of_ble_eq_true rfl) dX2_init_56 (fun q56 H hP hD hS => ?_)
  refine ct_putF (j := 8) (ty := tyX2) C hin hP hD hS co_X2 tyX2_ok (by decide) (tb1 182 rfl rfl) rfl rfl rfl rfl (Nat.le_of_ble_eq_true rfl) dX2_init_58 (fun H locs hP hD hS => ?_)
  refine lv_aload_n C.1 C.2.1 dX2_init_61 rfl (lv_at hl 0 rfl) ?_
  refine lv_bipush (v := 30) C.1 C.2.1 dX2_init_62 (by decide) ?_
  refine ct_newI C hP hD hS hA 30 (by decide) (by decide) (Nat.le_of_ble_eq_true rfl) (Nat.le_of_ble_eq_true rfl) (Nat.le_of_ble_eq_true rfl) dX2_init_64 (fun q64 H hP hD hS => ?_)
  refine ct_putF (j := 9) (ty := tyX2) C hin hP hD hS co_X2 tyX2_ok (by decide) (tb1 184 rfl rfl) rfl rfl rfl rfl (Nat.le_of_ble_eq_true rfl) dX2_init_66 (fun H locs hP hD hS => ?_)
  refine lv_aload_n C.1 C.2.1 dX2_init_69 rfl (lv_at hl 0 rfl) ?_
  refine lv_bipush (v := 30) C.1 C.2.1 dX2_init_70 (by decide) ?_
  refine ct_newI C hP hD hS hA 30 (by decide) (by decide) (Nat.le_of_ble_eq_true rfl) (Nat.le_of_ble_eq_true rfl) (Nat.le_of_ble_eq_true rfl) dX2_init_72 (fun q72 H hP hD hS => ?_)
  refine ct_putF (j := 10) (ty := tyX2) C hin hP hD hS co_X2 tyX2_ok (by decide) (tb1 185 rfl rfl) rfl rfl rfl rfl (Nat.le_of_ble_eq_true rfl) dX2_init_74 (fun H locs hP hD hS => ?_)
  refine lv_aload_n C.1 C.2.1 dX2_init_77 rfl (lv_at hl 0 rfl) ?_
  refine lv_bipush (v := 10) C.1 C.2.1 dX2_init_78 (by decide) ?_
  refine ct_newL C hP hD hS hA 10 (by decide) (by decide) (Nat.le_of_ble_eq_true rfl) (Nat.le_of_ble_eq_true rfl) (Nat.le_of_ble_eq_true rfl) dX2_init_80 (fun q80 H hP hD hS => ?_)
  refine ct_putF (j := 11) (ty := tyX2) C hin hP hD hS co_X2 tyX2_ok (by decide) (tb1 186 rfl rfl) rfl rfl rfl rfl (Nat.le_of_ble_eq_true rfl) dX2_init_82 (fun H locs hP hD hS => ?_)
  refine lv_aload_n C.1 C.2.1 dX2_init_85 rfl (lv_at hl 0 rfl) ?_
  refine lv_bipush (v := 10) C.1 C.2.1 dX2_init_86 (by decide) ?_
  refine ct_newI C hP hD hS hA 10 (by decide) (by decide) (Nat.le_of_ble_eq_true rfl) (Nat.le_of_ble_eq_true rfl) (Nat.le_of_ble_eq_true rfl) dX2_init_88 (fun q88 H hP hD hS => ?_)
  refine ct_putF (j := 12) (ty := tyX2) C hin hP hD hS co_X2 tyX2_ok (by decide) (tb1 187 rfl rfl) rfl rfl rfl rfl (Nat.le_of_ble_eq_true rfl) dX2_init_90 (fun H locs hP hD hS => ?_)
  refine lv_aload_n C.1 C.2.1 dX2_init_93 rfl (lv_at hl 0 rfl) ?_
  refine lv_bipush (v := 10) C.1 C.2.1 dX2_init_94 (by decide) ?_
  refine ct_newI C hP hD hS hA 10 (by decide) (by decide) (Nat.le_of_ble_eq_true rfl) (Nat.le_of_ble_eq_true rfl) (Nat.le_of_ble_eq_true rfl) dX2_init_96 (fun q96 H hP hD hS => ?_)
  refine ct_putF (j := 13) (ty := tyX2) C hin hP hD hS co_X2 tyX2_ok (by decide) (tb1 188 rfl rfl) rfl rfl rfl rfl (Nat.le_of_ble_eq_true rfl) dX2_init_98 (fun H locs hP hD hS => ?_)
  refine lv_aload_n C.1 C.2.1 dX2_init_101 rfl (lv_at hl 0 rfl) ?_
  refine lv_sipush (v := 600) C.1 C.2.1 dX2_init_102 (by decide) ?_
  refine ct_newI C hP hD hS hA 600 (by decide) (by decide) (Nat.le_of_ble_eq_true rfl) (Nat.le_of_ble_eq_true rfl) (Nat.le_of_ble_eq_true rfl) dX2_init_105 (fun q105 H hP hD hS => ?_)
  refine ct_put (j := 14) (ty := tyX2) C hP hD hS co_X2 tyX2_ok (by decide) (tb1 189 rfl rfl) rfl (rfl) rfl (Nat.le_of_ble_eq_true rfl) dX2_init_107 (fun H locs hP hD hS => ?_)
  refine lv_aload_n C.1 C.2.1 dX2_init_110 rfl (lv_at hl 0 rfl) ?_
  refine lv_iconst (v := 0) C.1 C.2.1 dX2_init_111 (by decide) ?_
  refine ct_put (j := 15) (ty := tyX2) C hP hD hS co_X2 tyX2_ok (by decide) (tb1 190 rfl rfl) rfl (vp_nar_int _) rfl (Nat.le_of_ble_eq_true rfl) dX2_init_112 (fun H locs hP hD hS => ?_)
  refine lv_aload_n C.1 C.2.1 dX2_init_115 rfl (lv_at hl 0 rfl) ?_
  refine lv_bipush (v := 12) C.1 C.2.1 dX2_init_116 (by decide) ?_
  refine ct_newI C hP hD hS hA 12 (by decide) (by decide) (Nat.le_of_ble_eq_true rfl) (Nat.le_of_ble_eq_true rfl) (Nat.le_of_ble_eq_true rfl) dX2_init_118 (fun q118 H hP hD hS => ?_)
  refine ct_putF (j := 16) (ty := tyX2) C hin hP hD hS co_X2 tyX2_ok (by decide) (tb1 191 rfl rfl) rfl rfl rfl rfl (Nat.le_of_ble_eq_true rfl) dX2_init_120 (fun H locs hP hD hS => ?_)
  refine lv_aload_n C.1 C.2.1 dX2_init_123 rfl (lv_at hl 0 rfl) ?_
  refine lv_bipush (v := 32) C.1 C.2.1 dX2_init_124 (by decide) ?_
  refine ct_newI C hP hD hS hA 32 (by decide) (by decide) (Nat.le_of_ble_eq_true rfl) (Nat.le_of_ble_eq_true rfl) (Nat.le_of_ble_eq_true rfl) dX2_init_126 (fun q126 H hP hD hS => ?_)
  refine ct_putF (j := 17) (ty := tyX2) C hin hP hD hS co_X2 tyX2_ok (by decide) (tb1 192 rfl rfl) rfl rfl rfl rfl (Nat.le_of_ble_eq_true rfl) dX2_init_128 (fun H locs hP hD hS => ?_)
  refine lv_aload_n C.1 C.2.1 dX2_init_131 rfl (lv_at hl 0 rfl) ?_
  refine lv_iconst (v := 0) C.1 C.2.1 dX2_init_132 (by decide) ?_
  refine ct_put (j := 18) (ty := tyX2) C hP hD hS co_X2 tyX2_ok (by decide) (tb1 193 rfl rfl) rfl (vp_nar_int _) rfl (Nat.le_of_ble_eq_true rfl) dX2_init_133 (fun H locs hP hD hS => ?_)
  exact ct_ret (Lf := L_X2 E h0) C hr (fun i => ([q32, q40, q48, q56, q64, q72, q80, q88, q96, q105, q118, q126] : List Nat).getD i 0) hP hD hS dX2_init_136
abbrev S_X9 : Type := (Nat → Nat)
def L_X9 (E : EE) (h0 : Nat) (u : S_X9) : va_W := (h0, .inr (9, [.ref (u 0), .ref (u 1), .ref (u 2)])) :: (((([] : va_W) ++ [((u 0), .inl (E.2.1 0, 601, .inl (fun _ => 0)))]) ++ [((u 1), .inl (E.2.1 0, 601, .inl (fun _ => 0)))]) ++ [((u 2), .inl (E.2.1 0, 601, .inl (fun _ => 0)))])
abbrev rmX9_init : Room := { frames := 1, cells := 3, slots := 1803, locals := 12 }
set_option maxHeartbeats 8000000 in
set_option maxRecDepth 100000 in
theorem c_X9 {l : Launch} {E : EE} (h0 sz : Nat) : Met l yX9_init (wy yX9_init cX9_init 1 none) rmX9_init (va_Pc [.ref h0] (fun U => PC E sz h0 (.inr (9, dv_X9)) U)) (QC E sz h0 (.inr (9, dv_X9)) (L_X9 E h0)) rmX9_init.cells rmX9_init.slots (va_A [(h0, .inr (9, dv_X9))] sz) := by
  refine ct_of (rm := rmX9_init) (by decide) rfl (by decide) (fun p e s m args below meth c A hA0 C hin hr hP hD hS hA ls hl => ?_)
  clear hA0
  refine lv_aload_n C.1 C.2.1 dX9_init_0 rfl (lv_at hl 0 rfl) ?_
  refine ct_obj C (tb1 239 rfl rfl) hl.1 dX9_init_1 (Nat.le_of_ble_eq_true rfl) (Nat.le_of_ble_eq_true rfl) ?_
  refine lv_aload_n C.1 C.2.1 dX9_init_4 rfl (lv_at hl 0 rfl) ?_
  refine lv_sipush (v := 601) C.1 C.2.1 dX9_init_5 (by decide) ?_
  refine ct_newI C hP hD hS hA 601 (by decide) (by decide) (Nat.le_of_ble_eq_true rfl) (Nat.le_of_ble_eq_true rfl) (Nat.le_of_ble_eq_true rfl) dX9_init_8 (fun q8 H hP hD hS => ?_)
  refine ct_putF (j := 0) (ty := tyX9) C hin hP hD hS co_X9 tyX9_ok (by decide) (tb2 0 rfl rfl) rfl rfl rfl rfl (Nat.le_of_ble_eq_true rfl) dX9_init_10 (fun H locs hP hD hS => ?_)
  refine lv_aload_n C.1 C.2.1 dX9_init_13 rfl (lv_at hl 0 rfl) ?_
  refine lv_sipush (v := 601) C.1 C.2.1 dX9_init_14 (by decide) ?_
  refine ct_newI C hP hD hS hA 601 (by decide) (by decide) (Nat.le_of_ble_eq_true rfl) (Nat.le_of_ble_eq_true rfl) (Nat.le_of_ble_eq_true rfl) dX9_init_17 (fun q17 H hP hD hS => ?_)
  refine ct_putF (j := 1) (ty := tyX9) C hin hP hD hS co_X9 tyX9_ok (by decide) (tb2 2 rfl rfl) rfl rfl rfl rfl (Nat.le_of_ble_eq_true rfl) dX9_init_19 (fun H locs hP hD hS => ?_)
  refine lv_aload_n C.1 C.2.1 dX9_init_22 rfl (lv_at hl 0 rfl) ?_
  refine lv_sipush (v := 601) C.1 C.2.1 dX9_init_23 (by decide) ?_
  refine ct_newI C hP hD hS hA 601 (by decide) (by decide) (Nat.le_of_ble_eq_true rfl) (Nat.le_of_ble_eq_true rfl) (Nat.le_of_ble_eq_true rfl) dX9_init_26 (fun q26 H hP hD hS => ?_)
  refine ct_putF (j := 2) (ty := tyX9) C hin hP hD hS co_X9 tyX9_ok (by decide) (tb2 4 rfl rfl) rfl rfl rfl rfl (Nat.le_of_ble_eq_true rfl) dX9_init_28 (fun H locs hP hD hS => ?_)
  exact ct_ret (Lf := L_X9 E h0) C hr (fun i => ([q8, q17, q26] : List Nat).getD i 0) hP hD hS dX9_init_31
abbrev S_X0 : Type := (Nat → Nat) × (S_X8) × (S_X2) × (S_X9)
def L_X0 (E : EE) (h0 : Nat) (u : S_X0) : va_W := (h0, .inr (0, [.ref (u.1 0), .ref (u.1 1), .int (-1 : Int32), .ref (u.1 2), .int (0 : Int32), .int (1 : Int32), .int (0 : Int32), .int (-1 : Int32)])) :: (((([] : va_W) ++ L_X8 E (u.1 0) u.2.1) ++ L_X2 E (u.1 1) u.2.2.1) ++ L_X9 E (u.1 2) u.2.2.2)
abbrev rmX0_init : Room := { frames := 2, cells := 19, slots := 4681, locals := 32 }
set_option maxHeartbeats 8000000 in
set_option maxRecDepth 100000 in
theorem c_X0 {l : Launch} {E : EE} (h0 sz : Nat) : Met l yX0_init (wy yX0_init cX0_init 1 none) rmX0_init (va_Pc [.ref h0] (fun U => PC E sz h0 (.inr (0, dv_X0)) U)) (QC E sz h0 (.inr (0, dv_X0)) (L_X0 E h0)) rmX0_init.cells rmX0_init.slots (va_A [(h0, .inr (0, dv_X0))] sz) := by
  refine ct_of (rm := rmX0_init) (by decide) rfl (by decide) (fun p e s m args below meth c A hA0 C hin hr hP hD hS hA ls hl => ?_)
  clear hA0
  refine lv_aload_n C.1 C.2.1 dX0_init_0 rfl (lv_at hl 0 rfl) ?_
  refine ct_obj C (tb1 141 rfl rfl) hl.1 dX0_init_1 (Nat.le_of_ble_eq_true rfl) (Nat.le_of_ble_eq_true rfl) ?_
  refine lv_aload_n C.1 C.2.1 dX0_init_4 rfl (lv_at hl 0 rfl) ?_
  refine ct_new (fs := dv_X8) C hP hD hS hA co_X8 tyX8_ok (tb1 142 rfl rfl) (tb1 143 rfl rfl) (tb1 8 rfl rfl) df_X8 (Nat.le_of_ble_eq_true rfl) (Nat.le_of_ble_eq_true rfl) dX0_init_5 (fun q5_4 H hP hD hS => ?_)
  refine lv_dup C.1 C.2.1 dX0_init_8 rfl ?_
  refine ct_callN (rm := rmX8_init) (Lf := L_X8 E q5_4) C hP hD hS hA (by decide +kernel) (tb1 146 rfl rfl) (tb1 8 rfl rfl) (tb1 145 rfl rfl) (by decide +kernel) rfl (c_X8 q5_4 _) ⟨Nat.le_of_ble_eq_true rfl, Nat.le_of_ble_eq_true rfl⟩ ⟨Nat.le_of_ble_eq_true rfl, Nat.le_of_ble_eq_true rfl⟩ hl.1 (Nat.le_of_ble_eq_true rfl) dX0_init_9 (fun u9_6 H locs hP hD hS => ?_)
  refine ct_putF (j := 0) (ty := tyX0) C hin hP hD hS co_X0 tyX0_ok (by decide) (tb2 13 rfl rfl) rfl rfl rfl rfl (Nat.le_of_ble_eq_true rfl) dX0_init_12 (fun H locs hP hD hS => ?_)
  refine lv_aload_n C.1 C.2.1 dX0_init_15 rfl (lv_at hl 0 rfl) ?_
  refine ct_new (fs := dv_X2) C hP hD hS hA co_X2 tyX2_ok (tb1 159 rfl rfl) (tb1 160 rfl rfl) (tb1 9 rfl rfl) df_X2 (Nat.le_of_ble_eq_true rfl) (Nat.le_of_ble_eq_true rfl) dX0_init_16 (fun q16_9 H hP hD hS => ?_)
  refine lv_dup C.1 C.2.1 dX0_init_19 rfl ?_
  refine ct_callN (rm := rmX2_init) (Lf := L_X2 E q16_9) C hP hD hS hA (by decide +kernel) (tb1 163 rfl rfl) (tb1 9 rfl rfl) (tb1 162 rfl rfl) (by decide +kernel) rfl (c_X2 q16_9 _) ⟨Nat.le_of_ble_eq_true rfl, Nat.le_of_ble_eq_true rfl⟩ ⟨Nat.le_of_ble_eq_true rfl, Nat.le_of_ble_eq_true rfl⟩ hl.1 (Nat.le_of_ble_eq_true rfl) dX0_init_20 (fun u20_11 H locs hP hD hS => ?_)
  refine ct_putF (j := 1) (ty := tyX0) C hin hP hD hS co_X0 tyX0_ok (by decide) (tb2 15 rfl rfl) rfl rfl rfl rfl (Nat.le_of_ble_eq_true rfl) dX0_init_23 (fun H locs hP hD hS => ?_)
  refine lv_aload_n C.1 C.2.1 dX0_init_26 rfl (lv_at hl 0 rfl) ?_
  refine lv_iconst (v := -1) C.1 C.2.1 dX0_init_27 (by decide) ?_
  refine ct_put (j := 2) (ty := tyX0) C hP hD hS co_X0 tyX0_ok (by decide) (tb2 18 rfl rfl) rfl (vp_nar_int _) rfl (Nat.le_of_ble_eq_true rfl) dX0_init_28 (fun H locs hP hD hS => ?_)
  refine lv_aload_n C.1 C.2.1 dX0_init_31 rfl (lv_at hl 0 rfl) ?_
  refine ct_new (fs := dv_X9) C hP hD hS hA co_X9 tyX9_ok (tb1 234 rfl rfl) (tb1 235 rfl rfl) (tb1 10 rfl rfl) df_X9 (Nat.le_of_ble_eq_true rfl) (Nat.le_of_ble_eq_true rfl) dX0_init_32 (fun q32_17 H hP hD hS => ?_)
  refine lv_dup C.1 C.2.1 dX0_init_35 rfl ?_
  refine ct_callN (rm := rmX9_init) (Lf := L_X9 E q32_17) C hP hD hS hA (by decide +kernel) (tb1 238 rfl rfl) (tb1 10 rfl rfl) (tb1 237 rfl rfl) (by decide +kernel) rfl (c_X9 q32_17 _) ⟨Nat.le_of_ble_eq_true rfl, Nat.le_of_ble_eq_true rfl⟩ ⟨Nat.le_of_ble_eq_true rfl, Nat.le_of_ble_eq_true rfl⟩ hl.1 (Nat.le_of_ble_eq_true rfl) dX0_init_36 (fun u36_19 H locs hP hD hS => ?_)
  refine ct_putF (j := 3) (ty := tyX0) C hin hP hD hS co_X0 tyX0_ok (by decide) (tb2 20 rfl rfl) rfl rfl rfl rfl (Nat.le_of_ble_eq_true rfl) dX0_init_39 (fun H locs hP hD hS => ?_)
  refine lv_aload_n C.1 C.2.1 dX0_init_42 rfl (lv_at hl 0 rfl) ?_
  refine lv_iconst (v := 0) C.1 C.2.1 dX0_init_43 (by decide) ?_
  refine ct_put (j := 4) (ty := tyX0) C hP hD hS co_X0 tyX0_ok (by decide) (tb2 21 rfl rfl) rfl (vp_nar_int _) rfl (Nat.le_of_ble_eq_true rfl) dX0_init_44 (fun H locs hP hD hS => ?_)
  refine lv_aload_n C.1 C.2.1 dX0_init_47 rfl (lv_at hl 0 rfl) ?_
  refine lv_iconst (v := 1) C.1 C.2.1 dX0_init_48 (by decide) ?_
  refine ct_put (j := 5) (ty := tyX0) C hP hD hS co_X0 tyX0_ok (by decide) (tb2 22 rfl rfl) rfl (vp_nar_int _) rfl (Nat.le_of_ble_eq_true rfl) dX0_init_49 (fun H locs hP hD hS => ?_)
  refine lv_aload_n C.1 C.2.1 dX0_init_52 rfl (lv_at hl 0 rfl) ?_
  refine lv_iconst (v := 0) C.1 C.2.1 dX0_init_53 (by decide) ?_
  refine ct_put (j := 6) (ty := tyX0) C hP hD hS co_X0 tyX0_ok (by decide) (tb2 23 rfl rfl) rfl (vp_nar_int _) rfl (Nat.le_of_ble_eq_true rfl) dX0_init_54 (fun H locs hP hD hS => ?_)
  refine lv_aload_n C.1 C.2.1 dX0_init_57 rfl (lv_at hl 0 rfl) ?_
  refine lv_iconst (v := -1) C.1 C.2.1 dX0_init_58 (by decide) ?_
  refine ct_put (j := 7) (ty := tyX0) C hP hD hS co_X0 tyX0_ok (by decide) (tb2 24 rfl rfl) rfl (vp_nar_int _) rfl (Nat.le_of_ble_eq_true rfl) dX0_init_59 (fun H locs hP hD hS => ?_)
  exact ct_ret (Lf := L_X0 E h0) C hr ⟨(fun i => ([q5_4, q16_9, q32_17] : List Nat).getD i 0), u9_6, u20_11, u36_19⟩ hP hD hS dX0_init_62
abbrev S_X10 : Type := (Nat → Nat) × (S_X3) × (S_X6) × (S_X4) × (S_X0)
def L_X10 (E : EE) (h0 : Nat) (u : S_X10) : va_W := (h0, .inr (10, [.ref (u.1 0), .ref (u.1 1), .ref (u.1 2), .ref (u.1 3)])) :: ((((([] : va_W) ++ L_X3 E (u.1 0) u.2.1) ++ L_X6 E (u.1 1) u.2.2.1) ++ L_X4 E (u.1 2) u.2.2.2.1) ++ L_X0 E (u.1 3) u.2.2.2.2)
abbrev rmX10_init : Room := { frames := 3, cells := 35, slots := 8035, locals := 52 }
set_option maxHeartbeats 8000000 in
set_option maxRecDepth 100000 in
theorem c_X10 {l : Launch} {E : EE} (h0 sz : Nat) : Met l yX10_init (wy yX10_init cX10_init 1 none) rmX10_init (va_Pc [.ref h0] (fun U => PC E sz h0 (.inr (10, dv_X10)) U)) (QC E sz h0 (.inr (10, dv_X10)) (L_X10 E h0)) rmX10_init.cells rmX10_init.slots (va_A [(h0, .inr (10, dv_X10))] sz) := by
  refine ct_of (rm := rmX10_init) (by decide) rfl (by decide) (fun p e s m args below meth c A hA0 C hin hr hP hD hS hA ls hl => ?_)
  clear hA0
  refine lv_aload_n C.1 C.2.1 dX10_init_0 rfl (lv_at hl 0 rfl) ?_
  refine ct_obj C (tb1 34 rfl rfl) hl.1 dX10_init_1 (Nat.le_of_ble_eq_true rfl) (Nat.le_of_ble_eq_true rfl) ?_
  refine lv_aload_n C.1 C.2.1 dX10_init_4 rfl (lv_at hl 0 rfl) ?_
  refine ct_new (fs := dv_X3) C hP hD hS hA co_X3 tyX3_ok (tb1 35 rfl rfl) (tb1 36 rfl rfl) (tb1 3 rfl rfl) df_X3 (Nat.le_of_ble_eq_true rfl) (Nat.le_of_ble_eq_true rfl) dX10_init_5 (fun q5_4 H hP hD hS => ?_)
  refine lv_dup C.1 C.2.1 dX10_init_8 rfl ?_
  refine ct_callI (rm := rmX3_init) (Lf := L_X3 E q5_4) C hP hD hS hA (tb1 37 rfl rfl) (tb1 39 rfl rfl) (tb1 3 rfl rfl) (tb1 38 rfl rfl) (by decide +kernel) rfl (c_X3 q5_4 _) ⟨Nat.le_of_ble_eq_true rfl, Nat.le_of_ble_eq_true rfl⟩ ⟨Nat.le_of_ble_eq_true rfl, Nat.le_of_ble_eq_true rfl⟩ hl.1 (Nat.le_of_ble_eq_true rfl) dX10_init_9 (fun u9_6 H locs hP hD hS => ?_)
  refine ct_putF (j := 0) (ty := tyX10) C hin hP hD hS co_X10 tyX10_ok (by decide) (tb2 42 rfl rfl) rfl rfl rfl rfl (Nat.le_of_ble_eq_true rfl) dX10_init_12 (fun H locs hP hD hS => ?_)
  refine lv_aload_n C.1 C.2.1 dX10_init_15 rfl (lv_at hl 0 rfl) ?_
  refine ct_new (fs := dv_X6) C hP hD hS hA co_X6 tyX6_ok (tb1 82 rfl rfl) (tb1 83 rfl rfl) (tb1 5 rfl rfl) df_X6 (Nat.le_of_ble_eq_true rfl) (Nat.le_of_ble_eq_true rfl) dX10_init_16 (fun q16_9 H hP hD hS => ?_)
  refine lv_dup C.1 C.2.1 dX10_init_19 rfl ?_
  refine ct_callN (rm := rmX6_init) (Lf := L_X6 E q16_9) C hP hD hS hA (by decide +kernel) (tb1 86 rfl rfl) (tb1 5 rfl rfl) (tb1 85 rfl rfl) (by decide +kernel) rfl (c_X6 q16_9 _) ⟨Nat.le_of_ble_eq_true rfl, Nat.le_of_ble_eq_true rfl⟩ ⟨Nat.le_of_ble_eq_true rfl, Nat.le_of_ble_eq_true rfl⟩ hl.1 (Nat.le_of_ble_eq_true rfl) dX10_init_20 (fun u20_11 H locs hP hD hS => ?_)
  refine ct_putF (j := 1) (ty := tyX10) C hin hP hD hS co_X10 tyX10_ok (by decide) (tb2 44 rfl rfl) rfl rfl rfl rfl (Nat.le_of_ble_eq_true rfl) dX10_init_23 (fun H locs hP hD hS => ?_)
  refine lv_aload_n C.1 C.2.1 dX10_init_26 rfl (lv_at hl 0 rfl) ?_
  refine ct_new (fs := dv_X4) C hP hD hS hA co_X4 tyX4_ok (tb1 105 rfl rfl) (tb1 106 rfl rfl) (tb1 6 rfl rfl) df_X4 (Nat.le_of_ble_eq_true rfl) (Nat.le_of_ble_eq_true rfl) dX10_init_27 (fun q27_14 H hP hD hS => ?_)
  refine lv_dup C.1 C.2.1 dX10_init_30 rfl ?_
  refine ct_callN (rm := rmX4_init) (Lf := L_X4 E q27_14) C hP hD hS hA (by decide +kernel) (tb1 109 rfl rfl) (tb1 6 rfl rfl) (tb1 108 rfl rfl) (by decide +kernel) rfl (c_X4 q27_14 _) ⟨Nat.le_of_ble_eq_true rfl, Nat.le_of_ble_eq_true rfl⟩ ⟨Nat.le_of_ble_eq_true rfl, Nat.le_of_ble_eq_true rfl⟩ hl.1 (Nat.le_of_ble_eq_true rfl) dX10_init_31 (fun u31_16 H locs hP hD hS => ?_)
  refine ct_putF (j := 2) (ty := tyX10) C hin hP hD hS co_X10 tyX10_ok (by decide) (tb2 46 rfl rfl) rfl rfl rfl rfl (Nat.le_of_ble_eq_true rfl) dX10_init_34 (fun H locs hP hD hS => ?_)
  refine lv_aload_n C.1 C.2.1 dX10_init_37 rfl (lv_at hl 0 rfl) ?_
  refine ct_new (fs := dv_X0) C hP hD hS hA co_X0 tyX0_ok (tb1 136 rfl rfl) (tb1 137 rfl rfl) (tb1 7 rfl rfl) df_X0 (Nat.le_of_ble_eq_true rfl) (Nat.le_of_ble_eq_true rfl) dX10_init_38 (fun q38_19 H hP hD hS => ?_)
  refine lv_dup C.1 C.2.1 dX10_init_41 rfl ?_
  refine ct_callN (rm := rmX0_init) (Lf := L_X0 E q38_19) C hP hD hS hA (by decide +kernel) (tb1 140 rfl rfl) (tb1 7 rfl rfl) (tb1 139 rfl rfl) (by decide +kernel) rfl (c_X0 q38_19 _) ⟨Nat.le_of_ble_eq_true rfl, Nat.le_of_ble_eq_true rfl⟩ ⟨Nat.le_of_ble_eq_true rfl, Nat.le_of_ble_eq_true rfl⟩ hl.1 (Nat.le_of_ble_eq_true rfl) dX10_init_42 (fun u42_21 H locs hP hD hS => ?_)
  refine ct_putF (j := 3) (ty := tyX10) C hin hP hD hS co_X10 tyX10_ok (by decide) (tb2 48 rfl rfl) rfl rfl rfl rfl (Nat.le_of_ble_eq_true rfl) dX10_init_45 (fun H locs hP hD hS => ?_)
  exact ct_ret (Lf := L_X10 E h0) C hr ⟨(fun i => ([q5_4, q16_9, q27_14, q38_19] : List Nat).getD i 0), u9_6, u20_11, u31_16, u42_21⟩ hP hD hS dX10_init_48
abbrev S_X1 : Type := (Nat → Nat)
def L_X1 (E : EE) (h0 : Nat) (u : S_X1) : va_W := (h0, .inr (1, [.ref (u 0), .ref (u 1), .ref (u 2), .ref (u 3), .ref (u 4), .int (0 : Int32)])) :: (((((([] : va_W) ++ [((u 0), .inl (E.2.1 0, 60, .inl (fun _ => 0)))]) ++ [((u 1), .inl (E.2.1 0, 60, .inl (fun _ => 0)))]) ++ [((u 2), .inl (E.2.1 0, 60, .inl (fun _ => 0)))]) ++ [((u 3), .inl (E.2.1 0, 60, .inl (fun _ => 0)))]) ++ [((u 4), .inl (E.2.1 0, 60, .inl (fun _ => 0)))])
abbrev rmX1_init : Room := { frames := 1, cells := 5, slots := 300, locals := 12 }
set_option maxHeartbeats 8000000 in
set_option maxRecDepth 100000 in
theorem c_X1 {l : Launch} {E : EE} (h0 sz : Nat) : Met l yX1_init (wy yX1_init cX1_init 1 none) rmX1_init (va_Pc [.ref h0] (fun U => PC E sz h0 (.inr (1, dv_X1)) U)) (QC E sz h0 (.inr (1, dv_X1)) (L_X1 E h0)) rmX1_init.cells rmX1_init.slots (va_A [(h0, .inr (1, dv_X1))] sz) := by
  refine ct_of (rm := rmX1_init) (by decide) rfl (by decide) (fun p e s m args below meth c A hA0 C hin hr hP hD hS hA ls hl => ?_)
  clear hA0
  refine lv_aload_n C.1 C.2.1 dX1_init_0 rfl (lv_at hl 0 rfl) ?_
  refine ct_obj C (tb2 64 rfl rfl) hl.1 dX1_init_1 (Nat.le_of_ble_eq_true rfl) (Nat.le_of_ble_eq_true rfl) ?_
  refine lv_aload_n C.1 C.2.1 dX1_init_4 rfl (lv_at hl 0 rfl) ?_
  refine lv_bipush (v := 60) C.1 C.2.1 dX1_init_5 (by decide) ?_
  refine ct_newI C hP hD hS hA 60 (by decide) (by decide) (Nat.le_of_ble_eq_true rfl) (Nat.le_of_ble_eq_true rfl) (Nat.le_of_ble_eq_true rfl) dX1_init_7 (fun q7 H hP hD hS => ?_)
  refine ct_putF (j := 0) (ty := tyX1) C hin hP hD hS co_X1 tyX1_ok (by decide) (tb2 65 rfl rfl) rfl rfl rfl rfl (Nat.le_of_ble_eq_true rfl) dX1_init_9 (fun H locs hP hD hS => ?_)
  refine lv_aload_n C.1 C.2.1 dX1_init_12 rfl (lv_at hl 0 rfl) ?_
  refine lv_bipush (v := 60) C.1 C.2.1 dX1_init_13 (by decide) ?_
  refine ct_newI C hP hD hS hA 60 (by decide) (by decide) (Nat.le_of_ble_eq_true rfl) (Nat.le_of_ble_eq_true rfl) (Nat.le_of_ble_eq_true rfl) dX1_init_15 (fun q15 H hP hD hS => ?_)
  refine ct_putF (j := 1) (ty := tyX1) C hin hP hD hS co_X1 tyX1_ok (by decide) (tb2 67 rfl rfl) rfl rfl rfl rfl (Nat.le_of_ble_eq_true rfl) dX1_init_17 (fun H locs hP hD hS => ?_)
  refine lv_aload_n C.1 C.2.1 dX1_init_20 rfl (lv_at hl 0 rfl) ?_
  refine lv_bipush (v := 60) C.1 C.2.1 dX1_init_21 (by decide) ?_
  refine ct_newI C hP hD hS hA 60 (by decide) (by decide) (Nat.le_of_ble_eq_true rfl) (Nat.le_of_ble_eq_true rfl) (Nat.le_of_ble_eq_true rfl) dX1_init_23 (fun q23 H hP hD hS => ?_)
  refine ct_putF (j := 2) (ty := tyX1) C hin hP hD hS co_X1 tyX1_ok (by decide) (tb2 69 rfl rfl) rfl rfl rfl rfl (Nat.le_of_ble_eq_true rfl) dX1_init_25 (fun H locs hP hD hS => ?_)
  refine lv_aload_n C.1 C.2.1 dX1_init_28 rfl (lv_at hl 0 rfl) ?_
  refine lv_bipush (v := 60) C.1 C.2.1 dX1_init_29 (by decide) ?_
  refine ct_newI C hP hD hS hA 60 (by decide) (by decide) (Nat.le_of_ble_eq_true rfl) (Nat.le_of_ble_eq_true rfl) (Nat.le_of_ble_eq_true rfl) dX1_init_31 (fun q31 H hP hD hS => ?_)
  refine ct_putF (j := 3) (ty := tyX1) C hin hP hD hS co_X1 tyX1_ok (by decide) (tb2 71 rfl rfl) rfl rfl rfl rfl (Nat.le_of_ble_eq_true rfl) dX1_init_33 (fun H locs hP hD hS => ?_)
  refine lv_aload_n C.1 C.2.1 dX1_init_36 rfl (lv_at hl 0 rfl) ?_
  refine lv_bipush (v := 60) C.1 C.2.1 dX1_init_37 (by decide) ?_
  refine ct_newI C hP hD hS hA 60 (by decide) (by decide) (Nat.le_of_ble_eq_true rfl) (Nat.le_of_ble_eq_true rfl) (Nat.le_of_ble_eq_true rfl) dX1_init_39 (fun q39 H hP hD hS => ?_)
  refine ct_putF (j := 4) (ty := tyX1) C hin hP hD hS co_X1 tyX1_ok (by decide) (tb2 73 rfl rfl) rfl rfl rfl rfl (Nat.le_of_ble_eq_true rfl) dX1_init_41 (fun H locs hP hD hS => ?_)
  refine lv_aload_n C.1 C.2.1 dX1_init_44 rfl (lv_at hl 0 rfl) ?_
  refine lv_iconst (v := 0) C.1 C.2.1 dX1_init_45 (by decide) ?_
  refine ct_put (j := 5) (ty := tyX1) C hP hD hS co_X1 tyX1_ok (by decide) (tb2 75 rfl rfl) rfl (vp_nar_int _) rfl (Nat.le_of_ble_eq_true rfl) dX1_init_46 (fun H locs hP hD hS => ?_)
  exact ct_ret (Lf := L_X1 E h0) C hr (fun i => ([q7, q15, q23, q31, q39] : List Nat).getD i 0) hP hD hS dX1_init_49
abbrev S_X7 : Type := (Nat → Nat) × (Nat → Nat)
def L_X7 (E : EE) (h0 : Nat) (u : S_X7) : va_W := (h0, .inr (7, [.ref (u.1 0), .ref (u.1 1), .int (-1 : Int32), .int (0 : Int32), .int (-1 : Int32)])) :: (((([] : va_W) ++ [((u.1 0), .inl (E.2.1 5, 10, .inr (.inr (.inr (.inr (rw10 u.2))))))]) ++ rws E u.2) ++ [((u.1 1), .inl (E.2.1 0, 7, .inl (fun _ => 0)))])
abbrev rmX7_init : Room := { frames := 1, cells := 12, slots := 87, locals := 12 }
set_option maxHeartbeats 8000000 in
set_option maxRecDepth 100000 in
theorem c_X7 {l : Launch} {E : EE} (h0 sz : Nat) : Met l yX7_init (wy yX7_init cX7_init 1 none) rmX7_init (va_Pc [.ref h0] (fun U => PC E sz h0 (.inr (7, dv_X7)) U)) (QC E sz h0 (.inr (7, dv_X7)) (L_X7 E h0)) rmX7_init.cells rmX7_init.slots (va_A [(h0, .inr (7, dv_X7))] sz) := by
  refine ct_of (rm := rmX7_init) (by decide) rfl (by decide) (fun p e s m args below meth c A hA0 C hin hr hP hD hS hA ls hl => ?_)
  clear hA0
  refine lv_aload_n C.1 C.2.1 dX7_init_0 rfl (lv_at hl 0 rfl) ?_
  refine ct_obj C (tb2 102 rfl rfl) hl.1 dX7_init_1 (Nat.le_of_ble_eq_true rfl) (Nat.le_of_ble_eq_true rfl) ?_
  refine lv_aload_n C.1 C.2.1 dX7_init_4 rfl (lv_at hl 0 rfl) ?_
  refine lv_bipush (v := 10) C.1 C.2.1 dX7_init_5 (by decide) ?_
  refine lv_bipush (v := 7) C.1 C.2.1 dX7_init_7 (by decide) ?_
  refine ct_mna C hP hD hS hA (tb2 103 rfl rfl) (Nat.le_of_ble_eq_true rfl) (Nat.le_of_ble_eq_true rfl) dX7_init_9 (fun q9 r9 H hP hD hS => ?_)
  refine ct_putF (j := 0) (ty := tyX7) C hin hP hD hS co_X7 tyX7_ok (by decide) (tb2 105 rfl rfl) rfl rfl rfl rfl (Nat.le_of_ble_eq_true rfl) dX7_init_13 (fun H locs hP hD hS => ?_)
  refine lv_aload_n C.1 C.2.1 dX7_init_16 rfl (lv_at hl 0 rfl) ?_
  refine lv_bipush (v := 7) C.1 C.2.1 dX7_init_17 (by decide) ?_
  refine ct_newI C hP hD hS hA 7 (by decide) (by decide) (Nat.le_of_ble_eq_true rfl) (Nat.le_of_ble_eq_true rfl) (Nat.le_of_ble_eq_true rfl) dX7_init_19 (fun q19 H hP hD hS => ?_)
  refine ct_putF (j := 1) (ty := tyX7) C hin hP hD hS co_X7 tyX7_ok (by decide) (tb2 110 rfl rfl) rfl rfl rfl rfl (Nat.le_of_ble_eq_true rfl) dX7_init_21 (fun H locs hP hD hS => ?_)
  refine lv_aload_n C.1 C.2.1 dX7_init_24 rfl (lv_at hl 0 rfl) ?_
  refine lv_iconst (v := -1) C.1 C.2.1 dX7_init_25 (by decide) ?_
  refine ct_put (j := 2) (ty := tyX7) C hP hD hS co_X7 tyX7_ok (by decide) (tb2 113 rfl rfl) rfl (vp_nar_int _) rfl (Nat.le_of_ble_eq_true rfl) dX7_init_26 (fun H locs hP hD hS => ?_)
  refine lv_aload_n C.1 C.2.1 dX7_init_29 rfl (lv_at hl 0 rfl) ?_
  refine lv_iconst (v := 0) C.1 C.2.1 dX7_init_30 (by decide) ?_
  refine ct_put (j := 3) (ty := tyX7) C hP hD hS co_X7 tyX7_ok (by decide) (tb2 116 rfl rfl) rfl (vp_nar_int _) rfl (Nat.le_of_ble_eq_true rfl) dX7_init_31 (fun H locs hP hD hS => ?_)
  refine lv_aload_n C.1 C.2.1 dX7_init_34 rfl (lv_at hl 0 rfl) ?_
  refine lv_iconst (v := -1) C.1 C.2.1 dX7_init_35 (by decide) ?_
  refine ct_put (j := 4) (ty := tyX7) C hP hD hS co_X7 tyX7_ok (by decide) (tb2 118 rfl rfl) rfl (vp_nar_int _) rfl (Nat.le_of_ble_eq_true rfl) dX7_init_36 (fun H locs hP hD hS => ?_)
  exact ct_ret (Lf := L_X7 E h0) C hr ⟨(fun i => ([q9, q19] : List Nat).getD i 0), r9⟩ hP hD hS dX7_init_39
abbrev S_X5 : Type := (Nat → Nat) × (S_X7) × (S_X7) × (S_X7) × (S_X7) × (S_X7) × (S_X7)
def L_X5 (E : EE) (h0 : Nat) (u : S_X5) : va_W := (h0, .inr (5, [.ref (u.1 0), .int (0 : Int32), .ref (u.1 1), .ref (u.1 2), .ref (u.1 3), .int 0, .int 0, .int 0, .int 0, .int 0, .int 0])) :: ((((((((((([] : va_W) ++ [((u.1 0), .inl (E.2.1 0, 6, .inl (fun _ => 0)))]) ++ [((u.1 1), .inl (E.2.1 4, 6, .inr (.inr (.inr (.inr (va_up (va_up (va_up (va_up (va_up (va_up (fun _ => none) 0 (some (u.1 4))) 1 (some (u.1 5))) 2 (some (u.1 6))) 3 (some (u.1 7))) 4 (some (u.1 8))) 5 (some (u.1 9))))))))]) ++ [((u.1 2), .inl (E.2.1 0, 6, .inl (fun _ => 0)))]) ++ [((u.1 3), .inl (E.2.1 0, 6, .inl (fun _ => 0)))]) ++ L_X7 E (u.1 4) u.2.1) ++ L_X7 E (u.1 5) u.2.2.1) ++ L_X7 E (u.1 6) u.2.2.2.1) ++ L_X7 E (u.1 7) u.2.2.2.2.1) ++ L_X7 E (u.1 8) u.2.2.2.2.2.1) ++ L_X7 E (u.1 9) u.2.2.2.2.2.2)
abbrev rmX5_init : Room := { frames := 2, cells := 82, slots := 576, locals := 32 }
set_option maxHeartbeats 8000000 in
set_option maxRecDepth 100000 in
theorem c_X5 {l : Launch} {E : EE} (h0 sz : Nat) : Met l yX5_init (wy yX5_init cX5_init 2 none) rmX5_init (va_Pc [.ref h0] (fun U => PC E sz h0 (.inr (5, dv_X5)) U)) (QC E sz h0 (.inr (5, dv_X5)) (L_X5 E h0)) rmX5_init.cells rmX5_init.slots (va_A [(h0, .inr (5, dv_X5))] sz) := by
  refine ct_of (rm := rmX5_init) (by decide) rfl (by decide) (fun p e s m args below meth c A hA0 C hin hr hP hD hS hA ls hl => ?_)
  clear hA0
  refine lv_aload_n C.1 C.2.1 dX5_init_0 rfl (lv_at hl 0 rfl) ?_
  refine ct_obj C (tb2 95 rfl rfl) hl.1 dX5_init_1 (Nat.le_of_ble_eq_true rfl) (Nat.le_of_ble_eq_true rfl) ?_
  refine lv_aload_n C.1 C.2.1 dX5_init_4 rfl (lv_at hl 0 rfl) ?_
  refine lv_bipush (v := 6) C.1 C.2.1 dX5_init_5 (by decide) ?_
  refine ct_newI C hP hD hS hA 6 (by decide) (by decide) (Nat.le_of_ble_eq_true rfl) (Nat.le_of_ble_eq_true rfl) (Nat.le_of_ble_eq_true rfl) dX5_init_7 (fun q7 H hP hD hS => ?_)
  refine ct_putF (j := 0) (ty := tyX5) C hin hP hD hS co_X5 tyX5_ok (by decide) (tb2 132 rfl rfl) rfl rfl rfl rfl (Nat.le_of_ble_eq_true rfl) dX5_init_9 (fun H locs hP hD hS => ?_)
  refine lv_aload_n C.1 C.2.1 dX5_init_12 rfl (lv_at hl 0 rfl) ?_
  refine lv_iconst (v := 0) C.1 C.2.1 dX5_init_13 (by decide) ?_
  refine ct_put (j := 1) (ty := tyX5) C hP hD hS co_X5 tyX5_ok (by decide) (tb2 134 rfl rfl) rfl (vp_nar_int _) rfl (Nat.le_of_ble_eq_true rfl) dX5_init_14 (fun H locs hP hD hS => ?_)
  refine lv_aload_n C.1 C.2.1 dX5_init_17 rfl (lv_at hl 0 rfl) ?_
  refine lv_bipush (v := 6) C.1 C.2.1 dX5_init_18 (by decide) ?_
  refine ct_newS C hP hD hS hA (tb2 96 rfl rfl) 6 (by decide) (by decide) (Nat.le_of_ble_eq_true rfl) (Nat.le_of_ble_eq_true rfl) (Nat.le_of_ble_eq_true rfl) dX5_init_20 (fun q20 H hP hD hS => ?_)
  refine ct_putF (j := 2) (ty := tyX5) C hin hP hD hS co_X5 tyX5_ok (by decide) (tb2 136 rfl rfl) rfl rfl rfl rfl (Nat.le_of_ble_eq_true rfl) dX5_init_23 (fun H locs hP hD hS => ?_)
  refine lv_aload_n C.1 C.2.1 dX5_init_26 rfl (lv_at hl 0 rfl) ?_
  refine lv_bipush (v := 6) C.1 C.2.1 dX5_init_27 (by decide) ?_
  refine ct_newI C hP hD hS hA 6 (by decide) (by decide) (Nat.le_of_ble_eq_true rfl) (Nat.le_of_ble_eq_true rfl) (Nat.le_of_ble_eq_true rfl) dX5_init_29 (fun q29 H hP hD hS => ?_)
  refine ct_putF (j := 3) (ty := tyX5) C hin hP hD hS co_X5 tyX5_ok (by decide) (tb2 137 rfl rfl) rfl rfl rfl rfl (Nat.le_of_ble_eq_true rfl) dX5_init_31 (fun H locs hP hD hS => ?_)
  refine lv_aload_n C.1 C.2.1 dX5_init_34 rfl (lv_at hl 0 rfl) ?_
  refine lv_bipush (v := 6) C.1 C.2.1 dX5_init_35 (by decide) ?_
  refine ct_newI C hP hD hS hA 6 (by decide) (by decide) (Nat.le_of_ble_eq_true rfl) (Nat.le_of_ble_eq_true rfl) (Nat.le_of_ble_eq_true rfl) dX5_init_37 (fun q37 H hP hD hS => ?_)
  refine ct_putF (j := 4) (ty := tyX5) C hin hP hD hS co_X5 tyX5_ok (by decide) (tb2 138 rfl rfl) rfl rfl rfl rfl (Nat.le_of_ble_eq_true rfl) dX5_init_39 (fun H locs hP hD hS => ?_)
  refine lv_iconst (v := 0) C.1 C.2.1 dX5_init_42 (by decide) ?_
  refine lv_istore_n (lv' := [(1, .int (0 : Int32)), (0, .ref h0)]) C.1 C.2.1 dX5_init_43 rfl hl (by decide) rfl (fun ls hl => ?_)
  refine lv_iload_n C.1 C.2.1 dX5_init_44 rfl (lv_at hl 0 rfl) ?_
  refine lv_bipush (v := 6) C.1 C.2.1 dX5_init_45 (by decide) ?_
  refine lv_icmp_ge (tgt := 69) C.1 C.2.1 dX5_init_47 (by decide) (fun c1 => absurd c1 (by decide)) (fun _ => ?_)
  refine lv_aload_n C.1 C.2.1 dX5_init_50 rfl (lv_at hl 1 rfl) ?_
  refine ct_get (j := 2) (v := .ref q20) C hP co_X5 (by decide) (tb2 136 rfl rfl) rfl dX5_init_51 ?_
  refine lv_iload_n C.1 C.2.1 dX5_init_54 rfl (lv_at hl 0 rfl) ?_
  refine ct_new (fs := dv_X7) C hP hD hS hA co_X7 tyX7_ok (tb2 96 rfl rfl) (tb2 98 rfl rfl) (tb1 13 rfl rfl) df_X7 (Nat.le_of_ble_eq_true rfl) (Nat.le_of_ble_eq_true rfl) dX5_init_55 (fun q55_30 H hP hD hS => ?_)
  refine lv_dup C.1 C.2.1 dX5_init_58 rfl ?_
  refine ct_callN (rm := rmX7_init) (Lf := L_X7 E q55_30) C hP hD hS hA (by decide +kernel) (tb2 101 rfl rfl) (tb1 13 rfl rfl) (tb2 100 rfl rfl) (by decide +kernel) rfl (c_X7 q55_30 _) ⟨Nat.le_of_ble_eq_true rfl, Nat.le_of_ble_eq_true rfl⟩ ⟨Nat.le_of_ble_eq_true rfl, Nat.le_of_ble_eq_true rfl⟩ hl.1 (Nat.le_of_ble_eq_true rfl) dX5_init_59 (fun u59_32 H locs hP hD hS => ?_)
  refine ct_ast C hP hD hS 2 5 (vs := iv_X7 _ _) rfl rfl (by unfold vp_in; decide) dX5_init_62 (fun H locs hP hD hS => ?_)
  refine lv_iinc (v := 1) (lv' := [(1, .int (1 : Int32)), (0, .ref h0)]) C.1 C.2.1 dX5_init_63 hl (k := 0) rfl (by decide) (by decide) rfl (fun ls hl => ?_)
  refine lv_goto (tgt := 44) C.1 C.2.1 dX5_init_66 (by decide) ?_
  refine lv_iload_n C.1 C.2.1 dX5_init_44 rfl (lv_at hl 0 rfl) ?_
  refine lv_bipush (v := 6) C.1 C.2.1 dX5_init_45 (by decide) ?_
  refine lv_icmp_ge (tgt := 69) C.1 C.2.1 dX5_init_47 (by decide) (fun c1 => absurd c1 (by decide)) (fun _ => ?_)
  refine lv_aload_n C.1 C.2.1 dX5_init_50 rfl (lv_at hl 1 rfl) ?_
  refine ct_get (j := 2) (v := .ref q20) C hP co_X5 (by decide) (tb2 136 rfl rfl) rfl dX5_init_51 ?_
  refine lv_iload_n C.1 C.2.1 dX5_init_54 rfl (lv_at hl 0 rfl) ?_
  refine ct_new (fs := dv_X7) C hP hD hS hA co_X7 tyX7_ok (tb2 96 rfl rfl) (tb2 98 rfl rfl) (tb1 13 rfl rfl) df_X7 (Nat.le_of_ble_eq_true rfl) (Nat.le_of_ble_eq_true rfl) dX5_init_55 (fun q55_42 H hP hD hS => ?_)
  refine lv_dup C.1 C.2.1 dX5_init_58 rfl ?_
  refine ct_callN (rm := rmX7_init) (Lf := L_X7 E q55_42) C hP hD hS hA (by decide +kernel) (tb2 101 rfl rfl) (tb1 13 rfl rfl) (tb2 100 rfl rfl) (by decide +kernel) rfl (c_X7 q55_42 _) ⟨Nat.le_of_ble_eq_true rfl, Nat.le_of_ble_eq_true rfl⟩ ⟨Nat.le_of_ble_eq_true rfl, Nat.le_of_ble_eq_true rfl⟩ hl.1 (Nat.le_of_ble_eq_true rfl) dX5_init_59 (fun u59_44 H locs hP hD hS => ?_)
  refine ct_ast C hP hD hS 2 18 (vs := iv_X7 _ _) rfl rfl (by unfold vp_in; decide) dX5_init_62 (fun H locs hP hD hS => ?_)
  refine lv_iinc (v := 2) (lv' := [(1, .int (2 : Int32)), (0, .ref h0)]) C.1 C.2.1 dX5_init_63 hl (k := 0) rfl (by decide) (by decide) rfl (fun ls hl => ?_)
  refine lv_goto (tgt := 44) C.1 C.2.1 dX5_init_66 (by decide) ?_
  refine lv_iload_n C.1 C.2.1 dX5_init_44 rfl (lv_at hl 0 rfl) ?_
  refine lv_bipush (v := 6) C.1 C.2.1 dX5_init_45 (by decide) ?_
  refine lv_icmp_ge (tgt := 69) C.1 C.2.1 dX5_init_47 (by decide) (fun c1 => absurd c1 (by decide)) (fun _ => ?_)
  refine lv_aload_n C.1 C.2.1 dX5_init_50 rfl (lv_at hl 1 rfl) ?_
  refine ct_get (j := 2) (v := .ref q20) C hP co_X5 (by decide) (tb2 136 rfl rfl) rfl dX5_init_51 ?_
  refine lv_iload_n C.1 C.2.1 dX5_init_54 rfl (lv_at hl 0 rfl) ?_
  refine ct_new (fs := dv_X7) C hP hD hS hA co_X7 tyX7_ok (tb2 96 rfl rfl) (tb2 98 rfl rfl) (tb1 13 rfl rfl) df_X7 (Nat.le_of_ble_eq_true rfl) (Nat.le_of_ble_eq_true rfl) dX5_init_55 (fun q55_54 H hP hD hS => ?_)
  refine lv_dup C.1 C.2.1 dX5_init_58 rfl ?_
  refine ct_callN (rm := rmX7_init) (Lf := L_X7 E q55_54) C hP hD hS hA (by decide +kernel) (tb2 101 rfl rfl) (tb1 13 rfl rfl) (tb2 100 rfl rfl) (by decide +kernel) rfl (c_X7 q55_54 _) ⟨Nat.le_of_ble_eq_true rfl, Nat.le_of_ble_eq_true rfl⟩ ⟨Nat.le_of_ble_eq_true rfl, Nat.le_of_ble_eq_true rfl⟩ hl.1 (Nat.le_of_ble_eq_true rfl) dX5_init_59 (fun u59_56 H locs hP hD hS => ?_)
  refine ct_ast C hP hD hS 2 31 (vs := iv_X7 _ _) rfl rfl (by unfold vp_in; decide) dX5_init_62 (fun H locs hP hD hS => ?_)
  refine lv_iinc (v := 3) (lv' := [(1, .int (3 : Int32)), (0, .ref h0)]) C.1 C.2.1 dX5_init_63 hl (k := 0) rfl (by decide) (by decide) rfl (fun ls hl => ?_)
  refine lv_goto (tgt := 44) C.1 C.2.1 dX5_init_66 (by decide) ?_
  refine lv_iload_n C.1 C.2.1 dX5_init_44 rfl (lv_at hl 0 rfl) ?_
  refine lv_bipush (v := 6) C.1 C.2.1 dX5_init_45 (by decide) ?_
  refine lv_icmp_ge (tgt := 69) C.1 C.2.1 dX5_init_47 (by decide) (fun c1 => absurd c1 (by decide)) (fun _ => ?_)
  refine lv_aload_n C.1 C.2.1 dX5_init_50 rfl (lv_at hl 1 rfl) ?_
  refine ct_get (j := 2) (v := .ref q20) C hP co_X5 (by decide) (tb2 136 rfl rfl) rfl dX5_init_51 ?_
  refine lv_iload_n C.1 C.2.1 dX5_init_54 rfl (lv_at hl 0 rfl) ?_
  refine ct_new (fs := dv_X7) C hP hD hS hA co_X7 tyX7_ok (tb2 96 rfl rfl) (tb2 98 rfl rfl) (tb1 13 rfl rfl) df_X7 (Nat.le_of_ble_eq_true rfl) (Nat.le_of_ble_eq_true rfl) dX5_init_55 (fun q55_66 H hP hD hS => ?_)
  refine lv_dup C.1 C.2.1 dX5_init_58 rfl ?_
  refine ct_callN (rm := rmX7_init) (Lf := L_X7 E q55_66) C hP hD hS hA (by decide +kernel) (tb2 101 rfl rfl) (tb1 13 rfl rfl) (tb2 100 rfl rfl) (by decide +kernel) rfl (c_X7 q55_66 _) ⟨Nat.le_of_ble_eq_true rfl, Nat.le_of_ble_eq_true rfl⟩ ⟨Nat.le_of_ble_eq_true rfl, Nat.le_of_ble_eq_true rfl⟩ hl.1 (Nat.le_of_ble_eq_true rfl) dX5_init_59 (fun u59_68 H locs hP hD hS => ?_)
  refine ct_ast C hP hD hS 2 44 (vs := iv_X7 _ _) rfl rfl (by unfold vp_in; decide) dX5_init_62 (fun H locs hP hD hS => ?_)
  refine lv_iinc (v := 4) (lv' := [(1, .int (4 : Int32)), (0, .ref h0)]) C.1 C.2.1 dX5_init_63 hl (k := 0) rfl (by decide) (by decide) rfl (fun ls hl => ?_)
  refine lv_goto (tgt := 44) C.1 C.2.1 dX5_init_66 (by decide) ?_
  refine lv_iload_n C.1 C.2.1 dX5_init_44 rfl (lv_at hl 0 rfl) ?_
  refine lv_bipush (v := 6) C.1 C.2.1 dX5_init_45 (by decide) ?_
  refine lv_icmp_ge (tgt := 69) C.1 C.2.1 dX5_init_47 (by decide) (fun c1 => absurd c1 (by decide)) (fun _ => ?_)
  refine lv_aload_n C.1 C.2.1 dX5_init_50 rfl (lv_at hl 1 rfl) ?_
  refine ct_get (j := 2) (v := .ref q20) C hP co_X5 (by decide) (tb2 136 rfl rfl) rfl dX5_init_51 ?_
  refine lv_iload_n C.1 C.2.1 dX5_init_54 rfl (lv_at hl 0 rfl) ?_
  refine ct_new (fs := dv_X7) C hP hD hS hA co_X7 tyX7_ok (tb2 96 rfl rfl) (tb2 98 rfl rfl) (tb1 13 rfl rfl) df_X7 (Nat.le_of_ble_eq_true rfl) (Nat.le_of_ble_eq_true rfl) dX5_init_55 (fun q55_78 H hP hD hS => ?_)
  refine lv_dup C.1 C.2.1 dX5_init_58 rfl ?_
  refine ct_callN (rm := rmX7_init) (Lf := L_X7 E q55_78) C hP hD hS hA (by decide +kernel) (tb2 101 rfl rfl) (tb1 13 rfl rfl) (tb2 100 rfl rfl) (by decide +kernel) rfl (c_X7 q55_78 _) ⟨Nat.le_of_ble_eq_true rfl, Nat.le_of_ble_eq_true rfl⟩ ⟨Nat.le_of_ble_eq_true rfl, Nat.le_of_ble_eq_true rfl⟩ hl.1 (Nat.le_of_ble_eq_true rfl) dX5_init_59 (fun u59_80 H locs hP hD hS => ?_)
  refine ct_ast C hP hD hS 2 57 (vs := iv_X7 _ _) rfl rfl (by unfold vp_in; decide) dX5_init_62 (fun H locs hP hD hS => ?_)
  refine lv_iinc (v := 5) (lv' := [(1, .int (5 : Int32)), (0, .ref h0)]) C.1 C.2.1 dX5_init_63 hl (k := 0) rfl (by decide) (by decide) rfl (fun ls hl => ?_)
  refine lv_goto (tgt := 44) C.1 C.2.1 dX5_init_66 (by decide) ?_
  refine lv_iload_n C.1 C.2.1 dX5_init_44 rfl (lv_at hl 0 rfl) ?_
  refine lv_bipush (v := 6) C.1 C.2.1 dX5_init_45 (by decide) ?_
  refine lv_icmp_ge (tgt := 69) C.1 C.2.1 dX5_init_47 (by decide) (fun c1 => absurd c1 (by decide)) (fun _ => ?_)
  refine lv_aload_n C.1 C.2.1 dX5_init_50 rfl (lv_at hl 1 rfl) ?_
  refine ct_get (j := 2) (v := .ref q20) C hP co_X5 (by decide) (tb2 136 rfl rfl) rfl dX5_init_51 ?_
  refine lv_iload_n C.1 C.2.1 dX5_init_54 rfl (lv_at hl 0 rfl) ?_
  refine ct_new (fs := dv_X7) C hP hD hS hA co_X7 tyX7_ok (tb2 96 rfl rfl) (tb2 98 rfl rfl) (tb1 13 rfl rfl) df_X7 (Nat.le_of_ble_eq_true rfl) (Nat.le_of_ble_eq_true rfl) dX5_init_55 (fun q55_90 H hP hD hS => ?_)
  refine lv_dup C.1 C.2.1 dX5_init_58 rfl ?_
  refine ct_callN (rm := rmX7_init) (Lf := L_X7 E q55_90) C hP hD hS hA (by decide +kernel) (tb2 101 rfl rfl) (tb1 13 rfl rfl) (tb2 100 rfl rfl) (by decide +kernel) rfl (c_X7 q55_90 _) ⟨Nat.le_of_ble_eq_true rfl, Nat.le_of_ble_eq_true rfl⟩ ⟨Nat.le_of_ble_eq_true rfl, Nat.le_of_ble_eq_true rfl⟩ hl.1 (Nat.le_of_ble_eq_true rfl) dX5_init_59 (fun u59_92 H locs hP hD hS => ?_)
  refine ct_ast C hP hD hS 2 70 (vs := iv_X7 _ _) rfl rfl (by unfold vp_in; decide) dX5_init_62 (fun H locs hP hD hS => ?_)
  refine lv_iinc (v := 6) (lv' := [(1, .int (6 : Int32)), (0, .ref h0)]) C.1 C.2.1 dX5_init_63 hl (k := 0) rfl (by decide) (by decide) rfl (fun ls hl => ?_)
  refine lv_goto (tgt := 44) C.1 C.2.1 dX5_init_66 (by decide) ?_
  refine lv_iload_n C.1 C.2.1 dX5_init_44 rfl (lv_at hl 0 rfl) ?_
  refine lv_bipush (v := 6) C.1 C.2.1 dX5_init_45 (by decide) ?_
  refine lv_icmp_ge (tgt := 69) C.1 C.2.1 dX5_init_47 (by decide) (fun _ => ?_) (fun c1 => absurd (by decide) c1)
  exact ct_ret (Lf := L_X5 E h0) C hr ⟨(fun i => ([q7, q20, q29, q37, q55_30, q55_42, q55_54, q55_66, q55_78, q55_90] : List Nat).getD i 0), u59_32, u59_44, u59_56, u59_68, u59_80, u59_92⟩ hP hD hS dX5_init_69
abbrev S_X11 : Type := (Nat → Nat) × (S_X10) × (S_X1) × (S_X5) × (S_X7) × (S_X7)
def L_X11 (E : EE) (h0 : Nat) (u : S_X11) : va_W := (h0, .inr (11, [.ref (u.1 0), .ref (u.1 1), .ref (u.1 2), .ref (u.1 3), .ref (u.1 4), .int (0 : Int32)])) :: (((((([] : va_W) ++ L_X10 E (u.1 0) u.2.1) ++ L_X1 E (u.1 1) u.2.2.1) ++ L_X5 E (u.1 2) u.2.2.2.1) ++ L_X7 E (u.1 3) u.2.2.2.2.1) ++ L_X7 E (u.1 4) u.2.2.2.2.2)
abbrev rmX11_init : Room := { frames := 4, cells := 151, slots := 9116, locals := 72 }
set_option maxHeartbeats 8000000 in
set_option maxRecDepth 100000 in
theorem c_X11 {l : Launch} {E : EE} (h0 sz : Nat) : Met l yX11_init (wy yX11_init cX11_init 1 none) rmX11_init (va_Pc [.ref h0] (fun U => PC E sz h0 (.inr (11, dv_X11)) U)) (QC E sz h0 (.inr (11, dv_X11)) (L_X11 E h0)) rmX11_init.cells rmX11_init.slots (va_A [(h0, .inr (11, dv_X11))] sz) := by
  refine ct_of (rm := rmX11_init) (by decide) rfl (by decide) (fun p e s m args below meth c A hA0 C hin hr hP hD hS hA ls hl => ?_)
  clear hA0
  refine lv_aload_n C.1 C.2.1 dX11_init_0 rfl (lv_at hl 0 rfl) ?_
  refine ct_obj C (tb1 26 rfl rfl) hl.1 dX11_init_1 (Nat.le_of_ble_eq_true rfl) (Nat.le_of_ble_eq_true rfl) ?_
  refine lv_aload_n C.1 C.2.1 dX11_init_4 rfl (lv_at hl 0 rfl) ?_
  refine ct_new (fs := dv_X10) C hP hD hS hA co_X10 tyX10_ok (tb1 29 rfl rfl) (tb1 30 rfl rfl) (tb1 2 rfl rfl) df_X10 (Nat.le_of_ble_eq_true rfl) (Nat.le_of_ble_eq_true rfl) dX11_init_5 (fun q5_4 H hP hD hS => ?_)
  refine lv_dup C.1 C.2.1 dX11_init_8 rfl ?_
  refine ct_callN (rm := rmX10_init) (Lf := L_X10 E q5_4) C hP hD hS hA (by decide +kernel) (tb1 33 rfl rfl) (tb1 2 rfl rfl) (tb1 32 rfl rfl) (by decide +kernel) rfl (c_X10 q5_4 _) ⟨Nat.le_of_ble_eq_true rfl, Nat.le_of_ble_eq_true rfl⟩ ⟨Nat.le_of_ble_eq_true rfl, Nat.le_of_ble_eq_true rfl⟩ hl.1 (Nat.le_of_ble_eq_true rfl) dX11_init_9 (fun u9_6 H locs hP hD hS => ?_)
  refine ct_putF (j := 0) (ty := tyX11) C hin hP hD hS co_X11 tyX11_ok (by decide) (tb2 170 rfl rfl) rfl rfl rfl rfl (Nat.le_of_ble_eq_true rfl) dX11_init_12 (fun H locs hP hD hS => ?_)
  refine lv_aload_n C.1 C.2.1 dX11_init_15 rfl (lv_at hl 0 rfl) ?_
  refine ct_new (fs := dv_X1) C hP hD hS hA co_X1 tyX1_ok (tb2 59 rfl rfl) (tb2 60 rfl rfl) (tb1 11 rfl rfl) df_X1 (Nat.le_of_ble_eq_true rfl) (Nat.le_of_ble_eq_true rfl) dX11_init_16 (fun q16_9 H hP hD hS => ?_)
  refine lv_dup C.1 C.2.1 dX11_init_19 rfl ?_
  refine ct_callN (rm := rmX1_init) (Lf := L_X1 E q16_9) C hP hD hS hA (by decide +kernel) (tb2 63 rfl rfl) (tb1 11 rfl rfl) (tb2 62 rfl rfl) (by decide +kernel) rfl (c_X1 q16_9 _) ⟨Nat.le_of_ble_eq_true rfl, Nat.le_of_ble_eq_true rfl⟩ ⟨Nat.le_of_ble_eq_true rfl, Nat.le_of_ble_eq_true rfl⟩ hl.1 (Nat.le_of_ble_eq_true rfl) dX11_init_20 (fun u20_11 H locs hP hD hS => ?_)
  refine ct_putF (j := 1) (ty := tyX11) C hin hP hD hS co_X11 tyX11_ok (by decide) (tb2 171 rfl rfl) rfl rfl rfl rfl (Nat.le_of_ble_eq_true rfl) dX11_init_23 (fun H locs hP hD hS => ?_)
  refine lv_aload_n C.1 C.2.1 dX11_init_26 rfl (lv_at hl 0 rfl) ?_
  refine ct_new (fs := dv_X5) C hP hD hS hA co_X5 tyX5_ok (tb2 90 rfl rfl) (tb2 91 rfl rfl) (tb1 12 rfl rfl) df_X5 (Nat.le_of_ble_eq_true rfl) (Nat.le_of_ble_eq_true rfl) dX11_init_27 (fun q27_14 H hP hD hS => ?_)
  refine lv_dup C.1 C.2.1 dX11_init_30 rfl ?_
  refine ct_callI (rm := rmX5_init) (Lf := L_X5 E q27_14) C hP hD hS hA (tb2 92 rfl rfl) (tb2 94 rfl rfl) (tb1 12 rfl rfl) (tb2 93 rfl rfl) (by decide +kernel) rfl (c_X5 q27_14 _) ⟨Nat.le_of_ble_eq_true rfl, Nat.le_of_ble_eq_true rfl⟩ ⟨Nat.le_of_ble_eq_true rfl, Nat.le_of_ble_eq_true rfl⟩ hl.1 (Nat.le_of_ble_eq_true rfl) dX11_init_31 (fun u31_16 H locs hP hD hS => ?_)
  refine ct_putF (j := 2) (ty := tyX11) C hin hP hD hS co_X11 tyX11_ok (by decide) (tb2 172 rfl rfl) rfl rfl rfl rfl (Nat.le_of_ble_eq_true rfl) dX11_init_34 (fun H locs hP hD hS => ?_)
  refine lv_aload_n C.1 C.2.1 dX11_init_37 rfl (lv_at hl 0 rfl) ?_
  refine ct_new (fs := dv_X7) C hP hD hS hA co_X7 tyX7_ok (tb2 168 rfl rfl) (tb2 98 rfl rfl) (tb1 13 rfl rfl) df_X7 (Nat.le_of_ble_eq_true rfl) (Nat.le_of_ble_eq_true rfl) dX11_init_38 (fun q38_19 H hP hD hS => ?_)
  refine lv_dup C.1 C.2.1 dX11_init_41 rfl ?_
  refine ct_callN (rm := rmX7_init) (Lf := L_X7 E q38_19) C hP hD hS hA (by decide +kernel) (tb2 101 rfl rfl) (tb1 13 rfl rfl) (tb2 100 rfl rfl) (by decide +kernel) rfl (c_X7 q38_19 _) ⟨Nat.le_of_ble_eq_true rfl, Nat.le_of_ble_eq_true rfl⟩ ⟨Nat.le_of_ble_eq_true rfl, Nat.le_of_ble_eq_true rfl⟩ hl.1 (Nat.le_of_ble_eq_true rfl) dX11_init_42 (fun u42_21 H locs hP hD hS => ?_)
  refine ct_putF (j := 3) (ty := tyX11) C hin hP hD hS co_X11 tyX11_ok (by decide) (tb2 173 rfl rfl) rfl rfl rfl rfl (Nat.le_of_ble_eq_true rfl) dX11_init_45 (fun H locs hP hD hS => ?_)
  refine lv_aload_n C.1 C.2.1 dX11_init_48 rfl (lv_at hl 0 rfl) ?_
  refine ct_new (fs := dv_X7) C hP hD hS hA co_X7 tyX7_ok (tb2 168 rfl rfl) (tb2 98 rfl rfl) (tb1 13 rfl rfl) df_X7 (Nat.le_of_ble_eq_true rfl) (Nat.le_of_ble_eq_true rfl) dX11_init_49 (fun q49_24 H hP hD hS => ?_)
  refine lv_dup C.1 C.2.1 dX11_init_52 rfl ?_
  refine ct_callN (rm := rmX7_init) (Lf := L_X7 E q49_24) C hP hD hS hA (by decide +kernel) (tb2 101 rfl rfl) (tb1 13 rfl rfl) (tb2 100 rfl rfl) (by decide +kernel) rfl (c_X7 q49_24 _) ⟨Nat.le_of_ble_eq_true rfl, Nat.le_of_ble_eq_true rfl⟩ ⟨Nat.le_of_ble_eq_true rfl, Nat.le_of_ble_eq_true rfl⟩ hl.1 (Nat.le_of_ble_eq_true rfl) dX11_init_53 (fun u53_26 H locs hP hD hS => ?_)
  refine ct_putF (j := 4) (ty := tyX11) C hin hP hD hS co_X11 tyX11_ok (by decide) (tb2 174 rfl rfl) rfl rfl rfl rfl (Nat.le_of_ble_eq_true rfl) dX11_init_56 (fun H locs hP hD hS => ?_)
  refine lv_aload_n C.1 C.2.1 dX11_init_59 rfl (lv_at hl 0 rfl) ?_
  refine lv_iconst (v := 0) C.1 C.2.1 dX11_init_60 (by decide) ?_
  refine ct_put (j := 5) (ty := tyX11) C hP hD hS co_X11 tyX11_ok (by decide) (tb2 175 rfl rfl) rfl (vp_nar_int _) rfl (Nat.le_of_ble_eq_true rfl) dX11_init_61 (fun H locs hP hD hS => ?_)
  exact ct_ret (Lf := L_X11 E h0) C hr ⟨(fun i => ([q5_4, q16_9, q27_14, q38_19, q49_24] : List Nat).getD i 0), u9_6, u20_11, u31_16, u42_21, u53_26⟩ hP hD hS dX11_init_64
