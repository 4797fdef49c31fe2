abbrev S_X12 : Type := (Nat → Nat)
def L_X12 (E : EE) (h0 : Nat) (u : S_X12) : va_W := (h0, .inr (12, [.int 0, .ref (u 0), .int 0, .ref (u 1), .int 0, .ref (u 2), .ref (u 3), .ref (u 4), .ref (u 5), .ref (u 6), .int 0, .int 0, .int 0, .int 0, .int 0, .int 0, .int 0, .int (-1 : Int32), .int 0, .int 0, .ref (u 7), .ref (u 8), .ref (u 9), .int 0, .int 0, .ref (u 10), .ref (u 11), .ref (u 12), .ref (u 13), .ref (u 14), .ref (u 15), .ref (u 16), .int 0, .ref (u 17), .ref (u 18), .ref (u 19), .ref (u 20), .ref (u 21), .int 0, .ref (u 22), .ref (u 23), .ref (u 24), .int 0, .int 0, .ref (u 25), .ref (u 26), .ref (u 27), .ref (u 28), .int 0, .int (1 : Int32), .ref (u 29), .int 0, .int 0, .ref (u 30), .ref (u 31), .ref (u 32), .int 0, .ref (u 33), .ref (u 34), .ref (u 35), .ref (u 36), .int 0, .ref (u 37), .ref (u 38), .ref (u 39), .ref (u 40), .int (-1 : Int32), .int (-1 : Int32), .ref (u 41), .ref (u 42), .ref (u 43), .ref (u 44), .ref (u 45), .ref (u 46), .ref (u 47), .int 0, .ref (u 48), .ref (u 49), .ref (u 50), .ref (u 51)])) :: ((((((((((((((((((((((((((((((((((((((((((((((((((((([] : va_W) ++ [((u 0), .inl (E.2.1 1, 2000, .inl (fun _ => 0)))]) ++ [((u 1), .inl (E.2.1 1, 2000, .inl (fun _ => 0)))]) ++ [((u 2), .inl (E.2.1 0, 603, .inl (fun _ => 0)))]) ++ [((u 3), .inl (E.2.1 0, 603, .inl (fun _ => 0)))]) ++ [((u 4), .inl (E.2.1 0, 603, .inl (fun _ => 0)))]) ++ [((u 5), .inl (E.2.1 3, 603, .inr (.inl (fun _ => 0))))]) ++ [((u 6), .inl (E.2.1 3, 23, .inr (.inl (vp_updL (vp_updL (vp_updL (vp_updL (vp_updL (vp_updL (vp_updL (vp_updL (vp_updL (vp_updL (vp_updL (vp_updL (vp_updL (vp_updL (vp_updL (vp_updL (vp_updL (vp_updL (vp_updL (vp_updL (vp_updL (vp_updL (vp_updL (fun _ => 0) 0 (wo 97 99 116 0 0)) 1 (wo 102 114 111 109 0)) 2 (wo 117 110 116 105 108)) 3 (wo 101 110 100 0 0)) 4 (wo 109 105 108 108 0)) 5 (wo 97 110 121 0 0)) 6 (wo 109 117 115 116 0)) 7 (wo 111 112 101 110 115)) 8 (wo 105 102 0 0 0)) 9 (wo 111 114 0 0 0)) 10 (wo 97 110 100 0 0)) 11 (wo 108 101 118 101 108)) 12 (wo 109 97 114 107 0)) 13 (wo 99 97 112 0 0)) 14 (wo 98 101 108 111 119)) 15 (wo 97 98 111 118 101)) 16 (wo 105 110 0 0 0)) 17 (wo 119 104 101 101 108)) 18 (wo 103 97 116 101 0)) 19 (wo 104 111 117 114 0)) 20 (wo 100 97 121 0 0)) 21 (wo 119 111 114 107 0)) 22 (wo 111 117 116 0 0)))))]) ++ [((u 7), .inl (E.2.1 3, 11, .inr (.inl (fun _ => 0))))]) ++ [((u 8), .inl (E.2.1 0, 11, .inl (fun _ => 0)))]) ++ [((u 9), .inl (E.2.1 0, 11, .inl (fun _ => 0)))]) ++ [((u 10), .inl (E.2.1 0, 31, .inl (fun _ => 0)))]) ++ [((u 11), .inl (E.2.1 0, 31, .inl (fun _ => 0)))]) ++ [((u 12), .inl (E.2.1 2, 31, .inl (fun _ => 0)))]) ++ [((u 13), .inl (E.2.1 0, 31, .inl (fun _ => 0)))]) ++ [((u 14), .inl (E.2.1 0, 31, .inl (fun _ => 0)))]) ++ [((u 15), .inl (E.2.1 0, 31, .inl (fun _ => 0)))]) ++ [((u 16), .inl (E.2.1 0, 31, .inl (fun _ => 0)))]) ++ [((u 17), .inl (E.2.1 0, 6600, .inl (fun _ => 0)))]) ++ [((u 18), .inl (E.2.1 0, 6600, .inl (fun _ => 0)))]) ++ [((u 19), .inl (E.2.1 0, 6600, .inl (fun _ => 0)))]) ++ [((u 20), .inl (E.2.1 0, 6600, .inl (fun _ => 0)))]) ++ [((u 21), .inl (E.2.1 2, 6600, .inl (fun _ => 0)))]) ++ [((u 22), .inl (E.2.1 0, 20000, .inl (fun _ => 0)))]) ++ [((u 23), .inl (E.2.1 0, 20000, .inl (fun _ => 0)))]) ++ [((u 24), .inl (E.2.1 0, 64, .inl (fun _ => 0)))]) ++ [((u 25), .inl (E.2.1 0, 7, .inl (fun _ => 0)))]) ++ [((u 26), .inl (E.2.1 0, 7, .inl (fun _ => 0)))]) ++ [((u 27), .inl (E.2.1 0, 7, .inl (fun _ => 0)))]) ++ [((u 28), .inl (E.2.1 0, 7, .inl (fun _ => 0)))]) ++ [((u 29), .inl (E.2.1 0, 20, .inl (upd (fun _ => 0) 0 1)))]) ++ [((u 30), .inl (E.2.1 0, 400, .inl (fun _ => 0)))]) ++ [((u 31), .inl (E.2.1 0, 400, .inl (fun _ => 0)))]) ++ [((u 32), .inl (E.2.1 0, 400, .inl (fun _ => 0)))]) ++ [((u 33), .inl (E.2.1 0, 200, .inl (fun _ => 0)))]) ++ [((u 34), .inl (E.2.1 0, 200, .inl (fun _ => 0)))]) ++ [((u 35), .inl (E.2.1 2, 200, .inl (fun _ => 0)))]) ++ [((u 36), .inl (E.2.1 0, 200, .inl (fun _ => 0)))]) ++ [((u 37), .inl (E.2.1 0, 60, .inl (fun _ => 0)))]) ++ [((u 38), .inl (E.2.1 0, 60, .inl (fun _ => 0)))]) ++ [((u 39), .inl (E.2.1 0, 60, .inl (fun _ => 0)))]) ++ [((u 40), .inl (E.2.1 0, 16800, .inl (fun _ => 0)))]) ++ [((u 41), .inl (E.2.1 0, 1680, .inl (fun _ => 0)))]) ++ [((u 42), .inl (E.2.1 0, 3360, .inl (fun _ => 0)))]) ++ [((u 43), .inl (E.2.1 0, 14, .inl (fun _ => 0)))]) ++ [((u 44), .inl (E.2.1 0, 700, .inl (fun _ => 0)))]) ++ [((u 45), .inl (E.2.1 0, 7, .inl (fun _ => 0)))]) ++ [((u 46), .inl (E.2.1 0, 6, .inl (fun _ => 0)))]) ++ [((u 47), .inl (E.2.1 0, 6, .inl (fun _ => 0)))]) ++ [((u 48), .inl (E.2.1 0, 7, .inl (fun _ => 0)))]) ++ [((u 49), .inl (E.2.1 0, 7, .inl (fun _ => 0)))]) ++ [((u 50), .inl (E.2.1 0, 60, .inl (fun _ => 0)))]) ++ [((u 51), .inl (E.2.1 0, 60, .inl (fun _ => 0)))])
abbrev rmX12_init : Room := { frames := 2, cells := 52, slots := 104684, locals := 46 }
set_option maxHeartbeats 8000000 in
set_option maxRecDepth 100000 in
theorem c_X12 {l : Launch} {E : EE} (h0 sz : Nat) : Met l yX12_init (wy yX12_init cX12_init 1 none) rmX12_init (va_Pc [.ref h0] (fun U => PC E sz h0 (.inr (12, dv_X12)) U)) (QC E sz h0 (.inr (12, dv_X12)) (L_X12 E h0)) rmX12_init.cells rmX12_init.slots (va_A [(h0, .inr (12, dv_X12))] sz) := by
  refine ct_of (rm := rmX12_init) (by decide) rfl (by decide) (fun p e s m args below meth c A hA0 C hin hr hP hD hS hA ls hl => ?_)
  clear hA0
  refine lv_aload_n C.1 C.2.1 dX12_init_0 rfl (lv_at hl 0 rfl) ?_
  refine ct_obj C (tb4 182 rfl rfl) hl.1 dX12_init_1 (Nat.le_of_ble_eq_true rfl) (Nat.le_of_ble_eq_true rfl) ?_
  refine lv_aload_n C.1 C.2.1 dX12_init_4 rfl (lv_at hl 0 rfl) ?_
  refine lv_sipush (v := 2000) C.1 C.2.1 dX12_init_5 (by decide) ?_
  refine ct_newB C hP hD hS hA 2000 (by decide) (by decide) (Nat.le_of_ble_eq_true rfl) (Nat.le_of_ble_eq_true rfl) (Nat.le_of_ble_eq_true rfl) dX12_init_8 (fun q8 H hP hD hS => ?_)
  refine ct_putF (j := 1) (ty := tyX12) C hin hP hD hS co_X12 tyX12_ok (by decide) (tb4 190 rfl rfl) rfl rfl rfl rfl (Nat.le_of_ble_eq_true rfl) dX12_init_10 (fun H locs hP hD hS => ?_)
  refine lv_aload_n C.1 C.2.1 dX12_init_13 rfl (lv_at hl 0 rfl) ?_
  refine lv_sipush (v := 2000) C.1 C.2.1 dX12_init_14 (by decide) ?_
  refine ct_newB C hP hD hS hA 2000 (by decide) (by decide) (Nat.le_of_ble_eq_true rfl) (Nat.le_of_ble_eq_true rfl) (Nat.le_of_ble_eq_true rfl) dX12_init_17 (fun q17 H hP hD hS => ?_)
  refine ct_putF (j := 3) (ty := tyX12) C hin hP hD hS co_X12 tyX12_ok (by decide) (tb4 192 rfl rfl) rfl rfl rfl rfl (Nat.le_of_ble_eq_true rfl) dX12_init_19 (fun H locs hP hD hS => ?_)
  refine lv_aload_n C.1 C.2.1 dX12_init_22 rfl (lv_at hl 0 rfl) ?_
  refine lv_sipush (v := 603) C.1 C.2.1 dX12_init_23 (by decide) ?_
  refine ct_newI C hP hD hS hA 603 (by decide) (by decide) (Nat.le_of_ble_eq_true rfl) (Nat.le_of_ble_eq_true rfl) (Nat.le_of_ble_eq_true rfl) dX12_init_26 (fun q26 H hP hD hS => ?_)
  refine ct_putF (j := 5) (ty := tyX12) C hin hP hD hS co_X12 tyX12_ok (by decide) (tb4 194 rfl rfl) rfl rfl rfl rfl (Nat.le_of_ble_eq_true rfl) dX12_init_28 (fun H locs hP hD hS => ?_)
  refine lv_aload_n C.1 C.2.1 dX12_init_31 rfl (lv_at hl 0 rfl) ?_
  refine lv_sipush (v := 603) C.1 C.2.1 dX12_init_32 (by decide) ?_
  refine ct_newI C hP hD hS hA 603 (by decide) (by decide) (Nat.le_of_ble_eq_true rfl) (Nat.le_of_ble_eq_true rfl) (Nat.le_of_ble_eq_true rfl) dX12_init_35 (fun q35 H hP hD hS => ?_)
  refine ct_putF (j := 6) (ty := tyX12) C hin hP hD hS co_X12 tyX12_ok (by decide) (tb4 195 rfl rfl) rfl rfl rfl rfl (Nat.le_of_ble_eq_true rfl) dX12_init_37 (fun H locs hP hD hS => ?_)
  refine lv_aload_n C.1 C.2.1 dX12_init_40 rfl (lv_at hl 0 rfl) ?_
  refine lv_sipush (v := 603) C.1 C.2.1 dX12_init_41 (by decide) ?_
  refine ct_newI C hP hD hS hA 603 (by decide) (by decide) (Nat.le_of_ble_eq_true rfl) (Nat.le_of_ble_eq_true rfl) (Nat.le_of_ble_eq_true rfl) dX12_init_44 (fun q44 H hP hD hS => ?_)
  refine ct_putF (j := 7) (ty := tyX12) C hin hP hD hS co_X12 tyX12_ok (by decide) (tb4 196 rfl rfl) rfl rfl rfl rfl (Nat.le_of_ble_eq_true rfl) dX12_init_46 (fun H locs hP hD hS => ?_)
  refine lv_aload_n C.1 C.2.1 dX12_init_49 rfl (lv_at hl 0 rfl) ?_
  refine lv_sipush (v := 603) C.1 C.2.1 dX12_init_50 (by decide) ?_
  refine ct_newL C hP hD hS hA 603 (by decide) (by decide) (Nat.le_of_ble_eq_true rfl) (Nat.le_of_ble_eq_true rfl) (Nat.le_of_ble_eq_true rfl) dX12_init_53 (fun q53 H hP hD hS => ?_)
  refine ct_putF (j := 8) (ty := tyX12) C hin hP hD hS co_X12 tyX12_ok (by decide) (tb4 197 rfl rfl) rfl rfl rfl rfl (Nat.le_of_ble_eq_true rfl) dX12_init_55 (fun H locs hP hD hS => ?_)
  refine lv_aload_n C.1 C.2.1 dX12_init_58 rfl (lv_at hl 0 rfl) ?_
  refine lv_bipush (v := 23) C.1 C.2.1 dX12_init_59 (by decide) ?_
  refine ct_newL C hP hD hS hA 23 (by decide) (by decide) (Nat.le_of_ble_eq_true rfl) (Nat.le_of_ble_eq_true rfl) (Nat.le_of_ble_eq_true rfl) dX12_init_61 (fun q61 H hP hD hS => ?_)
  refine ct_putF (j := 9) (ty := tyX12) C hin hP hD hS co_X12 tyX12_ok (by decide) (tb4 198 rfl rfl) rfl rfl rfl rfl (Nat.le_of_ble_eq_true rfl) dX12_init_63 (fun H locs hP hD hS => ?_)
  refine lv_aload_n C.1 C.2.1 dX12_init_66 rfl (lv_at hl 0 rfl) ?_
  refine lv_iconst (v := -1) C.1 C.2.1 dX12_init_67 (by decide) ?_
  refine ct_put (j := 17) (ty := tyX12) C hP hD hS co_X12 tyX12_ok (by decide) (tb4 206 rfl rfl) rfl (vp_nar_int _) rfl (Nat.le_of_ble_eq_true rfl) dX12_init_68 (fun H locs hP hD hS => ?_)
  refine lv_aload_n C.1 C.2.1 dX12_init_71 rfl (lv_at hl 0 rfl) ?_
  refine lv_bipush (v := 11) C.1 C.2.1 dX12_init_72 (by decide) ?_
  refine ct_newL C hP hD hS hA 11 (by decide) (by decide) (Nat.le_of_ble_eq_true rfl) (Nat.le_of_ble_eq_true rfl) (Nat.le_of_ble_eq_true rfl) dX12_init_74 (fun q74 H hP hD hS => ?_)
  refine ct_putF (j := 20) (ty := tyX12) C hin hP hD hS co_X12 tyX12_ok (by decide) (tb4 209 rfl rfl) rfl rfl rfl rfl (Nat.le_of_ble_eq_true rfl) dX12_init_76 (fun H locs hP hD hS => ?_)
  refine lv_aload_n C.1 C.2.1 dX12_init_79 rfl (lv_at hl 0 rfl) ?_
  refine lv_bipush (v := 11) C.1 C.2.1 dX12_init_80 (by decide) ?_
  refine ct_newI C hP hD hS hA 11 (by decide) (by decide) (Nat.le_of_ble_eq_true rfl) (Nat.le_of_ble_eq_true rfl) (Nat.le_of_ble_eq_true rfl) dX12_init_82 (fun q82 H hP hD hS => ?_)
  refine ct_putF (j := 21) (ty := tyX12) C hin hP hD hS co_X12 tyX12_ok (by decide) (tb4 210 rfl rfl) rfl rfl rfl rfl (Nat.le_of_ble_eq_true rfl) dX12_init_84 (fun H locs hP hD hS => ?_)
  refine lv_aload_n C.1 C.2.1 dX12_init_87 rfl (lv_at hl 0 rfl) ?_
  refine lv_bipush (v := 11) C.1 C.2.1 dX12_init_88 (by decide) ?_
  refine ct_newI C hP hD hS hA 11 (by decide) (by decide) (Nat.le_of_ble_eq_true rfl) (Nat.le_of_ble_eq_true rfl) (Nat.le_of_ble_eq_true rfl) dX12_init_90 (fun q90 H hP hD hS => ?_)
  refine ct_putF (j := 22) (ty := tyX12) C hin hP hD hS co_X12 tyX12_ok (by decide) (tb4 211 rfl rfl) rfl rfl rfl rfl (Nat.le_of_ble_eq_true rfl) dX12_init_92 (fun H locs hP hD hS => ?_)
  refine lv_aload_n C.1 C.2.1 dX12_init_95 rfl (lv_at hl 0 rfl) ?_
  refine lv_bipush (v := 31) C.1 C.2.1 dX12_init_96 (by decide) ?_
  refine ct_newI C hP hD hS hA 31 (by decide) (by decide) (Nat.le_of_ble_eq_true rfl) (Nat.le_of_ble_eq_true rfl) (Nat.le_of_ble_eq_true rfl) dX12_init_98 (fun q98 H hP hD hS => ?_)
  refine ct_putF (j := 25) (ty := tyX12) C hin hP hD hS co_X12 tyX12_ok (by decide) (tb4 214 rfl rfl) rfl rfl rfl rfl (Nat.le_of_ble_eq_true rfl) dX12_init_100 (fun H locs hP hD hS => ?_)
  refine lv_aload_n C.1 C.2.1 dX12_init_103 rfl (lv_at hl 0 rfl) ?_
  refine lv_bipush (v := 31) C.1 C.2.1 dX12_init_104 (by decide) ?_
  refine ct_newI C hP hD hS hA 31 (by decide) (by decide) (Nat.le_of_ble_eq_true rfl) (Nat.le_of_ble_eq_true rfl) (Nat.le_of_ble_eq_true rfl) dX12_init_106 (fun q106 H hP hD hS => ?_)
  refine ct_putF (j := 26) (ty := tyX12) C hin hP hD hS co_X12 tyX12_ok (by decide) (tb4 215 rfl rfl) rfl rfl rfl rfl (Nat.le_of_ble_eq_true rfl) dX12_init_108 (fun H locs hP hD hS => ?_)
  refine lv_aload_n C.1 C.2.1 dX12_init_111 rfl (lv_at hl 0 rfl) ?_
  refine lv_bipush (v := 31) C.1 C.2.1 dX12_init_112 (by decide) ?_
  refine ct_newZ C hP hD hS hA 31 (by decide) (by decide) (Nat.le_of_ble_eq_true rfl) (Nat.le_of_ble_eq_true rfl) (Nat.le_of_ble_eq_true rfl) dX12_init_114 (fun q114 H hP hD hS => ?_)
  refine ct_putF (j := 27) (ty := tyX12) C hin hP hD hS co_X12 tyX12_ok (by decide) (tb4 216 rfl rfl) rfl rfl rfl rfl (Nat.le_of_ble_eq_true rfl) dX12_init_116 (fun H locs hP hD hS => ?_)
  refine lv_aload_n C.1 C.2.1 dX12_init_119 rfl (lv_at hl 0 rfl) ?_
  refine lv_bipush (v := 31) C.1 C.2.1 dX12_init_120 (by decide) ?_
  refine ct_newI C hP hD hS hA 31 (by decide) (by decide) (Nat.le_of_ble_eq_true rfl) (Nat.le_of_ble_eq_true rfl) (Nat.le_of_ble_eq_true rfl) dX12_init_122 (fun q122 H hP hD hS => ?_)
  refine ct_putF (j := 28) (ty := tyX12) C hin hP hD hS co_X12 tyX12_ok (by decide) (tb4 217 rfl rfl) rfl rfl rfl rfl (Nat.le_of_ble_eq_true rfl) dX12_init_124 (fun H locs hP hD hS => ?_)
  refine lv_aload_n C.1 C.2.1 dX12_init_127 rfl (lv_at hl 0 rfl) ?_
  refine lv_bipush (v := 31) C.1 C.2.1 dX12_init_128 (by decide) ?_
  refine ct_newI C hP hD hS hA 31 (by decide) (by decide) (Nat.le_of_ble_eq_true rfl) (Nat.le_of_ble_eq_true rfl) (Nat.le_of_ble_eq_true rfl) dX12_init_130 (fun q130 H hP hD hS => ?_)
  refine ct_putF (j := 29) (ty := tyX12) C hin hP hD hS co_X12 tyX12_ok (by decide) (tb4 218 rfl rfl) rfl rfl rfl rfl (Nat.le_of_ble_eq_true rfl) dX12_init_132 (fun H locs hP hD hS => ?_)
  refine lv_aload_n C.1 C.2.1 dX12_init_135 rfl (lv_at hl 0 rfl) ?_
  refine lv_bipush (v := 31) C.1 C.2.1 dX12_init_136 (by decide) ?_
  refine ct_newI C hP hD hS hA 31 (by decide) (by decide) (Nat.le_of_ble_eq_true rfl) (Nat.le_of_ble_eq_true rfl) (Nat.le_of_ble_eq_true rfl) dX12_init_138 (fun q138 H hP hD hS => ?_)
  refine ct_putF (j := 30) (ty := tyX12) C hin hP hD hS co_X12 tyX12_ok (by decide) (tb4 219 rfl rfl) rfl rfl rfl rfl (Nat.le_of_ble_eq_true rfl) dX12_init_140 (fun H locs hP hD hS => ?_)
  refine lv_aload_n C.1 C.2.1 dX12_init_143 rfl (lv_at hl 0 rfl) ?_
  refine lv_bipush (v := 31) C.1 C.2.1 dX12_init_144 (by decide) ?_
  refine ct_newI C hP hD hS hA 31 (by decide) (by decide) (Nat.le_of_ble_eq_true rfl) (Nat.le_of_ble_eq_true rfl) (Nat.le_of_ble_eq_true rfl) dX12_init_146 (fun q146 H hP hD hS => ?_)
  refine ct_putF (j := 31) (ty := tyX12) C hin hP hD hS co_X12 tyX12_ok (by decide) (tb4 220 rfl rfl) rfl rfl rfl rfl (Nat.le_of_ble_eq_true rfl) dX12_init_148 (fun H locs hP hD hS => ?_)
  refine lv_aload_n C.1 C.2.1 dX12_init_151 rfl (lv_at hl 0 rfl) ?_
  refine lv_sipush (v := 6600) C.1 C.2.1 dX12_init_152 (by decide) ?_
  refine ct_newI C hP hD hS hA 6600 (by decide) (by decide) (Nat.le_of_ble_eq_true rfl) (Nat.le_of_ble_eq_true rfl) (Nat.le_of_ble_eq_true rfl) dX12_init_155 (fun q155 H hP hD hS => ?_)
  refine ct_putF (j := 33) (ty := tyX12) C hin hP hD hS co_X12 tyX12_ok (by decide) (tb4 222 rfl rfl) rfl rfl rfl rfl (Nat.le_of_ble_eq_true rfl) dX12_init_157 (fun H locs hP hD hS => ?_)
  refine lv_aload_n C.1 C.2.1 dX12_init_160 rfl (lv_at hl 0 rfl) ?_
  refine lv_sipush (v := 6600) C.1 C.2.1 dX12_init_161 (by decide) ?_
  refine ct_newI C hP hD hS hA 6600 (by decide) (by decide) (Nat.le_of_ble_eq_true rfl) (Nat.le_of_ble_eq_true rfl) (Nat.le_of_ble_eq_true rfl) dX12_init_164 (fun q164 H hP hD hS => ?_)
  refine ct_putF (j := 34) (ty := tyX12) C hin hP hD hS co_X12 tyX12_ok (by decide) (tb4 223 rfl rfl) rfl rfl rfl rfl (Nat.le_of_ble_eq_true rfl) dX12_init_166 (fun H locs hP hD hS => ?_)
  refine lv_aload_n C.1 C.2.1 dX12_init_169 rfl (lv_at hl 0 rfl) ?_
  refine lv_sipush (v := 6600) C.1 C.2.1 dX12_init_170 (by decide) ?_
  refine ct_newI C hP hD hS hA 6600 (by decide) (by decide) (Nat.le_of_ble_eq_true rfl) (Nat.le_of_ble_eq_true rfl) (Nat.le_of_ble_eq_true rfl) dX12_init_173 (fun q173 H hP hD hS => ?_)
  refine ct_putF (j := 35) (ty := tyX12) C hin hP hD hS co_X12 tyX12_ok (by decide) (tb4 224 rfl rfl) rfl rfl rfl rfl (Nat.le_of_ble_eq_true rfl) dX12_init_175 (fun H locs hP hD hS => ?_)
  refine lv_aload_n C.1 C.2.1 dX12_init_178 rfl (lv_at hl 0 rfl) ?_
  refine lv_sipush (v := 6600) C.1 C.2.1 dX12_init_179 (by decide) ?_
  refine ct_newI C hP hD hS hA 6600 (by decide) (by decide) (Nat.le_of_ble_eq_true rfl) (Nat.le_of_ble_eq_true rfl) (Nat.le_of_ble_eq_true rfl) dX12_init_182 (fun q182 H hP hD hS => ?_)
  refine ct_putF (j := 36) (ty := tyX12) C hin hP hD hS co_X12 tyX12_ok (by decide) (tb4 225 rfl rfl) rfl rfl rfl rfl (Nat.le_of_ble_eq_true rfl) dX12_init_184 (fun H locs hP hD hS => ?_)
  refine lv_aload_n C.1 C.2.1 dX12_init_187 rfl (lv_at hl 0 rfl) ?_
  refine lv_sipush (v := 6600) C.1 C.2.1 dX12_init_188 (by decide) ?_
  refine ct_newZ C hP hD hS hA 6600 (by decide) (by decide) (Nat.le_of_ble_eq_true rfl) (Nat.le_of_ble_eq_true rfl) (Nat.le_of_ble_eq_true rfl) dX12_init_191 (fun q191 H hP hD hS => ?_)
  refine ct_putF (j := 37) (ty := tyX12) C hin hP hD hS co_X12 tyX12_ok (by decide) (tb4 226 rfl rfl) rfl rfl rfl rfl (Nat.le_of_ble_eq_true rfl) dX12_init_193 (fun H locs hP hD hS => ?_)
  refine lv_aload_n C.1 C.2.1 dX12_init_196 rfl (lv_at hl 0 rfl) ?_
  refine lv_sipush (v := 20000) C.1 C.2.1 dX12_init_197 (by decide) ?_
  refine ct_newI C hP hD hS hA 20000 (by decide) (by decide) (Nat.le_of_ble_eq_true rfl) (Nat.le_of_ble_eq_true rfl) (Nat.le_of_ble_eq_true rfl) dX12_init_200 (fun q200 H hP hD hS => ?_)
  refine ct_putF (j := 39) (ty := tyX12) C hin hP hD hS co_X12 tyX12_ok (by decide) (tb4 228 rfl rfl) rfl rfl rfl rfl (Nat.le_of_ble_eq_true rfl) dX12_init_202 (fun H locs hP hD hS => ?_)
  refine lv_aload_n C.1 C.2.1 dX12_init_205 rfl (lv_at hl 0 rfl) ?_
  refine lv_sipush (v := 20000) C.1 C.2.1 dX12_init_206 (by decide) ?_
  refine ct_newI C hP hD hS hA 20000 (by decide) (by decide) (Nat.le_of_ble_eq_true rfl) (Nat.le_of_ble_eq_true rfl) (Nat.le_of_ble_eq_true rfl) dX12_init_209 (fun q209 H hP hD hS => ?_)
  refine ct_putF (j := 40) (ty := tyX12) C hin hP hD hS co_X12 tyX12_ok (by decide) (tb4 229 rfl rfl) rfl rfl rfl rfl (Nat.le_of_ble_eq_true rfl) dX12_init_211 (fun H locs hP hD hS => ?_)
  refine lv_aload_n C.1 C.2.1 dX12_init_214 rfl (lv_at hl 0 rfl) ?_
  refine lv_bipush (v := 64) C.1 C.2.1 dX12_init_215 (by decide) ?_
  refine ct_newI C hP hD hS hA 64 (by decide) (by decide) (Nat.le_of_ble_eq_true rfl) (Nat.le_of_ble_eq_true rfl) (Nat.le_of_ble_eq_true rfl) dX12_init_217 (fun q217 H hP hD hS => ?_)
  refine ct_putF (j := 41) (ty := tyX12) C hin hP hD hS co_X12 tyX12_ok (by decide) (tb4 230 rfl rfl) rfl rfl rfl rfl (Nat.le_of_ble_eq_true rfl) dX12_init_219 (fun H locs hP hD hS => ?_)
  refine lv_aload_n C.1 C.2.1 dX12_init_222 rfl (lv_at hl 0 rfl) ?_
  refine lv_bipush (v := 7) C.1 C.2.1 dX12_init_223 (by decide) ?_
  refine ct_newI C hP hD hS hA 7 (by decide) (by decide) (Nat.le_of_ble_eq_true rfl) (Nat.le_of_ble_eq_true rfl) (Nat.le_of_ble_eq_true rfl) dX12_init_225 (fun q225 H hP hD hS => ?_)
  refine ct_putF (j := 44) (ty := tyX12) C hin hP hD hS co_X12 tyX12_ok (by decide) (tb4 233 rfl rfl) rfl rfl rfl rfl (Nat.le_of_ble_eq_true rfl) dX12_init_227 (fun H locs hP hD hS => ?_)
  refine lv_aload_n C.1 C.2.1 dX12_init_230 rfl (lv_at hl 0 rfl) ?_
  refine lv_bipush (v := 7) C.1 C.2.1 dX12_init_231 (by decide) ?_
  refine ct_newI C hP hD hS hA 7 (by decide) (by decide) (Nat.le_of_ble_eq_true rfl) (Nat.le_of_ble_eq_true rfl) (Nat.le_of_ble_eq_true rfl) dX12_init_233 (fun q233 H hP hD hS => ?_)
  refine ct_putF (j := 45) (ty := tyX12) C hin hP hD hS co_X12 tyX12_ok (by decide) (tb4 234 rfl rfl) rfl rfl rfl rfl (Nat.le_of_ble_eq_true rfl) dX12_init_235 (fun H locs hP hD hS => ?_)
  refine lv_aload_n C.1 C.2.1 dX12_init_238 rfl (lv_at hl 0 rfl) ?_
  refine lv_bipush (v := 7) C.1 C.2.1 dX12_init_239 (by decide) ?_
  refine ct_newI C hP hD hS hA 7 (by decide) (by decide) (Nat.le_of_ble_eq_true rfl) (Nat.le_of_ble_eq_true rfl) (Nat.le_of_ble_eq_true rfl) dX12_init_241 (fun q241 H hP hD hS => ?_)
  refine ct_putF (j := 46) (ty := tyX12) C hin hP hD hS co_X12 tyX12_ok (by decide) (tb4 235 rfl rfl) rfl rfl rfl rfl (Nat.le_of_ble_eq_true rfl) dX12_init_243 (fun H locs hP hD hS => ?_)
  refine lv_aload_n C.1 C.2.1 dX12_init_246 rfl (lv_at hl 0 rfl) ?_
  refine lv_bipush (v := 7) C.1 C.2.1 dX12_init_247 (by decide) ?_
  refine ct_newI C hP hD hS hA 7 (by decide) (by decide) (Nat.le_of_ble_eq_true rfl) (Nat.le_of_ble_eq_true rfl) (Nat.le_of_ble_eq_true rfl) dX12_init_249 (fun q249 H hP hD hS => ?_)
  refine ct_putF (j := 47) (ty := tyX12) C hin hP hD hS co_X12 tyX12_ok (by decide) (tb4 236 rfl rfl) rfl rfl rfl rfl (Nat.le_of_ble_eq_true rfl) dX12_init_251 (fun H locs hP hD hS => ?_)
  refine lv_aload_n C.1 C.2.1 dX12_init_254 rfl (lv_at hl 0 rfl) ?_
  refine lv_bipush (v := 20) C.1 C.2.1 dX12_init_255 (by decide) ?_
  refine ct_newI C hP hD hS hA 20 (by decide) (by decide) (Nat.le_of_ble_eq_true rfl) (Nat.le_of_ble_eq_true rfl) (Nat.le_of_ble_eq_true rfl) dX12_init_257 (fun q257 H hP hD hS => ?_)
  refine ct_putF (j := 50) (ty := tyX12) C hin hP hD hS co_X12 tyX12_ok (by decide) (tb4 239 rfl rfl) rfl rfl rfl rfl (Nat.le_of_ble_eq_true rfl) dX12_init_259 (fun H locs hP hD hS => ?_)
  refine lv_aload_n C.1 C.2.1 dX12_init_262 rfl (lv_at hl 0 rfl) ?_
  refine lv_sipush (v := 400) C.1 C.2.1 dX12_init_263 (by decide) ?_
  refine ct_newI C hP hD hS hA 400 (by decide) (by decide) (Nat.le_of_ble_eq_true rfl) (Nat.le_of_ble_eq_true rfl) (Nat.le_of_ble_eq_true rfl) dX12_init_266 (fun q266 H hP hD hS => ?_)
  refine ct_putF (j := 53) (ty := tyX12) C hin hP hD hS co_X12 tyX12_ok (by decide) (tb5 2 rfl rfl) rfl rfl rfl rfl (Nat.le_of_ble_eq_true rfl) dX12_init_268 (fun H locs hP hD hS => ?_)
  refine lv_aload_n C.1 C.2.1 dX12_init_271 rfl (lv_at hl 0 rfl) ?_
  refine lv_sipush (v := 400) C.1 C.2.1 dX12_init_272 (by decide) ?_
  refine ct_newI C hP hD hS hA 400 (by decide) (by decide) (Nat.le_of_ble_eq_true rfl) (Nat.le_of_ble_eq_true rfl) (Nat.le_of_ble_eq_true rfl) dX12_init_275 (fun q275 H hP hD hS => ?_)
  refine ct_putF (j := 54) (ty := tyX12) C hin hP hD hS co_X12 tyX12_ok (by decide) (tb5 3 rfl rfl) rfl rfl rfl rfl (Nat.le_of_ble_eq_true rfl) dX12_init_277 (fun H locs hP hD hS => ?_)
  refine lv_aload_n C.1 C.2.1 dX12_init_280 rfl (lv_at hl 0 rfl) ?_
  refine lv_sipush (v := 400) C.1 C.2.1 dX12_init_281 (by decide) ?_
  refine ct_newI C hP hD hS hA 400 (by decide) (by decide) (Nat.le_of_ble_eq_true rfl) (Nat.le_of_ble_eq_true rfl) (Nat.le_of_ble_eq_true rfl) dX12_init_284 (fun q284 H hP hD hS => ?_)
  refine ct_putF (j := 55) (ty := tyX12) C hin hP hD hS co_X12 tyX12_ok (by decide) (tb5 4 rfl rfl) rfl rfl rfl rfl (Nat.le_of_ble_eq_true rfl) dX12_init_286 (fun H locs hP hD hS => ?_)
  refine lv_aload_n C.1 C.2.1 dX12_init_289 rfl (lv_at hl 0 rfl) ?_
  refine lv_sipush (v := 200) C.1 C.2.1 dX12_init_290 (by decide) ?_
  refine ct_newI C hP hD hS hA 200 (by decide) (by decide) (Nat.le_of_ble_eq_true rfl) (Nat.le_of_ble_eq_true rfl) (Nat.le_of_ble_eq_true rfl) dX12_init_293 (fun q293 H hP hD hS => ?_)
  refine ct_putF (j := 57) (ty := tyX12) C hin hP hD hS co_X12 tyX12_ok (by decide) (tb5 6 rfl rfl) rfl rfl rfl rfl (Nat.le_of_ble_eq_true rfl) dX12_init_295 (fun H locs hP hD hS => ?_)
  refine lv_aload_n C.1 C.2.1 dX12_init_298 rfl (lv_at hl 0 rfl) ?_
  refine lv_sipush (v := 200) C.1 C.2.1 dX12_init_299 (by decide) ?_
  refine ct_newI C hP hD hS hA 200 (by decide) (by decide) (Nat.le_of_ble_eq_true rfl) (Nat.le_of_ble_eq_true rfl) (Nat.le_of_ble_eq_true rfl) dX12_init_302 (fun q302 H hP hD hS => ?_)
  refine ct_putF (j := 58) (ty := tyX12) C hin hP hD hS co_X12 tyX12_ok (by decide) (tb5 7 rfl rfl) rfl rfl rfl rfl (Nat.le_of_ble_eq_true rfl) dX12_init_304 (fun H locs hP hD hS => ?_)
  refine lv_aload_n C.1 C.2.1 dX12_init_307 rfl (lv_at hl 0 rfl) ?_
  refine lv_sipush (v := 200) C.1 C.2.1 dX12_init_308 (by decide) ?_
  refine ct_newZ C hP hD hS hA 200 (by decide) (by decide) (Nat.le_of_ble_eq_true rfl) (Nat.le_of_ble_eq_true rfl) (Nat.le_of_ble_eq_true rfl) dX12_init_311 (fun q311 H hP hD hS => ?_)
  refine ct_putF (j := 59) (ty := tyX12) C hin hP hD hS co_X12 tyX12_ok (by decide) (tb5 8 rfl rfl) rfl rfl rfl rfl (Nat.le_of_ble_eq_true rfl) dX12_init_313 (fun H locs hP hD hS => ?_)
  refine lv_aload_n C.1 C.2.1 dX12_init_316 rfl (lv_at hl 0 rfl) ?_
  refine lv_sipush (v := 200) C.1 C.2.1 dX12_init_317 (by decide) ?_
  refine ct_newI C hP hD hS hA 200 (by decide) (by decide) (Nat.le_of_ble_eq_true rfl) (Nat.le_of_ble_eq_true rfl) (Nat.le_of_ble_eq_true rfl) dX12_init_320 (fun q320 H hP hD hS => ?_)
  refine ct_putF (j := 60) (ty := tyX12) C hin hP hD hS co_X12 tyX12_ok (by decide) (tb5 9 rfl rfl) rfl rfl rfl rfl (Nat.le_of_ble_eq_true rfl) dX12_init_322 (fun H locs hP hD hS => ?_)
  refine lv_aload_n C.1 C.2.1 dX12_init_325 rfl (lv_at hl 0 rfl) ?_
  refine lv_bipush (v := 60) C.1 C.2.1 dX12_init_326 (by decide) ?_
  refine ct_newI C hP hD hS hA 60 (by decide) (by decide) (Nat.le_of_ble_eq_true rfl) (Nat.le_of_ble_eq_true rfl) (Nat.le_of_ble_eq_true rfl) dX12_init_328 (fun q328 H hP hD hS => ?_)
  refine ct_putF (j := 62) (ty := tyX12) C hin hP hD hS co_X12 tyX12_ok (by decide) (tb5 11 rfl rfl) rfl rfl rfl rfl (Nat.le_of_ble_eq_true rfl) dX12_init_330 (fun H locs hP hD hS => ?_)
  refine lv_aload_n C.1 C.2.1 dX12_init_333 rfl (lv_at hl 0 rfl) ?_
  refine lv_bipush (v := 60) C.1 C.2.1 dX12_init_334 (by decide) ?_
  refine ct_newI C hP hD hS hA 60 (by decide) (by decide) (Nat.le_of_ble_eq_true rfl) (Nat.le_of_ble_eq_true rfl) (Nat.le_of_ble_eq_true rfl) dX12_init_336 (fun q336 H hP hD hS => ?_)
  refine ct_putF (j := 63) (ty := tyX12) C hin hP hD hS co_X12 tyX12_ok (by decide) (tb5 12 rfl rfl) rfl rfl rfl rfl (Nat.le_of_ble_eq_true rfl) dX12_init_338 (fun H locs hP hD hS => ?_)
  refine lv_aload_n C.1 C.2.1 dX12_init_341 rfl (lv_at hl 0 rfl) ?_
  refine lv_bipush (v := 60) C.1 C.2.1 dX12_init_342 (by decide) ?_
  refine ct_newI C hP hD hS hA 60 (by decide) (by decide) (Nat.le_of_ble_eq_true rfl) (Nat.le_of_ble_eq_true rfl) (Nat.le_of_ble_eq_true rfl) dX12_init_344 (fun q344 H hP hD hS => ?_)
  refine ct_putF (j := 64) (ty := tyX12) C hin hP hD hS co_X12 tyX12_ok (by decide) (tb5 13 rfl rfl) rfl rfl rfl rfl (Nat.le_of_ble_eq_true rfl) dX12_init_346 (fun H locs hP hD hS => ?_)
  refine lv_aload_n C.1 C.2.1 dX12_init_349 rfl (lv_at hl 0 rfl) ?_
  refine lv_sipush (v := 16800) C.1 C.2.1 dX12_init_350 (by decide) ?_
  refine ct_newI C hP hD hS hA 16800 (by decide) (by decide) (Nat.le_of_ble_eq_true rfl) (Nat.le_of_ble_eq_true rfl) (Nat.le_of_ble_eq_true rfl) dX12_init_353 (fun q353 H hP hD hS => ?_)
  refine ct_putF (j := 65) (ty := tyX12) C hin hP hD hS co_X12 tyX12_ok (by decide) (tb5 14 rfl rfl) rfl rfl rfl rfl (Nat.le_of_ble_eq_true rfl) dX12_init_355 (fun H locs hP hD hS => ?_)
  refine lv_aload_n C.1 C.2.1 dX12_init_358 rfl (lv_at hl 0 rfl) ?_
  refine lv_iconst (v := -1) C.1 C.2.1 dX12_init_359 (by decide) ?_
  refine ct_put (j := 66) (ty := tyX12) C hP hD hS co_X12 tyX12_ok (by decide) (tb5 15 rfl rfl) rfl (vp_nar_int _) rfl (Nat.le_of_ble_eq_true rfl) dX12_init_360 (fun H locs hP hD hS => ?_)
  refine lv_aload_n C.1 C.2.1 dX12_init_363 rfl (lv_at hl 0 rfl) ?_
  refine lv_iconst (v := -1) C.1 C.2.1 dX12_init_364 (by decide) ?_
  refine ct_put (j := 67) (ty := tyX12) C hP hD hS co_X12 tyX12_ok (by decide) (tb5 16 rfl rfl) rfl (vp_nar_int _) rfl (Nat.le_of_ble_eq_true rfl) dX12_init_365 (fun H locs hP hD hS => ?_)
  refine lv_aload_n C.1 C.2.1 dX12_init_368 rfl (lv_at hl 0 rfl) ?_
  refine lv_sipush (v := 1680) C.1 C.2.1 dX12_init_369 (by decide) ?_
  refine ct_newI C hP hD hS hA 1680 (by decide) (by decide) (Nat.le_of_ble_eq_true rfl) (Nat.le_of_ble_eq_true rfl) (Nat.le_of_ble_eq_true rfl) dX12_init_372 (fun q372 H hP hD hS => ?_)
  refine ct_putF (j := 68) (ty := tyX12) C hin hP hD hS co_X12 tyX12_ok (by decide) (tb5 17 rfl rfl) rfl rfl rfl rfl (Nat.le_of_ble_eq_true rfl) dX12_init_374 (fun H locs hP hD hS => ?_)
  refine lv_aload_n C.1 C.2.1 dX12_init_377 rfl (lv_at hl 0 rfl) ?_
  refine lv_sipush (v := 3360) C.1 C.2.1 dX12_init_378 (by decide) ?_
  refine ct_newI C hP hD hS hA 3360 (by decide) (by decide) (Nat.le_of_ble_eq_true rfl) (Nat.le_of_ble_eq_true rfl) (Nat.le_of_ble_eq_true rfl) dX12_init_381 (fun q381 H hP hD hS => ?_)
  refine ct_putF (j := 69) (ty := tyX12) C hin hP hD hS co_X12 tyX12_ok (by decide) (tb5 18 rfl rfl) rfl rfl rfl rfl (Nat.le_of_ble_eq_true rfl) dX12_init_383 (fun H locs hP hD hS => ?_)
  refine lv_aload_n C.1 C.2.1 dX12_init_386 rfl (lv_at hl 0 rfl) ?_
  refine lv_bipush (v := 14) C.1 C.2.1 dX12_init_387 (by decide) ?_
  refine ct_newI C hP hD hS hA 14 (by decide) (by decide) (Nat.le_of_ble_eq_true rfl) (Nat.le_of_ble_eq_true rfl) (Nat.le_of_ble_eq_true rfl) dX12_init_389 (fun q389 H hP hD hS => ?_)
  refine ct_putF (j := 70) (ty := tyX12) C hin hP hD hS co_X12 tyX12_ok (by decide) (tb5 19 rfl rfl) rfl rfl rfl rfl (Nat.le_of_ble_eq_true rfl) dX12_init_391 (fun H locs hP hD hS => ?_)
  refine lv_aload_n C.1 C.2.1 dX12_init_394 rfl (lv_at hl 0 rfl) ?_
  refine lv_sipush (v := 700) C.1 C.2.1 dX12_init_395 (by decide) ?_
  refine ct_newI C hP hD hS hA 700 (by decide) (by decide) (Nat.le_of_ble_eq_true rfl) (Nat.le_of_ble_eq_true rfl) (Nat.le_of_ble_eq_true rfl) dX12_init_398 (fun q398 H hP hD hS => ?_)
  refine ct_putF (j := 71) (ty := tyX12) C hin hP hD hS co_X12 tyX12_ok (by decide) (tb5 20 rfl rfl) rfl rfl rfl rfl (Nat.le_of_ble_eq_true rfl) dX12_init_400 (fun H locs hP hD hS => ?_)
  refine lv_aload_n C.1 C.2.1 dX12_init_403 rfl (lv_at hl 0 rfl) ?_
  refine lv_bipush (v := 7) C.1 C.2.1 dX12_init_404 (by decide) ?_
  refine ct_newI C hP hD hS hA 7 (by decide) (by decide) (Nat.le_of_ble_eq_true rfl) (Nat.le_of_ble_eq_true rfl) (Nat.le_of_ble_eq_true rfl) dX12_init_406 (fun q406 H hP hD hS => ?_)
  refine ct_putF (j := 72) (ty := tyX12) C hin hP hD hS co_X12 tyX12_ok (by decide) (tb5 21 rfl rfl) rfl rfl rfl rfl (Nat.le_of_ble_eq_true rfl) dX12_init_408 (fun H locs hP hD hS => ?_)
  refine lv_aload_n C.1 C.2.1 dX12_init_411 rfl (lv_at hl 0 rfl) ?_
  refine lv_bipush (v := 6) C.1 C.2.1 dX12_init_412 (by decide) ?_
  refine ct_newI C hP hD hS hA 6 (by decide) (by decide) (Nat.le_of_ble_eq_true rfl) (Nat.le_of_ble_eq_true rfl) (Nat.le_of_ble_eq_true rfl) dX12_init_414 (fun q414 H hP hD hS => ?_)
  refine ct_putF (j := 73) (ty := tyX12) C hin hP hD hS co_X12 tyX12_ok (by decide) (tb5 22 rfl rfl) rfl rfl rfl rfl (Nat.le_of_ble_eq_true rfl) dX12_init_416 (fun H locs hP hD hS => ?_)
  refine lv_aload_n C.1 C.2.1 dX12_init_419 rfl (lv_at hl 0 rfl) ?_
  refine lv_bipush (v := 6) C.1 C.2.1 dX12_init_420 (by decide) ?_
  refine ct_newI C hP hD hS hA 6 (by decide) (by decide) (Nat.le_of_ble_eq_true rfl) (Nat.le_of_ble_eq_true rfl) (Nat.le_of_ble_eq_true rfl) dX12_init_422 (fun q422 H hP hD hS => ?_)
  refine ct_putF (j := 74) (ty := tyX12) C hin hP hD hS co_X12 tyX12_ok (by decide) (tb5 23 rfl rfl) rfl rfl rfl rfl (Nat.le_of_ble_eq_true rfl) dX12_init_424 (fun H locs hP hD hS => ?_)
  refine lv_aload_n C.1 C.2.1 dX12_init_427 rfl (lv_at hl 0 rfl) ?_
  refine lv_bipush (v := 7) C.1 C.2.1 dX12_init_428 (by decide) ?_
  refine ct_newI C hP hD hS hA 7 (by decide) (by decide) (Nat.le_of_ble_eq_true rfl) (Nat.le_of_ble_eq_true rfl) (Nat.le_of_ble_eq_true rfl) dX12_init_430 (fun q430 H hP hD hS => ?_)
  refine ct_putF (j := 76) (ty := tyX12) C hin hP hD hS co_X12 tyX12_ok (by decide) (tb5 25 rfl rfl) rfl rfl rfl rfl (Nat.le_of_ble_eq_true rfl) dX12_init_432 (fun H locs hP hD hS => ?_)
  refine lv_aload_n C.1 C.2.1 dX12_init_435 rfl (lv_at hl 0 rfl) ?_
  refine lv_bipush (v := 7) C.1 C.2.1 dX12_init_436 (by decide) ?_
  refine ct_newI C hP hD hS hA 7 (by decide) (by decide) (Nat.le_of_ble_eq_true rfl) (Nat.le_of_ble_eq_true rfl) (Nat.le_of_ble_eq_true rfl) dX12_init_438 (fun q438 H hP hD hS => ?_)
  refine ct_putF (j := 77) (ty := tyX12) C hin hP hD hS co_X12 tyX12_ok (by decide) (tb5 26 rfl rfl) rfl rfl rfl rfl (Nat.le_of_ble_eq_true rfl) dX12_init_440 (fun H locs hP hD hS => ?_)
  refine lv_aload_n C.1 C.2.1 dX12_init_443 rfl (lv_at hl 0 rfl) ?_
  refine lv_bipush (v := 60) C.1 C.2.1 dX12_init_444 (by decide) ?_
  refine ct_newI C hP hD hS hA 60 (by decide) (by decide) (Nat.le_of_ble_eq_true rfl) (Nat.le_of_ble_eq_true rfl) (Nat.le_of_ble_eq_true rfl) dX12_init_446 (fun q446 H hP hD hS => ?_)
  refine ct_putF (j := 78) (ty := tyX12) C hin hP hD hS co_X12 tyX12_ok (by decide) (tb5 27 rfl rfl) rfl rfl rfl rfl (Nat.le_of_ble_eq_true rfl) dX12_init_448 (fun H locs hP hD hS => ?_)
  refine lv_aload_n C.1 C.2.1 dX12_init_451 rfl (lv_at hl 0 rfl) ?_
  refine lv_bipush (v := 60) C.1 C.2.1 dX12_init_452 (by decide) ?_
  refine ct_newI C hP hD hS hA 60 (by decide) (by decide) (Nat.le_of_ble_eq_true rfl) (Nat.le_of_ble_eq_true rfl) (Nat.le_of_ble_eq_true rfl) dX12_init_454 (fun q454 H hP hD hS => ?_)
  refine ct_putF (j := 79) (ty := tyX12) C hin hP hD hS co_X12 tyX12_ok (by decide) (tb5 28 rfl rfl) rfl rfl rfl rfl (Nat.le_of_ble_eq_true rfl) dX12_init_456 (fun H locs hP hD hS => ?_)
  refine lv_aload_n C.1 C.2.1 dX12_init_459 rfl (lv_at hl 0 rfl) ?_
  refine ct_get (j := 9) (v := .ref q61) C hP co_X12 (by decide) (tb4 198 rfl rfl) rfl dX12_init_460 ?_
  refine lv_iconst (v := 0) C.1 C.2.1 dX12_init_463 (by decide) ?_
  refine lv_bipush (v := 97) C.1 C.2.1 dX12_init_464 (by decide) ?_
  refine lv_bipush (v := 99) C.1 C.2.1 dX12_init_466 (by decide) ?_
  refine lv_bipush (v := 116) C.1 C.2.1 dX12_init_468 (by decide) ?_
  refine lv_iconst (v := 0) C.1 C.2.1 dX12_init_470 (by decide) ?_
  refine lv_iconst (v := 0) C.1 C.2.1 dX12_init_471 (by decide) ?_
  refine pm_call (As := [.int (97 : Int32), .int (99 : Int32), .int (116 : Int32), .int (0 : Int32), .int (0 : Int32)]) (rest := [.int (0 : Int32), .ref q61]) C.1 C.2.1 C.2.2.1 C.2.2.2.1 C.2.2.2.2.1 ms_X12_word ml_X12_182 (pm_word 97 99 116 0 0) ⟨Nat.le_of_ble_eq_true rfl, Nat.le_of_ble_eq_true rfl⟩ ⟨Nat.le_of_ble_eq_true rfl, Nat.le_of_ble_eq_true rfl⟩ ⟨rfl, rfl⟩ rfl hl.1 (Nat.le_of_ble_eq_true rfl) rfl dX12_init_472 hS (fun H1 locs ho hS => ?_)
  replace hP := va_P.kept hP (fun k z hz => ho z.1 (hP k z hz).lt)
  clear ho
  generalize H1 = H at hP hS ⊢
  refine ct_last' C hP hD hS 7 rfl (by unfold vp_in; decide) dX12_init_475 (fun H locs hP hD hS => ?_)
  refine lv_aload_n C.1 C.2.1 dX12_init_476 rfl (lv_at hl 0 rfl) ?_
  refine ct_get (j := 9) (v := .ref q61) C hP co_X12 (by decide) (tb4 198 rfl rfl) rfl dX12_init_477 ?_
  refine lv_iconst (v := 1) C.1 C.2.1 dX12_init_480 (by decide) ?_
  refine lv_bipush (v := 102) C.1 C.2.1 dX12_init_481 (by decide) ?_
  refine lv_bipush (v := 114) C.1 C.2.1 dX12_init_483 (by decide) ?_
  refine lv_bipush (v := 111) C.1 C.2.1 dX12_init_485 (by decide) ?_
  refine lv_bipush (v := 109) C.1 C.2.1 dX12_init_487 (by decide) ?_
  refine lv_iconst (v := 0) C.1 C.2.1 dX12_init_489 (by decide) ?_
  refine pm_call (As := [.int (102 : Int32), .int (114 : Int32), .int (111 : Int32), .int (109 : Int32), .int (0 : Int32)]) (rest := [.int (1 : Int32), .ref q61]) C.1 C.2.1 C.2.2.1 C.2.2.2.1 C.2.2.2.2.1 ms_X12_word ml_X12_182 (pm_word 102 114 111 109 0) ⟨Nat.le_of_ble_eq_true rfl, Nat.le_of_ble_eq_true rfl⟩ ⟨Nat.le_of_ble_eq_true rfl, Nat.le_of_ble_eq_true rfl⟩ ⟨rfl, rfl⟩ rfl hl.1 (Nat.le_of_ble_eq_true rfl) rfl dX12_init_490 hS (fun H1 locs ho hS => ?_)
  replace hP := va_P.kept hP (fun k z hz => ho z.1 (hP k z hz).lt)
  clear ho
  generalize H1 = H at hP hS ⊢
  refine ct_last' C hP hD hS 7 rfl (by unfold vp_in; decide) dX12_init_493 (fun H locs hP hD hS => ?_)
  refine lv_aload_n C.1 C.2.1 dX12_init_494 rfl (lv_at hl 0 rfl) ?_
  refine ct_get (j := 9) (v := .ref q61) C hP co_X12 (by decide) (tb4 198 rfl rfl) rfl dX12_init_495 ?_
  refine lv_iconst (v := 2) C.1 C.2.1 dX12_init_498 (by decide) ?_
  refine lv_bipush (v := 117) C.1 C.2.1 dX12_init_499 (by decide) ?_
  refine lv_bipush (v := 110) C.1 C.2.1 dX12_init_501 (by decide) ?_
  refine lv_bipush (v := 116) C.1 C.2.1 dX12_init_503 (by decide) ?_
  refine lv_bipush (v := 105) C.1 C.2.1 dX12_init_505 (by decide) ?_
  refine lv_bipush (v := 108) C.1 C.2.1 dX12_init_507 (by decide) ?_
  refine pm_call (As := [.int (117 : Int32), .int (110 : Int32), .int (116 : Int32), .int (105 : Int32), .int (108 : Int32)]) (rest := [.int (2 : Int32), .ref q61]) C.1 C.2.1 C.2.2.1 C.2.2.2.1 C.2.2.2.2.1 ms_X12_word ml_X12_182 (pm_word 117 110 116 105 108) ⟨Nat.le_of_ble_eq_true rfl, Nat.le_of_ble_eq_true rfl⟩ ⟨Nat.le_of_ble_eq_true rfl, Nat.le_of_ble_eq_true rfl⟩ ⟨rfl, rfl⟩ rfl hl.1 (Nat.le_of_ble_eq_true rfl) rfl dX12_init_509 hS (fun H1 locs ho hS => ?_)
  replace hP := va_P.kept hP (fun k z hz => ho z.1 (hP k z hz).lt)
  clear ho
  generalize H1 = H at hP hS ⊢
  refine ct_last' C hP hD hS 7 rfl (by unfold vp_in; decide) dX12_init_512 (fun H locs hP hD hS => ?_)
  refine lv_aload_n C.1 C.2.1 dX12_init_513 rfl (lv_at hl 0 rfl) ?_
  refine ct_get (j := 9) (v := .ref q61) C hP co_X12 (by decide) (tb4 198 rfl rfl) rfl dX12_init_514 ?_
  refine lv_iconst (v := 3) C.1 C.2.1 dX12_init_517 (by decide) ?_
  refine lv_bipush (v := 101) C.1 C.2.1 dX12_init_518 (by decide) ?_
  refine lv_bipush (v := 110) C.1 C.2.1 dX12_init_520 (by decide) ?_
  refine lv_bipush (v := 100) C.1 C.2.1 dX12_init_522 (by decide) ?_
  refine lv_iconst (v := 0) C.1 C.2.1 dX12_init_524 (by decide) ?_
  refine lv_iconst (v := 0) C.1 C.2.1 dX12_init_525 (by decide) ?_
  refine pm_call (As := [.int (101 : Int32), .int (110 : Int32), .int (100 : Int32), .int (0 : Int32), .int (0 : Int32)]) (rest := [.int (3 : Int32), .ref q61]) C.1 C.2.1 C.2.2.1 C.2.2.2.1 C.2.2.2.2.1 ms_X12_word ml_X12_182 (pm_word 101 110 100 0 0) ⟨Nat.le_of_ble_eq_true rfl, Nat.le_of_ble_eq_true rfl⟩ ⟨Nat.le_of_ble_eq_true rfl, Nat.le_of_ble_eq_true rfl⟩ ⟨rfl, rfl⟩ rfl hl.1 (Nat.le_of_ble_eq_true rfl) rfl dX12_init_526 hS (fun H1 locs ho hS => ?_)
  replace hP := va_P.kept hP (fun k z hz => ho z.1 (hP k z hz).lt)
  clear ho
  generalize H1 = H at hP hS ⊢
  refine ct_last' C hP hD hS 7 rfl (by unfold vp_in; decide) dX12_init_529 (fun H locs hP hD hS => ?_)
  refine lv_aload_n C.1 C.2.1 dX12_init_530 rfl (lv_at hl 0 rfl) ?_
  refine ct_get (j := 9) (v := .ref q61) C hP co_X12 (by decide) (tb4 198 rfl rfl) rfl dX12_init_531 ?_
  refine lv_iconst (v := 4) C.1 C.2.1 dX12_init_534 (by decide) ?_
  refine lv_bipush (v := 109) C.1 C.2.1 dX12_init_535 (by decide) ?_
  refine lv_bipush (v := 105) C.1 C.2.1 dX12_init_537 (by decide) ?_
  refine lv_bipush (v := 108) C.1 C.2.1 dX12_init_539 (by decide) ?_
  refine lv_bipush (v := 108) C.1 C.2.1 dX12_init_541 (by decide) ?_
  refine lv_iconst (v := 0) C.1 C.2.1 dX12_init_543 (by decide) ?_
  refine pm_call (As := [.int (109 : Int32), .int (105 : Int32), .int (108 : Int32), .int (108 : Int32), .int (0 : Int32)]) (rest := [.int (4 : Int32), .ref q61]) C.1 C.2.1 C.2.2.1 C.2.2.2.1 C.2.2.2.2.1 ms_X12_word ml_X12_182 (pm_word 109 105 108 108 0) ⟨Nat.le_of_ble_eq_true rfl, Nat.le_of_ble_eq_true rfl⟩ ⟨Nat.le_of_ble_eq_true rfl, Nat.le_of_ble_eq_true rfl⟩ ⟨rfl, rfl⟩ rfl hl.1 (Nat.le_of_ble_eq_true rfl) rfl dX12_init_544 hS (fun H1 locs ho hS => ?_)
  replace hP := va_P.kept hP (fun k z hz => ho z.1 (hP k z hz).lt)
  clear ho
  generalize H1 = H at hP hS ⊢
  refine ct_last' C hP hD hS 7 rfl (by unfold vp_in; decide) dX12_init_547 (fun H locs hP hD hS => ?_)
  refine lv_aload_n C.1 C.2.1 dX12_init_548 rfl (lv_at hl 0 rfl) ?_
  refine ct_get (j := 9) (v := .ref q61) C hP co_X12 (by decide) (tb4 198 rfl rfl) rfl dX12_init_549 ?_
  refine lv_iconst (v := 5) C.1 C.2.1 dX12_init_552 (by decide) ?_
  refine lv_bipush (v := 97) C.1 C.2.1 dX12_init_553 (by decide) ?_
  refine lv_bipush (v := 110) C.1 C.2.1 dX12_init_555 (by decide) ?_
  refine lv_bipush (v := 121) C.1 C.2.1 dX12_init_557 (by decide) ?_
  refine lv_iconst (v := 0) C.1 C.2.1 dX12_init_559 (by decide) ?_
  refine lv_iconst (v := 0) C.1 C.2.1 dX12_init_560 (by decide) ?_
  refine pm_call (As := [.int (97 : Int32), .int (110 : Int32), .int (121 : Int32), .int (0 : Int32), .int (0 : Int32)]) (rest := [.int (5 : Int32), .ref q61]) C.1 C.2.1 C.2.2.1 C.2.2.2.1 C.2.2.2.2.1 ms_X12_word ml_X12_182 (pm_word 97 110 121 0 0) ⟨Nat.le_of_ble_eq_true rfl, Nat.le_of_ble_eq_true rfl⟩ ⟨Nat.le_of_ble_eq_true rfl, Nat.le_of_ble_eq_true rfl⟩ ⟨rfl, rfl⟩ rfl hl.1 (Nat.le_of_ble_eq_true rfl) rfl dX12_init_561 hS (fun H1 locs ho hS => ?_)
  replace hP := va_P.kept hP (fun k z hz => ho z.1 (hP k z hz).lt)
  clear ho
  generalize H1 = H at hP hS ⊢
  refine ct_last' C hP hD hS 7 rfl (by unfold vp_in; decide) dX12_init_564 (fun H locs hP hD hS => ?_)
  refine lv_aload_n C.1 C.2.1 dX12_init_565 rfl (lv_at hl 0 rfl) ?_
  refine ct_get (j := 9) (v := .ref q61) C hP co_X12 (by decide) (tb4 198 rfl rfl) rfl dX12_init_566 ?_
  refine lv_bipush (v := 6) C.1 C.2.1 dX12_init_569 (by decide) ?_
  refine lv_bipush (v := 109) C.1 C.2.1 dX12_init_571 (by decide) ?_
  refine lv_bipush (v := 117) C.1 C.2.1 dX12_init_573 (by decide) ?_
  refine lv_bipush (v := 115) C.1 C.2.1 dX12_init_575 (by decide) ?_
  refine lv_bipush (v := 116) C.1 C.2.1 dX12_init_577 (by decide) ?_
  refine lv_iconst (v := 0) C.1 C.2.1 dX12_init_579 (by decide) ?_
  refine pm_call (As := [.int (109 : Int32), .int (117 : Int32), .int (115 : Int32), .int (116 : Int32), .int (0 : Int32)]) (rest := [.int (6 : Int32), .ref q61]) C.1 C.2.1 C.2.2.1 C.2.2.2.1 C.2.2.2.2.1 ms_X12_word ml_X12_182 (pm_word 109 117 115 116 0) ⟨Nat.le_of_ble_eq_true rfl, Nat.le_of_ble_eq_true rfl⟩ ⟨Nat.le_of_ble_eq_true rfl, Nat.le_of_ble_eq_true rfl⟩ ⟨rfl, rfl⟩ rfl hl.1 (Nat.le_of_ble_eq_true rfl) rfl dX12_init_580 hS (fun H1 locs ho hS => ?_)
  replace hP := va_P.kept hP (fun k z hz => ho z.1 (hP k z hz).lt)
  clear ho
  generalize H1 = H at hP hS ⊢
  refine ct_last' C hP hD hS 7 rfl (by unfold vp_in; decide) dX12_init_583 (fun H locs hP hD hS => ?_)
  refine lv_aload_n C.1 C.2.1 dX12_init_584 rfl (lv_at hl 0 rfl) ?_
  refine ct_get (j := 9) (v := .ref q61) C hP co_X12 (by decide) (tb4 198 rfl rfl) rfl dX12_init_585 ?_
  refine lv_bipush (v := 7) C.1 C.2.1 dX12_init_588 (by decide) ?_
  refine lv_bipush (v := 111) C.1 C.2.1 dX12_init_590 (by decide) ?_
  refine lv_bipush (v := 112) C.1 C.2.1 dX12_init_592 (by decide) ?_
  refine lv_bipush (v := 101) C.1 C.2.1 dX12_init_594 (by decide) ?_
  refine lv_bipush (v := 110) C.1 C.2.1 dX12_init_596 (by decide) ?_
  refine lv_bipush (v := 115) C.1 C.2.1 dX12_init_598 (by decide) ?_
  refine pm_call (As := [.int (111 : Int32), .int (112 : Int32), .int (101 : Int32), .int (110 : Int32), .int (115 : Int32)]) (rest := [.int (7 : Int32), .ref q61]) C.1 C.2.1 C.2.2.1 C.2.2.2.1 C.2.2.2.2.1 ms_X12_word ml_X12_182 (pm_word 111 112 101 110 115) ⟨Nat.le_of_ble_eq_true rfl, Nat.le_of_ble_eq_true rfl⟩ ⟨Nat.le_of_ble_eq_true rfl, Nat.le_of_ble_eq_true rfl⟩ ⟨rfl, rfl⟩ rfl hl.1 (Nat.le_of_ble_eq_true rfl) rfl dX12_init_600 hS (fun H1 locs ho hS => ?_)
  replace hP := va_P.kept hP (fun k z hz => ho z.1 (hP k z hz).lt)
  clear ho
  generalize H1 = H at hP hS ⊢
  refine ct_last' C hP hD hS 7 rfl (by unfold vp_in; decide) dX12_init_603 (fun H locs hP hD hS => ?_)
  refine lv_aload_n C.1 C.2.1 dX12_init_604 rfl (lv_at hl 0 rfl) ?_
  refine ct_get (j := 9) (v := .ref q61) C hP co_X12 (by decide) (tb4 198 rfl rfl) rfl dX12_init_605 ?_
  refine lv_bipush (v := 8) C.1 C.2.1 dX12_init_608 (by decide) ?_
  refine lv_bipush (v := 105) C.1 C.2.1 dX12_init_610 (by decide) ?_
  refine lv_bipush (v := 102) C.1 C.2.1 dX12_init_612 (by decide) ?_
  refine lv_iconst (v := 0) C.1 C.2.1 dX12_init_614 (by decide) ?_
  refine lv_iconst (v := 0) C.1 C.2.1 dX12_init_615 (by decide) ?_
  refine lv_iconst (v := 0) C.1 C.2.1 dX12_init_616 (by decide) ?_
  refine pm_call (As := [.int (105 : Int32), .int (102 : Int32), .int (0 : Int32), .int (0 : Int32), .int (0 : Int32)]) (rest := [.int (8 : Int32), .ref q61]) C.1 C.2.1 C.2.2.1 C.2.2.2.1 C.2.2.2.2.1 ms_X12_word ml_X12_182 (pm_word 105 102 0 0 0) ⟨Nat.le_of_ble_eq_true rfl, Nat.le_of_ble_eq_true rfl⟩ ⟨Nat.le_of_ble_eq_true rfl, Nat.le_of_ble_eq_true rfl⟩ ⟨rfl, rfl⟩ rfl hl.1 (Nat.le_of_ble_eq_true rfl) rfl dX12_init_617 hS (fun H1 locs ho hS => ?_)
  replace hP := va_P.kept hP (fun k z hz => ho z.1 (hP k z hz).lt)
  clear ho
  generalize H1 = H at hP hS ⊢
  refine ct_last' C hP hD hS 7 rfl (by unfold vp_in; decide) dX12_init_620 (fun H locs hP hD hS => ?_)
  refine lv_aload_n C.1 C.2.1 dX12_init_621 rfl (lv_at hl 0 rfl) ?_
  refine ct_get (j := 9) (v := .ref q61) C hP co_X12 (by decide) (tb4 198 rfl rfl) rfl dX12_init_622 ?_
  refine lv_bipush (v := 9) C.1 C.2.1 dX12_init_625 (by decide) ?_
  refine lv_bipush (v := 111) C.1 C.2.1 dX12_init_627 (by decide) ?_
  refine lv_bipush (v := 114) C.1 C.2.1 dX12_init_629 (by decide) ?_
  refine lv_iconst (v := 0) C.1 C.2.1 dX12_init_631 (by decide) ?_
  refine lv_iconst (v := 0) C.1 C.2.1 dX12_init_632 (by decide) ?_
  refine lv_iconst (v := 0) C.1 C.2.1 dX12_init_633 (by decide) ?_
  refine pm_call (As := [.int (111 : Int32), .int (114 : Int32), .int (0 : Int32), .int (0 : Int32), .int (0 : Int32)]) (rest := [.int (9 : Int32), .ref q61]) C.1 C.2.1 C.2.2.1 C.2.2.2.1 C.2.2.2.2.1 ms_X12_word ml_X12_182 (pm_word 111 114 0 0 0) ⟨Nat.le_of_ble_eq_true rfl, Nat.le_of_ble_eq_true rfl⟩ ⟨Nat.le_of_ble_eq_true rfl, Nat.le_of_ble_eq_true rfl⟩ ⟨rfl, rfl⟩ rfl hl.1 (Nat.le_of_ble_eq_true rfl) rfl dX12_init_634 hS (fun H1 locs ho hS => ?_)
  replace hP := va_P.kept hP (fun k z hz => ho z.1 (hP k z hz).lt)
  clear ho
  generalize H1 = H at hP hS ⊢
  refine ct_last' C hP hD hS 7 rfl (by unfold vp_in; decide) dX12_init_637 (fun H locs hP hD hS => ?_)
  refine lv_aload_n C.1 C.2.1 dX12_init_638 rfl (lv_at hl 0 rfl) ?_
  refine ct_get (j := 9) (v := .ref q61) C hP co_X12 (by decide) (tb4 198 rfl rfl) rfl dX12_init_639 ?_
  refine lv_bipush (v := 10) C.1 C.2.1 dX12_init_642 (by decide) ?_
  refine lv_bipush (v := 97) C.1 C.2.1 dX12_init_644 (by decide) ?_
  refine lv_bipush (v := 110) C.1 C.2.1 dX12_init_646 (by decide) ?_
  refine lv_bipush (v := 100) C.1 C.2.1 dX12_init_648 (by decide) ?_
  refine lv_iconst (v := 0) C.1 C.2.1 dX12_init_650 (by decide) ?_
  refine lv_iconst (v := 0) C.1 C.2.1 dX12_init_651 (by decide) ?_
  refine pm_call (As := [.int (97 : Int32), .int (110 : Int32), .int (100 : Int32), .int (0 : Int32), .int (0 : Int32)]) (rest := [.int (10 : Int32), .ref q61]) C.1 C.2.1 C.2.2.1 C.2.2.2.1 C.2.2.2.2.1 ms_X12_word ml_X12_182 (pm_word 97 110 100 0 0) ⟨Nat.le_of_ble_eq_true rfl, Nat.le_of_ble_eq_true rfl⟩ ⟨Nat.le_of_ble_eq_true rfl, Nat.le_of_ble_eq_true rfl⟩ ⟨rfl, rfl⟩ rfl hl.1 (Nat.le_of_ble_eq_true rfl) rfl dX12_init_652 hS (fun H1 locs ho hS => ?_)
  replace hP := va_P.kept hP (fun k z hz => ho z.1 (hP k z hz).lt)
  clear ho
  generalize H1 = H at hP hS ⊢
  refine ct_last' C hP hD hS 7 rfl (by unfold vp_in; decide) dX12_init_655 (fun H locs hP hD hS => ?_)
  refine lv_aload_n C.1 C.2.1 dX12_init_656 rfl (lv_at hl 0 rfl) ?_
  refine ct_get (j := 9) (v := .ref q61) C hP co_X12 (by decide) (tb4 198 rfl rfl) rfl dX12_init_657 ?_
  refine lv_bipush (v := 11) C.1 C.2.1 dX12_init_660 (by decide) ?_
  refine lv_bipush (v := 108) C.1 C.2.1 dX12_init_662 (by decide) ?_
  refine lv_bipush (v := 101) C.1 C.2.1 dX12_init_664 (by decide) ?_
  refine lv_bipush (v := 118) C.1 C.2.1 dX12_init_666 (by decide) ?_
  refine lv_bipush (v := 101) C.1 C.2.1 dX12_init_668 (by decide) ?_
  refine lv_bipush (v := 108) C.1 C.2.1 dX12_init_670 (by decide) ?_
  refine pm_call (As := [.int (108 : Int32), .int (101 : Int32), .int (118 : Int32), .int (101 : Int32), .int (108 : Int32)]) (rest := [.int (11 : Int32), .ref q61]) C.1 C.2.1 C.2.2.1 C.2.2.2.1 C.2.2.2.2.1 ms_X12_word ml_X12_182 (pm_word 108 101 118 101 108) ⟨Nat.le_of_ble_eq_true rfl, Nat.le_of_ble_eq_true rfl⟩ ⟨Nat.le_of_ble_eq_true rfl, Nat.le_of_ble_eq_true rfl⟩ ⟨rfl, rfl⟩ rfl hl.1 (Nat.le_of_ble_eq_true rfl) rfl dX12_init_672 hS (fun H1 locs ho hS => ?_)
  replace hP := va_P.kept hP (fun k z hz => ho z.1 (hP k z hz).lt)
  clear ho
  generalize H1 = H at hP hS ⊢
  refine ct_last' C hP hD hS 7 rfl (by unfold vp_in; decide) dX12_init_675 (fun H locs hP hD hS => ?_)
  refine lv_aload_n C.1 C.2.1 dX12_init_676 rfl (lv_at hl 0 rfl) ?_
  refine ct_get (j := 9) (v := .ref q61) C hP co_X12 (by decide) (tb4 198 rfl rfl) rfl dX12_init_677 ?_
  refine lv_bipush (v := 12) C.1 C.2.1 dX12_init_680 (by decide) ?_
  refine lv_bipush (v := 109) C.1 C.2.1 dX12_init_682 (by decide) ?_
  refine lv_bipush (v := 97) C.1 C.2.1 dX12_init_684 (by decide) ?_
  refine lv_bipush (v := 114) C.1 C.2.1 dX12_init_686 (by decide) ?_
  refine lv_bipush (v := 107) C.1 C.2.1 dX12_init_688 (by decide) ?_
  refine lv_iconst (v := 0) C.1 C.2.1 dX12_init_690 (by decide) ?_
  refine pm_call (As := [.int (109 : Int32), .int (97 : Int32), .int (114 : Int32), .int (107 : Int32), .int (0 : Int32)]) (rest := [.int (12 : Int32), .ref q61]) C.1 C.2.1 C.2.2.1 C.2.2.2.1 C.2.2.2.2.1 ms_X12_word ml_X12_182 (pm_word 109 97 114 107 0) ⟨Nat.le_of_ble_eq_true rfl, Nat.le_of_ble_eq_true rfl⟩ ⟨Nat.le_of_ble_eq_true rfl, Nat.le_of_ble_eq_true rfl⟩ ⟨rfl, rfl⟩ rfl hl.1 (Nat.le_of_ble_eq_true rfl) rfl dX12_init_691 hS (fun H1 locs ho hS => ?_)
  replace hP := va_P.kept hP (fun k z hz => ho z.1 (hP k z hz).lt)
  clear ho
  generalize H1 = H at hP hS ⊢
  refine ct_last' C hP hD hS 7 rfl (by unfold vp_in; decide) dX12_init_694 (fun H locs hP hD hS => ?_)
  refine lv_aload_n C.1 C.2.1 dX12_init_695 rfl (lv_at hl 0 rfl) ?_
  refine ct_get (j := 9) (v := .ref q61) C hP co_X12 (by decide) (tb4 198 rfl rfl) rfl dX12_init_696 ?_
  refine lv_bipush (v := 13) C.1 C.2.1 dX12_init_699 (by decide) ?_
  refine lv_bipush (v := 99) C.1 C.2.1 dX12_init_701 (by decide) ?_
  refine lv_bipush (v := 97) C.1 C.2.1 dX12_init_703 (by decide) ?_
  refine lv_bipush (v := 112) C.1 C.2.1 dX12_init_705 (by decide) ?_
  refine lv_iconst (v := 0) C.1 C.2.1 dX12_init_707 (by decide) ?_
  refine lv_iconst (v := 0) C.1 C.2.1 dX12_init_708 (by decide) ?_
  refine pm_call (As := [.int (99 : Int32), .int (97 : Int32), .int (112 : Int32), .int (0 : Int32), .int (0 : Int32)]) (rest := [.int (13 : Int32), .ref q61]) C.1 C.2.1 C.2.2.1 C.2.2.2.1 C.2.2.2.2.1 ms_X12_word ml_X12_182 (pm_word 99 97 112 0 0) ⟨Nat.le_of_ble_eq_true rfl, Nat.le_of_ble_eq_true rfl⟩ ⟨Nat.le_of_ble_eq_true rfl, Nat.le_of_ble_eq_true rfl⟩ ⟨rfl, rfl⟩ rfl hl.1 (Nat.le_of_ble_eq_true rfl) rfl dX12_init_709 hS (fun H1 locs ho hS => ?_)
  replace hP := va_P.kept hP (fun k z hz => ho z.1 (hP k z hz).lt)
  clear ho
  generalize H1 = H at hP hS ⊢
  refine ct_last' C hP hD hS 7 rfl (by unfold vp_in; decide) dX12_init_712 (fun H locs hP hD hS => ?_)
  refine lv_aload_n C.1 C.2.1 dX12_init_713 rfl (lv_at hl 0 rfl) ?_
  refine ct_get (j := 9) (v := .ref q61) C hP co_X12 (by decide) (tb4 198 rfl rfl) rfl dX12_init_714 ?_
  refine lv_bipush (v := 14) C.1 C.2.1 dX12_init_717 (by decide) ?_
  refine lv_bipush (v := 98) C.1 C.2.1 dX12_init_719 (by decide) ?_
  refine lv_bipush (v := 101) C.1 C.2.1 dX12_init_721 (by decide) ?_
  refine lv_bipush (v := 108) C.1 C.2.1 dX12_init_723 (by decide) ?_
  refine lv_bipush (v := 111) C.1 C.2.1 dX12_init_725 (by decide) ?_
  refine lv_bipush (v := 119) C.1 C.2.1 dX12_init_727 (by decide) ?_
  refine pm_call (As := [.int (98 : Int32), .int (101 : Int32), .int (108 : Int32), .int (111 : Int32), .int (119 : Int32)]) (rest := [.int (14 : Int32), .ref q61]) C.1 C.2.1 C.2.2.1 C.2.2.2.1 C.2.2.2.2.1 ms_X12_word ml_X12_182 (pm_word 98 101 108 111 119) ⟨Nat.le_of_ble_eq_true rfl, Nat.le_of_ble_eq_true rfl⟩ ⟨Nat.le_of_ble_eq_true rfl, Nat.le_of_ble_eq_true rfl⟩ ⟨rfl, rfl⟩ rfl hl.1 (Nat.le_of_ble_eq_true rfl) rfl dX12_init_729 hS (fun H1 locs ho hS => ?_)
  replace hP := va_P.kept hP (fun k z hz => ho z.1 (hP k z hz).lt)
  clear ho
  generalize H1 = H at hP hS ⊢
  refine ct_last' C hP hD hS 7 rfl (by unfold vp_in; decide) dX12_init_732 (fun H locs hP hD hS => ?_)
  refine lv_aload_n C.1 C.2.1 dX12_init_733 rfl (lv_at hl 0 rfl) ?_
  refine ct_get (j := 9) (v := .ref q61) C hP co_X12 (by decide) (tb4 198 rfl rfl) rfl dX12_init_734 ?_
  refine lv_bipush (v := 15) C.1 C.2.1 dX12_init_737 (by decide) ?_
  refine lv_bipush (v := 97) C.1 C.2.1 dX12_init_739 (by decide) ?_
  refine lv_bipush (v := 98) C.1 C.2.1 dX12_init_741 (by decide) ?_
  refine lv_bipush (v := 111) C.1 C.2.1 dX12_init_743 (by decide) ?_
  refine lv_bipush (v := 118) C.1 C.2.1 dX12_init_745 (by decide) ?_
  refine lv_bipush (v := 101) C.1 C.2.1 dX12_init_747 (by decide) ?_
  refine pm_call (As := [.int (97 : Int32), .int (98 : Int32), .int (111 : Int32), .int (118 : Int32), .int (101 : Int32)]) (rest := [.int (15 : Int32), .ref q61]) C.1 C.2.1 C.2.2.1 C.2.2.2.1 C.2.2.2.2.1 ms_X12_word ml_X12_182 (pm_word 97 98 111 118 101) ⟨Nat.le_of_ble_eq_true rfl, Nat.le_of_ble_eq_true rfl⟩ ⟨Nat.le_of_ble_eq_true rfl, Nat.le_of_ble_eq_true rfl⟩ ⟨rfl, rfl⟩ rfl hl.1 (Nat.le_of_ble_eq_true rfl) rfl dX12_init_749 hS (fun H1 locs ho hS => ?_)
  replace hP := va_P.kept hP (fun k z hz => ho z.1 (hP k z hz).lt)
  clear ho
  generalize H1 = H at hP hS ⊢
  refine ct_last' C hP hD hS 7 rfl (by unfold vp_in; decide) dX12_init_752 (fun H locs hP hD hS => ?_)
  refine lv_aload_n C.1 C.2.1 dX12_init_753 rfl (lv_at hl 0 rfl) ?_
  refine ct_get (j := 9) (v := .ref q61) C hP co_X12 (by decide) (tb4 198 rfl rfl) rfl dX12_init_754 ?_
  refine lv_bipush (v := 16) C.1 C.2.1 dX12_init_757 (by decide) ?_
  refine lv_bipush (v := 105) C.1 C.2.1 dX12_init_759 (by decide) ?_
  refine lv_bipush (v := 110) C.1 C.2.1 dX12_init_761 (by decide) ?_
  refine lv_iconst (v := 0) C.1 C.2.1 dX12_init_763 (by decide) ?_
  refine lv_iconst (v := 0) C.1 C.2.1 dX12_init_764 (by decide) ?_
  refine lv_iconst (v := 0) C.1 C.2.1 dX12_init_765 (by decide) ?_
  refine pm_call (As := [.int (105 : Int32), .int (110 : Int32), .int (0 : Int32), .int (0 : Int32), .int (0 : Int32)]) (rest := [.int (16 : Int32), .ref q61]) C.1 C.2.1 C.2.2.1 C.2.2.2.1 C.2.2.2.2.1 ms_X12_word ml_X12_182 (pm_word 105 110 0 0 0) ⟨Nat.le_of_ble_eq_true rfl, Nat.le_of_ble_eq_true rfl⟩ ⟨Nat.le_of_ble_eq_true rfl, Nat.le_of_ble_eq_true rfl⟩ ⟨rfl, rfl⟩ rfl hl.1 (Nat.le_of_ble_eq_true rfl) rfl dX12_init_766 hS (fun H1 locs ho hS => ?_)
  replace hP := va_P.kept hP (fun k z hz => ho z.1 (hP k z hz).lt)
  clear ho
  generalize H1 = H at hP hS ⊢
  refine ct_last' C hP hD hS 7 rfl (by unfold vp_in; decide) dX12_init_769 (fun H locs hP hD hS => ?_)
  refine lv_aload_n C.1 C.2.1 dX12_init_770 rfl (lv_at hl 0 rfl) ?_
  refine ct_get (j := 9) (v := .ref q61) C hP co_X12 (by decide) (tb4 198 rfl rfl) rfl dX12_init_771 ?_
  refine lv_bipush (v := 17) C.1 C.2.1 dX12_init_774 (by decide) ?_
  refine lv_bipush (v := 119) C.1 C.2.1 dX12_init_776 (by decide) ?_
  refine lv_bipush (v := 104) C.1 C.2.1 dX12_init_778 (by decide) ?_
  refine lv_bipush (v := 101) C.1 C.2.1 dX12_init_780 (by decide) ?_
  refine lv_bipush (v := 101) C.1 C.2.1 dX12_init_782 (by decide) ?_
  refine lv_bipush (v := 108) C.1 C.2.1 dX12_init_784 (by decide) ?_
  refine pm_call (As := [.int (119 : Int32), .int (104 : Int32), .int (101 : Int32), .int (101 : Int32), .int (108 : Int32)]) (rest := [.int (17 : Int32), .ref q61]) C.1 C.2.1 C.2.2.1 C.2.2.2.1 C.2.2.2.2.1 ms_X12_word ml_X12_182 (pm_word 119 104 101 101 108) ⟨Nat.le_of_ble_eq_true rfl, Nat.le_of_ble_eq_true rfl⟩ ⟨Nat.le_of_ble_eq_true rfl, Nat.le_of_ble_eq_true rfl⟩ ⟨rfl, rfl⟩ rfl hl.1 (Nat.le_of_ble_eq_true rfl) rfl dX12_init_786 hS (fun H1 locs ho hS => ?_)
  replace hP := va_P.kept hP (fun k z hz => ho z.1 (hP k z hz).lt)
  clear ho
  generalize H1 = H at hP hS ⊢
  refine ct_last' C hP hD hS 7 rfl (by unfold vp_in; decide) dX12_init_789 (fun H locs hP hD hS => ?_)
  refine lv_aload_n C.1 C.2.1 dX12_init_790 rfl (lv_at hl 0 rfl) ?_
  refine ct_get (j := 9) (v := .ref q61) C hP co_X12 (by decide) (tb4 198 rfl rfl) rfl dX12_init_791 ?_
  refine lv_bipush (v := 18) C.1 C.2.1 dX12_init_794 (by decide) ?_
  refine lv_bipush (v := 103) C.1 C.2.1 dX12_init_796 (by decide) ?_
  refine lv_bipush (v := 97) C.1 C.2.1 dX12_init_798 (by decide) ?_
  refine lv_bipush (v := 116) C.1 C.2.1 dX12_init_800 (by decide) ?_
  refine lv_bipush (v := 101) C.1 C.2.1 dX12_init_802 (by decide) ?_
  refine lv_iconst (v := 0) C.1 C.2.1 dX12_init_804 (by decide) ?_
  refine pm_call (As := [.int (103 : Int32), .int (97 : Int32), .int (116 : Int32), .int (101 : Int32), .int (0 : Int32)]) (rest := [.int (18 : Int32), .ref q61]) C.1 C.2.1 C.2.2.1 C.2.2.2.1 C.2.2.2.2.1 ms_X12_word ml_X12_182 (pm_word 103 97 116 101 0) ⟨Nat.le_of_ble_eq_true rfl, Nat.le_of_ble_eq_true rfl⟩ ⟨Nat.le_of_ble_eq_true rfl, Nat.le_of_ble_eq_true rfl⟩ ⟨rfl, rfl⟩ rfl hl.1 (Nat.le_of_ble_eq_true rfl) rfl dX12_init_805 hS (fun H1 locs ho hS => ?_)
  replace hP := va_P.kept hP (fun k z hz => ho z.1 (hP k z hz).lt)
  clear ho
  generalize H1 = H at hP hS ⊢
  refine ct_last' C hP hD hS 7 rfl (by unfold vp_in; decide) dX12_init_808 (fun H locs hP hD hS => ?_)
  refine lv_aload_n C.1 C.2.1 dX12_init_809 rfl (lv_at hl 0 rfl) ?_
  refine ct_get (j := 9) (v := .ref q61) C hP co_X12 (by decide) (tb4 198 rfl rfl) rfl dX12_init_810 ?_
  refine lv_bipush (v := 19) C.1 C.2.1 dX12_init_813 (by decide) ?_
  refine lv_bipush (v := 104) C.1 C.2.1 dX12_init_815 (by decide) ?_
  refine lv_bipush (v := 111) C.1 C.2.1 dX12_init_817 (by decide) ?_
  refine lv_bipush (v := 117) C.1 C.2.1 dX12_init_819 (by decide) ?_
  refine lv_bipush (v := 114) C.1 C.2.1 dX12_init_821 (by decide) ?_
  refine lv_iconst (v := 0) C.1 C.2.1 dX12_init_823 (by decide) ?_
  refine pm_call (As := [.int (104 : Int32), .int (111 : Int32), .int (117 : Int32), .int (114 : Int32), .int (0 : Int32)]) (rest := [.int (19 : Int32), .ref q61]) C.1 C.2.1 C.2.2.1 C.2.2.2.1 C.2.2.2.2.1 ms_X12_word ml_X12_182 (pm_word 104 111 117 114 0) ⟨Nat.le_of_ble_eq_true rfl, Nat.le_of_ble_eq_true rfl⟩ ⟨Nat.le_of_ble_eq_true rfl, Nat.le_of_ble_eq_true rfl⟩ ⟨rfl, rfl⟩ rfl hl.1 (Nat.le_of_ble_eq_true rfl) rfl dX12_init_824 hS (fun H1 locs ho hS => ?_)
  replace hP := va_P.kept hP (fun k z hz => ho z.1 (hP k z hz).lt)
  clear ho
  generalize H1 = H at hP hS ⊢
  refine ct_last' C hP hD hS 7 rfl (by unfold vp_in; decide) dX12_init_827 (fun H locs hP hD hS => ?_)
  refine lv_aload_n C.1 C.2.1 dX12_init_828 rfl (lv_at hl 0 rfl) ?_
  refine ct_get (j := 9) (v := .ref q61) C hP co_X12 (by decide) (tb4 198 rfl rfl) rfl dX12_init_829 ?_
  refine lv_bipush (v := 20) C.1 C.2.1 dX12_init_832 (by decide) ?_
  refine lv_bipush (v := 100) C.1 C.2.1 dX12_init_834 (by decide) ?_
  refine lv_bipush (v := 97) C.1 C.2.1 dX12_init_836 (by decide) ?_
  refine lv_bipush (v := 121) C.1 C.2.1 dX12_init_838 (by decide) ?_
  refine lv_iconst (v := 0) C.1 C.2.1 dX12_init_840 (by decide) ?_
  refine lv_iconst (v := 0) C.1 C.2.1 dX12_init_841 (by decide) ?_
  refine pm_call (As := [.int (100 : Int32), .int (97 : Int32), .int (121 : Int32), .int (0 : Int32), .int (0 : Int32)]) (rest := [.int (20 : Int32), .ref q61]) C.1 C.2.1 C.2.2.1 C.2.2.2.1 C.2.2.2.2.1 ms_X12_word ml_X12_182 (pm_word 100 97 121 0 0) ⟨Nat.le_of_ble_eq_true rfl, Nat.le_of_ble_eq_true rfl⟩ ⟨Nat.le_of_ble_eq_true rfl, Nat.le_of_ble_eq_true rfl⟩ ⟨rfl, rfl⟩ rfl hl.1 (Nat.le_of_ble_eq_true rfl) rfl dX12_init_842 hS (fun H1 locs ho hS => ?_)
  replace hP := va_P.kept hP (fun k z hz => ho z.1 (hP k z hz).lt)
  clear ho
  generalize H1 = H at hP hS ⊢
  refine ct_last' C hP hD hS 7 rfl (by unfold vp_in; decide) dX12_init_845 (fun H locs hP hD hS => ?_)
  refine lv_aload_n C.1 C.2.1 dX12_init_846 rfl (lv_at hl 0 rfl) ?_
  refine ct_get (j := 9) (v := .ref q61) C hP co_X12 (by decide) (tb4 198 rfl rfl) rfl dX12_init_847 ?_
  refine lv_bipush (v := 21) C.1 C.2.1 dX12_init_850 (by decide) ?_
  refine lv_bipush (v := 119) C.1 C.2.1 dX12_init_852 (by decide) ?_
  refine lv_bipush (v := 111) C.1 C.2.1 dX12_init_854 (by decide) ?_
  refine lv_bipush (v := 114) C.1 C.2.1 dX12_init_856 (by decide) ?_
  refine lv_bipush (v := 107) C.1 C.2.1 dX12_init_858 (by decide) ?_
  refine lv_iconst (v := 0) C.1 C.2.1 dX12_init_860 (by decide) ?_
  refine pm_call (As := [.int (119 : Int32), .int (111 : Int32), .int (114 : Int32), .int (107 : Int32), .int (0 : Int32)]) (rest := [.int (21 : Int32), .ref q61]) C.1 C.2.1 C.2.2.1 C.2.2.2.1 C.2.2.2.2.1 ms_X12_word ml_X12_182 (pm_word 119 111 114 107 0) ⟨Nat.le_of_ble_eq_true rfl, Nat.le_of_ble_eq_true rfl⟩ ⟨Nat.le_of_ble_eq_true rfl, Nat.le_of_ble_eq_true rfl⟩ ⟨rfl, rfl⟩ rfl hl.1 (Nat.le_of_ble_eq_true rfl) rfl dX12_init_861 hS (fun H1 locs ho hS => ?_)
  replace hP := va_P.kept hP (fun k z hz => ho z.1 (hP k z hz).lt)
  clear ho
  generalize H1 = H at hP hS ⊢
  refine ct_last' C hP hD hS 7 rfl (by unfold vp_in; decide) dX12_init_864 (fun H locs hP hD hS => ?_)
  refine lv_aload_n C.1 C.2.1 dX12_init_865 rfl (lv_at hl 0 rfl) ?_
  refine ct_get (j := 9) (v := .ref q61) C hP co_X12 (by decide) (tb4 198 rfl rfl) rfl dX12_init_866 ?_
  refine lv_bipush (v := 22) C.1 C.2.1 dX12_init_869 (by decide) ?_
  refine lv_bipush (v := 111) C.1 C.2.1 dX12_init_871 (by decide) ?_
  refine lv_bipush (v := 117) C.1 C.2.1 dX12_init_873 (by decide) ?_
  refine lv_bipush (v := 116) C.1 C.2.1 dX12_init_875 (by decide) ?_
  refine lv_iconst (v := 0) C.1 C.2.1 dX12_init_877 (by decide) ?_
  refine lv_iconst (v := 0) C.1 C.2.1 dX12_init_878 (by decide) ?_
  refine pm_call (As := [.int (111 : Int32), .int (117 : Int32), .int (116 : Int32), .int (0 : Int32), .int (0 : Int32)]) (rest := [.int (22 : Int32), .ref q61]) C.1 C.2.1 C.2.2.1 C.2.2.2.1 C.2.2.2.2.1 ms_X12_word ml_X12_182 (pm_word 111 117 116 0 0) ⟨Nat.le_of_ble_eq_true rfl, Nat.le_of_ble_eq_true rfl⟩ ⟨Nat.le_of_ble_eq_true rfl, Nat.le_of_ble_eq_true rfl⟩ ⟨rfl, rfl⟩ rfl hl.1 (Nat.le_of_ble_eq_true rfl) rfl dX12_init_879 hS (fun H1 locs ho hS => ?_)
  replace hP := va_P.kept hP (fun k z hz => ho z.1 (hP k z hz).lt)
  clear ho
  generalize H1 = H at hP hS ⊢
  refine ct_last' C hP hD hS 7 rfl (by unfold vp_in; decide) dX12_init_882 (fun H locs hP hD hS => ?_)
  refine lv_aload_n C.1 C.2.1 dX12_init_883 rfl (lv_at hl 0 rfl) ?_
  refine lv_iconst (v := 1) C.1 C.2.1 dX12_init_884 (by decide) ?_
  refine ct_put (j := 49) (ty := tyX12) C hP hD hS co_X12 tyX12_ok (by decide) (tb4 238 rfl rfl) rfl (vp_nar_int _) rfl (Nat.le_of_ble_eq_true rfl) dX12_init_885 (fun H locs hP hD hS => ?_)
  refine lv_aload_n C.1 C.2.1 dX12_init_888 rfl (lv_at hl 0 rfl) ?_
  refine ct_get (j := 50) (v := .ref q257) C hP co_X12 (by decide) (tb4 239 rfl rfl) rfl dX12_init_889 ?_
  refine lv_iconst (v := 0) C.1 C.2.1 dX12_init_892 (by decide) ?_
  refine lv_iconst (v := 1) C.1 C.2.1 dX12_init_893 (by decide) ?_
  refine ct_iast C hP hD hS 30 rfl (by unfold vp_in; decide) dX12_init_894 (fun H locs hP hD hS => ?_)
  exact ct_ret (Lf := L_X12 E h0) C hr (fun i => ([q8, q17, q26, q35, q44, q53, q61, q74, q82, q90, q98, q106, q114, q122, q130, q138, q146, q155, q164, q173, q182, q191, q200, q209, q217, q225, q233, q241, q249, q257, q266, q275, q284, q293, q302, q311, q320, q328, q336, q344, q353, q372, q381, q389, q398, q406, q414, q422, q430, q438, q446, q454] : List Nat).getD i 0) hP hD hS dX12_init_895
